section
-- ===== PART A: goes FIRST, ahead of the names: the tables' words, and 'selects' of the private methods out of them =====
/-- a private method of a class that the tables say can be made, by its rows of tables_1 -/
def lw_okq (q : MethodName × Nat) : Prop := (q.1.cls ≠ "java/lang/invoke/MethodHandle" ∧ q.1.cls ≠ "java/lang/invoke/VarHandle") ∧ Cond.instantiable q.1.cls q.2 ∈ tables_1 ∧ Cond.privateMethod q.1 ∈ tables_1 ∧ Cond.instanceMethod q.1 ∈ tables_1
theorem lw_p0 : lw_okq (⟨"LastKeg", "isMan", "(I)Z"⟩, 10) := ⟨⟨by decide +kernel, by decide +kernel⟩, List.mem_of_getElem? (i := 23) (by decide +kernel), List.mem_of_getElem? (i := 275) (by decide +kernel), List.mem_of_getElem? (i := 276) (by decide +kernel)⟩
theorem lw_p1 : lw_okq (⟨"LastKeg", "sheetAt", "(I)LLastKeg$Sheet;"⟩, 10) := ⟨⟨by decide +kernel, by decide +kernel⟩, List.mem_of_getElem? (i := 23) (by decide +kernel), List.mem_of_getElem? (i := 302) (by decide +kernel), List.mem_of_getElem? (i := 303) (by decide +kernel)⟩
theorem lw_p2 : lw_okq (⟨"LastKeg", "ruleAt", "(I)LLastKeg$Rule;"⟩, 10) := ⟨⟨by decide +kernel, by decide +kernel⟩, List.mem_of_getElem? (i := 23) (by decide +kernel), List.mem_of_getElem? (i := 396) (by decide +kernel), List.mem_of_getElem? (i := 397) (by decide +kernel)⟩
theorem lw_p3 : lw_okq (⟨"LastKeg$Tape", "next", "()V"⟩, 8) := ⟨⟨by decide +kernel, by decide +kernel⟩, List.mem_of_getElem? (i := 35) (by decide +kernel), List.mem_of_getElem? (i := 428) (by decide +kernel), List.mem_of_getElem? (i := 429) (by decide +kernel)⟩
theorem lw_p4 : lw_okq (⟨"LastKeg$Tape", "word", "()I"⟩, 8) := ⟨⟨by decide +kernel, by decide +kernel⟩, List.mem_of_getElem? (i := 35) (by decide +kernel), List.mem_of_getElem? (i := 435) (by decide +kernel), List.mem_of_getElem? (i := 436) (by decide +kernel)⟩
theorem lw_p5 : lw_okq (⟨"LastKeg$Tape", "reads", "(Ljava/lang/String;)Z"⟩, 8) := ⟨⟨by decide +kernel, by decide +kernel⟩, List.mem_of_getElem? (i := 35) (by decide +kernel), List.mem_of_getElem? (i := 440) (by decide +kernel), List.mem_of_getElem? (i := 441) (by decide +kernel)⟩
theorem lw_p6 : lw_okq (⟨"LastKeg$Tape", "number", "()I"⟩, 8) := ⟨⟨by decide +kernel, by decide +kernel⟩, List.mem_of_getElem? (i := 35) (by decide +kernel), List.mem_of_getElem? (i := 505) (by decide +kernel), List.mem_of_getElem? (i := 506) (by decide +kernel)⟩
theorem lw_p7 : lw_okq (⟨"LastKeg$Tape", "skip", "(I)Z"⟩, 8) := ⟨⟨by decide +kernel, by decide +kernel⟩, List.mem_of_getElem? (i := 35) (by decide +kernel), List.mem_of_getElem? (i := 512) (by decide +kernel), List.mem_of_getElem? (i := 513) (by decide +kernel)⟩
theorem lw_p8 : lw_okq (⟨"LastKeg$Tape", "level", "(II)Z"⟩, 8) := ⟨⟨by decide +kernel, by decide +kernel⟩, List.mem_of_getElem? (i := 35) (by decide +kernel), List.mem_of_getElem? (i := 516) (by decide +kernel), List.mem_of_getElem? (i := 517) (by decide +kernel)⟩
theorem lw_p9 : lw_okq (⟨"LastKeg$Tape", "one", "(I)Z"⟩, 8) := ⟨⟨by decide +kernel, by decide +kernel⟩, List.mem_of_getElem? (i := 35) (by decide +kernel), List.mem_of_getElem? (i := 520) (by decide +kernel), List.mem_of_getElem? (i := 521) (by decide +kernel)⟩
theorem lw_p10 : lw_okq (⟨"LastKeg$Tape", "put", "(I)Z"⟩, 8) := ⟨⟨by decide +kernel, by decide +kernel⟩, List.mem_of_getElem? (i := 35) (by decide +kernel), List.mem_of_getElem? (i := 524) (by decide +kernel), List.mem_of_getElem? (i := 525) (by decide +kernel)⟩
theorem lw_p11 : lw_okq (⟨"LastKeg$Voyage", "carryOver", "()V"⟩, 17) := ⟨⟨by decide +kernel, by decide +kernel⟩, List.mem_of_getElem? (i := 135) (by decide +kernel), List.mem_of_getElem? (i := 564) (by decide +kernel), List.mem_of_getElem? (i := 565) (by decide +kernel)⟩
theorem lw_p12 : lw_okq (⟨"LastKeg$Voyage", "drink", "()V"⟩, 17) := ⟨⟨by decide +kernel, by decide +kernel⟩, List.mem_of_getElem? (i := 135) (by decide +kernel), List.mem_of_getElem? (i := 576) (by decide +kernel), List.mem_of_getElem? (i := 577) (by decide +kernel)⟩
theorem lw_p13 : lw_okq (⟨"LastKeg$Voyage", "drinks", "(I)Z"⟩, 17) := ⟨⟨by decide +kernel, by decide +kernel⟩, List.mem_of_getElem? (i := 135) (by decide +kernel), List.mem_of_getElem? (i := 580) (by decide +kernel), List.mem_of_getElem? (i := 581) (by decide +kernel)⟩
theorem lw_p14 : lw_okq (⟨"LastKeg$Voyage", "rowAndLive", "()V"⟩, 17) := ⟨⟨by decide +kernel, by decide +kernel⟩, List.mem_of_getElem? (i := 135) (by decide +kernel), List.mem_of_getElem? (i := 613) (by decide +kernel), List.mem_of_getElem? (i := 614) (by decide +kernel)⟩
theorem lw_p15 : lw_okq (⟨"LastKeg$Voyage", "findFacts", "(I)V"⟩, 17) := ⟨⟨by decide +kernel, by decide +kernel⟩, List.mem_of_getElem? (i := 135) (by decide +kernel), List.mem_of_getElem? (i := 617) (by decide +kernel), List.mem_of_getElem? (i := 618) (by decide +kernel)⟩
def lw_privs_1 : List (MethodName × Nat) := [(⟨"LastKeg", "isMan", "(I)Z"⟩, 10), (⟨"LastKeg", "sheetAt", "(I)LLastKeg$Sheet;"⟩, 10), (⟨"LastKeg", "ruleAt", "(I)LLastKeg$Rule;"⟩, 10), (⟨"LastKeg$Tape", "next", "()V"⟩, 8), (⟨"LastKeg$Tape", "word", "()I"⟩, 8), (⟨"LastKeg$Tape", "reads", "(Ljava/lang/String;)Z"⟩, 8), (⟨"LastKeg$Tape", "number", "()I"⟩, 8), (⟨"LastKeg$Tape", "skip", "(I)Z"⟩, 8), (⟨"LastKeg$Tape", "level", "(II)Z"⟩, 8), (⟨"LastKeg$Tape", "one", "(I)Z"⟩, 8), (⟨"LastKeg$Tape", "put", "(I)Z"⟩, 8), (⟨"LastKeg$Voyage", "carryOver", "()V"⟩, 17), (⟨"LastKeg$Voyage", "drink", "()V"⟩, 17), (⟨"LastKeg$Voyage", "drinks", "(I)Z"⟩, 17), (⟨"LastKeg$Voyage", "rowAndLive", "()V"⟩, 17), (⟨"LastKeg$Voyage", "findFacts", "(I)V"⟩, 17)]
theorem lw_r1 : ∀ q ∈ lw_privs_1, lw_okq q := List.forall_mem_cons.mpr ⟨lw_p0, List.forall_mem_cons.mpr ⟨lw_p1, List.forall_mem_cons.mpr ⟨lw_p2, List.forall_mem_cons.mpr ⟨lw_p3, List.forall_mem_cons.mpr ⟨lw_p4, List.forall_mem_cons.mpr ⟨lw_p5, List.forall_mem_cons.mpr ⟨lw_p6, List.forall_mem_cons.mpr ⟨lw_p7, List.forall_mem_cons.mpr ⟨lw_p8, List.forall_mem_cons.mpr ⟨lw_p9, List.forall_mem_cons.mpr ⟨lw_p10, List.forall_mem_cons.mpr ⟨lw_p11, List.forall_mem_cons.mpr ⟨lw_p12, List.forall_mem_cons.mpr ⟨lw_p13, List.forall_mem_cons.mpr ⟨lw_p14, List.forall_mem_cons.mpr ⟨lw_p15, fun _ h => absurd h List.not_mem_nil⟩⟩⟩⟩⟩⟩⟩⟩⟩⟩⟩⟩⟩⟩⟩⟩
theorem lw_p16 : lw_okq (⟨"LastKeg$Law", "value", "(II[I[I)I"⟩, 3) := ⟨⟨by decide +kernel, by decide +kernel⟩, List.mem_of_getElem? (i := 74) (by decide +kernel), List.mem_of_getElem? (i := 625) (by decide +kernel), List.mem_of_getElem? (i := 626) (by decide +kernel)⟩
theorem lw_p17 : lw_okq (⟨"LastKeg$Voyage", "fromHidden", "(I)I"⟩, 17) := ⟨⟨by decide +kernel, by decide +kernel⟩, List.mem_of_getElem? (i := 135) (by decide +kernel), List.mem_of_getElem? (i := 643) (by decide +kernel), List.mem_of_getElem? (i := 644) (by decide +kernel)⟩
theorem lw_p18 : lw_okq (⟨"LastKeg$Voyage", "sumHomes", "()V"⟩, 17) := ⟨⟨by decide +kernel, by decide +kernel⟩, List.mem_of_getElem? (i := 135) (by decide +kernel), List.mem_of_getElem? (i := 647) (by decide +kernel), List.mem_of_getElem? (i := 648) (by decide +kernel)⟩
theorem lw_p19 : lw_okq (⟨"LastKeg$Voyage", "addToLiving", "(IJ)V"⟩, 17) := ⟨⟨by decide +kernel, by decide +kernel⟩, List.mem_of_getElem? (i := 135) (by decide +kernel), List.mem_of_getElem? (i := 660) (by decide +kernel), List.mem_of_getElem? (i := 661) (by decide +kernel)⟩
theorem lw_p20 : lw_okq (⟨"LastKeg", "keepHomes", "(LLastKeg$Rule;)V"⟩, 10) := ⟨⟨by decide +kernel, by decide +kernel⟩, List.mem_of_getElem? (i := 23) (by decide +kernel), List.mem_of_getElem? (i := 709) (by decide +kernel), List.mem_of_getElem? (i := 710) (by decide +kernel)⟩
theorem lw_p21 : lw_okq (⟨"LastKeg", "wouldTake", "(LLastKeg$Rule;I)Z"⟩, 10) := ⟨⟨by decide +kernel, by decide +kernel⟩, List.mem_of_getElem? (i := 23) (by decide +kernel), List.mem_of_getElem? (i := 714) (by decide +kernel), List.mem_of_getElem? (i := 715) (by decide +kernel)⟩
theorem lw_p22 : lw_okq (⟨"LastKegModel", "first", "(IIIII)V"⟩, 49) := ⟨⟨by decide +kernel, by decide +kernel⟩, List.mem_of_getElem? (i := 791) (by decide +kernel), List.mem_of_getElem? (i := 809) (by decide +kernel), List.mem_of_getElem? (i := 810) (by decide +kernel)⟩
theorem lw_p23 : lw_okq (⟨"LastKegModel", "isMan", "(I)Z"⟩, 49) := ⟨⟨by decide +kernel, by decide +kernel⟩, List.mem_of_getElem? (i := 791) (by decide +kernel), List.mem_of_getElem? (i := 973) (by decide +kernel), List.mem_of_getElem? (i := 974) (by decide +kernel)⟩
theorem lw_p24 : lw_okq (⟨"LastKegModel", "isRule", "(I)Z"⟩, 49) := ⟨⟨by decide +kernel, by decide +kernel⟩, List.mem_of_getElem? (i := 791) (by decide +kernel), List.mem_of_getElem? (i := 998) (by decide +kernel), List.mem_of_getElem? (i := 999) (by decide +kernel)⟩
theorem lw_p25 : lw_okq (⟨"LastKegModel", "next", "()V"⟩, 49) := ⟨⟨by decide +kernel, by decide +kernel⟩, List.mem_of_getElem? (i := 791) (by decide +kernel), List.mem_of_getElem? (i := 1011) (by decide +kernel), List.mem_of_getElem? (i := 1012) (by decide +kernel)⟩
theorem lw_p26 : lw_okq (⟨"LastKegModel", "letters", "()J"⟩, 49) := ⟨⟨by decide +kernel, by decide +kernel⟩, List.mem_of_getElem? (i := 791) (by decide +kernel), List.mem_of_getElem? (i := 1015) (by decide +kernel), List.mem_of_getElem? (i := 1016) (by decide +kernel)⟩
theorem lw_p27 : lw_okq (⟨"LastKegModel", "eRead", "()Z"⟩, 49) := ⟨⟨by decide +kernel, by decide +kernel⟩, List.mem_of_getElem? (i := 791) (by decide +kernel), List.mem_of_getElem? (i := 1019) (by decide +kernel), List.mem_of_getElem? (i := 1020) (by decide +kernel)⟩
theorem lw_p28 : lw_okq (⟨"LastKegModel", "puts", "(I)V"⟩, 49) := ⟨⟨by decide +kernel, by decide +kernel⟩, List.mem_of_getElem? (i := 791) (by decide +kernel), List.mem_of_getElem? (i := 1024) (by decide +kernel), List.mem_of_getElem? (i := 1025) (by decide +kernel)⟩
theorem lw_p29 : lw_okq (⟨"LastKegModel", "unwinds", "(I)V"⟩, 49) := ⟨⟨by decide +kernel, by decide +kernel⟩, List.mem_of_getElem? (i := 791) (by decide +kernel), List.mem_of_getElem? (i := 1028) (by decide +kernel), List.mem_of_getElem? (i := 1029) (by decide +kernel)⟩
theorem lw_p30 : lw_okq (⟨"LastKegModel", "opensOne", "(I)Z"⟩, 49) := ⟨⟨by decide +kernel, by decide +kernel⟩, List.mem_of_getElem? (i := 791) (by decide +kernel), List.mem_of_getElem? (i := 1035) (by decide +kernel), List.mem_of_getElem? (i := 1036) (by decide +kernel)⟩
theorem lw_p31 : lw_okq (⟨"LastKegModel", "holds", "(I)V"⟩, 49) := ⟨⟨by decide +kernel, by decide +kernel⟩, List.mem_of_getElem? (i := 791) (by decide +kernel), List.mem_of_getElem? (i := 1039) (by decide +kernel), List.mem_of_getElem? (i := 1040) (by decide +kernel)⟩
def lw_privs_2 : List (MethodName × Nat) := [(⟨"LastKeg$Law", "value", "(II[I[I)I"⟩, 3), (⟨"LastKeg$Voyage", "fromHidden", "(I)I"⟩, 17), (⟨"LastKeg$Voyage", "sumHomes", "()V"⟩, 17), (⟨"LastKeg$Voyage", "addToLiving", "(IJ)V"⟩, 17), (⟨"LastKeg", "keepHomes", "(LLastKeg$Rule;)V"⟩, 10), (⟨"LastKeg", "wouldTake", "(LLastKeg$Rule;I)Z"⟩, 10), (⟨"LastKegModel", "first", "(IIIII)V"⟩, 49), (⟨"LastKegModel", "isMan", "(I)Z"⟩, 49), (⟨"LastKegModel", "isRule", "(I)Z"⟩, 49), (⟨"LastKegModel", "next", "()V"⟩, 49), (⟨"LastKegModel", "letters", "()J"⟩, 49), (⟨"LastKegModel", "eRead", "()Z"⟩, 49), (⟨"LastKegModel", "puts", "(I)V"⟩, 49), (⟨"LastKegModel", "unwinds", "(I)V"⟩, 49), (⟨"LastKegModel", "opensOne", "(I)Z"⟩, 49), (⟨"LastKegModel", "holds", "(I)V"⟩, 49)]
theorem lw_r2 : ∀ q ∈ lw_privs_2, lw_okq q := List.forall_mem_cons.mpr ⟨lw_p16, List.forall_mem_cons.mpr ⟨lw_p17, List.forall_mem_cons.mpr ⟨lw_p18, List.forall_mem_cons.mpr ⟨lw_p19, List.forall_mem_cons.mpr ⟨lw_p20, List.forall_mem_cons.mpr ⟨lw_p21, List.forall_mem_cons.mpr ⟨lw_p22, List.forall_mem_cons.mpr ⟨lw_p23, List.forall_mem_cons.mpr ⟨lw_p24, List.forall_mem_cons.mpr ⟨lw_p25, List.forall_mem_cons.mpr ⟨lw_p26, List.forall_mem_cons.mpr ⟨lw_p27, List.forall_mem_cons.mpr ⟨lw_p28, List.forall_mem_cons.mpr ⟨lw_p29, List.forall_mem_cons.mpr ⟨lw_p30, List.forall_mem_cons.mpr ⟨lw_p31, fun _ h => absurd h List.not_mem_nil⟩⟩⟩⟩⟩⟩⟩⟩⟩⟩⟩⟩⟩⟩⟩⟩
theorem lw_p32 : lw_okq (⟨"LastKegModel", "signOf", "()I"⟩, 49) := ⟨⟨by decide +kernel, by decide +kernel⟩, List.mem_of_getElem? (i := 791) (by decide +kernel), List.mem_of_getElem? (i := 1043) (by decide +kernel), List.mem_of_getElem? (i := 1044) (by decide +kernel)⟩
theorem lw_p33 : lw_okq (⟨"LastKegModel", "between", "(I)Z"⟩, 49) := ⟨⟨by decide +kernel, by decide +kernel⟩, List.mem_of_getElem? (i := 791) (by decide +kernel), List.mem_of_getElem? (i := 1047) (by decide +kernel), List.mem_of_getElem? (i := 1048) (by decide +kernel)⟩
theorem lw_p34 : lw_okq (⟨"LastKegModel", "goesPlain", "(I)V"⟩, 49) := ⟨⟨by decide +kernel, by decide +kernel⟩, List.mem_of_getElem? (i := 791) (by decide +kernel), List.mem_of_getElem? (i := 1060) (by decide +kernel), List.mem_of_getElem? (i := 1061) (by decide +kernel)⟩
theorem lw_p35 : lw_okq (⟨"LastKegModel", "all", "()I"⟩, 49) := ⟨⟨by decide +kernel, by decide +kernel⟩, List.mem_of_getElem? (i := 791) (by decide +kernel), List.mem_of_getElem? (i := 1064) (by decide +kernel), List.mem_of_getElem? (i := 1065) (by decide +kernel)⟩
theorem lw_p36 : lw_okq (⟨"LastKegModel", "goes", "(IIII)V"⟩, 49) := ⟨⟨by decide +kernel, by decide +kernel⟩, List.mem_of_getElem? (i := 791) (by decide +kernel), List.mem_of_getElem? (i := 1068) (by decide +kernel), List.mem_of_getElem? (i := 1069) (by decide +kernel)⟩
theorem lw_p37 : lw_okq (⟨"LastKegModel", "living", "(I)I"⟩, 49) := ⟨⟨by decide +kernel, by decide +kernel⟩, List.mem_of_getElem? (i := 791) (by decide +kernel), List.mem_of_getElem? (i := 1072) (by decide +kernel), List.mem_of_getElem? (i := 1073) (by decide +kernel)⟩
theorem lw_p38 : lw_okq (⟨"LastKegModel", "drinkers", "(II)I"⟩, 49) := ⟨⟨by decide +kernel, by decide +kernel⟩, List.mem_of_getElem? (i := 791) (by decide +kernel), List.mem_of_getElem? (i := 1076) (by decide +kernel), List.mem_of_getElem? (i := 1077) (by decide +kernel)⟩
theorem lw_p39 : lw_okq (⟨"LastKegModel", "share", "(IIIII)I"⟩, 49) := ⟨⟨by decide +kernel, by decide +kernel⟩, List.mem_of_getElem? (i := 791) (by decide +kernel), List.mem_of_getElem? (i := 1080) (by decide +kernel), List.mem_of_getElem? (i := 1081) (by decide +kernel)⟩
theorem lw_p40 : lw_okq (⟨"LastKegModel", "worth", "(II)I"⟩, 49) := ⟨⟨by decide +kernel, by decide +kernel⟩, List.mem_of_getElem? (i := 791) (by decide +kernel), List.mem_of_getElem? (i := 1087) (by decide +kernel), List.mem_of_getElem? (i := 1088) (by decide +kernel)⟩
theorem lw_p41 : lw_okq (⟨"LastKegModel", "homeOf", "(I)J"⟩, 49) := ⟨⟨by decide +kernel, by decide +kernel⟩, List.mem_of_getElem? (i := 791) (by decide +kernel), List.mem_of_getElem? (i := 1094) (by decide +kernel), List.mem_of_getElem? (i := 1095) (by decide +kernel)⟩
theorem lw_p42 : lw_okq (⟨"LastKegModel", "below", "()J"⟩, 49) := ⟨⟨by decide +kernel, by decide +kernel⟩, List.mem_of_getElem? (i := 791) (by decide +kernel), List.mem_of_getElem? (i := 1098) (by decide +kernel), List.mem_of_getElem? (i := 1099) (by decide +kernel)⟩
theorem lw_p43 : lw_okq (⟨"LastKegModel", "meanOf", "(II)J"⟩, 49) := ⟨⟨by decide +kernel, by decide +kernel⟩, List.mem_of_getElem? (i := 791) (by decide +kernel), List.mem_of_getElem? (i := 1110) (by decide +kernel), List.mem_of_getElem? (i := 1111) (by decide +kernel)⟩
theorem lw_p44 : lw_okq (⟨"LastKegModel", "keeps", "(I)V"⟩, 49) := ⟨⟨by decide +kernel, by decide +kernel⟩, List.mem_of_getElem? (i := 791) (by decide +kernel), List.mem_of_getElem? (i := 1134) (by decide +kernel), List.mem_of_getElem? (i := 1135) (by decide +kernel)⟩
theorem lw_p45 : lw_okq (⟨"LastKegModel", "would", "(II)Z"⟩, 49) := ⟨⟨by decide +kernel, by decide +kernel⟩, List.mem_of_getElem? (i := 791) (by decide +kernel), List.mem_of_getElem? (i := 1138) (by decide +kernel), List.mem_of_getElem? (i := 1139) (by decide +kernel)⟩
def lw_privs_3 : List (MethodName × Nat) := [(⟨"LastKegModel", "signOf", "()I"⟩, 49), (⟨"LastKegModel", "between", "(I)Z"⟩, 49), (⟨"LastKegModel", "goesPlain", "(I)V"⟩, 49), (⟨"LastKegModel", "all", "()I"⟩, 49), (⟨"LastKegModel", "goes", "(IIII)V"⟩, 49), (⟨"LastKegModel", "living", "(I)I"⟩, 49), (⟨"LastKegModel", "drinkers", "(II)I"⟩, 49), (⟨"LastKegModel", "share", "(IIIII)I"⟩, 49), (⟨"LastKegModel", "worth", "(II)I"⟩, 49), (⟨"LastKegModel", "homeOf", "(I)J"⟩, 49), (⟨"LastKegModel", "below", "()J"⟩, 49), (⟨"LastKegModel", "meanOf", "(II)J"⟩, 49), (⟨"LastKegModel", "keeps", "(I)V"⟩, 49), (⟨"LastKegModel", "would", "(II)Z"⟩, 49)]
theorem lw_r3 : ∀ q ∈ lw_privs_3, lw_okq q := List.forall_mem_cons.mpr ⟨lw_p32, List.forall_mem_cons.mpr ⟨lw_p33, List.forall_mem_cons.mpr ⟨lw_p34, List.forall_mem_cons.mpr ⟨lw_p35, List.forall_mem_cons.mpr ⟨lw_p36, List.forall_mem_cons.mpr ⟨lw_p37, List.forall_mem_cons.mpr ⟨lw_p38, List.forall_mem_cons.mpr ⟨lw_p39, List.forall_mem_cons.mpr ⟨lw_p40, List.forall_mem_cons.mpr ⟨lw_p41, List.forall_mem_cons.mpr ⟨lw_p42, List.forall_mem_cons.mpr ⟨lw_p43, List.forall_mem_cons.mpr ⟨lw_p44, List.forall_mem_cons.mpr ⟨lw_p45, fun _ h => absurd h List.not_mem_nil⟩⟩⟩⟩⟩⟩⟩⟩⟩⟩⟩⟩⟩⟩
def lw_privs : List (MethodName × Nat) := lw_privs_1 ++ (lw_privs_2 ++ (lw_privs_3))
def lw_tbl : List Cond := k2_sels lw_privs ++ tables_1
theorem lw_privs_ok : ∀ q ∈ lw_privs, lw_okq q := by
  show ∀ q ∈ lw_privs_1 ++ (lw_privs_2 ++ (lw_privs_3)), lw_okq q
  exact List.forall_mem_append.mpr ⟨lw_r1, List.forall_mem_append.mpr ⟨lw_r2, lw_r3⟩⟩
def RX0 : String := "LastKeg$Boat"
def TX0 : u_T := fun k => match k with
  | 0 => ("LastKeg$Boat", "men", "I", false)
  | 1 => ("LastKeg$Boat", "stores", "[I", true)
  | 2 => ("LastKeg$Boat", "rows", "[I", true)
  | 3 => ("LastKeg$Boat", "told", "[I", true)
  | 4 => ("LastKeg$Boat", "chance", "[I", true)
  | 5 => ("LastKeg$Boat", "rain", "[I", true)
  | _ => ("LastKeg$Boat", "law", "LLastKeg$Law;", false)
def tyX0 : Nat → FieldType := fun k => match k with
  | 0 => .int
  | 1 => .array .int
  | 2 => .array .int
  | 3 => .array .int
  | 4 => .array .int
  | 5 => .array .int
  | _ => .object "LastKeg$Law"
abbrev wsX00 : List Cond := u_ws RX0 TX0 7
theorem nmX0 : ∀ a, a < 7 → ∀ b, b < 7 → a ≠ b → (TX0 a).2.1 ≠ (TX0 b).2.1 := by decide +kernel
theorem tyX0_ok : ∀ k, k < 7 → parseFieldDescriptor (TX0 k).2.2.1 = some (tyX0 k) := by decide +kernel
abbrev cX0_init : ByteArray := prog_2_method_1_code
def yX0_init : MethodName := ⟨RX0, "<init>", "(LLastKeg$Law;)V"⟩
abbrev cX0_keep : ByteArray := prog_2_method_2_code
def yX0_keep : MethodName := ⟨RX0, "keep", "(LLastKeg$Boat;)V"⟩
def RX1 : String := "LastKeg$LastRule"
def TX1 : u_T := fun k => match k with
  | 0 => ("LastKeg$Rule", "kind", "I", true)
  | _ => ("LastKeg$Rule", "more", "I", true)
def tyX1 : Nat → FieldType := fun k => match k with
  | 0 => .int
  | _ => .int
abbrev wsX10 : List Cond := u_ws RX1 TX1 2
theorem nmX1 : ∀ a, a < 2 → ∀ b, b < 2 → a ≠ b → (TX1 a).2.1 ≠ (TX1 b).2.1 := by decide +kernel
theorem tyX1_ok : ∀ k, k < 2 → parseFieldDescriptor (TX1 k).2.2.1 = some (tyX1 k) := by decide +kernel
abbrev cX1_init : ByteArray := prog_3_method_1_code
def yX1_init : MethodName := ⟨RX1, "<init>", "(II)V"⟩
abbrev cX1_share : ByteArray := prog_3_method_2_code
def yX1_share : MethodName := ⟨RX1, "share", "(LLastKeg$Voyage;I)I"⟩
def RX2 : String := "LastKeg$Law"
def TX2 : u_T := fun k => match k with
  | 0 => ("LastKeg$Law", "number", "I", true)
  | 1 => ("LastKeg$Law", "code", "[I", true)
  | _ => ("LastKeg$Law", "half", "I", true)
def tyX2 : Nat → FieldType := fun k => match k with
  | 0 => .int
  | 1 => .array .int
  | _ => .int
abbrev wsX20 : List Cond := u_ws RX2 TX2 3
theorem nmX2 : ∀ a, a < 3 → ∀ b, b < 3 → a ≠ b → (TX2 a).2.1 ≠ (TX2 b).2.1 := by decide +kernel
theorem tyX2_ok : ∀ k, k < 3 → parseFieldDescriptor (TX2 k).2.2.1 = some (tyX2 k) := by decide +kernel
abbrev cX2_init : ByteArray := prog_4_method_1_code
def yX2_init : MethodName := ⟨RX2, "<init>", "(I[II)V"⟩
abbrev cX2_need : ByteArray := prog_4_method_2_code
def yX2_need : MethodName := ⟨RX2, "need", "([I[I)I"⟩
abbrev cX2_row : ByteArray := prog_4_method_3_code
def yX2_row : MethodName := ⟨RX2, "row", "([I[I)I"⟩
abbrev cX2_value : ByteArray := prog_4_method_4_code
def yX2_value : MethodName := ⟨RX2, "value", "(II[I[I)I"⟩
abbrev cX2_alone : ByteArray := prog_4_method_5_code
def yX2_alone : MethodName := ⟨RX2, "alone", "(II)I"⟩
abbrev cX2_joined : ByteArray := prog_4_method_6_code
def yX2_joined : MethodName := ⟨RX2, "joined", "(III)I"⟩
def RX3 : String := "LastKeg$LotRule"
def TX3 : u_T := fun k => match k with
  | 0 => ("LastKeg$Rule", "kind", "I", true)
  | _ => ("LastKeg$Rule", "more", "I", true)
def tyX3 : Nat → FieldType := fun k => match k with
  | 0 => .int
  | _ => .int
abbrev wsX30 : List Cond := u_ws RX3 TX3 2
theorem nmX3 : ∀ a, a < 2 → ∀ b, b < 2 → a ≠ b → (TX3 a).2.1 ≠ (TX3 b).2.1 := by decide +kernel
theorem tyX3_ok : ∀ k, k < 2 → parseFieldDescriptor (TX3 k).2.2.1 = some (tyX3 k) := by decide +kernel
abbrev cX3_init : ByteArray := prog_5_method_1_code
def yX3_init : MethodName := ⟨RX3, "<init>", "(II)V"⟩
abbrev cX3_share : ByteArray := prog_5_method_2_code
def yX3_share : MethodName := ⟨RX3, "share", "(LLastKeg$Voyage;I)I"⟩
def RX4 : String := "LastKeg$NeedRule"
def TX4 : u_T := fun k => match k with
  | 0 => ("LastKeg$Rule", "kind", "I", true)
  | _ => ("LastKeg$Rule", "more", "I", true)
def tyX4 : Nat → FieldType := fun k => match k with
  | 0 => .int
  | _ => .int
abbrev wsX40 : List Cond := u_ws RX4 TX4 2
theorem nmX4 : ∀ a, a < 2 → ∀ b, b < 2 → a ≠ b → (TX4 a).2.1 ≠ (TX4 b).2.1 := by decide +kernel
theorem tyX4_ok : ∀ k, k < 2 → parseFieldDescriptor (TX4 k).2.2.1 = some (tyX4 k) := by decide +kernel
abbrev cX4_init : ByteArray := prog_6_method_1_code
def yX4_init : MethodName := ⟨RX4, "<init>", "(II)V"⟩
abbrev cX4_share : ByteArray := prog_6_method_2_code
def yX4_share : MethodName := ⟨RX4, "share", "(LLastKeg$Voyage;I)I"⟩
def RX5 : String := "LastKeg$RowRule"
def TX5 : u_T := fun k => match k with
  | 0 => ("LastKeg$Rule", "kind", "I", true)
  | _ => ("LastKeg$Rule", "more", "I", true)
def tyX5 : Nat → FieldType := fun k => match k with
  | 0 => .int
  | _ => .int
abbrev wsX50 : List Cond := u_ws RX5 TX5 2
theorem nmX5 : ∀ a, a < 2 → ∀ b, b < 2 → a ≠ b → (TX5 a).2.1 ≠ (TX5 b).2.1 := by decide +kernel
theorem tyX5_ok : ∀ k, k < 2 → parseFieldDescriptor (TX5 k).2.2.1 = some (tyX5 k) := by decide +kernel
abbrev cX5_init : ByteArray := prog_7_method_1_code
def yX5_init : MethodName := ⟨RX5, "<init>", "(II)V"⟩
abbrev cX5_share : ByteArray := prog_7_method_2_code
def yX5_share : MethodName := ⟨RX5, "share", "(LLastKeg$Voyage;I)I"⟩
def RX6 : String := "LastKeg$Rule"
def TX6 : u_T := fun k => match k with
  | 0 => ("LastKeg$Rule", "kind", "I", true)
  | _ => ("LastKeg$Rule", "more", "I", true)
def tyX6 : Nat → FieldType := fun k => match k with
  | 0 => .int
  | _ => .int
abbrev wsX60 : List Cond := u_ws RX6 TX6 2
theorem nmX6 : ∀ a, a < 2 → ∀ b, b < 2 → a ≠ b → (TX6 a).2.1 ≠ (TX6 b).2.1 := by decide +kernel
theorem tyX6_ok : ∀ k, k < 2 → parseFieldDescriptor (TX6 k).2.2.1 = some (tyX6 k) := by decide +kernel
abbrev cX6_init : ByteArray := prog_8_method_1_code
def yX6_init : MethodName := ⟨RX6, "<init>", "(II)V"⟩
abbrev cX6_share : ByteArray := prog_8_method_2_code
def yX6_share : MethodName := ⟨RX6, "share", "(LLastKeg$Voyage;I)I"⟩
abbrev cX6_toldFor : ByteArray := prog_8_method_3_code
def yX6_toldFor : MethodName := ⟨RX6, "toldFor", "(I)I"⟩
def RX7 : String := "LastKeg$Sheet"
def TX7 : u_T := fun k => match k with
  | 0 => ("LastKeg$Sheet", "sort", "I", false)
  | 1 => ("LastKeg$Sheet", "size", "I", false)
  | _ => ("LastKeg$Sheet", "numbers", "[I", true)
def tyX7 : Nat → FieldType := fun k => match k with
  | 0 => .int
  | 1 => .int
  | _ => .array .int
abbrev wsX70 : List Cond := u_ws RX7 TX7 3
theorem nmX7 : ∀ a, a < 3 → ∀ b, b < 3 → a ≠ b → (TX7 a).2.1 ≠ (TX7 b).2.1 := by decide +kernel
theorem tyX7_ok : ∀ k, k < 3 → parseFieldDescriptor (TX7 k).2.2.1 = some (tyX7 k) := by decide +kernel
abbrev cX7_init : ByteArray := prog_9_method_1_code
def yX7_init : MethodName := ⟨RX7, "<init>", "()V"⟩
abbrev cX7_isMissing : ByteArray := prog_9_method_2_code
def yX7_isMissing : MethodName := ⟨RX7, "isMissing", "()Z"⟩
abbrev cX7_become : ByteArray := prog_9_method_3_code
def yX7_become : MethodName := ⟨RX7, "become", "(II)V"⟩
abbrev cX7_hasRoom : ByteArray := prog_9_method_4_code
def yX7_hasRoom : MethodName := ⟨RX7, "hasRoom", "(II)Z"⟩
abbrev cX7_holdsOnly : ByteArray := prog_9_method_5_code
def yX7_holdsOnly : MethodName := ⟨RX7, "holdsOnly", "(II)Z"⟩
abbrev cX7_cut : ByteArray := prog_9_method_6_code
def yX7_cut : MethodName := ⟨RX7, "cut", "(I)I"⟩
def RX8 : String := "LastKeg$Tape"
def TX8 : u_T := fun k => match k with
  | 0 => ("LastKeg$Tape", "bytes", "[B", true)
  | 1 => ("LastKeg$Tape", "size", "I", false)
  | 2 => ("LastKeg$Tape", "code", "[I", true)
  | 3 => ("LastKeg$Tape", "length", "I", false)
  | 4 => ("LastKeg$Tape", "half", "I", false)
  | 5 => ("LastKeg$Tape", "token", "I", false)
  | 6 => ("LastKeg$Tape", "at", "I", false)
  | _ => ("LastKeg$Tape", "end", "I", false)
def tyX8 : Nat → FieldType := fun k => match k with
  | 0 => .array .byte
  | 1 => .int
  | 2 => .array .int
  | 3 => .int
  | 4 => .int
  | 5 => .int
  | 6 => .int
  | _ => .int
abbrev wsX80 : List Cond := u_ws RX8 TX8 8
theorem nmX8 : ∀ a, a < 8 → ∀ b, b < 8 → a ≠ b → (TX8 a).2.1 ≠ (TX8 b).2.1 := by decide +kernel
theorem tyX8_ok : ∀ k, k < 8 → parseFieldDescriptor (TX8 k).2.2.1 = some (tyX8 k) := by decide +kernel
abbrev cX8_init : ByteArray := prog_10_method_1_code
def yX8_init : MethodName := ⟨RX8, "<init>", "()V"⟩
abbrev cX8_append : ByteArray := prog_10_method_2_code
def yX8_append : MethodName := ⟨RX8, "append", "(JI)V"⟩
abbrev cX8_readWhole : ByteArray := prog_10_method_3_code
def yX8_readWhole : MethodName := ⟨RX8, "readWhole", "()Z"⟩
abbrev cX8_skip : ByteArray := prog_10_method_4_code
def yX8_skip : MethodName := ⟨RX8, "skip", "(I)Z"⟩
abbrev cX8_level : ByteArray := prog_10_method_5_code
def yX8_level : MethodName := ⟨RX8, "level", "(II)Z"⟩
abbrev cX8_one : ByteArray := prog_10_method_6_code
def yX8_one : MethodName := ⟨RX8, "one", "(I)Z"⟩
abbrev cX8_put : ByteArray := prog_10_method_7_code
def yX8_put : MethodName := ⟨RX8, "put", "(I)Z"⟩
abbrev cX8_tightnessOf : ByteArray := prog_10_method_8_code
def yX8_tightnessOf : MethodName := ⟨RX8, "tightnessOf", "(I)I"⟩
abbrev cX8_next : ByteArray := prog_10_method_9_code
def yX8_next : MethodName := ⟨RX8, "next", "()V"⟩
abbrev cX8_isLetter : ByteArray := prog_10_method_10_code
def yX8_isLetter : MethodName := ⟨RX8, "isLetter", "(I)Z"⟩
abbrev cX8_isDigit : ByteArray := prog_10_method_11_code
def yX8_isDigit : MethodName := ⟨RX8, "isDigit", "(I)Z"⟩
abbrev cX8_number : ByteArray := prog_10_method_12_code
def yX8_number : MethodName := ⟨RX8, "number", "()I"⟩
abbrev cX8_sign : ByteArray := prog_10_method_13_code
def yX8_sign : MethodName := ⟨RX8, "sign", "(I)I"⟩
abbrev cX8_word : ByteArray := prog_10_method_14_code
def yX8_word : MethodName := ⟨RX8, "word", "()I"⟩
abbrev cX8_reads : ByteArray := prog_10_method_15_code
def yX8_reads : MethodName := ⟨RX8, "reads", "(Ljava/lang/String;)Z"⟩
def RX9 : String := "LastKeg$ToldRule"
def TX9 : u_T := fun k => match k with
  | 0 => ("LastKeg$Rule", "kind", "I", true)
  | 1 => ("LastKeg$Rule", "more", "I", true)
  | _ => ("LastKeg$ToldRule", "shares", "[I", true)
def tyX9 : Nat → FieldType := fun k => match k with
  | 0 => .int
  | 1 => .int
  | _ => .array .int
abbrev wsX90 : List Cond := u_ws RX9 TX9 3
theorem nmX9 : ∀ a, a < 3 → ∀ b, b < 3 → a ≠ b → (TX9 a).2.1 ≠ (TX9 b).2.1 := by decide +kernel
theorem tyX9_ok : ∀ k, k < 3 → parseFieldDescriptor (TX9 k).2.2.1 = some (tyX9 k) := by decide +kernel
abbrev cX9_init : ByteArray := prog_11_method_1_code
def yX9_init : MethodName := ⟨RX9, "<init>", "(IILLastKeg$Sheet;)V"⟩
abbrev cX9_share : ByteArray := prog_11_method_2_code
def yX9_share : MethodName := ⟨RX9, "share", "(LLastKeg$Voyage;I)I"⟩
abbrev cX9_toldFor : ByteArray := prog_11_method_3_code
def yX9_toldFor : MethodName := ⟨RX9, "toldFor", "(I)I"⟩
def RX10 : String := "LastKeg$Voyage"
def TX10 : u_T := fun k => match k with
  | 0 => ("LastKeg$Voyage", "boat", "LLastKeg$Boat;", true)
  | 1 => ("LastKeg$Voyage", "stores", "[[I", true)
  | 2 => ("LastKeg$Voyage", "got", "[[I", true)
  | 3 => ("LastKeg$Voyage", "kegs", "[I", true)
  | 4 => ("LastKeg$Voyage", "rowed", "[I", true)
  | 5 => ("LastKeg$Voyage", "homes", "[J", true)
  | 6 => ("LastKeg$Voyage", "facts", "[I", true)
  | 7 => ("LastKeg$Voyage", "stack", "[I", true)
  | 8 => ("LastKeg$Voyage", "rule", "LLastKeg$Rule;", false)
  | 9 => ("LastKeg$Voyage", "ration", "I", false)
  | 10 => ("LastKeg$Voyage", "drinking", "I", false)
  | 11 => ("LastKeg$Voyage", "hider", "I", false)
  | 12 => ("LastKeg$Voyage", "hidden", "I", false)
  | 13 => ("LastKeg$Voyage", "day", "I", false)
  | 14 => ("LastKeg$Voyage", "drinkers", "I", false)
  | 15 => ("LastKeg$Voyage", "served", "I", false)
  | _ => ("LastKeg$Voyage", "landed", "I", false)
def tyX10 : Nat → FieldType := fun k => match k with
  | 0 => .object "LastKeg$Boat"
  | 1 => .array (.array .int)
  | 2 => .array (.array .int)
  | 3 => .array .int
  | 4 => .array .int
  | 5 => .array .long
  | 6 => .array .int
  | 7 => .array .int
  | 8 => .object "LastKeg$Rule"
  | 9 => .int
  | 10 => .int
  | 11 => .int
  | 12 => .int
  | 13 => .int
  | 14 => .int
  | 15 => .int
  | _ => .int
abbrev wsX100 : List Cond := u_ws RX10 TX10 17
theorem nmX10 : ∀ a, a < 17 → ∀ b, b < 17 → a ≠ b → (TX10 a).2.1 ≠ (TX10 b).2.1 := by decide +kernel
theorem tyX10_ok : ∀ k, k < 17 → parseFieldDescriptor (TX10 k).2.2.1 = some (tyX10 k) := by decide +kernel
abbrev cX10_init : ByteArray := prog_12_method_1_code
def yX10_init : MethodName := ⟨RX10, "<init>", "(LLastKeg$Boat;)V"⟩
abbrev cX10_sail : ByteArray := prog_12_method_2_code
def yX10_sail : MethodName := ⟨RX10, "sail", "(LLastKeg$Rule;)V"⟩
abbrev cX10_sailAs : ByteArray := prog_12_method_3_code
def yX10_sailAs : MethodName := ⟨RX10, "sailAs", "(LLastKeg$Rule;IIII)V"⟩
abbrev cX10_carryOver : ByteArray := prog_12_method_4_code
def yX10_carryOver : MethodName := ⟨RX10, "carryOver", "()V"⟩
abbrev cX10_living : ByteArray := prog_12_method_5_code
def yX10_living : MethodName := ⟨RX10, "living", "(I)I"⟩
abbrev cX10_drinks : ByteArray := prog_12_method_6_code
def yX10_drinks : MethodName := ⟨RX10, "drinks", "(I)Z"⟩
abbrev cX10_drink : ByteArray := prog_12_method_7_code
def yX10_drink : MethodName := ⟨RX10, "drink", "()V"⟩
abbrev cX10_rowAndLive : ByteArray := prog_12_method_8_code
def yX10_rowAndLive : MethodName := ⟨RX10, "rowAndLive", "()V"⟩
abbrev cX10_findFacts : ByteArray := prog_12_method_9_code
def yX10_findFacts : MethodName := ⟨RX10, "findFacts", "(I)V"⟩
abbrev cX10_fromHidden : ByteArray := prog_12_method_10_code
def yX10_fromHidden : MethodName := ⟨RX10, "fromHidden", "(I)I"⟩
abbrev cX10_bound : ByteArray := prog_12_method_11_code
def yX10_bound : MethodName := ⟨RX10, "bound", "(II)I"⟩
abbrev cX10_shipDays : ByteArray := prog_12_method_12_code
def yX10_shipDays : MethodName := ⟨RX10, "shipDays", "()I"⟩
abbrev cX10_sumHomes : ByteArray := prog_12_method_13_code
def yX10_sumHomes : MethodName := ⟨RX10, "sumHomes", "()V"⟩
abbrev cX10_addToLiving : ByteArray := prog_12_method_14_code
def yX10_addToLiving : MethodName := ⟨RX10, "addToLiving", "(IJ)V"⟩
abbrev cX10_worth : ByteArray := prog_12_method_15_code
def yX10_worth : MethodName := ⟨RX10, "worth", "(I)J"⟩
abbrev cX10_firstDeath : ByteArray := prog_12_method_16_code
def yX10_firstDeath : MethodName := ⟨RX10, "firstDeath", "()I"⟩
def RX11 : String := "LastKeg"
def TX11 : u_T := fun k => match k with
  | 0 => ("LastKeg", "now", "LLastKeg$Boat;", true)
  | 1 => ("LastKeg", "kept", "LLastKeg$Boat;", false)
  | 2 => ("LastKeg", "rules", "[LLastKeg$Rule;", true)
  | 3 => ("LastKeg", "ruleCount", "I", false)
  | 4 => ("LastKeg", "laws", "[LLastKeg$Law;", true)
  | 5 => ("LastKeg", "lawCount", "I", false)
  | 6 => ("LastKeg", "tape", "LLastKeg$Tape;", true)
  | 7 => ("LastKeg", "sheets", "[LLastKeg$Sheet;", true)
  | 8 => ("LastKeg", "voyage", "LLastKeg$Voyage;", true)
  | _ => ("LastKeg", "before", "[J", true)
def tyX11 : Nat → FieldType := fun k => match k with
  | 0 => .object "LastKeg$Boat"
  | 1 => .object "LastKeg$Boat"
  | 2 => .array (.object "LastKeg$Rule")
  | 3 => .int
  | 4 => .array (.object "LastKeg$Law")
  | 5 => .int
  | 6 => .object "LastKeg$Tape"
  | 7 => .array (.object "LastKeg$Sheet")
  | 8 => .object "LastKeg$Voyage"
  | _ => .array .long
abbrev wsX110 : List Cond := u_ws RX11 TX11 10
theorem nmX11 : ∀ a, a < 10 → ∀ b, b < 10 → a ≠ b → (TX11 a).2.1 ≠ (TX11 b).2.1 := by decide +kernel
theorem tyX11_ok : ∀ k, k < 10 → parseFieldDescriptor (TX11 k).2.2.1 = some (tyX11 k) := by decide +kernel
abbrev cX11_init : ByteArray := prog_1_method_1_code
def yX11_init : MethodName := ⟨RX11, "<init>", "()V"⟩
abbrev cX11_man : ByteArray := prog_1_method_2_code
def yX11_man : MethodName := ⟨RX11, "man", "(II)I"⟩
abbrev cX11_set : ByteArray := prog_1_method_3_code
def yX11_set : MethodName := ⟨RX11, "set", "(III)I"⟩
abbrev cX11_boat : ByteArray := prog_1_method_4_code
def yX11_boat : MethodName := ⟨RX11, "boat", "(II)I"⟩
abbrev cX11_day : ByteArray := prog_1_method_5_code
def yX11_day : MethodName := ⟨RX11, "day", "(III)I"⟩
abbrev cX11_boatTold : ByteArray := prog_1_method_6_code
def yX11_boatTold : MethodName := ⟨RX11, "boatTold", "(I)I"⟩
abbrev cX11_rule : ByteArray := prog_1_method_7_code
def yX11_rule : MethodName := ⟨RX11, "rule", "(III)I"⟩
abbrev cX11_ruleTold : ByteArray := prog_1_method_8_code
def yX11_ruleTold : MethodName := ⟨RX11, "ruleTold", "(II)I"⟩
abbrev cX11_feed : ByteArray := prog_1_method_9_code
def yX11_feed : MethodName := ⟨RX11, "feed", "(JI)I"⟩
abbrev cX11_text : ByteArray := prog_1_method_10_code
def yX11_text : MethodName := ⟨RX11, "text", "()I"⟩
abbrev cX11_force : ByteArray := prog_1_method_11_code
def yX11_force : MethodName := ⟨RX11, "force", "(I)I"⟩
abbrev cX11_home : ByteArray := prog_1_method_12_code
def yX11_home : MethodName := ⟨RX11, "home", "(III)J"⟩
abbrev cX11_mean : ByteArray := prog_1_method_13_code
def yX11_mean : MethodName := ⟨RX11, "mean", "(III)J"⟩
abbrev cX11_told : ByteArray := prog_1_method_14_code
def yX11_told : MethodName := ⟨RX11, "told", "(IIII)I"⟩
abbrev cX11_ends : ByteArray := prog_1_method_15_code
def yX11_ends : MethodName := ⟨RX11, "ends", "(II)I"⟩
abbrev cX11_best : ByteArray := prog_1_method_16_code
def yX11_best : MethodName := ⟨RX11, "best", "(I)I"⟩
abbrev cX11_rations : ByteArray := prog_1_method_17_code
def yX11_rations : MethodName := ⟨RX11, "rations", "(I)I"⟩
abbrev cX11_take : ByteArray := prog_1_method_18_code
def yX11_take : MethodName := ⟨RX11, "take", "(II)I"⟩
abbrev cX11_takes : ByteArray := prog_1_method_19_code
def yX11_takes : MethodName := ⟨RX11, "takes", "(I)I"⟩
abbrev cX11_hid : ByteArray := prog_1_method_20_code
def yX11_hid : MethodName := ⟨RX11, "hid", "(IIII)J"⟩
abbrev cX11_judge : ByteArray := prog_1_method_21_code
def yX11_judge : MethodName := ⟨RX11, "judge", "(III)I"⟩
abbrev cX11_until : ByteArray := prog_1_method_22_code
def yX11_until : MethodName := ⟨RX11, "until", "(II)I"⟩
abbrev cX11_image : ByteArray := prog_1_method_23_code
def yX11_image : MethodName := ⟨RX11, "image", "()I"⟩
abbrev cX11_back : ByteArray := prog_1_method_24_code
def yX11_back : MethodName := ⟨RX11, "back", "()I"⟩
abbrev cX11_sheet : ByteArray := prog_1_method_25_code
def yX11_sheet : MethodName := ⟨RX11, "sheet", "(III)I"⟩
abbrev cX11_cell : ByteArray := prog_1_method_26_code
def yX11_cell : MethodName := ⟨RX11, "cell", "(III)I"⟩
abbrev cX11_copy : ByteArray := prog_1_method_27_code
def yX11_copy : MethodName := ⟨RX11, "copy", "(IIIII)I"⟩
abbrev cX11_men : ByteArray := prog_1_method_28_code
def yX11_men : MethodName := ⟨RX11, "men", "(IIII)I"⟩
abbrev cX11_taken : ByteArray := prog_1_method_29_code
def yX11_taken : MethodName := ⟨RX11, "taken", "(II)I"⟩
abbrev cX11_isStore : ByteArray := prog_1_method_30_code
def yX11_isStore : MethodName := ⟨RX11, "isStore", "(I)Z"⟩
abbrev cX11_isRows : ByteArray := prog_1_method_31_code
def yX11_isRows : MethodName := ⟨RX11, "isRows", "(I)Z"⟩
abbrev cX11_isPart : ByteArray := prog_1_method_32_code
def yX11_isPart : MethodName := ⟨RX11, "isPart", "(I)Z"⟩
abbrev cX11_isMan : ByteArray := prog_1_method_33_code
def yX11_isMan : MethodName := ⟨RX11, "isMan", "(I)Z"⟩
abbrev cX11_ruleAt : ByteArray := prog_1_method_34_code
def yX11_ruleAt : MethodName := ⟨RX11, "ruleAt", "(I)LLastKeg$Rule;"⟩
abbrev cX11_sheetAt : ByteArray := prog_1_method_35_code
def yX11_sheetAt : MethodName := ⟨RX11, "sheetAt", "(I)LLastKeg$Sheet;"⟩
abbrev cX11_exchange : ByteArray := prog_1_method_36_code
def yX11_exchange : MethodName := ⟨RX11, "exchange", "([III)I"⟩
abbrev cX11_ruleOf : ByteArray := prog_1_method_37_code
def yX11_ruleOf : MethodName := ⟨RX11, "ruleOf", "(IILLastKeg$Sheet;)LLastKeg$Rule;"⟩
abbrev cX11_isOfKind : ByteArray := prog_1_method_38_code
def yX11_isOfKind : MethodName := ⟨RX11, "isOfKind", "(LLastKeg$Rule;I)Z"⟩
abbrev cX11_keepHomes : ByteArray := prog_1_method_39_code
def yX11_keepHomes : MethodName := ⟨RX11, "keepHomes", "(LLastKeg$Rule;)V"⟩
abbrev cX11_wouldTake : ByteArray := prog_1_method_40_code
def yX11_wouldTake : MethodName := ⟨RX11, "wouldTake", "(LLastKeg$Rule;I)Z"⟩
abbrev cX11_inLowestTerms : ByteArray := prog_1_method_41_code
def yX11_inLowestTerms : MethodName := ⟨RX11, "inLowestTerms", "(JI)J"⟩
def RX12 : String := "LastKegModel"
def TX12 : u_T := fun k => match k with
  | 0 => ("LastKegModel", "men", "I", false)
  | 1 => ("LastKegModel", "store", "[I", true)
  | 2 => ("LastKegModel", "rows", "[I", true)
  | 3 => ("LastKegModel", "days", "I", false)
  | 4 => ("LastKegModel", "keg", "I", false)
  | 5 => ("LastKegModel", "ration", "I", false)
  | 6 => ("LastKegModel", "miles", "I", false)
  | 7 => ("LastKegModel", "chance", "[I", true)
  | 8 => ("LastKegModel", "rain", "[I", true)
  | 9 => ("LastKegModel", "rules", "I", false)
  | 10 => ("LastKegModel", "kind", "[I", true)
  | 11 => ("LastKegModel", "more", "[I", true)
  | 12 => ("LastKegModel", "numbers", "[I", true)
  | 13 => ("LastKegModel", "tape", "[I", true)
  | 14 => ("LastKegModel", "taped", "I", false)
  | 15 => ("LastKegModel", "codes", "[I", true)
  | 16 => ("LastKegModel", "starts", "[I", true)
  | 17 => ("LastKegModel", "texts", "I", false)
  | 18 => ("LastKegModel", "rule", "I", false)
  | 19 => ("LastKegModel", "storeAt", "[I", true)
  | 20 => ("LastKegModel", "gotOn", "[I", true)
  | 21 => ("LastKegModel", "kegAt", "[I", true)
  | 22 => ("LastKegModel", "rowedAt", "[I", true)
  | 23 => ("LastKegModel", "landed", "I", false)
  | 24 => ("LastKegModel", "hasImage", "Z", false)
  | 25 => ("LastKegModel", "imageMen", "I", false)
  | 26 => ("LastKegModel", "imageDays", "I", false)
  | 27 => ("LastKegModel", "imageKeg", "I", false)
  | 28 => ("LastKegModel", "imageRation", "I", false)
  | 29 => ("LastKegModel", "imageMiles", "I", false)
  | 30 => ("LastKegModel", "imageRule", "I", false)
  | 31 => ("LastKegModel", "imageStore", "[I", true)
  | 32 => ("LastKegModel", "imageChance", "[I", true)
  | 33 => ("LastKegModel", "imageRain", "[I", true)
  | 34 => ("LastKegModel", "sheetSort", "[I", true)
  | 35 => ("LastKegModel", "sheetSize", "[I", true)
  | 36 => ("LastKegModel", "cells", "[I", true)
  | 37 => ("LastKegModel", "at", "I", false)
  | 38 => ("LastKegModel", "begun", "I", false)
  | 39 => ("LastKegModel", "token", "I", false)
  | 40 => ("LastKegModel", "value", "I", false)
  | 41 => ("LastKegModel", "words", "[J", true)
  | 42 => ("LastKegModel", "held", "[I", true)
  | 43 => ("LastKegModel", "heldMany", "I", false)
  | 44 => ("LastKegModel", "opens", "I", false)
  | 45 => ("LastKegModel", "out", "I", false)
  | 46 => ("LastKegModel", "stack", "[I", true)
  | 47 => ("LastKegModel", "named", "[I", true)
  | _ => ("LastKegModel", "kept", "[J", true)
def tyX12 : Nat → FieldType := fun k => match k with
  | 0 => .int
  | 1 => .array .int
  | 2 => .array .int
  | 3 => .int
  | 4 => .int
  | 5 => .int
  | 6 => .int
  | 7 => .array .int
  | 8 => .array .int
  | 9 => .int
  | 10 => .array .int
  | 11 => .array .int
  | 12 => .array .int
  | 13 => .array .int
  | 14 => .int
  | 15 => .array .int
  | 16 => .array .int
  | 17 => .int
  | 18 => .int
  | 19 => .array .int
  | 20 => .array .int
  | 21 => .array .int
  | 22 => .array .int
  | 23 => .int
  | 24 => .boolean
  | 25 => .int
  | 26 => .int
  | 27 => .int
  | 28 => .int
  | 29 => .int
  | 30 => .int
  | 31 => .array .int
  | 32 => .array .int
  | 33 => .array .int
  | 34 => .array .int
  | 35 => .array .int
  | 36 => .array .int
  | 37 => .int
  | 38 => .int
  | 39 => .int
  | 40 => .int
  | 41 => .array .long
  | 42 => .array .int
  | 43 => .int
  | 44 => .int
  | 45 => .int
  | 46 => .array .int
  | 47 => .array .int
  | _ => .array .long
abbrev wsX120 : List Cond := u_ws RX12 TX12 49
theorem nmX12 : ∀ a, a < 49 → ∀ b, b < 49 → a ≠ b → (TX12 a).2.1 ≠ (TX12 b).2.1 := by decide +kernel
theorem tyX12_ok : ∀ k, k < 49 → parseFieldDescriptor (TX12 k).2.2.1 = some (tyX12 k) := by decide +kernel
abbrev cX12_init : ByteArray := prog_14_method_1_code
def yX12_init : MethodName := ⟨RX12, "<init>", "()V"⟩
abbrev cX12_first : ByteArray := prog_14_method_2_code
def yX12_first : MethodName := ⟨RX12, "first", "(IIIII)V"⟩
abbrev cX12_in : ByteArray := prog_14_method_4_code
def yX12_in : MethodName := ⟨RX12, "in", "(III)Z"⟩
abbrev cX12_isMan : ByteArray := prog_14_method_5_code
def yX12_isMan : MethodName := ⟨RX12, "isMan", "(I)Z"⟩
abbrev cX12_isRule : ByteArray := prog_14_method_6_code
def yX12_isRule : MethodName := ⟨RX12, "isRule", "(I)Z"⟩
abbrev cX12_man : ByteArray := prog_14_method_7_code
def yX12_man : MethodName := ⟨RX12, "man", "(II)I"⟩
abbrev cX12_set : ByteArray := prog_14_method_8_code
def yX12_set : MethodName := ⟨RX12, "set", "(III)I"⟩
abbrev cX12_boat : ByteArray := prog_14_method_9_code
def yX12_boat : MethodName := ⟨RX12, "boat", "(II)I"⟩
abbrev cX12_day : ByteArray := prog_14_method_10_code
def yX12_day : MethodName := ⟨RX12, "day", "(III)I"⟩
abbrev cX12_boatTold : ByteArray := prog_14_method_11_code
def yX12_boatTold : MethodName := ⟨RX12, "boatTold", "(I)I"⟩
abbrev cX12_rule : ByteArray := prog_14_method_12_code
def yX12_rule : MethodName := ⟨RX12, "rule", "(III)I"⟩
abbrev cX12_ruleTold : ByteArray := prog_14_method_13_code
def yX12_ruleTold : MethodName := ⟨RX12, "ruleTold", "(II)I"⟩
abbrev cX12_feed : ByteArray := prog_14_method_14_code
def yX12_feed : MethodName := ⟨RX12, "feed", "(JI)I"⟩
abbrev cX12_letters : ByteArray := prog_14_method_15_code
def yX12_letters : MethodName := ⟨RX12, "letters", "()J"⟩
abbrev cX12_next : ByteArray := prog_14_method_16_code
def yX12_next : MethodName := ⟨RX12, "next", "()V"⟩
abbrev cX12_rank : ByteArray := prog_14_method_17_code
def yX12_rank : MethodName := ⟨RX12, "rank", "(I)I"⟩
abbrev cX12_puts : ByteArray := prog_14_method_18_code
def yX12_puts : MethodName := ⟨RX12, "puts", "(I)V"⟩
abbrev cX12_unwinds : ByteArray := prog_14_method_19_code
def yX12_unwinds : MethodName := ⟨RX12, "unwinds", "(I)V"⟩
abbrev cX12_holds : ByteArray := prog_14_method_20_code
def yX12_holds : MethodName := ⟨RX12, "holds", "(I)V"⟩
abbrev cX12_opensOne : ByteArray := prog_14_method_21_code
def yX12_opensOne : MethodName := ⟨RX12, "opensOne", "(I)Z"⟩
abbrev cX12_between : ByteArray := prog_14_method_22_code
def yX12_between : MethodName := ⟨RX12, "between", "(I)Z"⟩
abbrev cX12_signOf : ByteArray := prog_14_method_23_code
def yX12_signOf : MethodName := ⟨RX12, "signOf", "()I"⟩
abbrev cX12_eRead : ByteArray := prog_14_method_24_code
def yX12_eRead : MethodName := ⟨RX12, "eRead", "()Z"⟩
abbrev cX12_text : ByteArray := prog_14_method_25_code
def yX12_text : MethodName := ⟨RX12, "text", "()I"⟩
abbrev cX12_two : ByteArray := prog_14_method_26_code
def yX12_two : MethodName := ⟨RX12, "two", "(III)I"⟩
abbrev cX12_worth : ByteArray := prog_14_method_27_code
def yX12_worth : MethodName := ⟨RX12, "worth", "(II)I"⟩
abbrev cX12_force : ByteArray := prog_14_method_28_code
def yX12_force : MethodName := ⟨RX12, "force", "(I)I"⟩
abbrev cX12_low : ByteArray := prog_14_method_29_code
def yX12_low : MethodName := ⟨RX12, "low", "(I)I"⟩
abbrev cX12_share : ByteArray := prog_14_method_30_code
def yX12_share : MethodName := ⟨RX12, "share", "(IIIII)I"⟩
abbrev cX12_drinkers : ByteArray := prog_14_method_31_code
def yX12_drinkers : MethodName := ⟨RX12, "drinkers", "(II)I"⟩
abbrev cX12_goes : ByteArray := prog_14_method_32_code
def yX12_goes : MethodName := ⟨RX12, "goes", "(IIII)V"⟩
abbrev cX12_living : ByteArray := prog_14_method_33_code
def yX12_living : MethodName := ⟨RX12, "living", "(I)I"⟩
abbrev cX12_all : ByteArray := prog_14_method_34_code
def yX12_all : MethodName := ⟨RX12, "all", "()I"⟩
abbrev cX12_goesPlain : ByteArray := prog_14_method_35_code
def yX12_goesPlain : MethodName := ⟨RX12, "goesPlain", "(I)V"⟩
abbrev cX12_below : ByteArray := prog_14_method_36_code
def yX12_below : MethodName := ⟨RX12, "below", "()J"⟩
abbrev cX12_homeOf : ByteArray := prog_14_method_37_code
def yX12_homeOf : MethodName := ⟨RX12, "homeOf", "(I)J"⟩
abbrev cX12_lowest : ByteArray := prog_14_method_38_code
def yX12_lowest : MethodName := ⟨RX12, "lowest", "(JJI)J"⟩
abbrev cX12_home : ByteArray := prog_14_method_39_code
def yX12_home : MethodName := ⟨RX12, "home", "(III)J"⟩
abbrev cX12_meanOf : ByteArray := prog_14_method_40_code
def yX12_meanOf : MethodName := ⟨RX12, "meanOf", "(II)J"⟩
abbrev cX12_mean : ByteArray := prog_14_method_41_code
def yX12_mean : MethodName := ⟨RX12, "mean", "(III)J"⟩
abbrev cX12_told : ByteArray := prog_14_method_42_code
def yX12_told : MethodName := ⟨RX12, "told", "(IIII)I"⟩
abbrev cX12_ends : ByteArray := prog_14_method_43_code
def yX12_ends : MethodName := ⟨RX12, "ends", "(II)I"⟩
abbrev cX12_best : ByteArray := prog_14_method_44_code
def yX12_best : MethodName := ⟨RX12, "best", "(I)I"⟩
abbrev cX12_rations : ByteArray := prog_14_method_45_code
def yX12_rations : MethodName := ⟨RX12, "rations", "(I)I"⟩
abbrev cX12_keeps : ByteArray := prog_14_method_46_code
def yX12_keeps : MethodName := ⟨RX12, "keeps", "(I)V"⟩
abbrev cX12_would : ByteArray := prog_14_method_47_code
def yX12_would : MethodName := ⟨RX12, "would", "(II)Z"⟩
abbrev cX12_take : ByteArray := prog_14_method_48_code
def yX12_take : MethodName := ⟨RX12, "take", "(II)I"⟩
abbrev cX12_ones : ByteArray := prog_14_method_49_code
def yX12_ones : MethodName := ⟨RX12, "ones", "(I)I"⟩
abbrev cX12_takes : ByteArray := prog_14_method_50_code
def yX12_takes : MethodName := ⟨RX12, "takes", "(I)I"⟩
abbrev cX12_hid : ByteArray := prog_14_method_51_code
def yX12_hid : MethodName := ⟨RX12, "hid", "(IIII)J"⟩
abbrev cX12_judge : ByteArray := prog_14_method_52_code
def yX12_judge : MethodName := ⟨RX12, "judge", "(III)I"⟩
abbrev cX12_until : ByteArray := prog_14_method_53_code
def yX12_until : MethodName := ⟨RX12, "until", "(II)I"⟩
abbrev cX12_image : ByteArray := prog_14_method_54_code
def yX12_image : MethodName := ⟨RX12, "image", "()I"⟩
abbrev cX12_back : ByteArray := prog_14_method_55_code
def yX12_back : MethodName := ⟨RX12, "back", "()I"⟩
abbrev cX12_sheet : ByteArray := prog_14_method_56_code
def yX12_sheet : MethodName := ⟨RX12, "sheet", "(III)I"⟩
abbrev cX12_cell : ByteArray := prog_14_method_57_code
def yX12_cell : MethodName := ⟨RX12, "cell", "(III)I"⟩
abbrev cX12_copy : ByteArray := prog_14_method_58_code
def yX12_copy : MethodName := ⟨RX12, "copy", "(IIIII)I"⟩
abbrev cX12_men : ByteArray := prog_14_method_59_code
def yX12_men : MethodName := ⟨RX12, "men", "(IIII)I"⟩
abbrev cX12_isUnder : ByteArray := prog_14_method_60_code
def yX12_isUnder : MethodName := ⟨RX12, "isUnder", "(II)Z"⟩
abbrev cX12_taken : ByteArray := prog_14_method_61_code
def yX12_taken : MethodName := ⟨RX12, "taken", "(II)I"⟩
def RJx145de : String := "java/io/Serializable"
def TJx145de : u_T := fun k => match k with
  | _ => ("", "", "", false)
def tyJx145de : Nat → FieldType := fun k => match k with
  | _ => .int
abbrev wsJx145de0 : List Cond := u_ws RJx145de TJx145de 0
theorem nmJx145de : ∀ a, a < 0 → ∀ b, b < 0 → a ≠ b → (TJx145de a).2.1 ≠ (TJx145de b).2.1 := by decide +kernel
theorem tyJx145de_ok : ∀ k, k < 0 → parseFieldDescriptor (TJx145de k).2.2.1 = some (tyJx145de k) := by decide +kernel
def RJx9f9b0 : String := "java/lang/CharSequence"
def TJx9f9b0 : u_T := fun k => match k with
  | _ => ("", "", "", false)
def tyJx9f9b0 : Nat → FieldType := fun k => match k with
  | _ => .int
abbrev wsJx9f9b00 : List Cond := u_ws RJx9f9b0 TJx9f9b0 0
theorem nmJx9f9b0 : ∀ a, a < 0 → ∀ b, b < 0 → a ≠ b → (TJx9f9b0 a).2.1 ≠ (TJx9f9b0 b).2.1 := by decide +kernel
theorem tyJx9f9b0_ok : ∀ k, k < 0 → parseFieldDescriptor (TJx9f9b0 k).2.2.1 = some (tyJx9f9b0 k) := by decide +kernel
def RJx8e188 : String := "java/lang/Cloneable"
def TJx8e188 : u_T := fun k => match k with
  | _ => ("", "", "", false)
def tyJx8e188 : Nat → FieldType := fun k => match k with
  | _ => .int
abbrev wsJx8e1880 : List Cond := u_ws RJx8e188 TJx8e188 0
theorem nmJx8e188 : ∀ a, a < 0 → ∀ b, b < 0 → a ≠ b → (TJx8e188 a).2.1 ≠ (TJx8e188 b).2.1 := by decide +kernel
theorem tyJx8e188_ok : ∀ k, k < 0 → parseFieldDescriptor (TJx8e188 k).2.2.1 = some (tyJx8e188 k) := by decide +kernel
def RJxb160c : String := "java/lang/Comparable"
def TJxb160c : u_T := fun k => match k with
  | _ => ("", "", "", false)
def tyJxb160c : Nat → FieldType := fun k => match k with
  | _ => .int
abbrev wsJxb160c0 : List Cond := u_ws RJxb160c TJxb160c 0
theorem nmJxb160c : ∀ a, a < 0 → ∀ b, b < 0 → a ≠ b → (TJxb160c a).2.1 ≠ (TJxb160c b).2.1 := by decide +kernel
theorem tyJxb160c_ok : ∀ k, k < 0 → parseFieldDescriptor (TJxb160c k).2.2.1 = some (tyJxb160c k) := by decide +kernel
def RJ6 : String := "java/lang/Integer"
def TJ6 : u_T := fun k => match k with
  | _ => ("", "", "", false)
def tyJ6 : Nat → FieldType := fun k => match k with
  | _ => .int
abbrev wsJ60 : List Cond := u_ws RJ6 TJ6 0
theorem nmJ6 : ∀ a, a < 0 → ∀ b, b < 0 → a ≠ b → (TJ6 a).2.1 ≠ (TJ6 b).2.1 := by decide +kernel
theorem tyJ6_ok : ∀ k, k < 0 → parseFieldDescriptor (TJ6 k).2.2.1 = some (tyJ6 k) := by decide +kernel
abbrev cJ6_bitCount_0f7a4 : ByteArray := prog_16_method_49_code
def yJ6_bitCount_0f7a4 : MethodName := ⟨RJ6, "bitCount", "(I)I"⟩
def RJ9 : String := "java/lang/Math"
def TJ9 : u_T := fun k => match k with
  | _ => ("", "", "", false)
def tyJ9 : Nat → FieldType := fun k => match k with
  | _ => .int
abbrev wsJ90 : List Cond := u_ws RJ9 TJ9 0
theorem nmJ9 : ∀ a, a < 0 → ∀ b, b < 0 → a ≠ b → (TJ9 a).2.1 ≠ (TJ9 b).2.1 := by decide +kernel
theorem tyJ9_ok : ∀ k, k < 0 → parseFieldDescriptor (TJ9 k).2.2.1 = some (tyJ9 k) := by decide +kernel
abbrev cJ9_abs_067f4 : ByteArray := prog_17_method_61_code
def yJ9_abs_067f4 : MethodName := ⟨RJ9, "abs", "(J)J"⟩
abbrev cJ9_max_7cf53 : ByteArray := prog_17_method_65_code
def yJ9_max_7cf53 : MethodName := ⟨RJ9, "max", "(II)I"⟩
abbrev cJ9_min_7cf53 : ByteArray := prog_17_method_69_code
def yJ9_min_7cf53 : MethodName := ⟨RJ9, "min", "(II)I"⟩
abbrev cJ9_min_f86c9 : ByteArray := prog_17_method_70_code
def yJ9_min_f86c9 : MethodName := ⟨RJ9, "min", "(JJ)J"⟩
def RJ0 : String := "java/lang/String"
def TJ0 : u_T := fun k => match k with
  | _ => ("", "", "", false)
def tyJ0 : Nat → FieldType := fun k => match k with
  | _ => .int
abbrev wsJ00 : List Cond := u_ws RJ0 TJ0 0
theorem nmJ0 : ∀ a, a < 0 → ∀ b, b < 0 → a ≠ b → (TJ0 a).2.1 ≠ (TJ0 b).2.1 := by decide +kernel
theorem tyJ0_ok : ∀ k, k < 0 → parseFieldDescriptor (TJ0 k).2.2.1 = some (tyJ0 k) := by decide +kernel
abbrev cJ0_length_8abf5 : ByteArray := prog_18_method_54_code
def yJ0_length_8abf5 : MethodName := ⟨RJ0, "length", "()I"⟩
abbrev cJ0_charAt_5068e : ByteArray := prog_18_method_56_code
def yJ0_charAt_5068e : MethodName := ⟨RJ0, "charAt", "(I)C"⟩
abbrev cJ0_coder_7d493 : ByteArray := prog_18_method_152_code
def yJ0_coder_7d493 : MethodName := ⟨RJ0, "coder", "()B"⟩
abbrev cJ0_isLatin1_aae02 : ByteArray := prog_18_method_154_code
def yJ0_isLatin1_aae02 : MethodName := ⟨RJ0, "isLatin1", "()Z"⟩
abbrev cJ0_checkIndex_df160 : ByteArray := prog_18_method_155_code
def yJ0_checkIndex_df160 : MethodName := ⟨RJ0, "checkIndex", "(II)V"⟩
def RJ1 : String := "java/lang/StringLatin1"
def TJ1 : u_T := fun k => match k with
  | _ => ("", "", "", false)
def tyJ1 : Nat → FieldType := fun k => match k with
  | _ => .int
abbrev wsJ10 : List Cond := u_ws RJ1 TJ1 0
theorem nmJ1 : ∀ a, a < 0 → ∀ b, b < 0 → a ≠ b → (TJ1 a).2.1 ≠ (TJ1 b).2.1 := by decide +kernel
theorem tyJ1_ok : ∀ k, k < 0 → parseFieldDescriptor (TJ1 k).2.2.1 = some (tyJ1 k) := by decide +kernel
abbrev cJ1_charAt_3b067 : ByteArray := prog_19_method_2_code
def yJ1_charAt_3b067 : MethodName := ⟨RJ1, "charAt", "([BI)C"⟩
def RJ2 : String := "java/lang/StringUTF16"
def TJ2 : u_T := fun k => match k with
  | _ => ("", "", "", false)
def tyJ2 : Nat → FieldType := fun k => match k with
  | _ => .int
abbrev wsJ20 : List Cond := u_ws RJ2 TJ2 0
theorem nmJ2 : ∀ a, a < 0 → ∀ b, b < 0 → a ≠ b → (TJ2 a).2.1 ≠ (TJ2 b).2.1 := by decide +kernel
theorem tyJ2_ok : ∀ k, k < 0 → parseFieldDescriptor (TJ2 k).2.2.1 = some (tyJ2 k) := by decide +kernel
abbrev cJ2_getChar_3b067 : ByteArray := prog_20_method_5_code
def yJ2_getChar_3b067 : MethodName := ⟨RJ2, "getChar", "([BI)C"⟩
abbrev cJ2_length_9d52b : ByteArray := prog_20_method_6_code
def yJ2_length_9d52b : MethodName := ⟨RJ2, "length", "([B)I"⟩
abbrev cJ2_charAt_3b067 : ByteArray := prog_20_method_83_code
def yJ2_charAt_3b067 : MethodName := ⟨RJ2, "charAt", "([BI)C"⟩
abbrev cJ2_checkIndex_2214a : ByteArray := prog_20_method_91_code
def yJ2_checkIndex_2214a : MethodName := ⟨RJ2, "checkIndex", "(I[B)V"⟩
def RJ10 : String := "java/lang/System"
def TJ10 : u_T := fun k => match k with
  | _ => ("", "", "", false)
def tyJ10 : Nat → FieldType := fun k => match k with
  | _ => .int
abbrev wsJ100 : List Cond := u_ws RJ10 TJ10 0
theorem nmJ10 : ∀ a, a < 0 → ∀ b, b < 0 → a ≠ b → (TJ10 a).2.1 ≠ (TJ10 b).2.1 := by decide +kernel
theorem tyJ10_ok : ∀ k, k < 0 → parseFieldDescriptor (TJ10 k).2.2.1 = some (tyJ10 k) := by decide +kernel
def RJxfd54e : String := "java/lang/constant/Constable"
def TJxfd54e : u_T := fun k => match k with
  | _ => ("", "", "", false)
def tyJxfd54e : Nat → FieldType := fun k => match k with
  | _ => .int
abbrev wsJxfd54e0 : List Cond := u_ws RJxfd54e TJxfd54e 0
theorem nmJxfd54e : ∀ a, a < 0 → ∀ b, b < 0 → a ≠ b → (TJxfd54e a).2.1 ≠ (TJxfd54e b).2.1 := by decide +kernel
theorem tyJxfd54e_ok : ∀ k, k < 0 → parseFieldDescriptor (TJxfd54e k).2.2.1 = some (tyJxfd54e k) := by decide +kernel
def RJx3cf43 : String := "java/lang/constant/ConstantDesc"
def TJx3cf43 : u_T := fun k => match k with
  | _ => ("", "", "", false)
def tyJx3cf43 : Nat → FieldType := fun k => match k with
  | _ => .int
abbrev wsJx3cf430 : List Cond := u_ws RJx3cf43 TJx3cf43 0
theorem nmJx3cf43 : ∀ a, a < 0 → ∀ b, b < 0 → a ≠ b → (TJx3cf43 a).2.1 ≠ (TJx3cf43 b).2.1 := by decide +kernel
theorem tyJx3cf43_ok : ∀ k, k < 0 → parseFieldDescriptor (TJx3cf43 k).2.2.1 = some (tyJx3cf43 k) := by decide +kernel
def RJ7 : String := "java/util/Arrays"
def TJ7 : u_T := fun k => match k with
  | _ => ("", "", "", false)
def tyJ7 : Nat → FieldType := fun k => match k with
  | _ => .int
abbrev wsJ70 : List Cond := u_ws RJ7 TJ7 0
theorem nmJ7 : ∀ a, a < 0 → ∀ b, b < 0 → a ≠ b → (TJ7 a).2.1 ≠ (TJ7 b).2.1 := by decide +kernel
theorem tyJ7_ok : ∀ k, k < 0 → parseFieldDescriptor (TJ7 k).2.2.1 = some (tyJ7 k) := by decide +kernel
abbrev cJ7_fill_d0a16 : ByteArray := prog_22_method_101_code
def yJ7_fill_d0a16 : MethodName := ⟨RJ7, "fill", "([JJ)V"⟩
abbrev cJ7_fill_53178 : ByteArray := prog_22_method_103_code
def yJ7_fill_53178 : MethodName := ⟨RJ7, "fill", "([II)V"⟩
abbrev cJ7_copyOf_59c91 : ByteArray := prog_22_method_123_code
def yJ7_copyOf_59c91 : MethodName := ⟨RJ7, "copyOf", "([II)[I"⟩
def RJ3 : String := "jdk/internal/util/Preconditions"
def TJ3 : u_T := fun k => match k with
  | _ => ("", "", "", false)
def tyJ3 : Nat → FieldType := fun k => match k with
  | _ => .int
abbrev wsJ30 : List Cond := u_ws RJ3 TJ3 0
theorem nmJ3 : ∀ a, a < 0 → ∀ b, b < 0 → a ≠ b → (TJ3 a).2.1 ≠ (TJ3 b).2.1 := by decide +kernel
theorem tyJ3_ok : ∀ k, k < 0 → parseFieldDescriptor (TJ3 k).2.2.1 = some (tyJ3 k) := by decide +kernel
abbrev cJ3_checkIndex_8e157 : ByteArray := prog_23_method_11_code
def yJ3_checkIndex_8e157 : MethodName := ⟨RJ3, "checkIndex", "(IILjava/util/function/BiFunction;)I"⟩
def RL : String := "LastKegLaw"
abbrev cL_law : ByteArray := code
def yL_law : MethodName := ⟨RL, "law", "([I)Z"⟩
theorem vr_outer (c : ClassId) (N h0 : Nat) : ∀ i : Nat, Jvm.Free.Multi.outerC c N h0 i = arrV c N (fun j => va_rf (if j < i then some (h0 + 1 + j) else none))
  | 0 => by
    show ({ cls := c, slots := Array.replicate N .null, vm := .none } : Cell) = _
    rw [arrV_new]
    refine congrArg (arrV c N) (funext fun j => ?_)
    simp [va_rf]
  | i + 1 => by
    show (Jvm.Free.Multi.outerC c N h0 i).setSlot i (.ref (h0 + 1 + i)) = _
    rw [vr_outer c N h0 i, arrV_store]
    refine congrArg (arrV c N) (funext fun j => ?_)
    by_cases e : j = i
    · subst e
      simp [updV, va_rf]
    · by_cases h : j < i
      · simp [updV, e, h, Nat.lt_succ_of_lt h]
      · simp [updV, e, h, show ¬ j < i + 1 by omega]
end
section
theorem dX0_init_0 : decode cX0_init 0 = .ok (.aload_n 0, 1) := by decide +kernel
theorem dX0_init_1 : decode cX0_init 1 = .ok (.invokespecial 3, 3) := by decide +kernel
theorem dX0_init_4 : decode cX0_init 4 = .ok (.aload_n 0, 1) := by decide +kernel
theorem dX0_init_5 : decode cX0_init 5 = .ok (.bipush 8, 2) := by decide +kernel
theorem dX0_init_7 : decode cX0_init 7 = .ok (.newarray .int, 2) := by decide +kernel
theorem dX0_init_9 : decode cX0_init 9 = .ok (.putfield 9, 3) := by decide +kernel
theorem dX0_init_12 : decode cX0_init 12 = .ok (.aload_n 0, 1) := by decide +kernel
theorem dX0_init_13 : decode cX0_init 13 = .ok (.bipush 8, 2) := by decide +kernel
theorem dX0_init_15 : decode cX0_init 15 = .ok (.newarray .int, 2) := by decide +kernel
theorem dX0_init_17 : decode cX0_init 17 = .ok (.putfield 15, 3) := by decide +kernel
theorem dX0_init_20 : decode cX0_init 20 = .ok (.aload_n 0, 1) := by decide +kernel
theorem dX0_init_21 : decode cX0_init 21 = .ok (.iconst 4, 1) := by decide +kernel
theorem dX0_init_22 : decode cX0_init 22 = .ok (.newarray .int, 2) := by decide +kernel
theorem dX0_init_24 : decode cX0_init 24 = .ok (.dup, 1) := by decide +kernel
theorem dX0_init_25 : decode cX0_init 25 = .ok (.iconst 0, 1) := by decide +kernel
theorem dX0_init_26 : decode cX0_init 26 = .ok (.bipush 6, 2) := by decide +kernel
theorem dX0_init_28 : decode cX0_init 28 = .ok (.iastore, 1) := by decide +kernel
theorem dX0_init_29 : decode cX0_init 29 = .ok (.dup, 1) := by decide +kernel
theorem dX0_init_30 : decode cX0_init 30 = .ok (.iconst 1, 1) := by decide +kernel
theorem dX0_init_31 : decode cX0_init 31 = .ok (.bipush 60, 2) := by decide +kernel
theorem dX0_init_33 : decode cX0_init 33 = .ok (.iastore, 1) := by decide +kernel
theorem dX0_init_34 : decode cX0_init 34 = .ok (.dup, 1) := by decide +kernel
theorem dX0_init_35 : decode cX0_init 35 = .ok (.iconst 2, 1) := by decide +kernel
theorem dX0_init_36 : decode cX0_init 36 = .ok (.bipush 12, 2) := by decide +kernel
theorem dX0_init_38 : decode cX0_init 38 = .ok (.iastore, 1) := by decide +kernel
theorem dX0_init_39 : decode cX0_init 39 = .ok (.dup, 1) := by decide +kernel
theorem dX0_init_40 : decode cX0_init 40 = .ok (.iconst 3, 1) := by decide +kernel
theorem dX0_init_41 : decode cX0_init 41 = .ok (.bipush 100, 2) := by decide +kernel
theorem dX0_init_43 : decode cX0_init 43 = .ok (.iastore, 1) := by decide +kernel
theorem dX0_init_44 : decode cX0_init 44 = .ok (.putfield 18, 3) := by decide +kernel
theorem dX0_init_47 : decode cX0_init 47 = .ok (.aload_n 0, 1) := by decide +kernel
theorem dX0_init_48 : decode cX0_init 48 = .ok (.bipush 12, 2) := by decide +kernel
theorem dX0_init_50 : decode cX0_init 50 = .ok (.newarray .int, 2) := by decide +kernel
theorem dX0_init_52 : decode cX0_init 52 = .ok (.putfield 21, 3) := by decide +kernel
theorem dX0_init_55 : decode cX0_init 55 = .ok (.aload_n 0, 1) := by decide +kernel
theorem dX0_init_56 : decode cX0_init 56 = .ok (.bipush 12, 2) := by decide +kernel
theorem dX0_init_58 : decode cX0_init 58 = .ok (.newarray .int, 2) := by decide +kernel
theorem dX0_init_60 : decode cX0_init 60 = .ok (.putfield 24, 3) := by decide +kernel
theorem dX0_init_63 : decode cX0_init 63 = .ok (.aload_n 0, 1) := by decide +kernel
theorem dX0_init_64 : decode cX0_init 64 = .ok (.aload_n 1, 1) := by decide +kernel
theorem dX0_init_65 : decode cX0_init 65 = .ok (.putfield 27, 3) := by decide +kernel
theorem dX0_init_68 : decode cX0_init 68 = .ok (.return_, 1) := by decide +kernel
theorem dX0_keep_0 : decode cX0_keep 0 = .ok (.aload_n 1, 1) := by decide +kernel
theorem dX0_keep_1 : decode cX0_keep 1 = .ok (.getfield 9, 3) := by decide +kernel
theorem dX0_keep_4 : decode cX0_keep 4 = .ok (.iconst 0, 1) := by decide +kernel
theorem dX0_keep_5 : decode cX0_keep 5 = .ok (.aload_n 0, 1) := by decide +kernel
theorem dX0_keep_6 : decode cX0_keep 6 = .ok (.getfield 9, 3) := by decide +kernel
theorem dX0_keep_9 : decode cX0_keep 9 = .ok (.iconst 0, 1) := by decide +kernel
theorem dX0_keep_10 : decode cX0_keep 10 = .ok (.aload_n 1, 1) := by decide +kernel
theorem dX0_keep_11 : decode cX0_keep 11 = .ok (.getfield 31, 3) := by decide +kernel
theorem dX0_keep_14 : decode cX0_keep 14 = .ok (.invokestatic 35, 3) := by decide +kernel
theorem dX0_keep_17 : decode cX0_keep 17 = .ok (.aload_n 1, 1) := by decide +kernel
theorem dX0_keep_18 : decode cX0_keep 18 = .ok (.getfield 18, 3) := by decide +kernel
theorem dX0_keep_21 : decode cX0_keep 21 = .ok (.iconst 0, 1) := by decide +kernel
theorem dX0_keep_22 : decode cX0_keep 22 = .ok (.aload_n 0, 1) := by decide +kernel
theorem dX0_keep_23 : decode cX0_keep 23 = .ok (.getfield 18, 3) := by decide +kernel
theorem dX0_keep_26 : decode cX0_keep 26 = .ok (.iconst 0, 1) := by decide +kernel
theorem dX0_keep_27 : decode cX0_keep 27 = .ok (.iconst 4, 1) := by decide +kernel
theorem dX0_keep_28 : decode cX0_keep 28 = .ok (.invokestatic 35, 3) := by decide +kernel
theorem dX0_keep_31 : decode cX0_keep 31 = .ok (.aload_n 1, 1) := by decide +kernel
theorem dX0_keep_32 : decode cX0_keep 32 = .ok (.getfield 21, 3) := by decide +kernel
theorem dX0_keep_35 : decode cX0_keep 35 = .ok (.iconst 0, 1) := by decide +kernel
theorem dX0_keep_36 : decode cX0_keep 36 = .ok (.aload_n 0, 1) := by decide +kernel
theorem dX0_keep_37 : decode cX0_keep 37 = .ok (.getfield 21, 3) := by decide +kernel
theorem dX0_keep_40 : decode cX0_keep 40 = .ok (.iconst 0, 1) := by decide +kernel
theorem dX0_keep_41 : decode cX0_keep 41 = .ok (.bipush 12, 2) := by decide +kernel
theorem dX0_keep_43 : decode cX0_keep 43 = .ok (.invokestatic 35, 3) := by decide +kernel
theorem dX0_keep_46 : decode cX0_keep 46 = .ok (.aload_n 1, 1) := by decide +kernel
theorem dX0_keep_47 : decode cX0_keep 47 = .ok (.getfield 24, 3) := by decide +kernel
theorem dX0_keep_50 : decode cX0_keep 50 = .ok (.iconst 0, 1) := by decide +kernel
theorem dX0_keep_51 : decode cX0_keep 51 = .ok (.aload_n 0, 1) := by decide +kernel
theorem dX0_keep_52 : decode cX0_keep 52 = .ok (.getfield 24, 3) := by decide +kernel
theorem dX0_keep_55 : decode cX0_keep 55 = .ok (.iconst 0, 1) := by decide +kernel
theorem dX0_keep_56 : decode cX0_keep 56 = .ok (.bipush 12, 2) := by decide +kernel
theorem dX0_keep_58 : decode cX0_keep 58 = .ok (.invokestatic 35, 3) := by decide +kernel
theorem dX0_keep_61 : decode cX0_keep 61 = .ok (.aload_n 0, 1) := by decide +kernel
theorem dX0_keep_62 : decode cX0_keep 62 = .ok (.aload_n 1, 1) := by decide +kernel
theorem dX0_keep_63 : decode cX0_keep 63 = .ok (.getfield 27, 3) := by decide +kernel
theorem dX0_keep_66 : decode cX0_keep 66 = .ok (.putfield 27, 3) := by decide +kernel
theorem dX0_keep_69 : decode cX0_keep 69 = .ok (.return_, 1) := by decide +kernel
theorem dX1_init_0 : decode cX1_init 0 = .ok (.aload_n 0, 1) := by decide +kernel
theorem dX1_init_1 : decode cX1_init 1 = .ok (.iload_n 1, 1) := by decide +kernel
theorem dX1_init_2 : decode cX1_init 2 = .ok (.iload_n 2, 1) := by decide +kernel
theorem dX1_init_3 : decode cX1_init 3 = .ok (.invokespecial 1, 3) := by decide +kernel
theorem dX1_init_6 : decode cX1_init 6 = .ok (.return_, 1) := by decide +kernel
theorem dX1_share_0 : decode cX1_share 0 = .ok (.aload_n 0, 1) := by decide +kernel
theorem dX1_share_1 : decode cX1_share 1 = .ok (.aload_n 1, 1) := by decide +kernel
theorem dX1_share_2 : decode cX1_share 2 = .ok (.iload_n 2, 1) := by decide +kernel
theorem dX1_share_3 : decode cX1_share 3 = .ok (.invokespecial 7, 3) := by decide +kernel
theorem dX1_share_6 : decode cX1_share 6 = .ok (.istore_n 3, 1) := by decide +kernel
theorem dX1_share_7 : decode cX1_share 7 = .ok (.aload_n 1, 1) := by decide +kernel
theorem dX1_share_8 : decode cX1_share 8 = .ok (.getfield 11, 3) := by decide +kernel
theorem dX1_share_11 : decode cX1_share 11 = .ok (.aload_n 0, 1) := by decide +kernel
theorem dX1_share_12 : decode cX1_share 12 = .ok (.getfield 17, 3) := by decide +kernel
theorem dX1_share_15 : decode cX1_share 15 = .ok (.if_icmp .lt 9, 3) := by decide +kernel
theorem dX1_share_18 : decode cX1_share 18 = .ok (.iload_n 3, 1) := by decide +kernel
theorem dX1_share_19 : decode cX1_share 19 = .ok (.iconst 2, 1) := by decide +kernel
theorem dX1_share_20 : decode cX1_share 20 = .ok (.idiv, 1) := by decide +kernel
theorem dX1_share_21 : decode cX1_share 21 = .ok (.goto 4, 3) := by decide +kernel
theorem dX1_share_24 : decode cX1_share 24 = .ok (.iload_n 3, 1) := by decide +kernel
theorem dX1_share_25 : decode cX1_share 25 = .ok (.ireturn, 1) := by decide +kernel
theorem dX2_init_0 : decode cX2_init 0 = .ok (.aload_n 0, 1) := by decide +kernel
theorem dX2_init_1 : decode cX2_init 1 = .ok (.invokespecial 3, 3) := by decide +kernel
theorem dX2_init_4 : decode cX2_init 4 = .ok (.aload_n 0, 1) := by decide +kernel
theorem dX2_init_5 : decode cX2_init 5 = .ok (.iload_n 1, 1) := by decide +kernel
theorem dX2_init_6 : decode cX2_init 6 = .ok (.putfield 9, 3) := by decide +kernel
theorem dX2_init_9 : decode cX2_init 9 = .ok (.aload_n 0, 1) := by decide +kernel
theorem dX2_init_10 : decode cX2_init 10 = .ok (.aload_n 2, 1) := by decide +kernel
theorem dX2_init_11 : decode cX2_init 11 = .ok (.putfield 15, 3) := by decide +kernel
theorem dX2_init_14 : decode cX2_init 14 = .ok (.aload_n 0, 1) := by decide +kernel
theorem dX2_init_15 : decode cX2_init 15 = .ok (.iload_n 3, 1) := by decide +kernel
theorem dX2_init_16 : decode cX2_init 16 = .ok (.putfield 19, 3) := by decide +kernel
theorem dX2_init_19 : decode cX2_init 19 = .ok (.return_, 1) := by decide +kernel
theorem dX2_need_0 : decode cX2_need 0 = .ok (.aload_n 0, 1) := by decide +kernel
theorem dX2_need_1 : decode cX2_need 1 = .ok (.iconst 0, 1) := by decide +kernel
theorem dX2_need_2 : decode cX2_need 2 = .ok (.aload_n 0, 1) := by decide +kernel
theorem dX2_need_3 : decode cX2_need 3 = .ok (.getfield 19, 3) := by decide +kernel
theorem dX2_need_6 : decode cX2_need 6 = .ok (.aload_n 1, 1) := by decide +kernel
theorem dX2_need_7 : decode cX2_need 7 = .ok (.aload_n 2, 1) := by decide +kernel
theorem dX2_need_8 : decode cX2_need 8 = .ok (.invokevirtual 22, 3) := by decide +kernel
theorem dX2_need_11 : decode cX2_need 11 = .ok (.ireturn, 1) := by decide +kernel
theorem dX2_row_0 : decode cX2_row 0 = .ok (.aload_n 0, 1) := by decide +kernel
theorem dX2_row_1 : decode cX2_row 1 = .ok (.aload_n 0, 1) := by decide +kernel
theorem dX2_row_2 : decode cX2_row 2 = .ok (.getfield 19, 3) := by decide +kernel
theorem dX2_row_5 : decode cX2_row 5 = .ok (.aload_n 0, 1) := by decide +kernel
theorem dX2_row_6 : decode cX2_row 6 = .ok (.getfield 15, 3) := by decide +kernel
theorem dX2_row_9 : decode cX2_row 9 = .ok (.arraylength, 1) := by decide +kernel
theorem dX2_row_10 : decode cX2_row 10 = .ok (.aload_n 1, 1) := by decide +kernel
theorem dX2_row_11 : decode cX2_row 11 = .ok (.aload_n 2, 1) := by decide +kernel
theorem dX2_row_12 : decode cX2_row 12 = .ok (.invokevirtual 22, 3) := by decide +kernel
theorem dX2_row_15 : decode cX2_row 15 = .ok (.ireturn, 1) := by decide +kernel
theorem dX2_value_0 : decode cX2_value 0 = .ok (.iconst 0, 1) := by decide +kernel
theorem dX2_value_1 : decode cX2_value 1 = .ok (.istore 5, 2) := by decide +kernel
theorem dX2_value_3 : decode cX2_value 3 = .ok (.iload_n 1, 1) := by decide +kernel
theorem dX2_value_4 : decode cX2_value 4 = .ok (.istore 6, 2) := by decide +kernel
theorem dX2_value_6 : decode cX2_value 6 = .ok (.iload 6, 2) := by decide +kernel
theorem dX2_value_8 : decode cX2_value 8 = .ok (.iload_n 2, 1) := by decide +kernel
theorem dX2_value_9 : decode cX2_value 9 = .ok (.if_icmp .ge 151, 3) := by decide +kernel
theorem dX2_value_12 : decode cX2_value 12 = .ok (.iload 6, 2) := by decide +kernel
theorem dX2_value_14 : decode cX2_value 14 = .ok (.aload_n 0, 1) := by decide +kernel
theorem dX2_value_15 : decode cX2_value 15 = .ok (.getfield 15, 3) := by decide +kernel
theorem dX2_value_18 : decode cX2_value 18 = .ok (.arraylength, 1) := by decide +kernel
theorem dX2_value_19 : decode cX2_value 19 = .ok (.if_icmp .ge 141, 3) := by decide +kernel
theorem dX2_value_22 : decode cX2_value 22 = .ok (.aload_n 0, 1) := by decide +kernel
theorem dX2_value_23 : decode cX2_value 23 = .ok (.getfield 15, 3) := by decide +kernel
theorem dX2_value_26 : decode cX2_value 26 = .ok (.iload 6, 2) := by decide +kernel
theorem dX2_value_28 : decode cX2_value 28 = .ok (.iaload, 1) := by decide +kernel
theorem dX2_value_29 : decode cX2_value 29 = .ok (.istore 7, 2) := by decide +kernel
theorem dX2_value_31 : decode cX2_value 31 = .ok (.iload 7, 2) := by decide +kernel
theorem dX2_value_33 : decode cX2_value 33 = .ok (.bipush (-6), 2) := by decide +kernel
theorem dX2_value_35 : decode cX2_value 35 = .ok (.if_icmp .lt 40, 3) := by decide +kernel
theorem dX2_value_38 : decode cX2_value 38 = .ok (.iload 5, 2) := by decide +kernel
theorem dX2_value_40 : decode cX2_value 40 = .ok (.aload 4, 2) := by decide +kernel
theorem dX2_value_42 : decode cX2_value 42 = .ok (.arraylength, 1) := by decide +kernel
theorem dX2_value_43 : decode cX2_value 43 = .ok (.if_icmp .lt 5, 3) := by decide +kernel
theorem dX2_value_46 : decode cX2_value 46 = .ok (.iconst 0, 1) := by decide +kernel
theorem dX2_value_47 : decode cX2_value 47 = .ok (.ireturn, 1) := by decide +kernel
theorem dX2_value_48 : decode cX2_value 48 = .ok (.aload 4, 2) := by decide +kernel
theorem dX2_value_50 : decode cX2_value 50 = .ok (.iload 5, 2) := by decide +kernel
theorem dX2_value_52 : decode cX2_value 52 = .ok (.iload 7, 2) := by decide +kernel
theorem dX2_value_54 : decode cX2_value 54 = .ok (.ifCond .lt 8, 3) := by decide +kernel
theorem dX2_value_57 : decode cX2_value 57 = .ok (.iload 7, 2) := by decide +kernel
theorem dX2_value_59 : decode cX2_value 59 = .ok (.goto 9, 3) := by decide +kernel
theorem dX2_value_62 : decode cX2_value 62 = .ok (.aload_n 3, 1) := by decide +kernel
theorem dX2_value_63 : decode cX2_value 63 = .ok (.iconst (-1), 1) := by decide +kernel
theorem dX2_value_64 : decode cX2_value 64 = .ok (.iload 7, 2) := by decide +kernel
theorem dX2_value_66 : decode cX2_value 66 = .ok (.isub, 1) := by decide +kernel
theorem dX2_value_67 : decode cX2_value 67 = .ok (.iaload, 1) := by decide +kernel
theorem dX2_value_68 : decode cX2_value 68 = .ok (.iastore, 1) := by decide +kernel
theorem dX2_value_69 : decode cX2_value 69 = .ok (.iinc 5 1, 3) := by decide +kernel
theorem dX2_value_72 : decode cX2_value 72 = .ok (.goto 82, 3) := by decide +kernel
theorem dX2_value_75 : decode cX2_value 75 = .ok (.iload 7, 2) := by decide +kernel
theorem dX2_value_77 : decode cX2_value 77 = .ok (.bipush (-7), 2) := by decide +kernel
theorem dX2_value_79 : decode cX2_value 79 = .ok (.if_icmp .eq 10, 3) := by decide +kernel
theorem dX2_value_82 : decode cX2_value 82 = .ok (.iload 7, 2) := by decide +kernel
theorem dX2_value_84 : decode cX2_value 84 = .ok (.bipush (-8), 2) := by decide +kernel
theorem dX2_value_86 : decode cX2_value 86 = .ok (.if_icmp .ne 33, 3) := by decide +kernel
theorem dX2_value_89 : decode cX2_value 89 = .ok (.iload 5, 2) := by decide +kernel
theorem dX2_value_91 : decode cX2_value 91 = .ok (.iconst 1, 1) := by decide +kernel
theorem dX2_value_92 : decode cX2_value 92 = .ok (.if_icmp .ge 5, 3) := by decide +kernel
theorem dX2_value_95 : decode cX2_value 95 = .ok (.iconst 0, 1) := by decide +kernel
theorem dX2_value_96 : decode cX2_value 96 = .ok (.ireturn, 1) := by decide +kernel
theorem dX2_value_97 : decode cX2_value 97 = .ok (.aload 4, 2) := by decide +kernel
theorem dX2_value_99 : decode cX2_value 99 = .ok (.iload 5, 2) := by decide +kernel
theorem dX2_value_101 : decode cX2_value 101 = .ok (.iconst 1, 1) := by decide +kernel
theorem dX2_value_102 : decode cX2_value 102 = .ok (.isub, 1) := by decide +kernel
theorem dX2_value_103 : decode cX2_value 103 = .ok (.iload 7, 2) := by decide +kernel
theorem dX2_value_105 : decode cX2_value 105 = .ok (.aload 4, 2) := by decide +kernel
theorem dX2_value_107 : decode cX2_value 107 = .ok (.iload 5, 2) := by decide +kernel
theorem dX2_value_109 : decode cX2_value 109 = .ok (.iconst 1, 1) := by decide +kernel
theorem dX2_value_110 : decode cX2_value 110 = .ok (.isub, 1) := by decide +kernel
theorem dX2_value_111 : decode cX2_value 111 = .ok (.iaload, 1) := by decide +kernel
theorem dX2_value_112 : decode cX2_value 112 = .ok (.invokestatic 26, 3) := by decide +kernel
theorem dX2_value_115 : decode cX2_value 115 = .ok (.iastore, 1) := by decide +kernel
theorem dX2_value_116 : decode cX2_value 116 = .ok (.goto 38, 3) := by decide +kernel
theorem dX2_value_119 : decode cX2_value 119 = .ok (.iload 5, 2) := by decide +kernel
theorem dX2_value_121 : decode cX2_value 121 = .ok (.iconst 2, 1) := by decide +kernel
theorem dX2_value_122 : decode cX2_value 122 = .ok (.if_icmp .ge 5, 3) := by decide +kernel
theorem dX2_value_125 : decode cX2_value 125 = .ok (.iconst 0, 1) := by decide +kernel
theorem dX2_value_126 : decode cX2_value 126 = .ok (.ireturn, 1) := by decide +kernel
theorem dX2_value_127 : decode cX2_value 127 = .ok (.iinc 5 (-1), 3) := by decide +kernel
theorem dX2_value_130 : decode cX2_value 130 = .ok (.aload 4, 2) := by decide +kernel
theorem dX2_value_132 : decode cX2_value 132 = .ok (.iload 5, 2) := by decide +kernel
theorem dX2_value_134 : decode cX2_value 134 = .ok (.iconst 1, 1) := by decide +kernel
theorem dX2_value_135 : decode cX2_value 135 = .ok (.isub, 1) := by decide +kernel
theorem dX2_value_136 : decode cX2_value 136 = .ok (.iload 7, 2) := by decide +kernel
theorem dX2_value_138 : decode cX2_value 138 = .ok (.aload 4, 2) := by decide +kernel
theorem dX2_value_140 : decode cX2_value 140 = .ok (.iload 5, 2) := by decide +kernel
theorem dX2_value_142 : decode cX2_value 142 = .ok (.iconst 1, 1) := by decide +kernel
theorem dX2_value_143 : decode cX2_value 143 = .ok (.isub, 1) := by decide +kernel
theorem dX2_value_144 : decode cX2_value 144 = .ok (.iaload, 1) := by decide +kernel
theorem dX2_value_145 : decode cX2_value 145 = .ok (.aload 4, 2) := by decide +kernel
theorem dX2_value_147 : decode cX2_value 147 = .ok (.iload 5, 2) := by decide +kernel
theorem dX2_value_149 : decode cX2_value 149 = .ok (.iaload, 1) := by decide +kernel
theorem dX2_value_150 : decode cX2_value 150 = .ok (.invokestatic 30, 3) := by decide +kernel
theorem dX2_value_153 : decode cX2_value 153 = .ok (.iastore, 1) := by decide +kernel
theorem dX2_value_154 : decode cX2_value 154 = .ok (.iinc 6 1, 3) := by decide +kernel
theorem dX2_value_157 : decode cX2_value 157 = .ok (.goto (-151), 3) := by decide +kernel
theorem dX2_value_160 : decode cX2_value 160 = .ok (.iload 5, 2) := by decide +kernel
theorem dX2_value_162 : decode cX2_value 162 = .ok (.ifCond .le 13, 3) := by decide +kernel
theorem dX2_value_165 : decode cX2_value 165 = .ok (.aload 4, 2) := by decide +kernel
theorem dX2_value_167 : decode cX2_value 167 = .ok (.iload 5, 2) := by decide +kernel
theorem dX2_value_169 : decode cX2_value 169 = .ok (.iconst 1, 1) := by decide +kernel
theorem dX2_value_170 : decode cX2_value 170 = .ok (.isub, 1) := by decide +kernel
theorem dX2_value_171 : decode cX2_value 171 = .ok (.iaload, 1) := by decide +kernel
theorem dX2_value_172 : decode cX2_value 172 = .ok (.goto 4, 3) := by decide +kernel
theorem dX2_value_175 : decode cX2_value 175 = .ok (.iconst 0, 1) := by decide +kernel
theorem dX2_value_176 : decode cX2_value 176 = .ok (.ireturn, 1) := by decide +kernel
theorem dX2_alone_0 : decode cX2_alone 0 = .ok (.iload_n 0, 1) := by decide +kernel
theorem dX2_alone_1 : decode cX2_alone 1 = .ok (.bipush (-7), 2) := by decide +kernel
theorem dX2_alone_3 : decode cX2_alone 3 = .ok (.if_icmp .ne 6, 3) := by decide +kernel
theorem dX2_alone_6 : decode cX2_alone 6 = .ok (.iload_n 1, 1) := by decide +kernel
theorem dX2_alone_7 : decode cX2_alone 7 = .ok (.ineg, 1) := by decide +kernel
theorem dX2_alone_8 : decode cX2_alone 8 = .ok (.ireturn, 1) := by decide +kernel
theorem dX2_alone_9 : decode cX2_alone 9 = .ok (.iload_n 1, 1) := by decide +kernel
theorem dX2_alone_10 : decode cX2_alone 10 = .ok (.ifCond .ne 7, 3) := by decide +kernel
theorem dX2_alone_13 : decode cX2_alone 13 = .ok (.iconst 1, 1) := by decide +kernel
theorem dX2_alone_14 : decode cX2_alone 14 = .ok (.goto 4, 3) := by decide +kernel
theorem dX2_alone_17 : decode cX2_alone 17 = .ok (.iconst 0, 1) := by decide +kernel
theorem dX2_alone_18 : decode cX2_alone 18 = .ok (.ireturn, 1) := by decide +kernel
theorem dX2_joined_0 : decode cX2_joined 0 = .ok (.iload_n 0, 1) := by decide +kernel
theorem dX2_joined_1 : decode cX2_joined 1 = .ok (.tableswitch 97 (-14) (-9) #[93, 89, 78, 67, 53, 39], 39) := by decide +kernel
theorem dX2_joined_40 : decode cX2_joined 40 = .ok (.iload_n 1, 1) := by decide +kernel
theorem dX2_joined_41 : decode cX2_joined 41 = .ok (.ifCond .ne 7, 3) := by decide +kernel
theorem dX2_joined_44 : decode cX2_joined 44 = .ok (.iload_n 2, 1) := by decide +kernel
theorem dX2_joined_45 : decode cX2_joined 45 = .ok (.ifCond .eq 7, 3) := by decide +kernel
theorem dX2_joined_48 : decode cX2_joined 48 = .ok (.iconst 1, 1) := by decide +kernel
theorem dX2_joined_49 : decode cX2_joined 49 = .ok (.goto 4, 3) := by decide +kernel
theorem dX2_joined_52 : decode cX2_joined 52 = .ok (.iconst 0, 1) := by decide +kernel
theorem dX2_joined_53 : decode cX2_joined 53 = .ok (.ireturn, 1) := by decide +kernel
theorem dX2_joined_54 : decode cX2_joined 54 = .ok (.iload_n 1, 1) := by decide +kernel
theorem dX2_joined_55 : decode cX2_joined 55 = .ok (.ifCond .eq 11, 3) := by decide +kernel
theorem dX2_joined_58 : decode cX2_joined 58 = .ok (.iload_n 2, 1) := by decide +kernel
theorem dX2_joined_59 : decode cX2_joined 59 = .ok (.ifCond .eq 7, 3) := by decide +kernel
theorem dX2_joined_62 : decode cX2_joined 62 = .ok (.iconst 1, 1) := by decide +kernel
theorem dX2_joined_63 : decode cX2_joined 63 = .ok (.goto 4, 3) := by decide +kernel
theorem dX2_joined_66 : decode cX2_joined 66 = .ok (.iconst 0, 1) := by decide +kernel
theorem dX2_joined_67 : decode cX2_joined 67 = .ok (.ireturn, 1) := by decide +kernel
theorem dX2_joined_68 : decode cX2_joined 68 = .ok (.iload_n 1, 1) := by decide +kernel
theorem dX2_joined_69 : decode cX2_joined 69 = .ok (.iload_n 2, 1) := by decide +kernel
theorem dX2_joined_70 : decode cX2_joined 70 = .ok (.if_icmp .ge 7, 3) := by decide +kernel
theorem dX2_joined_73 : decode cX2_joined 73 = .ok (.iconst 1, 1) := by decide +kernel
theorem dX2_joined_74 : decode cX2_joined 74 = .ok (.goto 4, 3) := by decide +kernel
theorem dX2_joined_77 : decode cX2_joined 77 = .ok (.iconst 0, 1) := by decide +kernel
theorem dX2_joined_78 : decode cX2_joined 78 = .ok (.ireturn, 1) := by decide +kernel
theorem dX2_joined_79 : decode cX2_joined 79 = .ok (.iload_n 1, 1) := by decide +kernel
theorem dX2_joined_80 : decode cX2_joined 80 = .ok (.iload_n 2, 1) := by decide +kernel
theorem dX2_joined_81 : decode cX2_joined 81 = .ok (.if_icmp .ne 7, 3) := by decide +kernel
theorem dX2_joined_84 : decode cX2_joined 84 = .ok (.iconst 1, 1) := by decide +kernel
theorem dX2_joined_85 : decode cX2_joined 85 = .ok (.goto 4, 3) := by decide +kernel
theorem dX2_joined_88 : decode cX2_joined 88 = .ok (.iconst 0, 1) := by decide +kernel
theorem dX2_joined_89 : decode cX2_joined 89 = .ok (.ireturn, 1) := by decide +kernel
theorem dX2_joined_90 : decode cX2_joined 90 = .ok (.iload_n 1, 1) := by decide +kernel
theorem dX2_joined_91 : decode cX2_joined 91 = .ok (.iload_n 2, 1) := by decide +kernel
theorem dX2_joined_92 : decode cX2_joined 92 = .ok (.iadd, 1) := by decide +kernel
theorem dX2_joined_93 : decode cX2_joined 93 = .ok (.ireturn, 1) := by decide +kernel
theorem dX2_joined_94 : decode cX2_joined 94 = .ok (.iload_n 1, 1) := by decide +kernel
theorem dX2_joined_95 : decode cX2_joined 95 = .ok (.iload_n 2, 1) := by decide +kernel
theorem dX2_joined_96 : decode cX2_joined 96 = .ok (.isub, 1) := by decide +kernel
theorem dX2_joined_97 : decode cX2_joined 97 = .ok (.ireturn, 1) := by decide +kernel
theorem dX2_joined_98 : decode cX2_joined 98 = .ok (.iload_n 1, 1) := by decide +kernel
theorem dX2_joined_99 : decode cX2_joined 99 = .ok (.iload_n 2, 1) := by decide +kernel
theorem dX2_joined_100 : decode cX2_joined 100 = .ok (.imul, 1) := by decide +kernel
theorem dX2_joined_101 : decode cX2_joined 101 = .ok (.ireturn, 1) := by decide +kernel
theorem dX3_init_0 : decode cX3_init 0 = .ok (.aload_n 0, 1) := by decide +kernel
theorem dX3_init_1 : decode cX3_init 1 = .ok (.iload_n 1, 1) := by decide +kernel
theorem dX3_init_2 : decode cX3_init 2 = .ok (.iload_n 2, 1) := by decide +kernel
theorem dX3_init_3 : decode cX3_init 3 = .ok (.invokespecial 1, 3) := by decide +kernel
theorem dX3_init_6 : decode cX3_init 6 = .ok (.return_, 1) := by decide +kernel
theorem dX3_share_0 : decode cX3_share 0 = .ok (.aload_n 0, 1) := by decide +kernel
theorem dX3_share_1 : decode cX3_share 1 = .ok (.aload_n 1, 1) := by decide +kernel
theorem dX3_share_2 : decode cX3_share 2 = .ok (.iload_n 2, 1) := by decide +kernel
theorem dX3_share_3 : decode cX3_share 3 = .ok (.invokespecial 7, 3) := by decide +kernel
theorem dX3_share_6 : decode cX3_share 6 = .ok (.istore_n 3, 1) := by decide +kernel
theorem dX3_share_7 : decode cX3_share 7 = .ok (.aload_n 1, 1) := by decide +kernel
theorem dX3_share_8 : decode cX3_share 8 = .ok (.getfield 11, 3) := by decide +kernel
theorem dX3_share_11 : decode cX3_share 11 = .ok (.ifCond .le 27, 3) := by decide +kernel
theorem dX3_share_14 : decode cX3_share 14 = .ok (.aload_n 1, 1) := by decide +kernel
theorem dX3_share_15 : decode cX3_share 15 = .ok (.getfield 17, 3) := by decide +kernel
theorem dX3_share_18 : decode cX3_share 18 = .ok (.bipush 7, 2) := by decide +kernel
theorem dX3_share_20 : decode cX3_share 20 = .ok (.aload_n 1, 1) := by decide +kernel
theorem dX3_share_21 : decode cX3_share 21 = .ok (.getfield 20, 3) := by decide +kernel
theorem dX3_share_24 : decode cX3_share 24 = .ok (.imul, 1) := by decide +kernel
theorem dX3_share_25 : decode cX3_share 25 = .ok (.aload_n 0, 1) := by decide +kernel
theorem dX3_share_26 : decode cX3_share 26 = .ok (.getfield 23, 3) := by decide +kernel
theorem dX3_share_29 : decode cX3_share 29 = .ok (.iadd, 1) := by decide +kernel
theorem dX3_share_30 : decode cX3_share 30 = .ok (.aload_n 1, 1) := by decide +kernel
theorem dX3_share_31 : decode cX3_share 31 = .ok (.getfield 11, 3) := by decide +kernel
theorem dX3_share_34 : decode cX3_share 34 = .ok (.irem, 1) := by decide +kernel
theorem dX3_share_35 : decode cX3_share 35 = .ok (.if_icmp .eq 5, 3) := by decide +kernel
theorem dX3_share_38 : decode cX3_share 38 = .ok (.iload_n 3, 1) := by decide +kernel
theorem dX3_share_39 : decode cX3_share 39 = .ok (.ireturn, 1) := by decide +kernel
theorem dX3_share_40 : decode cX3_share 40 = .ok (.iconst 2, 1) := by decide +kernel
theorem dX3_share_41 : decode cX3_share 41 = .ok (.iload_n 3, 1) := by decide +kernel
theorem dX3_share_42 : decode cX3_share 42 = .ok (.imul, 1) := by decide +kernel
theorem dX3_share_43 : decode cX3_share 43 = .ok (.ireturn, 1) := by decide +kernel
theorem dX4_init_0 : decode cX4_init 0 = .ok (.aload_n 0, 1) := by decide +kernel
theorem dX4_init_1 : decode cX4_init 1 = .ok (.iload_n 1, 1) := by decide +kernel
theorem dX4_init_2 : decode cX4_init 2 = .ok (.iload_n 2, 1) := by decide +kernel
theorem dX4_init_3 : decode cX4_init 3 = .ok (.invokespecial 1, 3) := by decide +kernel
theorem dX4_init_6 : decode cX4_init 6 = .ok (.return_, 1) := by decide +kernel
theorem dX4_share_0 : decode cX4_share 0 = .ok (.aload_n 1, 1) := by decide +kernel
theorem dX4_share_1 : decode cX4_share 1 = .ok (.getfield 7, 3) := by decide +kernel
theorem dX4_share_4 : decode cX4_share 4 = .ok (.aload_n 1, 1) := by decide +kernel
theorem dX4_share_5 : decode cX4_share 5 = .ok (.getfield 13, 3) := by decide +kernel
theorem dX4_share_8 : decode cX4_share 8 = .ok (.aaload, 1) := by decide +kernel
theorem dX4_share_9 : decode cX4_share 9 = .ok (.iload_n 2, 1) := by decide +kernel
theorem dX4_share_10 : decode cX4_share 10 = .ok (.iaload, 1) := by decide +kernel
theorem dX4_share_11 : decode cX4_share 11 = .ok (.aload_n 0, 1) := by decide +kernel
theorem dX4_share_12 : decode cX4_share 12 = .ok (.getfield 17, 3) := by decide +kernel
theorem dX4_share_15 : decode cX4_share 15 = .ok (.if_icmp .ge 7, 3) := by decide +kernel
theorem dX4_share_18 : decode cX4_share 18 = .ok (.iconst 2, 1) := by decide +kernel
theorem dX4_share_19 : decode cX4_share 19 = .ok (.goto 4, 3) := by decide +kernel
theorem dX4_share_22 : decode cX4_share 22 = .ok (.iconst (-1), 1) := by decide +kernel
theorem dX4_share_23 : decode cX4_share 23 = .ok (.istore_n 3, 1) := by decide +kernel
theorem dX4_share_24 : decode cX4_share 24 = .ok (.iconst 0, 1) := by decide +kernel
theorem dX4_share_25 : decode cX4_share 25 = .ok (.aload_n 0, 1) := by decide +kernel
theorem dX4_share_26 : decode cX4_share 26 = .ok (.aload_n 1, 1) := by decide +kernel
theorem dX4_share_27 : decode cX4_share 27 = .ok (.iload_n 2, 1) := by decide +kernel
theorem dX4_share_28 : decode cX4_share 28 = .ok (.invokespecial 22, 3) := by decide +kernel
theorem dX4_share_31 : decode cX4_share 31 = .ok (.iload_n 3, 1) := by decide +kernel
theorem dX4_share_32 : decode cX4_share 32 = .ok (.iadd, 1) := by decide +kernel
theorem dX4_share_33 : decode cX4_share 33 = .ok (.invokestatic 26, 3) := by decide +kernel
theorem dX4_share_36 : decode cX4_share 36 = .ok (.ireturn, 1) := by decide +kernel
theorem dX5_init_0 : decode cX5_init 0 = .ok (.aload_n 0, 1) := by decide +kernel
theorem dX5_init_1 : decode cX5_init 1 = .ok (.iload_n 1, 1) := by decide +kernel
theorem dX5_init_2 : decode cX5_init 2 = .ok (.iload_n 2, 1) := by decide +kernel
theorem dX5_init_3 : decode cX5_init 3 = .ok (.invokespecial 1, 3) := by decide +kernel
theorem dX5_init_6 : decode cX5_init 6 = .ok (.return_, 1) := by decide +kernel
theorem dX5_share_0 : decode cX5_share 0 = .ok (.aload_n 1, 1) := by decide +kernel
theorem dX5_share_1 : decode cX5_share 1 = .ok (.getfield 7, 3) := by decide +kernel
theorem dX5_share_4 : decode cX5_share 4 = .ok (.getfield 13, 3) := by decide +kernel
theorem dX5_share_7 : decode cX5_share 7 = .ok (.iload_n 2, 1) := by decide +kernel
theorem dX5_share_8 : decode cX5_share 8 = .ok (.iaload, 1) := by decide +kernel
theorem dX5_share_9 : decode cX5_share 9 = .ok (.ifCond .le 7, 3) := by decide +kernel
theorem dX5_share_12 : decode cX5_share 12 = .ok (.iconst 1, 1) := by decide +kernel
theorem dX5_share_13 : decode cX5_share 13 = .ok (.goto 4, 3) := by decide +kernel
theorem dX5_share_16 : decode cX5_share 16 = .ok (.iconst (-1), 1) := by decide +kernel
theorem dX5_share_17 : decode cX5_share 17 = .ok (.istore_n 3, 1) := by decide +kernel
theorem dX5_share_18 : decode cX5_share 18 = .ok (.iconst 0, 1) := by decide +kernel
theorem dX5_share_19 : decode cX5_share 19 = .ok (.aload_n 0, 1) := by decide +kernel
theorem dX5_share_20 : decode cX5_share 20 = .ok (.aload_n 1, 1) := by decide +kernel
theorem dX5_share_21 : decode cX5_share 21 = .ok (.iload_n 2, 1) := by decide +kernel
theorem dX5_share_22 : decode cX5_share 22 = .ok (.invokespecial 19, 3) := by decide +kernel
theorem dX5_share_25 : decode cX5_share 25 = .ok (.iload_n 3, 1) := by decide +kernel
theorem dX5_share_26 : decode cX5_share 26 = .ok (.iadd, 1) := by decide +kernel
theorem dX5_share_27 : decode cX5_share 27 = .ok (.invokestatic 23, 3) := by decide +kernel
theorem dX5_share_30 : decode cX5_share 30 = .ok (.ireturn, 1) := by decide +kernel
theorem dX6_init_0 : decode cX6_init 0 = .ok (.aload_n 0, 1) := by decide +kernel
theorem dX6_init_1 : decode cX6_init 1 = .ok (.invokespecial 1, 3) := by decide +kernel
theorem dX6_init_4 : decode cX6_init 4 = .ok (.aload_n 0, 1) := by decide +kernel
theorem dX6_init_5 : decode cX6_init 5 = .ok (.iload_n 1, 1) := by decide +kernel
theorem dX6_init_6 : decode cX6_init 6 = .ok (.putfield 7, 3) := by decide +kernel
theorem dX6_init_9 : decode cX6_init 9 = .ok (.aload_n 0, 1) := by decide +kernel
theorem dX6_init_10 : decode cX6_init 10 = .ok (.iload_n 2, 1) := by decide +kernel
theorem dX6_init_11 : decode cX6_init 11 = .ok (.putfield 13, 3) := by decide +kernel
theorem dX6_init_14 : decode cX6_init 14 = .ok (.return_, 1) := by decide +kernel
theorem dX6_share_0 : decode cX6_share 0 = .ok (.aload_n 1, 1) := by decide +kernel
theorem dX6_share_1 : decode cX6_share 1 = .ok (.getfield 16, 3) := by decide +kernel
theorem dX6_share_4 : decode cX6_share 4 = .ok (.ifCond .le 15, 3) := by decide +kernel
theorem dX6_share_7 : decode cX6_share 7 = .ok (.aload_n 1, 1) := by decide +kernel
theorem dX6_share_8 : decode cX6_share 8 = .ok (.getfield 21, 3) := by decide +kernel
theorem dX6_share_11 : decode cX6_share 11 = .ok (.aload_n 1, 1) := by decide +kernel
theorem dX6_share_12 : decode cX6_share 12 = .ok (.getfield 16, 3) := by decide +kernel
theorem dX6_share_15 : decode cX6_share 15 = .ok (.idiv, 1) := by decide +kernel
theorem dX6_share_16 : decode cX6_share 16 = .ok (.goto 4, 3) := by decide +kernel
theorem dX6_share_19 : decode cX6_share 19 = .ok (.iconst 0, 1) := by decide +kernel
theorem dX6_share_20 : decode cX6_share 20 = .ok (.ireturn, 1) := by decide +kernel
theorem dX6_toldFor_0 : decode cX6_toldFor 0 = .ok (.iconst 0, 1) := by decide +kernel
theorem dX6_toldFor_1 : decode cX6_toldFor 1 = .ok (.ireturn, 1) := by decide +kernel
theorem dX7_init_0 : decode cX7_init 0 = .ok (.aload_n 0, 1) := by decide +kernel
theorem dX7_init_1 : decode cX7_init 1 = .ok (.invokespecial 3, 3) := by decide +kernel
theorem dX7_init_4 : decode cX7_init 4 = .ok (.aload_n 0, 1) := by decide +kernel
theorem dX7_init_5 : decode cX7_init 5 = .ok (.iconst (-1), 1) := by decide +kernel
theorem dX7_init_6 : decode cX7_init 6 = .ok (.putfield 9, 3) := by decide +kernel
theorem dX7_init_9 : decode cX7_init 9 = .ok (.aload_n 0, 1) := by decide +kernel
theorem dX7_init_10 : decode cX7_init 10 = .ok (.bipush 40, 2) := by decide +kernel
theorem dX7_init_12 : decode cX7_init 12 = .ok (.newarray .int, 2) := by decide +kernel
theorem dX7_init_14 : decode cX7_init 14 = .ok (.putfield 15, 3) := by decide +kernel
theorem dX7_init_17 : decode cX7_init 17 = .ok (.return_, 1) := by decide +kernel
theorem dX7_isMissing_0 : decode cX7_isMissing 0 = .ok (.aload_n 0, 1) := by decide +kernel
theorem dX7_isMissing_1 : decode cX7_isMissing 1 = .ok (.getfield 9, 3) := by decide +kernel
theorem dX7_isMissing_4 : decode cX7_isMissing 4 = .ok (.ifCond .ge 7, 3) := by decide +kernel
theorem dX7_isMissing_7 : decode cX7_isMissing 7 = .ok (.iconst 1, 1) := by decide +kernel
theorem dX7_isMissing_8 : decode cX7_isMissing 8 = .ok (.goto 4, 3) := by decide +kernel
theorem dX7_isMissing_11 : decode cX7_isMissing 11 = .ok (.iconst 0, 1) := by decide +kernel
theorem dX7_isMissing_12 : decode cX7_isMissing 12 = .ok (.ireturn, 1) := by decide +kernel
theorem dX7_become_0 : decode cX7_become 0 = .ok (.aload_n 0, 1) := by decide +kernel
theorem dX7_become_1 : decode cX7_become 1 = .ok (.iload_n 1, 1) := by decide +kernel
theorem dX7_become_2 : decode cX7_become 2 = .ok (.putfield 9, 3) := by decide +kernel
theorem dX7_become_5 : decode cX7_become 5 = .ok (.aload_n 0, 1) := by decide +kernel
theorem dX7_become_6 : decode cX7_become 6 = .ok (.iload_n 2, 1) := by decide +kernel
theorem dX7_become_7 : decode cX7_become 7 = .ok (.putfield 19, 3) := by decide +kernel
theorem dX7_become_10 : decode cX7_become 10 = .ok (.aload_n 0, 1) := by decide +kernel
theorem dX7_become_11 : decode cX7_become 11 = .ok (.getfield 15, 3) := by decide +kernel
theorem dX7_become_14 : decode cX7_become 14 = .ok (.iconst 0, 1) := by decide +kernel
theorem dX7_become_15 : decode cX7_become 15 = .ok (.invokestatic 22, 3) := by decide +kernel
theorem dX7_become_18 : decode cX7_become 18 = .ok (.return_, 1) := by decide +kernel
theorem dX7_hasRoom_0 : decode cX7_hasRoom 0 = .ok (.iload_n 2, 1) := by decide +kernel
theorem dX7_hasRoom_1 : decode cX7_hasRoom 1 = .ok (.ifCond .lt 29, 3) := by decide +kernel
theorem dX7_hasRoom_4 : decode cX7_hasRoom 4 = .ok (.iload_n 2, 1) := by decide +kernel
theorem dX7_hasRoom_5 : decode cX7_hasRoom 5 = .ok (.aload_n 0, 1) := by decide +kernel
theorem dX7_hasRoom_6 : decode cX7_hasRoom 6 = .ok (.getfield 19, 3) := by decide +kernel
theorem dX7_hasRoom_9 : decode cX7_hasRoom 9 = .ok (.if_icmp .gt 21, 3) := by decide +kernel
theorem dX7_hasRoom_12 : decode cX7_hasRoom 12 = .ok (.iload_n 1, 1) := by decide +kernel
theorem dX7_hasRoom_13 : decode cX7_hasRoom 13 = .ok (.ifCond .lt 17, 3) := by decide +kernel
theorem dX7_hasRoom_16 : decode cX7_hasRoom 16 = .ok (.iload_n 1, 1) := by decide +kernel
theorem dX7_hasRoom_17 : decode cX7_hasRoom 17 = .ok (.aload_n 0, 1) := by decide +kernel
theorem dX7_hasRoom_18 : decode cX7_hasRoom 18 = .ok (.getfield 19, 3) := by decide +kernel
theorem dX7_hasRoom_21 : decode cX7_hasRoom 21 = .ok (.iload_n 2, 1) := by decide +kernel
theorem dX7_hasRoom_22 : decode cX7_hasRoom 22 = .ok (.isub, 1) := by decide +kernel
theorem dX7_hasRoom_23 : decode cX7_hasRoom 23 = .ok (.if_icmp .gt 7, 3) := by decide +kernel
theorem dX7_hasRoom_26 : decode cX7_hasRoom 26 = .ok (.iconst 1, 1) := by decide +kernel
theorem dX7_hasRoom_27 : decode cX7_hasRoom 27 = .ok (.goto 4, 3) := by decide +kernel
theorem dX7_hasRoom_30 : decode cX7_hasRoom 30 = .ok (.iconst 0, 1) := by decide +kernel
theorem dX7_hasRoom_31 : decode cX7_hasRoom 31 = .ok (.ireturn, 1) := by decide +kernel
theorem dX7_holdsOnly_0 : decode cX7_holdsOnly 0 = .ok (.iconst 0, 1) := by decide +kernel
theorem dX7_holdsOnly_1 : decode cX7_holdsOnly 1 = .ok (.istore_n 3, 1) := by decide +kernel
theorem dX7_holdsOnly_2 : decode cX7_holdsOnly 2 = .ok (.iload_n 3, 1) := by decide +kernel
theorem dX7_holdsOnly_3 : decode cX7_holdsOnly 3 = .ok (.aload_n 0, 1) := by decide +kernel
theorem dX7_holdsOnly_4 : decode cX7_holdsOnly 4 = .ok (.getfield 19, 3) := by decide +kernel
theorem dX7_holdsOnly_7 : decode cX7_holdsOnly 7 = .ok (.if_icmp .ge 31, 3) := by decide +kernel
theorem dX7_holdsOnly_10 : decode cX7_holdsOnly 10 = .ok (.aload_n 0, 1) := by decide +kernel
theorem dX7_holdsOnly_11 : decode cX7_holdsOnly 11 = .ok (.getfield 15, 3) := by decide +kernel
theorem dX7_holdsOnly_14 : decode cX7_holdsOnly 14 = .ok (.iload_n 3, 1) := by decide +kernel
theorem dX7_holdsOnly_15 : decode cX7_holdsOnly 15 = .ok (.iaload, 1) := by decide +kernel
theorem dX7_holdsOnly_16 : decode cX7_holdsOnly 16 = .ok (.iload_n 1, 1) := by decide +kernel
theorem dX7_holdsOnly_17 : decode cX7_holdsOnly 17 = .ok (.if_icmp .lt 13, 3) := by decide +kernel
theorem dX7_holdsOnly_20 : decode cX7_holdsOnly 20 = .ok (.aload_n 0, 1) := by decide +kernel
theorem dX7_holdsOnly_21 : decode cX7_holdsOnly 21 = .ok (.getfield 15, 3) := by decide +kernel
theorem dX7_holdsOnly_24 : decode cX7_holdsOnly 24 = .ok (.iload_n 3, 1) := by decide +kernel
theorem dX7_holdsOnly_25 : decode cX7_holdsOnly 25 = .ok (.iaload, 1) := by decide +kernel
theorem dX7_holdsOnly_26 : decode cX7_holdsOnly 26 = .ok (.iload_n 2, 1) := by decide +kernel
theorem dX7_holdsOnly_27 : decode cX7_holdsOnly 27 = .ok (.if_icmp .le 5, 3) := by decide +kernel
theorem dX7_holdsOnly_30 : decode cX7_holdsOnly 30 = .ok (.iconst 0, 1) := by decide +kernel
theorem dX7_holdsOnly_31 : decode cX7_holdsOnly 31 = .ok (.ireturn, 1) := by decide +kernel
theorem dX7_holdsOnly_32 : decode cX7_holdsOnly 32 = .ok (.iinc 3 1, 3) := by decide +kernel
theorem dX7_holdsOnly_35 : decode cX7_holdsOnly 35 = .ok (.goto (-33), 3) := by decide +kernel
theorem dX7_holdsOnly_38 : decode cX7_holdsOnly 38 = .ok (.iconst 1, 1) := by decide +kernel
theorem dX7_holdsOnly_39 : decode cX7_holdsOnly 39 = .ok (.ireturn, 1) := by decide +kernel
theorem dX7_cut_0 : decode cX7_cut 0 = .ok (.aload_n 0, 1) := by decide +kernel
theorem dX7_cut_1 : decode cX7_cut 1 = .ok (.getfield 9, 3) := by decide +kernel
theorem dX7_cut_4 : decode cX7_cut 4 = .ok (.ifCond .ne 6, 3) := by decide +kernel
theorem dX7_cut_7 : decode cX7_cut 7 = .ok (.iload_n 1, 1) := by decide +kernel
theorem dX7_cut_8 : decode cX7_cut 8 = .ok (.i2b, 1) := by decide +kernel
theorem dX7_cut_9 : decode cX7_cut 9 = .ok (.ireturn, 1) := by decide +kernel
theorem dX7_cut_10 : decode cX7_cut 10 = .ok (.aload_n 0, 1) := by decide +kernel
theorem dX7_cut_11 : decode cX7_cut 11 = .ok (.getfield 9, 3) := by decide +kernel
theorem dX7_cut_14 : decode cX7_cut 14 = .ok (.iconst 1, 1) := by decide +kernel
theorem dX7_cut_15 : decode cX7_cut 15 = .ok (.if_icmp .ne 8, 3) := by decide +kernel
theorem dX7_cut_18 : decode cX7_cut 18 = .ok (.iload_n 1, 1) := by decide +kernel
theorem dX7_cut_19 : decode cX7_cut 19 = .ok (.i2s, 1) := by decide +kernel
theorem dX7_cut_20 : decode cX7_cut 20 = .ok (.goto 4, 3) := by decide +kernel
theorem dX7_cut_23 : decode cX7_cut 23 = .ok (.iload_n 1, 1) := by decide +kernel
theorem dX7_cut_24 : decode cX7_cut 24 = .ok (.ireturn, 1) := by decide +kernel
theorem dX8_init_0 : decode cX8_init 0 = .ok (.aload_n 0, 1) := by decide +kernel
theorem dX8_init_1 : decode cX8_init 1 = .ok (.invokespecial 3, 3) := by decide +kernel
theorem dX8_init_4 : decode cX8_init 4 = .ok (.aload_n 0, 1) := by decide +kernel
theorem dX8_init_5 : decode cX8_init 5 = .ok (.sipush 160, 3) := by decide +kernel
theorem dX8_init_8 : decode cX8_init 8 = .ok (.newarray .byte, 2) := by decide +kernel
theorem dX8_init_10 : decode cX8_init 10 = .ok (.putfield 9, 3) := by decide +kernel
theorem dX8_init_13 : decode cX8_init 13 = .ok (.aload_n 0, 1) := by decide +kernel
theorem dX8_init_14 : decode cX8_init 14 = .ok (.sipush 160, 3) := by decide +kernel
theorem dX8_init_17 : decode cX8_init 17 = .ok (.newarray .int, 2) := by decide +kernel
theorem dX8_init_19 : decode cX8_init 19 = .ok (.putfield 15, 3) := by decide +kernel
theorem dX8_init_22 : decode cX8_init 22 = .ok (.return_, 1) := by decide +kernel
theorem dX8_append_0 : decode cX8_append 0 = .ok (.iload_n 3, 1) := by decide +kernel
theorem dX8_append_1 : decode cX8_append 1 = .ok (.iconst 1, 1) := by decide +kernel
theorem dX8_append_2 : decode cX8_append 2 = .ok (.isub, 1) := by decide +kernel
theorem dX8_append_3 : decode cX8_append 3 = .ok (.istore 4, 2) := by decide +kernel
theorem dX8_append_5 : decode cX8_append 5 = .ok (.iload 4, 2) := by decide +kernel
theorem dX8_append_7 : decode cX8_append 7 = .ok (.ifCond .lt 47, 3) := by decide +kernel
theorem dX8_append_10 : decode cX8_append 10 = .ok (.aload_n 0, 1) := by decide +kernel
theorem dX8_append_11 : decode cX8_append 11 = .ok (.getfield 19, 3) := by decide +kernel
theorem dX8_append_14 : decode cX8_append 14 = .ok (.sipush 160, 3) := by decide +kernel
theorem dX8_append_17 : decode cX8_append 17 = .ok (.if_icmp .ge 37, 3) := by decide +kernel
theorem dX8_append_20 : decode cX8_append 20 = .ok (.aload_n 0, 1) := by decide +kernel
theorem dX8_append_21 : decode cX8_append 21 = .ok (.getfield 9, 3) := by decide +kernel
theorem dX8_append_24 : decode cX8_append 24 = .ok (.aload_n 0, 1) := by decide +kernel
theorem dX8_append_25 : decode cX8_append 25 = .ok (.getfield 19, 3) := by decide +kernel
theorem dX8_append_28 : decode cX8_append 28 = .ok (.lload_n 1, 1) := by decide +kernel
theorem dX8_append_29 : decode cX8_append 29 = .ok (.bipush 8, 2) := by decide +kernel
theorem dX8_append_31 : decode cX8_append 31 = .ok (.iload 4, 2) := by decide +kernel
theorem dX8_append_33 : decode cX8_append 33 = .ok (.imul, 1) := by decide +kernel
theorem dX8_append_34 : decode cX8_append 34 = .ok (.lshr, 1) := by decide +kernel
theorem dX8_append_35 : decode cX8_append 35 = .ok (.l2i, 1) := by decide +kernel
theorem dX8_append_36 : decode cX8_append 36 = .ok (.i2b, 1) := by decide +kernel
theorem dX8_append_37 : decode cX8_append 37 = .ok (.bastore, 1) := by decide +kernel
theorem dX8_append_38 : decode cX8_append 38 = .ok (.aload_n 0, 1) := by decide +kernel
theorem dX8_append_39 : decode cX8_append 39 = .ok (.dup, 1) := by decide +kernel
theorem dX8_append_40 : decode cX8_append 40 = .ok (.getfield 19, 3) := by decide +kernel
theorem dX8_append_43 : decode cX8_append 43 = .ok (.iconst 1, 1) := by decide +kernel
theorem dX8_append_44 : decode cX8_append 44 = .ok (.iadd, 1) := by decide +kernel
theorem dX8_append_45 : decode cX8_append 45 = .ok (.putfield 19, 3) := by decide +kernel
theorem dX8_append_48 : decode cX8_append 48 = .ok (.iinc 4 (-1), 3) := by decide +kernel
theorem dX8_append_51 : decode cX8_append 51 = .ok (.goto (-46), 3) := by decide +kernel
theorem dX8_append_54 : decode cX8_append 54 = .ok (.return_, 1) := by decide +kernel
theorem dX8_readWhole_0 : decode cX8_readWhole 0 = .ok (.aload_n 0, 1) := by decide +kernel
theorem dX8_readWhole_1 : decode cX8_readWhole 1 = .ok (.iconst 0, 1) := by decide +kernel
theorem dX8_readWhole_2 : decode cX8_readWhole 2 = .ok (.putfield 23, 3) := by decide +kernel
theorem dX8_readWhole_5 : decode cX8_readWhole 5 = .ok (.aload_n 0, 1) := by decide +kernel
theorem dX8_readWhole_6 : decode cX8_readWhole 6 = .ok (.iconst 0, 1) := by decide +kernel
theorem dX8_readWhole_7 : decode cX8_readWhole 7 = .ok (.putfield 26, 3) := by decide +kernel
theorem dX8_readWhole_10 : decode cX8_readWhole 10 = .ok (.aload_n 0, 1) := by decide +kernel
theorem dX8_readWhole_11 : decode cX8_readWhole 11 = .ok (.iconst 0, 1) := by decide +kernel
theorem dX8_readWhole_12 : decode cX8_readWhole 12 = .ok (.putfield 29, 3) := by decide +kernel
theorem dX8_readWhole_15 : decode cX8_readWhole 15 = .ok (.aload_n 0, 1) := by decide +kernel
theorem dX8_readWhole_16 : decode cX8_readWhole 16 = .ok (.invokevirtual 32, 3) := by decide +kernel
theorem dX8_readWhole_19 : decode cX8_readWhole 19 = .ok (.aload_n 0, 1) := by decide +kernel
theorem dX8_readWhole_20 : decode cX8_readWhole 20 = .ok (.bipush (-16), 2) := by decide +kernel
theorem dX8_readWhole_22 : decode cX8_readWhole 22 = .ok (.invokevirtual 35, 3) := by decide +kernel
theorem dX8_readWhole_25 : decode cX8_readWhole 25 = .ok (.ifCond .eq 21, 3) := by decide +kernel
theorem dX8_readWhole_28 : decode cX8_readWhole 28 = .ok (.aload_n 0, 1) := by decide +kernel
theorem dX8_readWhole_29 : decode cX8_readWhole 29 = .ok (.iconst 0, 1) := by decide +kernel
theorem dX8_readWhole_30 : decode cX8_readWhole 30 = .ok (.iconst 0, 1) := by decide +kernel
theorem dX8_readWhole_31 : decode cX8_readWhole 31 = .ok (.invokevirtual 39, 3) := by decide +kernel
theorem dX8_readWhole_34 : decode cX8_readWhole 34 = .ok (.ifCond .eq 12, 3) := by decide +kernel
theorem dX8_readWhole_37 : decode cX8_readWhole 37 = .ok (.aload_n 0, 1) := by decide +kernel
theorem dX8_readWhole_38 : decode cX8_readWhole 38 = .ok (.bipush (-20), 2) := by decide +kernel
theorem dX8_readWhole_40 : decode cX8_readWhole 40 = .ok (.invokevirtual 35, 3) := by decide +kernel
theorem dX8_readWhole_43 : decode cX8_readWhole 43 = .ok (.ifCond .ne 5, 3) := by decide +kernel
theorem dX8_readWhole_46 : decode cX8_readWhole 46 = .ok (.iconst 0, 1) := by decide +kernel
theorem dX8_readWhole_47 : decode cX8_readWhole 47 = .ok (.ireturn, 1) := by decide +kernel
theorem dX8_readWhole_48 : decode cX8_readWhole 48 = .ok (.aload_n 0, 1) := by decide +kernel
theorem dX8_readWhole_49 : decode cX8_readWhole 49 = .ok (.aload_n 0, 1) := by decide +kernel
theorem dX8_readWhole_50 : decode cX8_readWhole 50 = .ok (.getfield 23, 3) := by decide +kernel
theorem dX8_readWhole_53 : decode cX8_readWhole 53 = .ok (.putfield 26, 3) := by decide +kernel
theorem dX8_readWhole_56 : decode cX8_readWhole 56 = .ok (.aload_n 0, 1) := by decide +kernel
theorem dX8_readWhole_57 : decode cX8_readWhole 57 = .ok (.bipush (-17), 2) := by decide +kernel
theorem dX8_readWhole_59 : decode cX8_readWhole 59 = .ok (.invokevirtual 35, 3) := by decide +kernel
theorem dX8_readWhole_62 : decode cX8_readWhole 62 = .ok (.ifCond .eq 34, 3) := by decide +kernel
theorem dX8_readWhole_65 : decode cX8_readWhole 65 = .ok (.aload_n 0, 1) := by decide +kernel
theorem dX8_readWhole_66 : decode cX8_readWhole 66 = .ok (.iconst 0, 1) := by decide +kernel
theorem dX8_readWhole_67 : decode cX8_readWhole 67 = .ok (.iconst 0, 1) := by decide +kernel
theorem dX8_readWhole_68 : decode cX8_readWhole 68 = .ok (.invokevirtual 39, 3) := by decide +kernel
theorem dX8_readWhole_71 : decode cX8_readWhole 71 = .ok (.ifCond .eq 25, 3) := by decide +kernel
theorem dX8_readWhole_74 : decode cX8_readWhole 74 = .ok (.aload_n 0, 1) := by decide +kernel
theorem dX8_readWhole_75 : decode cX8_readWhole 75 = .ok (.bipush (-20), 2) := by decide +kernel
theorem dX8_readWhole_77 : decode cX8_readWhole 77 = .ok (.invokevirtual 35, 3) := by decide +kernel
theorem dX8_readWhole_80 : decode cX8_readWhole 80 = .ok (.ifCond .eq 16, 3) := by decide +kernel
theorem dX8_readWhole_83 : decode cX8_readWhole 83 = .ok (.aload_n 0, 1) := by decide +kernel
theorem dX8_readWhole_84 : decode cX8_readWhole 84 = .ok (.getfield 43, 3) := by decide +kernel
theorem dX8_readWhole_87 : decode cX8_readWhole 87 = .ok (.bipush (-21), 2) := by decide +kernel
theorem dX8_readWhole_89 : decode cX8_readWhole 89 = .ok (.if_icmp .ne 7, 3) := by decide +kernel
theorem dX8_readWhole_92 : decode cX8_readWhole 92 = .ok (.iconst 1, 1) := by decide +kernel
theorem dX8_readWhole_93 : decode cX8_readWhole 93 = .ok (.goto 4, 3) := by decide +kernel
theorem dX8_readWhole_96 : decode cX8_readWhole 96 = .ok (.iconst 0, 1) := by decide +kernel
theorem dX8_readWhole_97 : decode cX8_readWhole 97 = .ok (.ireturn, 1) := by decide +kernel
theorem dX8_skip_0 : decode cX8_skip 0 = .ok (.aload_n 0, 1) := by decide +kernel
theorem dX8_skip_1 : decode cX8_skip 1 = .ok (.getfield 43, 3) := by decide +kernel
theorem dX8_skip_4 : decode cX8_skip 4 = .ok (.iload_n 1, 1) := by decide +kernel
theorem dX8_skip_5 : decode cX8_skip 5 = .ok (.if_icmp .eq 5, 3) := by decide +kernel
theorem dX8_skip_8 : decode cX8_skip 8 = .ok (.iconst 0, 1) := by decide +kernel
theorem dX8_skip_9 : decode cX8_skip 9 = .ok (.ireturn, 1) := by decide +kernel
theorem dX8_skip_10 : decode cX8_skip 10 = .ok (.aload_n 0, 1) := by decide +kernel
theorem dX8_skip_11 : decode cX8_skip 11 = .ok (.invokevirtual 32, 3) := by decide +kernel
theorem dX8_skip_14 : decode cX8_skip 14 = .ok (.iconst 1, 1) := by decide +kernel
theorem dX8_skip_15 : decode cX8_skip 15 = .ok (.ireturn, 1) := by decide +kernel
theorem dX8_level_0 : decode cX8_level 0 = .ok (.iload_n 1, 1) := by decide +kernel
theorem dX8_level_1 : decode cX8_level 1 = .ok (.iconst 4, 1) := by decide +kernel
theorem dX8_level_2 : decode cX8_level 2 = .ok (.if_icmp .le 9, 3) := by decide +kernel
theorem dX8_level_5 : decode cX8_level 5 = .ok (.aload_n 0, 1) := by decide +kernel
theorem dX8_level_6 : decode cX8_level 6 = .ok (.iload_n 2, 1) := by decide +kernel
theorem dX8_level_7 : decode cX8_level 7 = .ok (.invokevirtual 46, 3) := by decide +kernel
theorem dX8_level_10 : decode cX8_level 10 = .ok (.ireturn, 1) := by decide +kernel
theorem dX8_level_11 : decode cX8_level 11 = .ok (.iload_n 1, 1) := by decide +kernel
theorem dX8_level_12 : decode cX8_level 12 = .ok (.iconst 2, 1) := by decide +kernel
theorem dX8_level_13 : decode cX8_level 13 = .ok (.if_icmp .ne 52, 3) := by decide +kernel
theorem dX8_level_16 : decode cX8_level 16 = .ok (.aload_n 0, 1) := by decide +kernel
theorem dX8_level_17 : decode cX8_level 17 = .ok (.getfield 43, 3) := by decide +kernel
theorem dX8_level_20 : decode cX8_level 20 = .ok (.bipush (-8), 2) := by decide +kernel
theorem dX8_level_22 : decode cX8_level 22 = .ok (.if_icmp .ne 43, 3) := by decide +kernel
theorem dX8_level_25 : decode cX8_level 25 = .ok (.iload_n 2, 1) := by decide +kernel
theorem dX8_level_26 : decode cX8_level 26 = .ok (.iconst 5, 1) := by decide +kernel
theorem dX8_level_27 : decode cX8_level 27 = .ok (.if_icmp .ge 36, 3) := by decide +kernel
theorem dX8_level_30 : decode cX8_level 30 = .ok (.aload_n 0, 1) := by decide +kernel
theorem dX8_level_31 : decode cX8_level 31 = .ok (.bipush (-8), 2) := by decide +kernel
theorem dX8_level_33 : decode cX8_level 33 = .ok (.invokevirtual 35, 3) := by decide +kernel
theorem dX8_level_36 : decode cX8_level 36 = .ok (.ifCond .eq 27, 3) := by decide +kernel
theorem dX8_level_39 : decode cX8_level 39 = .ok (.aload_n 0, 1) := by decide +kernel
theorem dX8_level_40 : decode cX8_level 40 = .ok (.iconst 2, 1) := by decide +kernel
theorem dX8_level_41 : decode cX8_level 41 = .ok (.iload_n 2, 1) := by decide +kernel
theorem dX8_level_42 : decode cX8_level 42 = .ok (.iconst 1, 1) := by decide +kernel
theorem dX8_level_43 : decode cX8_level 43 = .ok (.iadd, 1) := by decide +kernel
theorem dX8_level_44 : decode cX8_level 44 = .ok (.invokevirtual 39, 3) := by decide +kernel
theorem dX8_level_47 : decode cX8_level 47 = .ok (.ifCond .eq 16, 3) := by decide +kernel
theorem dX8_level_50 : decode cX8_level 50 = .ok (.aload_n 0, 1) := by decide +kernel
theorem dX8_level_51 : decode cX8_level 51 = .ok (.bipush (-8), 2) := by decide +kernel
theorem dX8_level_53 : decode cX8_level 53 = .ok (.invokevirtual 49, 3) := by decide +kernel
theorem dX8_level_56 : decode cX8_level 56 = .ok (.ifCond .eq 7, 3) := by decide +kernel
theorem dX8_level_59 : decode cX8_level 59 = .ok (.iconst 1, 1) := by decide +kernel
theorem dX8_level_60 : decode cX8_level 60 = .ok (.goto 4, 3) := by decide +kernel
theorem dX8_level_63 : decode cX8_level 63 = .ok (.iconst 0, 1) := by decide +kernel
theorem dX8_level_64 : decode cX8_level 64 = .ok (.ireturn, 1) := by decide +kernel
theorem dX8_level_65 : decode cX8_level 65 = .ok (.aload_n 0, 1) := by decide +kernel
theorem dX8_level_66 : decode cX8_level 66 = .ok (.iload_n 1, 1) := by decide +kernel
theorem dX8_level_67 : decode cX8_level 67 = .ok (.iconst 1, 1) := by decide +kernel
theorem dX8_level_68 : decode cX8_level 68 = .ok (.iadd, 1) := by decide +kernel
theorem dX8_level_69 : decode cX8_level 69 = .ok (.iload_n 2, 1) := by decide +kernel
theorem dX8_level_70 : decode cX8_level 70 = .ok (.invokevirtual 39, 3) := by decide +kernel
theorem dX8_level_73 : decode cX8_level 73 = .ok (.ifCond .ne 5, 3) := by decide +kernel
theorem dX8_level_76 : decode cX8_level 76 = .ok (.iconst 0, 1) := by decide +kernel
theorem dX8_level_77 : decode cX8_level 77 = .ok (.ireturn, 1) := by decide +kernel
theorem dX8_level_78 : decode cX8_level 78 = .ok (.iload_n 1, 1) := by decide +kernel
theorem dX8_level_79 : decode cX8_level 79 = .ok (.iconst 2, 1) := by decide +kernel
theorem dX8_level_80 : decode cX8_level 80 = .ok (.if_icmp .ne 7, 3) := by decide +kernel
theorem dX8_level_83 : decode cX8_level 83 = .ok (.iconst 1, 1) := by decide +kernel
theorem dX8_level_84 : decode cX8_level 84 = .ok (.goto 6, 3) := by decide +kernel
theorem dX8_level_87 : decode cX8_level 87 = .ok (.sipush 160, 3) := by decide +kernel
theorem dX8_level_90 : decode cX8_level 90 = .ok (.istore_n 3, 1) := by decide +kernel
theorem dX8_level_91 : decode cX8_level 91 = .ok (.iconst 0, 1) := by decide +kernel
theorem dX8_level_92 : decode cX8_level 92 = .ok (.istore 4, 2) := by decide +kernel
theorem dX8_level_94 : decode cX8_level 94 = .ok (.iload 4, 2) := by decide +kernel
theorem dX8_level_96 : decode cX8_level 96 = .ok (.iload_n 3, 1) := by decide +kernel
theorem dX8_level_97 : decode cX8_level 97 = .ok (.if_icmp .ge 52, 3) := by decide +kernel
theorem dX8_level_100 : decode cX8_level 100 = .ok (.aload_n 0, 1) := by decide +kernel
theorem dX8_level_101 : decode cX8_level 101 = .ok (.getfield 43, 3) := by decide +kernel
theorem dX8_level_104 : decode cX8_level 104 = .ok (.invokestatic 52, 3) := by decide +kernel
theorem dX8_level_107 : decode cX8_level 107 = .ok (.iload_n 1, 1) := by decide +kernel
theorem dX8_level_108 : decode cX8_level 108 = .ok (.if_icmp .ne 41, 3) := by decide +kernel
theorem dX8_level_111 : decode cX8_level 111 = .ok (.aload_n 0, 1) := by decide +kernel
theorem dX8_level_112 : decode cX8_level 112 = .ok (.getfield 43, 3) := by decide +kernel
theorem dX8_level_115 : decode cX8_level 115 = .ok (.istore 5, 2) := by decide +kernel
theorem dX8_level_117 : decode cX8_level 117 = .ok (.aload_n 0, 1) := by decide +kernel
theorem dX8_level_118 : decode cX8_level 118 = .ok (.invokevirtual 32, 3) := by decide +kernel
theorem dX8_level_121 : decode cX8_level 121 = .ok (.aload_n 0, 1) := by decide +kernel
theorem dX8_level_122 : decode cX8_level 122 = .ok (.iload_n 1, 1) := by decide +kernel
theorem dX8_level_123 : decode cX8_level 123 = .ok (.iconst 1, 1) := by decide +kernel
theorem dX8_level_124 : decode cX8_level 124 = .ok (.iadd, 1) := by decide +kernel
theorem dX8_level_125 : decode cX8_level 125 = .ok (.iload_n 2, 1) := by decide +kernel
theorem dX8_level_126 : decode cX8_level 126 = .ok (.invokevirtual 39, 3) := by decide +kernel
theorem dX8_level_129 : decode cX8_level 129 = .ok (.ifCond .eq 12, 3) := by decide +kernel
theorem dX8_level_132 : decode cX8_level 132 = .ok (.aload_n 0, 1) := by decide +kernel
theorem dX8_level_133 : decode cX8_level 133 = .ok (.iload 5, 2) := by decide +kernel
theorem dX8_level_135 : decode cX8_level 135 = .ok (.invokevirtual 49, 3) := by decide +kernel
theorem dX8_level_138 : decode cX8_level 138 = .ok (.ifCond .ne 5, 3) := by decide +kernel
theorem dX8_level_141 : decode cX8_level 141 = .ok (.iconst 0, 1) := by decide +kernel
theorem dX8_level_142 : decode cX8_level 142 = .ok (.ireturn, 1) := by decide +kernel
theorem dX8_level_143 : decode cX8_level 143 = .ok (.iinc 4 1, 3) := by decide +kernel
theorem dX8_level_146 : decode cX8_level 146 = .ok (.goto (-52), 3) := by decide +kernel
theorem dX8_level_149 : decode cX8_level 149 = .ok (.iconst 1, 1) := by decide +kernel
theorem dX8_level_150 : decode cX8_level 150 = .ok (.ireturn, 1) := by decide +kernel
theorem dX8_one_0 : decode cX8_one 0 = .ok (.aload_n 0, 1) := by decide +kernel
theorem dX8_one_1 : decode cX8_one 1 = .ok (.getfield 43, 3) := by decide +kernel
theorem dX8_one_4 : decode cX8_one 4 = .ok (.bipush (-6), 2) := by decide +kernel
theorem dX8_one_6 : decode cX8_one 6 = .ok (.if_icmp .lt 18, 3) := by decide +kernel
theorem dX8_one_9 : decode cX8_one 9 = .ok (.aload_n 0, 1) := by decide +kernel
theorem dX8_one_10 : decode cX8_one 10 = .ok (.getfield 43, 3) := by decide +kernel
theorem dX8_one_13 : decode cX8_one 13 = .ok (.istore_n 2, 1) := by decide +kernel
theorem dX8_one_14 : decode cX8_one 14 = .ok (.aload_n 0, 1) := by decide +kernel
theorem dX8_one_15 : decode cX8_one 15 = .ok (.invokevirtual 32, 3) := by decide +kernel
theorem dX8_one_18 : decode cX8_one 18 = .ok (.aload_n 0, 1) := by decide +kernel
theorem dX8_one_19 : decode cX8_one 19 = .ok (.iload_n 2, 1) := by decide +kernel
theorem dX8_one_20 : decode cX8_one 20 = .ok (.invokevirtual 49, 3) := by decide +kernel
theorem dX8_one_23 : decode cX8_one 23 = .ok (.ireturn, 1) := by decide +kernel
theorem dX8_one_24 : decode cX8_one 24 = .ok (.aload_n 0, 1) := by decide +kernel
theorem dX8_one_25 : decode cX8_one 25 = .ok (.getfield 43, 3) := by decide +kernel
theorem dX8_one_28 : decode cX8_one 28 = .ok (.bipush (-14), 2) := by decide +kernel
theorem dX8_one_30 : decode cX8_one 30 = .ok (.if_icmp .ne 42, 3) := by decide +kernel
theorem dX8_one_33 : decode cX8_one 33 = .ok (.iload_n 1, 1) := by decide +kernel
theorem dX8_one_34 : decode cX8_one 34 = .ok (.iconst 5, 1) := by decide +kernel
theorem dX8_one_35 : decode cX8_one 35 = .ok (.if_icmp .ge 35, 3) := by decide +kernel
theorem dX8_one_38 : decode cX8_one 38 = .ok (.aload_n 0, 1) := by decide +kernel
theorem dX8_one_39 : decode cX8_one 39 = .ok (.bipush (-14), 2) := by decide +kernel
theorem dX8_one_41 : decode cX8_one 41 = .ok (.invokevirtual 35, 3) := by decide +kernel
theorem dX8_one_44 : decode cX8_one 44 = .ok (.ifCond .eq 26, 3) := by decide +kernel
theorem dX8_one_47 : decode cX8_one 47 = .ok (.aload_n 0, 1) := by decide +kernel
theorem dX8_one_48 : decode cX8_one 48 = .ok (.iload_n 1, 1) := by decide +kernel
theorem dX8_one_49 : decode cX8_one 49 = .ok (.iconst 1, 1) := by decide +kernel
theorem dX8_one_50 : decode cX8_one 50 = .ok (.iadd, 1) := by decide +kernel
theorem dX8_one_51 : decode cX8_one 51 = .ok (.invokevirtual 46, 3) := by decide +kernel
theorem dX8_one_54 : decode cX8_one 54 = .ok (.ifCond .eq 16, 3) := by decide +kernel
theorem dX8_one_57 : decode cX8_one 57 = .ok (.aload_n 0, 1) := by decide +kernel
theorem dX8_one_58 : decode cX8_one 58 = .ok (.bipush (-7), 2) := by decide +kernel
theorem dX8_one_60 : decode cX8_one 60 = .ok (.invokevirtual 49, 3) := by decide +kernel
theorem dX8_one_63 : decode cX8_one 63 = .ok (.ifCond .eq 7, 3) := by decide +kernel
theorem dX8_one_66 : decode cX8_one 66 = .ok (.iconst 1, 1) := by decide +kernel
theorem dX8_one_67 : decode cX8_one 67 = .ok (.goto 4, 3) := by decide +kernel
theorem dX8_one_70 : decode cX8_one 70 = .ok (.iconst 0, 1) := by decide +kernel
theorem dX8_one_71 : decode cX8_one 71 = .ok (.ireturn, 1) := by decide +kernel
theorem dX8_one_72 : decode cX8_one 72 = .ok (.aload_n 0, 1) := by decide +kernel
theorem dX8_one_73 : decode cX8_one 73 = .ok (.getfield 43, 3) := by decide +kernel
theorem dX8_one_76 : decode cX8_one 76 = .ok (.bipush (-18), 2) := by decide +kernel
theorem dX8_one_78 : decode cX8_one 78 = .ok (.if_icmp .ne 41, 3) := by decide +kernel
theorem dX8_one_81 : decode cX8_one 81 = .ok (.iload_n 1, 1) := by decide +kernel
theorem dX8_one_82 : decode cX8_one 82 = .ok (.iconst 5, 1) := by decide +kernel
theorem dX8_one_83 : decode cX8_one 83 = .ok (.if_icmp .ge 36, 3) := by decide +kernel
theorem dX8_one_86 : decode cX8_one 86 = .ok (.aload_n 0, 1) := by decide +kernel
theorem dX8_one_87 : decode cX8_one 87 = .ok (.bipush (-18), 2) := by decide +kernel
theorem dX8_one_89 : decode cX8_one 89 = .ok (.invokevirtual 35, 3) := by decide +kernel
theorem dX8_one_92 : decode cX8_one 92 = .ok (.ifCond .eq 27, 3) := by decide +kernel
theorem dX8_one_95 : decode cX8_one 95 = .ok (.aload_n 0, 1) := by decide +kernel
theorem dX8_one_96 : decode cX8_one 96 = .ok (.iconst 0, 1) := by decide +kernel
theorem dX8_one_97 : decode cX8_one 97 = .ok (.iload_n 1, 1) := by decide +kernel
theorem dX8_one_98 : decode cX8_one 98 = .ok (.iconst 1, 1) := by decide +kernel
theorem dX8_one_99 : decode cX8_one 99 = .ok (.iadd, 1) := by decide +kernel
theorem dX8_one_100 : decode cX8_one 100 = .ok (.invokevirtual 39, 3) := by decide +kernel
theorem dX8_one_103 : decode cX8_one 103 = .ok (.ifCond .eq 16, 3) := by decide +kernel
theorem dX8_one_106 : decode cX8_one 106 = .ok (.aload_n 0, 1) := by decide +kernel
theorem dX8_one_107 : decode cX8_one 107 = .ok (.bipush (-19), 2) := by decide +kernel
theorem dX8_one_109 : decode cX8_one 109 = .ok (.invokevirtual 35, 3) := by decide +kernel
theorem dX8_one_112 : decode cX8_one 112 = .ok (.ifCond .eq 7, 3) := by decide +kernel
theorem dX8_one_115 : decode cX8_one 115 = .ok (.iconst 1, 1) := by decide +kernel
theorem dX8_one_116 : decode cX8_one 116 = .ok (.goto 4, 3) := by decide +kernel
theorem dX8_one_119 : decode cX8_one 119 = .ok (.iconst 0, 1) := by decide +kernel
theorem dX8_one_120 : decode cX8_one 120 = .ok (.ireturn, 1) := by decide +kernel
theorem dX8_put_0 : decode cX8_put 0 = .ok (.aload_n 0, 1) := by decide +kernel
theorem dX8_put_1 : decode cX8_put 1 = .ok (.getfield 23, 3) := by decide +kernel
theorem dX8_put_4 : decode cX8_put 4 = .ok (.sipush 160, 3) := by decide +kernel
theorem dX8_put_7 : decode cX8_put 7 = .ok (.if_icmp .lt 5, 3) := by decide +kernel
theorem dX8_put_10 : decode cX8_put 10 = .ok (.iconst 0, 1) := by decide +kernel
theorem dX8_put_11 : decode cX8_put 11 = .ok (.ireturn, 1) := by decide +kernel
theorem dX8_put_12 : decode cX8_put 12 = .ok (.aload_n 0, 1) := by decide +kernel
theorem dX8_put_13 : decode cX8_put 13 = .ok (.getfield 15, 3) := by decide +kernel
theorem dX8_put_16 : decode cX8_put 16 = .ok (.aload_n 0, 1) := by decide +kernel
theorem dX8_put_17 : decode cX8_put 17 = .ok (.getfield 23, 3) := by decide +kernel
theorem dX8_put_20 : decode cX8_put 20 = .ok (.iload_n 1, 1) := by decide +kernel
theorem dX8_put_21 : decode cX8_put 21 = .ok (.iastore, 1) := by decide +kernel
theorem dX8_put_22 : decode cX8_put 22 = .ok (.aload_n 0, 1) := by decide +kernel
theorem dX8_put_23 : decode cX8_put 23 = .ok (.dup, 1) := by decide +kernel
theorem dX8_put_24 : decode cX8_put 24 = .ok (.getfield 23, 3) := by decide +kernel
theorem dX8_put_27 : decode cX8_put 27 = .ok (.iconst 1, 1) := by decide +kernel
theorem dX8_put_28 : decode cX8_put 28 = .ok (.iadd, 1) := by decide +kernel
theorem dX8_put_29 : decode cX8_put 29 = .ok (.putfield 23, 3) := by decide +kernel
theorem dX8_put_32 : decode cX8_put 32 = .ok (.iconst 1, 1) := by decide +kernel
theorem dX8_put_33 : decode cX8_put 33 = .ok (.ireturn, 1) := by decide +kernel
theorem dX8_tightnessOf_0 : decode cX8_tightnessOf 0 = .ok (.iload_n 0, 1) := by decide +kernel
theorem dX8_tightnessOf_1 : decode cX8_tightnessOf 1 = .ok (.tableswitch 53 (-15) (-9) #[51, 49, 49, 47, 47, 45, 43], 43) := by decide +kernel
theorem dX8_tightnessOf_44 : decode cX8_tightnessOf 44 = .ok (.iconst 0, 1) := by decide +kernel
theorem dX8_tightnessOf_45 : decode cX8_tightnessOf 45 = .ok (.ireturn, 1) := by decide +kernel
theorem dX8_tightnessOf_46 : decode cX8_tightnessOf 46 = .ok (.iconst 1, 1) := by decide +kernel
theorem dX8_tightnessOf_47 : decode cX8_tightnessOf 47 = .ok (.ireturn, 1) := by decide +kernel
theorem dX8_tightnessOf_48 : decode cX8_tightnessOf 48 = .ok (.iconst 2, 1) := by decide +kernel
theorem dX8_tightnessOf_49 : decode cX8_tightnessOf 49 = .ok (.ireturn, 1) := by decide +kernel
theorem dX8_tightnessOf_50 : decode cX8_tightnessOf 50 = .ok (.iconst 3, 1) := by decide +kernel
theorem dX8_tightnessOf_51 : decode cX8_tightnessOf 51 = .ok (.ireturn, 1) := by decide +kernel
theorem dX8_tightnessOf_52 : decode cX8_tightnessOf 52 = .ok (.iconst 4, 1) := by decide +kernel
theorem dX8_tightnessOf_53 : decode cX8_tightnessOf 53 = .ok (.ireturn, 1) := by decide +kernel
theorem dX8_tightnessOf_54 : decode cX8_tightnessOf 54 = .ok (.iconst (-1), 1) := by decide +kernel
theorem dX8_tightnessOf_55 : decode cX8_tightnessOf 55 = .ok (.ireturn, 1) := by decide +kernel
theorem dX8_next_0 : decode cX8_next 0 = .ok (.aload_n 0, 1) := by decide +kernel
theorem dX8_next_1 : decode cX8_next 1 = .ok (.aload_n 0, 1) := by decide +kernel
theorem dX8_next_2 : decode cX8_next 2 = .ok (.getfield 29, 3) := by decide +kernel
theorem dX8_next_5 : decode cX8_next 5 = .ok (.putfield 56, 3) := by decide +kernel
theorem dX8_next_8 : decode cX8_next 8 = .ok (.aload_n 0, 1) := by decide +kernel
theorem dX8_next_9 : decode cX8_next 9 = .ok (.getfield 56, 3) := by decide +kernel
theorem dX8_next_12 : decode cX8_next 12 = .ok (.aload_n 0, 1) := by decide +kernel
theorem dX8_next_13 : decode cX8_next 13 = .ok (.getfield 19, 3) := by decide +kernel
theorem dX8_next_16 : decode cX8_next 16 = .ok (.if_icmp .ge 44, 3) := by decide +kernel
theorem dX8_next_19 : decode cX8_next 19 = .ok (.aload_n 0, 1) := by decide +kernel
theorem dX8_next_20 : decode cX8_next 20 = .ok (.getfield 9, 3) := by decide +kernel
theorem dX8_next_23 : decode cX8_next 23 = .ok (.aload_n 0, 1) := by decide +kernel
theorem dX8_next_24 : decode cX8_next 24 = .ok (.getfield 56, 3) := by decide +kernel
theorem dX8_next_27 : decode cX8_next 27 = .ok (.baload, 1) := by decide +kernel
theorem dX8_next_28 : decode cX8_next 28 = .ok (.bipush 32, 2) := by decide +kernel
theorem dX8_next_30 : decode cX8_next 30 = .ok (.if_icmp .eq 17, 3) := by decide +kernel
theorem dX8_next_33 : decode cX8_next 33 = .ok (.aload_n 0, 1) := by decide +kernel
theorem dX8_next_34 : decode cX8_next 34 = .ok (.getfield 9, 3) := by decide +kernel
theorem dX8_next_37 : decode cX8_next 37 = .ok (.aload_n 0, 1) := by decide +kernel
theorem dX8_next_38 : decode cX8_next 38 = .ok (.getfield 56, 3) := by decide +kernel
theorem dX8_next_41 : decode cX8_next 41 = .ok (.baload, 1) := by decide +kernel
theorem dX8_next_42 : decode cX8_next 42 = .ok (.bipush 10, 2) := by decide +kernel
theorem dX8_next_44 : decode cX8_next 44 = .ok (.if_icmp .ne 16, 3) := by decide +kernel
theorem dX8_next_47 : decode cX8_next 47 = .ok (.aload_n 0, 1) := by decide +kernel
theorem dX8_next_48 : decode cX8_next 48 = .ok (.dup, 1) := by decide +kernel
theorem dX8_next_49 : decode cX8_next 49 = .ok (.getfield 56, 3) := by decide +kernel
theorem dX8_next_52 : decode cX8_next 52 = .ok (.iconst 1, 1) := by decide +kernel
theorem dX8_next_53 : decode cX8_next 53 = .ok (.iadd, 1) := by decide +kernel
theorem dX8_next_54 : decode cX8_next 54 = .ok (.putfield 56, 3) := by decide +kernel
theorem dX8_next_57 : decode cX8_next 57 = .ok (.goto (-49), 3) := by decide +kernel
theorem dX8_next_60 : decode cX8_next 60 = .ok (.aload_n 0, 1) := by decide +kernel
theorem dX8_next_61 : decode cX8_next 61 = .ok (.aload_n 0, 1) := by decide +kernel
theorem dX8_next_62 : decode cX8_next 62 = .ok (.getfield 56, 3) := by decide +kernel
theorem dX8_next_65 : decode cX8_next 65 = .ok (.putfield 29, 3) := by decide +kernel
theorem dX8_next_68 : decode cX8_next 68 = .ok (.aload_n 0, 1) := by decide +kernel
theorem dX8_next_69 : decode cX8_next 69 = .ok (.getfield 56, 3) := by decide +kernel
theorem dX8_next_72 : decode cX8_next 72 = .ok (.aload_n 0, 1) := by decide +kernel
theorem dX8_next_73 : decode cX8_next 73 = .ok (.getfield 19, 3) := by decide +kernel
theorem dX8_next_76 : decode cX8_next 76 = .ok (.if_icmp .lt 10, 3) := by decide +kernel
theorem dX8_next_79 : decode cX8_next 79 = .ok (.aload_n 0, 1) := by decide +kernel
theorem dX8_next_80 : decode cX8_next 80 = .ok (.bipush (-21), 2) := by decide +kernel
theorem dX8_next_82 : decode cX8_next 82 = .ok (.putfield 43, 3) := by decide +kernel
theorem dX8_next_85 : decode cX8_next 85 = .ok (.return_, 1) := by decide +kernel
theorem dX8_next_86 : decode cX8_next 86 = .ok (.aload_n 0, 1) := by decide +kernel
theorem dX8_next_87 : decode cX8_next 87 = .ok (.getfield 29, 3) := by decide +kernel
theorem dX8_next_90 : decode cX8_next 90 = .ok (.aload_n 0, 1) := by decide +kernel
theorem dX8_next_91 : decode cX8_next 91 = .ok (.getfield 19, 3) := by decide +kernel
theorem dX8_next_94 : decode cX8_next 94 = .ok (.if_icmp .ge 31, 3) := by decide +kernel
theorem dX8_next_97 : decode cX8_next 97 = .ok (.aload_n 0, 1) := by decide +kernel
theorem dX8_next_98 : decode cX8_next 98 = .ok (.getfield 9, 3) := by decide +kernel
theorem dX8_next_101 : decode cX8_next 101 = .ok (.aload_n 0, 1) := by decide +kernel
theorem dX8_next_102 : decode cX8_next 102 = .ok (.getfield 29, 3) := by decide +kernel
theorem dX8_next_105 : decode cX8_next 105 = .ok (.baload, 1) := by decide +kernel
theorem dX8_next_106 : decode cX8_next 106 = .ok (.invokestatic 59, 3) := by decide +kernel
theorem dX8_next_109 : decode cX8_next 109 = .ok (.ifCond .eq 16, 3) := by decide +kernel
theorem dX8_next_112 : decode cX8_next 112 = .ok (.aload_n 0, 1) := by decide +kernel
theorem dX8_next_113 : decode cX8_next 113 = .ok (.dup, 1) := by decide +kernel
theorem dX8_next_114 : decode cX8_next 114 = .ok (.getfield 29, 3) := by decide +kernel
theorem dX8_next_117 : decode cX8_next 117 = .ok (.iconst 1, 1) := by decide +kernel
theorem dX8_next_118 : decode cX8_next 118 = .ok (.iadd, 1) := by decide +kernel
theorem dX8_next_119 : decode cX8_next 119 = .ok (.putfield 29, 3) := by decide +kernel
theorem dX8_next_122 : decode cX8_next 122 = .ok (.goto (-36), 3) := by decide +kernel
theorem dX8_next_125 : decode cX8_next 125 = .ok (.aload_n 0, 1) := by decide +kernel
theorem dX8_next_126 : decode cX8_next 126 = .ok (.getfield 29, 3) := by decide +kernel
theorem dX8_next_129 : decode cX8_next 129 = .ok (.aload_n 0, 1) := by decide +kernel
theorem dX8_next_130 : decode cX8_next 130 = .ok (.getfield 56, 3) := by decide +kernel
theorem dX8_next_133 : decode cX8_next 133 = .ok (.if_icmp .le 12, 3) := by decide +kernel
theorem dX8_next_136 : decode cX8_next 136 = .ok (.aload_n 0, 1) := by decide +kernel
theorem dX8_next_137 : decode cX8_next 137 = .ok (.aload_n 0, 1) := by decide +kernel
theorem dX8_next_138 : decode cX8_next 138 = .ok (.invokevirtual 62, 3) := by decide +kernel
theorem dX8_next_141 : decode cX8_next 141 = .ok (.putfield 43, 3) := by decide +kernel
theorem dX8_next_144 : decode cX8_next 144 = .ok (.return_, 1) := by decide +kernel
theorem dX8_next_145 : decode cX8_next 145 = .ok (.aload_n 0, 1) := by decide +kernel
theorem dX8_next_146 : decode cX8_next 146 = .ok (.getfield 29, 3) := by decide +kernel
theorem dX8_next_149 : decode cX8_next 149 = .ok (.aload_n 0, 1) := by decide +kernel
theorem dX8_next_150 : decode cX8_next 150 = .ok (.getfield 19, 3) := by decide +kernel
theorem dX8_next_153 : decode cX8_next 153 = .ok (.if_icmp .ge 31, 3) := by decide +kernel
theorem dX8_next_156 : decode cX8_next 156 = .ok (.aload_n 0, 1) := by decide +kernel
theorem dX8_next_157 : decode cX8_next 157 = .ok (.getfield 9, 3) := by decide +kernel
theorem dX8_next_160 : decode cX8_next 160 = .ok (.aload_n 0, 1) := by decide +kernel
theorem dX8_next_161 : decode cX8_next 161 = .ok (.getfield 29, 3) := by decide +kernel
theorem dX8_next_164 : decode cX8_next 164 = .ok (.baload, 1) := by decide +kernel
theorem dX8_next_165 : decode cX8_next 165 = .ok (.invokestatic 66, 3) := by decide +kernel
theorem dX8_next_168 : decode cX8_next 168 = .ok (.ifCond .eq 16, 3) := by decide +kernel
theorem dX8_next_171 : decode cX8_next 171 = .ok (.aload_n 0, 1) := by decide +kernel
theorem dX8_next_172 : decode cX8_next 172 = .ok (.dup, 1) := by decide +kernel
theorem dX8_next_173 : decode cX8_next 173 = .ok (.getfield 29, 3) := by decide +kernel
theorem dX8_next_176 : decode cX8_next 176 = .ok (.iconst 1, 1) := by decide +kernel
theorem dX8_next_177 : decode cX8_next 177 = .ok (.iadd, 1) := by decide +kernel
theorem dX8_next_178 : decode cX8_next 178 = .ok (.putfield 29, 3) := by decide +kernel
theorem dX8_next_181 : decode cX8_next 181 = .ok (.goto (-36), 3) := by decide +kernel
theorem dX8_next_184 : decode cX8_next 184 = .ok (.aload_n 0, 1) := by decide +kernel
theorem dX8_next_185 : decode cX8_next 185 = .ok (.getfield 29, 3) := by decide +kernel
theorem dX8_next_188 : decode cX8_next 188 = .ok (.aload_n 0, 1) := by decide +kernel
theorem dX8_next_189 : decode cX8_next 189 = .ok (.getfield 56, 3) := by decide +kernel
theorem dX8_next_192 : decode cX8_next 192 = .ok (.if_icmp .le 12, 3) := by decide +kernel
theorem dX8_next_195 : decode cX8_next 195 = .ok (.aload_n 0, 1) := by decide +kernel
theorem dX8_next_196 : decode cX8_next 196 = .ok (.aload_n 0, 1) := by decide +kernel
theorem dX8_next_197 : decode cX8_next 197 = .ok (.invokevirtual 69, 3) := by decide +kernel
theorem dX8_next_200 : decode cX8_next 200 = .ok (.putfield 43, 3) := by decide +kernel
theorem dX8_next_203 : decode cX8_next 203 = .ok (.return_, 1) := by decide +kernel
theorem dX8_next_204 : decode cX8_next 204 = .ok (.aload_n 0, 1) := by decide +kernel
theorem dX8_next_205 : decode cX8_next 205 = .ok (.dup, 1) := by decide +kernel
theorem dX8_next_206 : decode cX8_next 206 = .ok (.getfield 29, 3) := by decide +kernel
theorem dX8_next_209 : decode cX8_next 209 = .ok (.iconst 1, 1) := by decide +kernel
theorem dX8_next_210 : decode cX8_next 210 = .ok (.iadd, 1) := by decide +kernel
theorem dX8_next_211 : decode cX8_next 211 = .ok (.putfield 29, 3) := by decide +kernel
theorem dX8_next_214 : decode cX8_next 214 = .ok (.aload_n 0, 1) := by decide +kernel
theorem dX8_next_215 : decode cX8_next 215 = .ok (.aload_n 0, 1) := by decide +kernel
theorem dX8_next_216 : decode cX8_next 216 = .ok (.getfield 9, 3) := by decide +kernel
theorem dX8_next_219 : decode cX8_next 219 = .ok (.aload_n 0, 1) := by decide +kernel
theorem dX8_next_220 : decode cX8_next 220 = .ok (.getfield 56, 3) := by decide +kernel
theorem dX8_next_223 : decode cX8_next 223 = .ok (.baload, 1) := by decide +kernel
theorem dX8_next_224 : decode cX8_next 224 = .ok (.invokestatic 72, 3) := by decide +kernel
theorem dX8_next_227 : decode cX8_next 227 = .ok (.putfield 43, 3) := by decide +kernel
theorem dX8_next_230 : decode cX8_next 230 = .ok (.return_, 1) := by decide +kernel
theorem dX8_isLetter_0 : decode cX8_isLetter 0 = .ok (.iload_n 0, 1) := by decide +kernel
theorem dX8_isLetter_1 : decode cX8_isLetter 1 = .ok (.bipush 97, 2) := by decide +kernel
theorem dX8_isLetter_3 : decode cX8_isLetter 3 = .ok (.if_icmp .lt 13, 3) := by decide +kernel
theorem dX8_isLetter_6 : decode cX8_isLetter 6 = .ok (.iload_n 0, 1) := by decide +kernel
theorem dX8_isLetter_7 : decode cX8_isLetter 7 = .ok (.bipush 122, 2) := by decide +kernel
theorem dX8_isLetter_9 : decode cX8_isLetter 9 = .ok (.if_icmp .gt 7, 3) := by decide +kernel
theorem dX8_isLetter_12 : decode cX8_isLetter 12 = .ok (.iconst 1, 1) := by decide +kernel
theorem dX8_isLetter_13 : decode cX8_isLetter 13 = .ok (.goto 4, 3) := by decide +kernel
theorem dX8_isLetter_16 : decode cX8_isLetter 16 = .ok (.iconst 0, 1) := by decide +kernel
theorem dX8_isLetter_17 : decode cX8_isLetter 17 = .ok (.ireturn, 1) := by decide +kernel
theorem dX8_isDigit_0 : decode cX8_isDigit 0 = .ok (.iload_n 0, 1) := by decide +kernel
theorem dX8_isDigit_1 : decode cX8_isDigit 1 = .ok (.bipush 48, 2) := by decide +kernel
theorem dX8_isDigit_3 : decode cX8_isDigit 3 = .ok (.if_icmp .lt 13, 3) := by decide +kernel
theorem dX8_isDigit_6 : decode cX8_isDigit 6 = .ok (.iload_n 0, 1) := by decide +kernel
theorem dX8_isDigit_7 : decode cX8_isDigit 7 = .ok (.bipush 57, 2) := by decide +kernel
theorem dX8_isDigit_9 : decode cX8_isDigit 9 = .ok (.if_icmp .gt 7, 3) := by decide +kernel
theorem dX8_isDigit_12 : decode cX8_isDigit 12 = .ok (.iconst 1, 1) := by decide +kernel
theorem dX8_isDigit_13 : decode cX8_isDigit 13 = .ok (.goto 4, 3) := by decide +kernel
theorem dX8_isDigit_16 : decode cX8_isDigit 16 = .ok (.iconst 0, 1) := by decide +kernel
theorem dX8_isDigit_17 : decode cX8_isDigit 17 = .ok (.ireturn, 1) := by decide +kernel
theorem dX8_number_0 : decode cX8_number 0 = .ok (.aload_n 0, 1) := by decide +kernel
theorem dX8_number_1 : decode cX8_number 1 = .ok (.getfield 29, 3) := by decide +kernel
theorem dX8_number_4 : decode cX8_number 4 = .ok (.aload_n 0, 1) := by decide +kernel
theorem dX8_number_5 : decode cX8_number 5 = .ok (.getfield 56, 3) := by decide +kernel
theorem dX8_number_8 : decode cX8_number 8 = .ok (.isub, 1) := by decide +kernel
theorem dX8_number_9 : decode cX8_number 9 = .ok (.iconst 4, 1) := by decide +kernel
theorem dX8_number_10 : decode cX8_number 10 = .ok (.if_icmp .le 6, 3) := by decide +kernel
theorem dX8_number_13 : decode cX8_number 13 = .ok (.bipush (-22), 2) := by decide +kernel
theorem dX8_number_15 : decode cX8_number 15 = .ok (.ireturn, 1) := by decide +kernel
theorem dX8_number_16 : decode cX8_number 16 = .ok (.iconst 0, 1) := by decide +kernel
theorem dX8_number_17 : decode cX8_number 17 = .ok (.istore_n 1, 1) := by decide +kernel
theorem dX8_number_18 : decode cX8_number 18 = .ok (.aload_n 0, 1) := by decide +kernel
theorem dX8_number_19 : decode cX8_number 19 = .ok (.getfield 56, 3) := by decide +kernel
theorem dX8_number_22 : decode cX8_number 22 = .ok (.istore_n 2, 1) := by decide +kernel
theorem dX8_number_23 : decode cX8_number 23 = .ok (.iload_n 2, 1) := by decide +kernel
theorem dX8_number_24 : decode cX8_number 24 = .ok (.aload_n 0, 1) := by decide +kernel
theorem dX8_number_25 : decode cX8_number 25 = .ok (.getfield 29, 3) := by decide +kernel
theorem dX8_number_28 : decode cX8_number 28 = .ok (.if_icmp .ge 24, 3) := by decide +kernel
theorem dX8_number_31 : decode cX8_number 31 = .ok (.bipush 10, 2) := by decide +kernel
theorem dX8_number_33 : decode cX8_number 33 = .ok (.iload_n 1, 1) := by decide +kernel
theorem dX8_number_34 : decode cX8_number 34 = .ok (.imul, 1) := by decide +kernel
theorem dX8_number_35 : decode cX8_number 35 = .ok (.aload_n 0, 1) := by decide +kernel
theorem dX8_number_36 : decode cX8_number 36 = .ok (.getfield 9, 3) := by decide +kernel
theorem dX8_number_39 : decode cX8_number 39 = .ok (.iload_n 2, 1) := by decide +kernel
theorem dX8_number_40 : decode cX8_number 40 = .ok (.baload, 1) := by decide +kernel
theorem dX8_number_41 : decode cX8_number 41 = .ok (.bipush 48, 2) := by decide +kernel
theorem dX8_number_43 : decode cX8_number 43 = .ok (.isub, 1) := by decide +kernel
theorem dX8_number_44 : decode cX8_number 44 = .ok (.iadd, 1) := by decide +kernel
theorem dX8_number_45 : decode cX8_number 45 = .ok (.istore_n 1, 1) := by decide +kernel
theorem dX8_number_46 : decode cX8_number 46 = .ok (.iinc 2 1, 3) := by decide +kernel
theorem dX8_number_49 : decode cX8_number 49 = .ok (.goto (-26), 3) := by decide +kernel
theorem dX8_number_52 : decode cX8_number 52 = .ok (.iload_n 1, 1) := by decide +kernel
theorem dX8_number_53 : decode cX8_number 53 = .ok (.ireturn, 1) := by decide +kernel
theorem dX8_sign_0 : decode cX8_sign 0 = .ok (.iload_n 0, 1) := by decide +kernel
theorem dX8_sign_1 : decode cX8_sign 1 = .ok (.tableswitch 127 40 61 #[103, 106, 118, 112, 127, 115, 127, 127, 127, 127, 127, 127, 127, 127, 127, 127, 127, 127, 127, 109, 121, 124], 103) := by decide +kernel
theorem dX8_sign_104 : decode cX8_sign 104 = .ok (.bipush (-18), 2) := by decide +kernel
theorem dX8_sign_106 : decode cX8_sign 106 = .ok (.ireturn, 1) := by decide +kernel
theorem dX8_sign_107 : decode cX8_sign 107 = .ok (.bipush (-19), 2) := by decide +kernel
theorem dX8_sign_109 : decode cX8_sign 109 = .ok (.ireturn, 1) := by decide +kernel
theorem dX8_sign_110 : decode cX8_sign 110 = .ok (.bipush (-20), 2) := by decide +kernel
theorem dX8_sign_112 : decode cX8_sign 112 = .ok (.ireturn, 1) := by decide +kernel
theorem dX8_sign_113 : decode cX8_sign 113 = .ok (.bipush (-13), 2) := by decide +kernel
theorem dX8_sign_115 : decode cX8_sign 115 = .ok (.ireturn, 1) := by decide +kernel
theorem dX8_sign_116 : decode cX8_sign 116 = .ok (.bipush (-14), 2) := by decide +kernel
theorem dX8_sign_118 : decode cX8_sign 118 = .ok (.ireturn, 1) := by decide +kernel
theorem dX8_sign_119 : decode cX8_sign 119 = .ok (.bipush (-15), 2) := by decide +kernel
theorem dX8_sign_121 : decode cX8_sign 121 = .ok (.ireturn, 1) := by decide +kernel
theorem dX8_sign_122 : decode cX8_sign 122 = .ok (.bipush (-11), 2) := by decide +kernel
theorem dX8_sign_124 : decode cX8_sign 124 = .ok (.ireturn, 1) := by decide +kernel
theorem dX8_sign_125 : decode cX8_sign 125 = .ok (.bipush (-12), 2) := by decide +kernel
theorem dX8_sign_127 : decode cX8_sign 127 = .ok (.ireturn, 1) := by decide +kernel
theorem dX8_sign_128 : decode cX8_sign 128 = .ok (.bipush (-22), 2) := by decide +kernel
theorem dX8_sign_130 : decode cX8_sign 130 = .ok (.ireturn, 1) := by decide +kernel
theorem dX8_word_0 : decode cX8_word 0 = .ok (.aload_n 0, 1) := by decide +kernel
theorem dX8_word_1 : decode cX8_word 1 = .ok (.ldc 75, 2) := by decide +kernel
theorem dX8_word_3 : decode cX8_word 3 = .ok (.invokevirtual 77, 3) := by decide +kernel
theorem dX8_word_6 : decode cX8_word 6 = .ok (.ifCond .eq 6, 3) := by decide +kernel
theorem dX8_word_9 : decode cX8_word 9 = .ok (.bipush (-16), 2) := by decide +kernel
theorem dX8_word_11 : decode cX8_word 11 = .ok (.ireturn, 1) := by decide +kernel
theorem dX8_word_12 : decode cX8_word 12 = .ok (.aload_n 0, 1) := by decide +kernel
theorem dX8_word_13 : decode cX8_word 13 = .ok (.ldc 81, 2) := by decide +kernel
theorem dX8_word_15 : decode cX8_word 15 = .ok (.invokevirtual 77, 3) := by decide +kernel
theorem dX8_word_18 : decode cX8_word 18 = .ok (.ifCond .eq 6, 3) := by decide +kernel
theorem dX8_word_21 : decode cX8_word 21 = .ok (.bipush (-17), 2) := by decide +kernel
theorem dX8_word_23 : decode cX8_word 23 = .ok (.ireturn, 1) := by decide +kernel
theorem dX8_word_24 : decode cX8_word 24 = .ok (.aload_n 0, 1) := by decide +kernel
theorem dX8_word_25 : decode cX8_word 25 = .ok (.ldc 83, 2) := by decide +kernel
theorem dX8_word_27 : decode cX8_word 27 = .ok (.invokevirtual 77, 3) := by decide +kernel
theorem dX8_word_30 : decode cX8_word 30 = .ok (.ifCond .eq 6, 3) := by decide +kernel
theorem dX8_word_33 : decode cX8_word 33 = .ok (.bipush (-9), 2) := by decide +kernel
theorem dX8_word_35 : decode cX8_word 35 = .ok (.ireturn, 1) := by decide +kernel
theorem dX8_word_36 : decode cX8_word 36 = .ok (.aload_n 0, 1) := by decide +kernel
theorem dX8_word_37 : decode cX8_word 37 = .ok (.ldc 85, 2) := by decide +kernel
theorem dX8_word_39 : decode cX8_word 39 = .ok (.invokevirtual 77, 3) := by decide +kernel
theorem dX8_word_42 : decode cX8_word 42 = .ok (.ifCond .eq 6, 3) := by decide +kernel
theorem dX8_word_45 : decode cX8_word 45 = .ok (.bipush (-10), 2) := by decide +kernel
theorem dX8_word_47 : decode cX8_word 47 = .ok (.ireturn, 1) := by decide +kernel
theorem dX8_word_48 : decode cX8_word 48 = .ok (.aload_n 0, 1) := by decide +kernel
theorem dX8_word_49 : decode cX8_word 49 = .ok (.ldc 87, 2) := by decide +kernel
theorem dX8_word_51 : decode cX8_word 51 = .ok (.invokevirtual 77, 3) := by decide +kernel
theorem dX8_word_54 : decode cX8_word 54 = .ok (.ifCond .eq 6, 3) := by decide +kernel
theorem dX8_word_57 : decode cX8_word 57 = .ok (.bipush (-8), 2) := by decide +kernel
theorem dX8_word_59 : decode cX8_word 59 = .ok (.ireturn, 1) := by decide +kernel
theorem dX8_word_60 : decode cX8_word 60 = .ok (.aload_n 0, 1) := by decide +kernel
theorem dX8_word_61 : decode cX8_word 61 = .ok (.ldc 89, 2) := by decide +kernel
theorem dX8_word_63 : decode cX8_word 63 = .ok (.invokevirtual 77, 3) := by decide +kernel
theorem dX8_word_66 : decode cX8_word 66 = .ok (.ifCond .eq 5, 3) := by decide +kernel
theorem dX8_word_69 : decode cX8_word 69 = .ok (.iconst (-1), 1) := by decide +kernel
theorem dX8_word_70 : decode cX8_word 70 = .ok (.ireturn, 1) := by decide +kernel
theorem dX8_word_71 : decode cX8_word 71 = .ok (.aload_n 0, 1) := by decide +kernel
theorem dX8_word_72 : decode cX8_word 72 = .ok (.ldc 91, 2) := by decide +kernel
theorem dX8_word_74 : decode cX8_word 74 = .ok (.invokevirtual 77, 3) := by decide +kernel
theorem dX8_word_77 : decode cX8_word 77 = .ok (.ifCond .eq 6, 3) := by decide +kernel
theorem dX8_word_80 : decode cX8_word 80 = .ok (.bipush (-2), 2) := by decide +kernel
theorem dX8_word_82 : decode cX8_word 82 = .ok (.ireturn, 1) := by decide +kernel
theorem dX8_word_83 : decode cX8_word 83 = .ok (.aload_n 0, 1) := by decide +kernel
theorem dX8_word_84 : decode cX8_word 84 = .ok (.ldc 93, 2) := by decide +kernel
theorem dX8_word_86 : decode cX8_word 86 = .ok (.invokevirtual 77, 3) := by decide +kernel
theorem dX8_word_89 : decode cX8_word 89 = .ok (.ifCond .eq 6, 3) := by decide +kernel
theorem dX8_word_92 : decode cX8_word 92 = .ok (.bipush (-3), 2) := by decide +kernel
theorem dX8_word_94 : decode cX8_word 94 = .ok (.ireturn, 1) := by decide +kernel
theorem dX8_word_95 : decode cX8_word 95 = .ok (.aload_n 0, 1) := by decide +kernel
theorem dX8_word_96 : decode cX8_word 96 = .ok (.ldc 95, 2) := by decide +kernel
theorem dX8_word_98 : decode cX8_word 98 = .ok (.invokevirtual 77, 3) := by decide +kernel
theorem dX8_word_101 : decode cX8_word 101 = .ok (.ifCond .eq 6, 3) := by decide +kernel
theorem dX8_word_104 : decode cX8_word 104 = .ok (.bipush (-4), 2) := by decide +kernel
theorem dX8_word_106 : decode cX8_word 106 = .ok (.ireturn, 1) := by decide +kernel
theorem dX8_word_107 : decode cX8_word 107 = .ok (.aload_n 0, 1) := by decide +kernel
theorem dX8_word_108 : decode cX8_word 108 = .ok (.ldc 97, 2) := by decide +kernel
theorem dX8_word_110 : decode cX8_word 110 = .ok (.invokevirtual 77, 3) := by decide +kernel
theorem dX8_word_113 : decode cX8_word 113 = .ok (.ifCond .eq 6, 3) := by decide +kernel
theorem dX8_word_116 : decode cX8_word 116 = .ok (.bipush (-5), 2) := by decide +kernel
theorem dX8_word_118 : decode cX8_word 118 = .ok (.ireturn, 1) := by decide +kernel
theorem dX8_word_119 : decode cX8_word 119 = .ok (.aload_n 0, 1) := by decide +kernel
theorem dX8_word_120 : decode cX8_word 120 = .ok (.ldc 99, 2) := by decide +kernel
theorem dX8_word_122 : decode cX8_word 122 = .ok (.invokevirtual 77, 3) := by decide +kernel
theorem dX8_word_125 : decode cX8_word 125 = .ok (.ifCond .eq 8, 3) := by decide +kernel
theorem dX8_word_128 : decode cX8_word 128 = .ok (.bipush (-6), 2) := by decide +kernel
theorem dX8_word_130 : decode cX8_word 130 = .ok (.goto 5, 3) := by decide +kernel
theorem dX8_word_133 : decode cX8_word 133 = .ok (.bipush (-22), 2) := by decide +kernel
theorem dX8_word_135 : decode cX8_word 135 = .ok (.ireturn, 1) := by decide +kernel
theorem dX8_reads_0 : decode cX8_reads 0 = .ok (.aload_n 1, 1) := by decide +kernel
theorem dX8_reads_1 : decode cX8_reads 1 = .ok (.invokevirtual 101, 3) := by decide +kernel
theorem dX8_reads_4 : decode cX8_reads 4 = .ok (.aload_n 0, 1) := by decide +kernel
theorem dX8_reads_5 : decode cX8_reads 5 = .ok (.getfield 29, 3) := by decide +kernel
theorem dX8_reads_8 : decode cX8_reads 8 = .ok (.aload_n 0, 1) := by decide +kernel
theorem dX8_reads_9 : decode cX8_reads 9 = .ok (.getfield 56, 3) := by decide +kernel
theorem dX8_reads_12 : decode cX8_reads 12 = .ok (.isub, 1) := by decide +kernel
theorem dX8_reads_13 : decode cX8_reads 13 = .ok (.if_icmp .eq 5, 3) := by decide +kernel
theorem dX8_reads_16 : decode cX8_reads 16 = .ok (.iconst 0, 1) := by decide +kernel
theorem dX8_reads_17 : decode cX8_reads 17 = .ok (.ireturn, 1) := by decide +kernel
theorem dX8_reads_18 : decode cX8_reads 18 = .ok (.iconst 0, 1) := by decide +kernel
theorem dX8_reads_19 : decode cX8_reads 19 = .ok (.istore_n 2, 1) := by decide +kernel
theorem dX8_reads_20 : decode cX8_reads 20 = .ok (.iload_n 2, 1) := by decide +kernel
theorem dX8_reads_21 : decode cX8_reads 21 = .ok (.aload_n 1, 1) := by decide +kernel
theorem dX8_reads_22 : decode cX8_reads 22 = .ok (.invokevirtual 101, 3) := by decide +kernel
theorem dX8_reads_25 : decode cX8_reads 25 = .ok (.if_icmp .ge 30, 3) := by decide +kernel
theorem dX8_reads_28 : decode cX8_reads 28 = .ok (.aload_n 0, 1) := by decide +kernel
theorem dX8_reads_29 : decode cX8_reads 29 = .ok (.getfield 9, 3) := by decide +kernel
theorem dX8_reads_32 : decode cX8_reads 32 = .ok (.aload_n 0, 1) := by decide +kernel
theorem dX8_reads_33 : decode cX8_reads 33 = .ok (.getfield 56, 3) := by decide +kernel
theorem dX8_reads_36 : decode cX8_reads 36 = .ok (.iload_n 2, 1) := by decide +kernel
theorem dX8_reads_37 : decode cX8_reads 37 = .ok (.iadd, 1) := by decide +kernel
theorem dX8_reads_38 : decode cX8_reads 38 = .ok (.baload, 1) := by decide +kernel
theorem dX8_reads_39 : decode cX8_reads 39 = .ok (.aload_n 1, 1) := by decide +kernel
theorem dX8_reads_40 : decode cX8_reads 40 = .ok (.iload_n 2, 1) := by decide +kernel
theorem dX8_reads_41 : decode cX8_reads 41 = .ok (.invokevirtual 105, 3) := by decide +kernel
theorem dX8_reads_44 : decode cX8_reads 44 = .ok (.if_icmp .eq 5, 3) := by decide +kernel
theorem dX8_reads_47 : decode cX8_reads 47 = .ok (.iconst 0, 1) := by decide +kernel
theorem dX8_reads_48 : decode cX8_reads 48 = .ok (.ireturn, 1) := by decide +kernel
theorem dX8_reads_49 : decode cX8_reads 49 = .ok (.iinc 2 1, 3) := by decide +kernel
theorem dX8_reads_52 : decode cX8_reads 52 = .ok (.goto (-32), 3) := by decide +kernel
theorem dX8_reads_55 : decode cX8_reads 55 = .ok (.iconst 1, 1) := by decide +kernel
theorem dX8_reads_56 : decode cX8_reads 56 = .ok (.ireturn, 1) := by decide +kernel
theorem dX9_init_0 : decode cX9_init 0 = .ok (.aload_n 0, 1) := by decide +kernel
theorem dX9_init_1 : decode cX9_init 1 = .ok (.iload_n 1, 1) := by decide +kernel
theorem dX9_init_2 : decode cX9_init 2 = .ok (.iload_n 2, 1) := by decide +kernel
theorem dX9_init_3 : decode cX9_init 3 = .ok (.invokespecial 3, 3) := by decide +kernel
theorem dX9_init_6 : decode cX9_init 6 = .ok (.aload_n 0, 1) := by decide +kernel
theorem dX9_init_7 : decode cX9_init 7 = .ok (.bipush 8, 2) := by decide +kernel
theorem dX9_init_9 : decode cX9_init 9 = .ok (.newarray .int, 2) := by decide +kernel
theorem dX9_init_11 : decode cX9_init 11 = .ok (.putfield 9, 3) := by decide +kernel
theorem dX9_init_14 : decode cX9_init 14 = .ok (.aload_n 3, 1) := by decide +kernel
theorem dX9_init_15 : decode cX9_init 15 = .ok (.ifnull 25, 3) := by decide +kernel
theorem dX9_init_18 : decode cX9_init 18 = .ok (.aload_n 3, 1) := by decide +kernel
theorem dX9_init_19 : decode cX9_init 19 = .ok (.getfield 15, 3) := by decide +kernel
theorem dX9_init_22 : decode cX9_init 22 = .ok (.iconst 0, 1) := by decide +kernel
theorem dX9_init_23 : decode cX9_init 23 = .ok (.aload_n 0, 1) := by decide +kernel
theorem dX9_init_24 : decode cX9_init 24 = .ok (.getfield 9, 3) := by decide +kernel
theorem dX9_init_27 : decode cX9_init 27 = .ok (.iconst 0, 1) := by decide +kernel
theorem dX9_init_28 : decode cX9_init 28 = .ok (.aload_n 3, 1) := by decide +kernel
theorem dX9_init_29 : decode cX9_init 29 = .ok (.getfield 20, 3) := by decide +kernel
theorem dX9_init_32 : decode cX9_init 32 = .ok (.bipush 8, 2) := by decide +kernel
theorem dX9_init_34 : decode cX9_init 34 = .ok (.invokestatic 24, 3) := by decide +kernel
theorem dX9_init_37 : decode cX9_init 37 = .ok (.invokestatic 30, 3) := by decide +kernel
theorem dX9_init_40 : decode cX9_init 40 = .ok (.return_, 1) := by decide +kernel
theorem dX9_share_0 : decode cX9_share 0 = .ok (.aload_n 0, 1) := by decide +kernel
theorem dX9_share_1 : decode cX9_share 1 = .ok (.iload_n 2, 1) := by decide +kernel
theorem dX9_share_2 : decode cX9_share 2 = .ok (.invokevirtual 36, 3) := by decide +kernel
theorem dX9_share_5 : decode cX9_share 5 = .ok (.ireturn, 1) := by decide +kernel
theorem dX9_toldFor_0 : decode cX9_toldFor 0 = .ok (.iload_n 1, 1) := by decide +kernel
theorem dX9_toldFor_1 : decode cX9_toldFor 1 = .ok (.ifCond .lt 18, 3) := by decide +kernel
theorem dX9_toldFor_4 : decode cX9_toldFor 4 = .ok (.iload_n 1, 1) := by decide +kernel
theorem dX9_toldFor_5 : decode cX9_toldFor 5 = .ok (.bipush 8, 2) := by decide +kernel
theorem dX9_toldFor_7 : decode cX9_toldFor 7 = .ok (.if_icmp .ge 12, 3) := by decide +kernel
theorem dX9_toldFor_10 : decode cX9_toldFor 10 = .ok (.aload_n 0, 1) := by decide +kernel
theorem dX9_toldFor_11 : decode cX9_toldFor 11 = .ok (.getfield 9, 3) := by decide +kernel
theorem dX9_toldFor_14 : decode cX9_toldFor 14 = .ok (.iload_n 1, 1) := by decide +kernel
theorem dX9_toldFor_15 : decode cX9_toldFor 15 = .ok (.iaload, 1) := by decide +kernel
theorem dX9_toldFor_16 : decode cX9_toldFor 16 = .ok (.goto 4, 3) := by decide +kernel
theorem dX9_toldFor_19 : decode cX9_toldFor 19 = .ok (.iconst 0, 1) := by decide +kernel
theorem dX9_toldFor_20 : decode cX9_toldFor 20 = .ok (.ireturn, 1) := by decide +kernel
theorem dX10_init_0 : decode cX10_init 0 = .ok (.aload_n 0, 1) := by decide +kernel
theorem dX10_init_1 : decode cX10_init 1 = .ok (.invokespecial 3, 3) := by decide +kernel
theorem dX10_init_4 : decode cX10_init 4 = .ok (.aload_n 0, 1) := by decide +kernel
theorem dX10_init_5 : decode cX10_init 5 = .ok (.bipush 13, 2) := by decide +kernel
theorem dX10_init_7 : decode cX10_init 7 = .ok (.bipush 8, 2) := by decide +kernel
theorem dX10_init_9 : decode cX10_init 9 = .ok (.multianewarray 9 2, 4) := by decide +kernel
theorem dX10_init_13 : decode cX10_init 13 = .ok (.putfield 11, 3) := by decide +kernel
theorem dX10_init_16 : decode cX10_init 16 = .ok (.aload_n 0, 1) := by decide +kernel
theorem dX10_init_17 : decode cX10_init 17 = .ok (.bipush 12, 2) := by decide +kernel
theorem dX10_init_19 : decode cX10_init 19 = .ok (.bipush 8, 2) := by decide +kernel
theorem dX10_init_21 : decode cX10_init 21 = .ok (.multianewarray 9 2, 4) := by decide +kernel
theorem dX10_init_25 : decode cX10_init 25 = .ok (.putfield 16, 3) := by decide +kernel
theorem dX10_init_28 : decode cX10_init 28 = .ok (.aload_n 0, 1) := by decide +kernel
theorem dX10_init_29 : decode cX10_init 29 = .ok (.bipush 13, 2) := by decide +kernel
theorem dX10_init_31 : decode cX10_init 31 = .ok (.newarray .int, 2) := by decide +kernel
theorem dX10_init_33 : decode cX10_init 33 = .ok (.putfield 19, 3) := by decide +kernel
theorem dX10_init_36 : decode cX10_init 36 = .ok (.aload_n 0, 1) := by decide +kernel
theorem dX10_init_37 : decode cX10_init 37 = .ok (.bipush 13, 2) := by decide +kernel
theorem dX10_init_39 : decode cX10_init 39 = .ok (.newarray .int, 2) := by decide +kernel
theorem dX10_init_41 : decode cX10_init 41 = .ok (.putfield 23, 3) := by decide +kernel
theorem dX10_init_44 : decode cX10_init 44 = .ok (.aload_n 0, 1) := by decide +kernel
theorem dX10_init_45 : decode cX10_init 45 = .ok (.bipush 8, 2) := by decide +kernel
theorem dX10_init_47 : decode cX10_init 47 = .ok (.newarray .long, 2) := by decide +kernel
theorem dX10_init_49 : decode cX10_init 49 = .ok (.putfield 26, 3) := by decide +kernel
theorem dX10_init_52 : decode cX10_init 52 = .ok (.aload_n 0, 1) := by decide +kernel
theorem dX10_init_53 : decode cX10_init 53 = .ok (.bipush 6, 2) := by decide +kernel
theorem dX10_init_55 : decode cX10_init 55 = .ok (.newarray .int, 2) := by decide +kernel
theorem dX10_init_57 : decode cX10_init 57 = .ok (.putfield 30, 3) := by decide +kernel
theorem dX10_init_60 : decode cX10_init 60 = .ok (.aload_n 0, 1) := by decide +kernel
theorem dX10_init_61 : decode cX10_init 61 = .ok (.sipush 160, 3) := by decide +kernel
theorem dX10_init_64 : decode cX10_init 64 = .ok (.newarray .int, 2) := by decide +kernel
theorem dX10_init_66 : decode cX10_init 66 = .ok (.putfield 33, 3) := by decide +kernel
theorem dX10_init_69 : decode cX10_init 69 = .ok (.aload_n 0, 1) := by decide +kernel
theorem dX10_init_70 : decode cX10_init 70 = .ok (.aload_n 1, 1) := by decide +kernel
theorem dX10_init_71 : decode cX10_init 71 = .ok (.putfield 36, 3) := by decide +kernel
theorem dX10_init_74 : decode cX10_init 74 = .ok (.return_, 1) := by decide +kernel
theorem dX10_sail_0 : decode cX10_sail 0 = .ok (.aload_n 0, 1) := by decide +kernel
theorem dX10_sail_1 : decode cX10_sail 1 = .ok (.aload_n 1, 1) := by decide +kernel
theorem dX10_sail_2 : decode cX10_sail 2 = .ok (.aload_n 0, 1) := by decide +kernel
theorem dX10_sail_3 : decode cX10_sail 3 = .ok (.getfield 36, 3) := by decide +kernel
theorem dX10_sail_6 : decode cX10_sail 6 = .ok (.getfield 40, 3) := by decide +kernel
theorem dX10_sail_9 : decode cX10_sail 9 = .ok (.iconst 2, 1) := by decide +kernel
theorem dX10_sail_10 : decode cX10_sail 10 = .ok (.iaload, 1) := by decide +kernel
theorem dX10_sail_11 : decode cX10_sail 11 = .ok (.sipush 255, 3) := by decide +kernel
theorem dX10_sail_14 : decode cX10_sail 14 = .ok (.iconst (-1), 1) := by decide +kernel
theorem dX10_sail_15 : decode cX10_sail 15 = .ok (.iconst 0, 1) := by decide +kernel
theorem dX10_sail_16 : decode cX10_sail 16 = .ok (.invokevirtual 45, 3) := by decide +kernel
theorem dX10_sail_19 : decode cX10_sail 19 = .ok (.return_, 1) := by decide +kernel
theorem dX10_sailAs_0 : decode cX10_sailAs 0 = .ok (.aload_n 0, 1) := by decide +kernel
theorem dX10_sailAs_1 : decode cX10_sailAs 1 = .ok (.aload_n 1, 1) := by decide +kernel
theorem dX10_sailAs_2 : decode cX10_sailAs 2 = .ok (.putfield 49, 3) := by decide +kernel
theorem dX10_sailAs_5 : decode cX10_sailAs 5 = .ok (.aload_n 0, 1) := by decide +kernel
theorem dX10_sailAs_6 : decode cX10_sailAs 6 = .ok (.iload_n 2, 1) := by decide +kernel
theorem dX10_sailAs_7 : decode cX10_sailAs 7 = .ok (.putfield 53, 3) := by decide +kernel
theorem dX10_sailAs_10 : decode cX10_sailAs 10 = .ok (.aload_n 0, 1) := by decide +kernel
theorem dX10_sailAs_11 : decode cX10_sailAs 11 = .ok (.iload_n 3, 1) := by decide +kernel
theorem dX10_sailAs_12 : decode cX10_sailAs 12 = .ok (.putfield 57, 3) := by decide +kernel
theorem dX10_sailAs_15 : decode cX10_sailAs 15 = .ok (.aload_n 0, 1) := by decide +kernel
theorem dX10_sailAs_16 : decode cX10_sailAs 16 = .ok (.iload 4, 2) := by decide +kernel
theorem dX10_sailAs_18 : decode cX10_sailAs 18 = .ok (.putfield 60, 3) := by decide +kernel
theorem dX10_sailAs_21 : decode cX10_sailAs 21 = .ok (.aload_n 0, 1) := by decide +kernel
theorem dX10_sailAs_22 : decode cX10_sailAs 22 = .ok (.iload 5, 2) := by decide +kernel
theorem dX10_sailAs_24 : decode cX10_sailAs 24 = .ok (.putfield 63, 3) := by decide +kernel
theorem dX10_sailAs_27 : decode cX10_sailAs 27 = .ok (.aload_n 0, 1) := by decide +kernel
theorem dX10_sailAs_28 : decode cX10_sailAs 28 = .ok (.iconst (-1), 1) := by decide +kernel
theorem dX10_sailAs_29 : decode cX10_sailAs 29 = .ok (.putfield 66, 3) := by decide +kernel
theorem dX10_sailAs_32 : decode cX10_sailAs 32 = .ok (.aload_n 0, 1) := by decide +kernel
theorem dX10_sailAs_33 : decode cX10_sailAs 33 = .ok (.getfield 36, 3) := by decide +kernel
theorem dX10_sailAs_36 : decode cX10_sailAs 36 = .ok (.getfield 69, 3) := by decide +kernel
theorem dX10_sailAs_39 : decode cX10_sailAs 39 = .ok (.iconst 0, 1) := by decide +kernel
theorem dX10_sailAs_40 : decode cX10_sailAs 40 = .ok (.aload_n 0, 1) := by decide +kernel
theorem dX10_sailAs_41 : decode cX10_sailAs 41 = .ok (.getfield 11, 3) := by decide +kernel
theorem dX10_sailAs_44 : decode cX10_sailAs 44 = .ok (.iconst 0, 1) := by decide +kernel
theorem dX10_sailAs_45 : decode cX10_sailAs 45 = .ok (.aaload, 1) := by decide +kernel
theorem dX10_sailAs_46 : decode cX10_sailAs 46 = .ok (.iconst 0, 1) := by decide +kernel
theorem dX10_sailAs_47 : decode cX10_sailAs 47 = .ok (.bipush 8, 2) := by decide +kernel
theorem dX10_sailAs_49 : decode cX10_sailAs 49 = .ok (.invokestatic 71, 3) := by decide +kernel
theorem dX10_sailAs_52 : decode cX10_sailAs 52 = .ok (.aload_n 0, 1) := by decide +kernel
theorem dX10_sailAs_53 : decode cX10_sailAs 53 = .ok (.getfield 19, 3) := by decide +kernel
theorem dX10_sailAs_56 : decode cX10_sailAs 56 = .ok (.iconst 0, 1) := by decide +kernel
theorem dX10_sailAs_57 : decode cX10_sailAs 57 = .ok (.aload_n 0, 1) := by decide +kernel
theorem dX10_sailAs_58 : decode cX10_sailAs 58 = .ok (.getfield 36, 3) := by decide +kernel
theorem dX10_sailAs_61 : decode cX10_sailAs 61 = .ok (.getfield 40, 3) := by decide +kernel
theorem dX10_sailAs_64 : decode cX10_sailAs 64 = .ok (.iconst 1, 1) := by decide +kernel
theorem dX10_sailAs_65 : decode cX10_sailAs 65 = .ok (.iaload, 1) := by decide +kernel
theorem dX10_sailAs_66 : decode cX10_sailAs 66 = .ok (.iastore, 1) := by decide +kernel
theorem dX10_sailAs_67 : decode cX10_sailAs 67 = .ok (.aload_n 0, 1) := by decide +kernel
theorem dX10_sailAs_68 : decode cX10_sailAs 68 = .ok (.getfield 23, 3) := by decide +kernel
theorem dX10_sailAs_71 : decode cX10_sailAs 71 = .ok (.iconst 0, 1) := by decide +kernel
theorem dX10_sailAs_72 : decode cX10_sailAs 72 = .ok (.iconst 0, 1) := by decide +kernel
theorem dX10_sailAs_73 : decode cX10_sailAs 73 = .ok (.iastore, 1) := by decide +kernel
theorem dX10_sailAs_74 : decode cX10_sailAs 74 = .ok (.iconst 0, 1) := by decide +kernel
theorem dX10_sailAs_75 : decode cX10_sailAs 75 = .ok (.istore 6, 2) := by decide +kernel
theorem dX10_sailAs_77 : decode cX10_sailAs 77 = .ok (.iload 6, 2) := by decide +kernel
theorem dX10_sailAs_79 : decode cX10_sailAs 79 = .ok (.bipush 12, 2) := by decide +kernel
theorem dX10_sailAs_81 : decode cX10_sailAs 81 = .ok (.if_icmp .ge 129, 3) := by decide +kernel
theorem dX10_sailAs_84 : decode cX10_sailAs 84 = .ok (.iload 6, 2) := by decide +kernel
theorem dX10_sailAs_86 : decode cX10_sailAs 86 = .ok (.aload_n 0, 1) := by decide +kernel
theorem dX10_sailAs_87 : decode cX10_sailAs 87 = .ok (.getfield 36, 3) := by decide +kernel
theorem dX10_sailAs_90 : decode cX10_sailAs 90 = .ok (.getfield 40, 3) := by decide +kernel
theorem dX10_sailAs_93 : decode cX10_sailAs 93 = .ok (.iconst 0, 1) := by decide +kernel
theorem dX10_sailAs_94 : decode cX10_sailAs 94 = .ok (.iaload, 1) := by decide +kernel
theorem dX10_sailAs_95 : decode cX10_sailAs 95 = .ok (.if_icmp .ge 115, 3) := by decide +kernel
theorem dX10_sailAs_98 : decode cX10_sailAs 98 = .ok (.aload_n 0, 1) := by decide +kernel
theorem dX10_sailAs_99 : decode cX10_sailAs 99 = .ok (.iload 6, 2) := by decide +kernel
theorem dX10_sailAs_101 : decode cX10_sailAs 101 = .ok (.putfield 77, 3) := by decide +kernel
theorem dX10_sailAs_104 : decode cX10_sailAs 104 = .ok (.aload_n 0, 1) := by decide +kernel
theorem dX10_sailAs_105 : decode cX10_sailAs 105 = .ok (.invokevirtual 80, 3) := by decide +kernel
theorem dX10_sailAs_108 : decode cX10_sailAs 108 = .ok (.aload_n 0, 1) := by decide +kernel
theorem dX10_sailAs_109 : decode cX10_sailAs 109 = .ok (.getfield 66, 3) := by decide +kernel
theorem dX10_sailAs_112 : decode cX10_sailAs 112 = .ok (.iconst (-1), 1) := by decide +kernel
theorem dX10_sailAs_113 : decode cX10_sailAs 113 = .ok (.if_icmp .ne 91, 3) := by decide +kernel
theorem dX10_sailAs_116 : decode cX10_sailAs 116 = .ok (.aload_n 0, 1) := by decide +kernel
theorem dX10_sailAs_117 : decode cX10_sailAs 117 = .ok (.iload 6, 2) := by decide +kernel
theorem dX10_sailAs_119 : decode cX10_sailAs 119 = .ok (.invokevirtual 83, 3) := by decide +kernel
theorem dX10_sailAs_122 : decode cX10_sailAs 122 = .ok (.ifCond .le 82, 3) := by decide +kernel
theorem dX10_sailAs_125 : decode cX10_sailAs 125 = .ok (.aload_n 0, 1) := by decide +kernel
theorem dX10_sailAs_126 : decode cX10_sailAs 126 = .ok (.getfield 19, 3) := by decide +kernel
theorem dX10_sailAs_129 : decode cX10_sailAs 129 = .ok (.iload 6, 2) := by decide +kernel
theorem dX10_sailAs_131 : decode cX10_sailAs 131 = .ok (.iconst 1, 1) := by decide +kernel
theorem dX10_sailAs_132 : decode cX10_sailAs 132 = .ok (.iadd, 1) := by decide +kernel
theorem dX10_sailAs_133 : decode cX10_sailAs 133 = .ok (.sipush 9999, 3) := by decide +kernel
theorem dX10_sailAs_136 : decode cX10_sailAs 136 = .ok (.aload_n 0, 1) := by decide +kernel
theorem dX10_sailAs_137 : decode cX10_sailAs 137 = .ok (.getfield 19, 3) := by decide +kernel
theorem dX10_sailAs_140 : decode cX10_sailAs 140 = .ok (.iload 6, 2) := by decide +kernel
theorem dX10_sailAs_142 : decode cX10_sailAs 142 = .ok (.iaload, 1) := by decide +kernel
theorem dX10_sailAs_143 : decode cX10_sailAs 143 = .ok (.aload_n 0, 1) := by decide +kernel
theorem dX10_sailAs_144 : decode cX10_sailAs 144 = .ok (.getfield 36, 3) := by decide +kernel
theorem dX10_sailAs_147 : decode cX10_sailAs 147 = .ok (.getfield 87, 3) := by decide +kernel
theorem dX10_sailAs_150 : decode cX10_sailAs 150 = .ok (.iload 6, 2) := by decide +kernel
theorem dX10_sailAs_152 : decode cX10_sailAs 152 = .ok (.iaload, 1) := by decide +kernel
theorem dX10_sailAs_153 : decode cX10_sailAs 153 = .ok (.iadd, 1) := by decide +kernel
theorem dX10_sailAs_154 : decode cX10_sailAs 154 = .ok (.invokestatic 90, 3) := by decide +kernel
theorem dX10_sailAs_157 : decode cX10_sailAs 157 = .ok (.iastore, 1) := by decide +kernel
theorem dX10_sailAs_158 : decode cX10_sailAs 158 = .ok (.aload_n 0, 1) := by decide +kernel
theorem dX10_sailAs_159 : decode cX10_sailAs 159 = .ok (.invokevirtual 96, 3) := by decide +kernel
theorem dX10_sailAs_162 : decode cX10_sailAs 162 = .ok (.aload_n 0, 1) := by decide +kernel
theorem dX10_sailAs_163 : decode cX10_sailAs 163 = .ok (.invokevirtual 99, 3) := by decide +kernel
theorem dX10_sailAs_166 : decode cX10_sailAs 166 = .ok (.aload_n 0, 1) := by decide +kernel
theorem dX10_sailAs_167 : decode cX10_sailAs 167 = .ok (.getfield 23, 3) := by decide +kernel
theorem dX10_sailAs_170 : decode cX10_sailAs 170 = .ok (.iload 6, 2) := by decide +kernel
theorem dX10_sailAs_172 : decode cX10_sailAs 172 = .ok (.iconst 1, 1) := by decide +kernel
theorem dX10_sailAs_173 : decode cX10_sailAs 173 = .ok (.iadd, 1) := by decide +kernel
theorem dX10_sailAs_174 : decode cX10_sailAs 174 = .ok (.iaload, 1) := by decide +kernel
theorem dX10_sailAs_175 : decode cX10_sailAs 175 = .ok (.aload_n 0, 1) := by decide +kernel
theorem dX10_sailAs_176 : decode cX10_sailAs 176 = .ok (.getfield 36, 3) := by decide +kernel
theorem dX10_sailAs_179 : decode cX10_sailAs 179 = .ok (.getfield 40, 3) := by decide +kernel
theorem dX10_sailAs_182 : decode cX10_sailAs 182 = .ok (.iconst 3, 1) := by decide +kernel
theorem dX10_sailAs_183 : decode cX10_sailAs 183 = .ok (.iaload, 1) := by decide +kernel
theorem dX10_sailAs_184 : decode cX10_sailAs 184 = .ok (.if_icmp .lt 20, 3) := by decide +kernel
theorem dX10_sailAs_187 : decode cX10_sailAs 187 = .ok (.aload_n 0, 1) := by decide +kernel
theorem dX10_sailAs_188 : decode cX10_sailAs 188 = .ok (.iload 6, 2) := by decide +kernel
theorem dX10_sailAs_190 : decode cX10_sailAs 190 = .ok (.iconst 1, 1) := by decide +kernel
theorem dX10_sailAs_191 : decode cX10_sailAs 191 = .ok (.iadd, 1) := by decide +kernel
theorem dX10_sailAs_192 : decode cX10_sailAs 192 = .ok (.invokevirtual 83, 3) := by decide +kernel
theorem dX10_sailAs_195 : decode cX10_sailAs 195 = .ok (.ifCond .le 9, 3) := by decide +kernel
theorem dX10_sailAs_198 : decode cX10_sailAs 198 = .ok (.aload_n 0, 1) := by decide +kernel
theorem dX10_sailAs_199 : decode cX10_sailAs 199 = .ok (.iload 6, 2) := by decide +kernel
theorem dX10_sailAs_201 : decode cX10_sailAs 201 = .ok (.putfield 66, 3) := by decide +kernel
theorem dX10_sailAs_204 : decode cX10_sailAs 204 = .ok (.iinc 6 1, 3) := by decide +kernel
theorem dX10_sailAs_207 : decode cX10_sailAs 207 = .ok (.goto (-130), 3) := by decide +kernel
theorem dX10_sailAs_210 : decode cX10_sailAs 210 = .ok (.aload_n 0, 1) := by decide +kernel
theorem dX10_sailAs_211 : decode cX10_sailAs 211 = .ok (.invokevirtual 102, 3) := by decide +kernel
theorem dX10_sailAs_214 : decode cX10_sailAs 214 = .ok (.return_, 1) := by decide +kernel
theorem dX10_carryOver_0 : decode cX10_carryOver 0 = .ok (.aload_n 0, 1) := by decide +kernel
theorem dX10_carryOver_1 : decode cX10_carryOver 1 = .ok (.getfield 11, 3) := by decide +kernel
theorem dX10_carryOver_4 : decode cX10_carryOver 4 = .ok (.aload_n 0, 1) := by decide +kernel
theorem dX10_carryOver_5 : decode cX10_carryOver 5 = .ok (.getfield 77, 3) := by decide +kernel
theorem dX10_carryOver_8 : decode cX10_carryOver 8 = .ok (.aaload, 1) := by decide +kernel
theorem dX10_carryOver_9 : decode cX10_carryOver 9 = .ok (.iconst 0, 1) := by decide +kernel
theorem dX10_carryOver_10 : decode cX10_carryOver 10 = .ok (.aload_n 0, 1) := by decide +kernel
theorem dX10_carryOver_11 : decode cX10_carryOver 11 = .ok (.getfield 11, 3) := by decide +kernel
theorem dX10_carryOver_14 : decode cX10_carryOver 14 = .ok (.aload_n 0, 1) := by decide +kernel
theorem dX10_carryOver_15 : decode cX10_carryOver 15 = .ok (.getfield 77, 3) := by decide +kernel
theorem dX10_carryOver_18 : decode cX10_carryOver 18 = .ok (.iconst 1, 1) := by decide +kernel
theorem dX10_carryOver_19 : decode cX10_carryOver 19 = .ok (.iadd, 1) := by decide +kernel
theorem dX10_carryOver_20 : decode cX10_carryOver 20 = .ok (.aaload, 1) := by decide +kernel
theorem dX10_carryOver_21 : decode cX10_carryOver 21 = .ok (.iconst 0, 1) := by decide +kernel
theorem dX10_carryOver_22 : decode cX10_carryOver 22 = .ok (.bipush 8, 2) := by decide +kernel
theorem dX10_carryOver_24 : decode cX10_carryOver 24 = .ok (.invokestatic 71, 3) := by decide +kernel
theorem dX10_carryOver_27 : decode cX10_carryOver 27 = .ok (.aload_n 0, 1) := by decide +kernel
theorem dX10_carryOver_28 : decode cX10_carryOver 28 = .ok (.getfield 16, 3) := by decide +kernel
theorem dX10_carryOver_31 : decode cX10_carryOver 31 = .ok (.aload_n 0, 1) := by decide +kernel
theorem dX10_carryOver_32 : decode cX10_carryOver 32 = .ok (.getfield 77, 3) := by decide +kernel
theorem dX10_carryOver_35 : decode cX10_carryOver 35 = .ok (.aaload, 1) := by decide +kernel
theorem dX10_carryOver_36 : decode cX10_carryOver 36 = .ok (.iconst 0, 1) := by decide +kernel
theorem dX10_carryOver_37 : decode cX10_carryOver 37 = .ok (.invokestatic 105, 3) := by decide +kernel
theorem dX10_carryOver_40 : decode cX10_carryOver 40 = .ok (.aload_n 0, 1) := by decide +kernel
theorem dX10_carryOver_41 : decode cX10_carryOver 41 = .ok (.getfield 19, 3) := by decide +kernel
theorem dX10_carryOver_44 : decode cX10_carryOver 44 = .ok (.aload_n 0, 1) := by decide +kernel
theorem dX10_carryOver_45 : decode cX10_carryOver 45 = .ok (.getfield 77, 3) := by decide +kernel
theorem dX10_carryOver_48 : decode cX10_carryOver 48 = .ok (.iconst 1, 1) := by decide +kernel
theorem dX10_carryOver_49 : decode cX10_carryOver 49 = .ok (.iadd, 1) := by decide +kernel
theorem dX10_carryOver_50 : decode cX10_carryOver 50 = .ok (.aload_n 0, 1) := by decide +kernel
theorem dX10_carryOver_51 : decode cX10_carryOver 51 = .ok (.getfield 19, 3) := by decide +kernel
theorem dX10_carryOver_54 : decode cX10_carryOver 54 = .ok (.aload_n 0, 1) := by decide +kernel
theorem dX10_carryOver_55 : decode cX10_carryOver 55 = .ok (.getfield 77, 3) := by decide +kernel
theorem dX10_carryOver_58 : decode cX10_carryOver 58 = .ok (.iaload, 1) := by decide +kernel
theorem dX10_carryOver_59 : decode cX10_carryOver 59 = .ok (.iastore, 1) := by decide +kernel
theorem dX10_carryOver_60 : decode cX10_carryOver 60 = .ok (.aload_n 0, 1) := by decide +kernel
theorem dX10_carryOver_61 : decode cX10_carryOver 61 = .ok (.getfield 23, 3) := by decide +kernel
theorem dX10_carryOver_64 : decode cX10_carryOver 64 = .ok (.aload_n 0, 1) := by decide +kernel
theorem dX10_carryOver_65 : decode cX10_carryOver 65 = .ok (.getfield 77, 3) := by decide +kernel
theorem dX10_carryOver_68 : decode cX10_carryOver 68 = .ok (.iconst 1, 1) := by decide +kernel
theorem dX10_carryOver_69 : decode cX10_carryOver 69 = .ok (.iadd, 1) := by decide +kernel
theorem dX10_carryOver_70 : decode cX10_carryOver 70 = .ok (.aload_n 0, 1) := by decide +kernel
theorem dX10_carryOver_71 : decode cX10_carryOver 71 = .ok (.getfield 23, 3) := by decide +kernel
theorem dX10_carryOver_74 : decode cX10_carryOver 74 = .ok (.aload_n 0, 1) := by decide +kernel
theorem dX10_carryOver_75 : decode cX10_carryOver 75 = .ok (.getfield 77, 3) := by decide +kernel
theorem dX10_carryOver_78 : decode cX10_carryOver 78 = .ok (.iaload, 1) := by decide +kernel
theorem dX10_carryOver_79 : decode cX10_carryOver 79 = .ok (.iastore, 1) := by decide +kernel
theorem dX10_carryOver_80 : decode cX10_carryOver 80 = .ok (.return_, 1) := by decide +kernel
theorem dX10_living_0 : decode cX10_living 0 = .ok (.iconst 0, 1) := by decide +kernel
theorem dX10_living_1 : decode cX10_living 1 = .ok (.istore_n 2, 1) := by decide +kernel
theorem dX10_living_2 : decode cX10_living 2 = .ok (.iconst 0, 1) := by decide +kernel
theorem dX10_living_3 : decode cX10_living 3 = .ok (.istore_n 3, 1) := by decide +kernel
theorem dX10_living_4 : decode cX10_living 4 = .ok (.iload_n 3, 1) := by decide +kernel
theorem dX10_living_5 : decode cX10_living 5 = .ok (.aload_n 0, 1) := by decide +kernel
theorem dX10_living_6 : decode cX10_living 6 = .ok (.getfield 36, 3) := by decide +kernel
theorem dX10_living_9 : decode cX10_living 9 = .ok (.getfield 111, 3) := by decide +kernel
theorem dX10_living_12 : decode cX10_living 12 = .ok (.if_icmp .ge 23, 3) := by decide +kernel
theorem dX10_living_15 : decode cX10_living 15 = .ok (.aload_n 0, 1) := by decide +kernel
theorem dX10_living_16 : decode cX10_living 16 = .ok (.getfield 11, 3) := by decide +kernel
theorem dX10_living_19 : decode cX10_living 19 = .ok (.iload_n 1, 1) := by decide +kernel
theorem dX10_living_20 : decode cX10_living 20 = .ok (.aaload, 1) := by decide +kernel
theorem dX10_living_21 : decode cX10_living 21 = .ok (.iload_n 3, 1) := by decide +kernel
theorem dX10_living_22 : decode cX10_living 22 = .ok (.iaload, 1) := by decide +kernel
theorem dX10_living_23 : decode cX10_living 23 = .ok (.ifCond .le 6, 3) := by decide +kernel
theorem dX10_living_26 : decode cX10_living 26 = .ok (.iinc 2 1, 3) := by decide +kernel
theorem dX10_living_29 : decode cX10_living 29 = .ok (.iinc 3 1, 3) := by decide +kernel
theorem dX10_living_32 : decode cX10_living 32 = .ok (.goto (-28), 3) := by decide +kernel
theorem dX10_living_35 : decode cX10_living 35 = .ok (.iload_n 2, 1) := by decide +kernel
theorem dX10_living_36 : decode cX10_living 36 = .ok (.ireturn, 1) := by decide +kernel
theorem dX10_drinks_0 : decode cX10_drinks 0 = .ok (.aload_n 0, 1) := by decide +kernel
theorem dX10_drinks_1 : decode cX10_drinks 1 = .ok (.getfield 11, 3) := by decide +kernel
theorem dX10_drinks_4 : decode cX10_drinks 4 = .ok (.aload_n 0, 1) := by decide +kernel
theorem dX10_drinks_5 : decode cX10_drinks 5 = .ok (.getfield 77, 3) := by decide +kernel
theorem dX10_drinks_8 : decode cX10_drinks 8 = .ok (.aaload, 1) := by decide +kernel
theorem dX10_drinks_9 : decode cX10_drinks 9 = .ok (.iload_n 1, 1) := by decide +kernel
theorem dX10_drinks_10 : decode cX10_drinks 10 = .ok (.iaload, 1) := by decide +kernel
theorem dX10_drinks_11 : decode cX10_drinks 11 = .ok (.ifCond .le 19, 3) := by decide +kernel
theorem dX10_drinks_14 : decode cX10_drinks 14 = .ok (.aload_n 0, 1) := by decide +kernel
theorem dX10_drinks_15 : decode cX10_drinks 15 = .ok (.getfield 57, 3) := by decide +kernel
theorem dX10_drinks_18 : decode cX10_drinks 18 = .ok (.iload_n 1, 1) := by decide +kernel
theorem dX10_drinks_19 : decode cX10_drinks 19 = .ok (.ishr, 1) := by decide +kernel
theorem dX10_drinks_20 : decode cX10_drinks 20 = .ok (.iconst 1, 1) := by decide +kernel
theorem dX10_drinks_21 : decode cX10_drinks 21 = .ok (.iand, 1) := by decide +kernel
theorem dX10_drinks_22 : decode cX10_drinks 22 = .ok (.iconst 1, 1) := by decide +kernel
theorem dX10_drinks_23 : decode cX10_drinks 23 = .ok (.if_icmp .ne 7, 3) := by decide +kernel
theorem dX10_drinks_26 : decode cX10_drinks 26 = .ok (.iconst 1, 1) := by decide +kernel
theorem dX10_drinks_27 : decode cX10_drinks 27 = .ok (.goto 4, 3) := by decide +kernel
theorem dX10_drinks_30 : decode cX10_drinks 30 = .ok (.iconst 0, 1) := by decide +kernel
theorem dX10_drinks_31 : decode cX10_drinks 31 = .ok (.ireturn, 1) := by decide +kernel
theorem dX10_drink_0 : decode cX10_drink 0 = .ok (.aload_n 0, 1) := by decide +kernel
theorem dX10_drink_1 : decode cX10_drink 1 = .ok (.iconst 0, 1) := by decide +kernel
theorem dX10_drink_2 : decode cX10_drink 2 = .ok (.putfield 114, 3) := by decide +kernel
theorem dX10_drink_5 : decode cX10_drink 5 = .ok (.iconst 0, 1) := by decide +kernel
theorem dX10_drink_6 : decode cX10_drink 6 = .ok (.istore_n 1, 1) := by decide +kernel
theorem dX10_drink_7 : decode cX10_drink 7 = .ok (.iload_n 1, 1) := by decide +kernel
theorem dX10_drink_8 : decode cX10_drink 8 = .ok (.aload_n 0, 1) := by decide +kernel
theorem dX10_drink_9 : decode cX10_drink 9 = .ok (.getfield 36, 3) := by decide +kernel
theorem dX10_drink_12 : decode cX10_drink 12 = .ok (.getfield 111, 3) := by decide +kernel
theorem dX10_drink_15 : decode cX10_drink 15 = .ok (.if_icmp .ge 27, 3) := by decide +kernel
theorem dX10_drink_18 : decode cX10_drink 18 = .ok (.aload_n 0, 1) := by decide +kernel
theorem dX10_drink_19 : decode cX10_drink 19 = .ok (.iload_n 1, 1) := by decide +kernel
theorem dX10_drink_20 : decode cX10_drink 20 = .ok (.invokevirtual 117, 3) := by decide +kernel
theorem dX10_drink_23 : decode cX10_drink 23 = .ok (.ifCond .eq 13, 3) := by decide +kernel
theorem dX10_drink_26 : decode cX10_drink 26 = .ok (.aload_n 0, 1) := by decide +kernel
theorem dX10_drink_27 : decode cX10_drink 27 = .ok (.dup, 1) := by decide +kernel
theorem dX10_drink_28 : decode cX10_drink 28 = .ok (.getfield 114, 3) := by decide +kernel
theorem dX10_drink_31 : decode cX10_drink 31 = .ok (.iconst 1, 1) := by decide +kernel
theorem dX10_drink_32 : decode cX10_drink 32 = .ok (.iadd, 1) := by decide +kernel
theorem dX10_drink_33 : decode cX10_drink 33 = .ok (.putfield 114, 3) := by decide +kernel
theorem dX10_drink_36 : decode cX10_drink 36 = .ok (.iinc 1 1, 3) := by decide +kernel
theorem dX10_drink_39 : decode cX10_drink 39 = .ok (.goto (-32), 3) := by decide +kernel
theorem dX10_drink_42 : decode cX10_drink 42 = .ok (.aload_n 0, 1) := by decide +kernel
theorem dX10_drink_43 : decode cX10_drink 43 = .ok (.getfield 53, 3) := by decide +kernel
theorem dX10_drink_46 : decode cX10_drink 46 = .ok (.istore_n 1, 1) := by decide +kernel
theorem dX10_drink_47 : decode cX10_drink 47 = .ok (.aload_n 0, 1) := by decide +kernel
theorem dX10_drink_48 : decode cX10_drink 48 = .ok (.iconst 0, 1) := by decide +kernel
theorem dX10_drink_49 : decode cX10_drink 49 = .ok (.putfield 121, 3) := by decide +kernel
theorem dX10_drink_52 : decode cX10_drink 52 = .ok (.iconst 0, 1) := by decide +kernel
theorem dX10_drink_53 : decode cX10_drink 53 = .ok (.istore_n 2, 1) := by decide +kernel
theorem dX10_drink_54 : decode cX10_drink 54 = .ok (.iload_n 2, 1) := by decide +kernel
theorem dX10_drink_55 : decode cX10_drink 55 = .ok (.aload_n 0, 1) := by decide +kernel
theorem dX10_drink_56 : decode cX10_drink 56 = .ok (.getfield 36, 3) := by decide +kernel
theorem dX10_drink_59 : decode cX10_drink 59 = .ok (.getfield 111, 3) := by decide +kernel
theorem dX10_drink_62 : decode cX10_drink 62 = .ok (.if_icmp .ge 92, 3) := by decide +kernel
theorem dX10_drink_65 : decode cX10_drink 65 = .ok (.aload_n 0, 1) := by decide +kernel
theorem dX10_drink_66 : decode cX10_drink 66 = .ok (.iload_n 2, 1) := by decide +kernel
theorem dX10_drink_67 : decode cX10_drink 67 = .ok (.invokevirtual 117, 3) := by decide +kernel
theorem dX10_drink_70 : decode cX10_drink 70 = .ok (.ifCond .eq 78, 3) := by decide +kernel
theorem dX10_drink_73 : decode cX10_drink 73 = .ok (.iload_n 1, 1) := by decide +kernel
theorem dX10_drink_74 : decode cX10_drink 74 = .ok (.aload_n 0, 1) := by decide +kernel
theorem dX10_drink_75 : decode cX10_drink 75 = .ok (.getfield 19, 3) := by decide +kernel
theorem dX10_drink_78 : decode cX10_drink 78 = .ok (.aload_n 0, 1) := by decide +kernel
theorem dX10_drink_79 : decode cX10_drink 79 = .ok (.getfield 77, 3) := by decide +kernel
theorem dX10_drink_82 : decode cX10_drink 82 = .ok (.iconst 1, 1) := by decide +kernel
theorem dX10_drink_83 : decode cX10_drink 83 = .ok (.iadd, 1) := by decide +kernel
theorem dX10_drink_84 : decode cX10_drink 84 = .ok (.iaload, 1) := by decide +kernel
theorem dX10_drink_85 : decode cX10_drink 85 = .ok (.invokestatic 90, 3) := by decide +kernel
theorem dX10_drink_88 : decode cX10_drink 88 = .ok (.istore_n 3, 1) := by decide +kernel
theorem dX10_drink_89 : decode cX10_drink 89 = .ok (.iload_n 3, 1) := by decide +kernel
theorem dX10_drink_90 : decode cX10_drink 90 = .ok (.aload_n 0, 1) := by decide +kernel
theorem dX10_drink_91 : decode cX10_drink 91 = .ok (.getfield 49, 3) := by decide +kernel
theorem dX10_drink_94 : decode cX10_drink 94 = .ok (.aload_n 0, 1) := by decide +kernel
theorem dX10_drink_95 : decode cX10_drink 95 = .ok (.iload_n 2, 1) := by decide +kernel
theorem dX10_drink_96 : decode cX10_drink 96 = .ok (.invokevirtual 124, 3) := by decide +kernel
theorem dX10_drink_99 : decode cX10_drink 99 = .ok (.invokestatic 90, 3) := by decide +kernel
theorem dX10_drink_102 : decode cX10_drink 102 = .ok (.istore 4, 2) := by decide +kernel
theorem dX10_drink_104 : decode cX10_drink 104 = .ok (.aload_n 0, 1) := by decide +kernel
theorem dX10_drink_105 : decode cX10_drink 105 = .ok (.getfield 16, 3) := by decide +kernel
theorem dX10_drink_108 : decode cX10_drink 108 = .ok (.aload_n 0, 1) := by decide +kernel
theorem dX10_drink_109 : decode cX10_drink 109 = .ok (.getfield 77, 3) := by decide +kernel
theorem dX10_drink_112 : decode cX10_drink 112 = .ok (.aaload, 1) := by decide +kernel
theorem dX10_drink_113 : decode cX10_drink 113 = .ok (.iload_n 2, 1) := by decide +kernel
theorem dX10_drink_114 : decode cX10_drink 114 = .ok (.iload 4, 2) := by decide +kernel
theorem dX10_drink_116 : decode cX10_drink 116 = .ok (.iastore, 1) := by decide +kernel
theorem dX10_drink_117 : decode cX10_drink 117 = .ok (.aload_n 0, 1) := by decide +kernel
theorem dX10_drink_118 : decode cX10_drink 118 = .ok (.getfield 19, 3) := by decide +kernel
theorem dX10_drink_121 : decode cX10_drink 121 = .ok (.aload_n 0, 1) := by decide +kernel
theorem dX10_drink_122 : decode cX10_drink 122 = .ok (.getfield 77, 3) := by decide +kernel
theorem dX10_drink_125 : decode cX10_drink 125 = .ok (.iconst 1, 1) := by decide +kernel
theorem dX10_drink_126 : decode cX10_drink 126 = .ok (.iadd, 1) := by decide +kernel
theorem dX10_drink_127 : decode cX10_drink 127 = .ok (.dup2, 1) := by decide +kernel
theorem dX10_drink_128 : decode cX10_drink 128 = .ok (.iaload, 1) := by decide +kernel
theorem dX10_drink_129 : decode cX10_drink 129 = .ok (.iload 4, 2) := by decide +kernel
theorem dX10_drink_131 : decode cX10_drink 131 = .ok (.isub, 1) := by decide +kernel
theorem dX10_drink_132 : decode cX10_drink 132 = .ok (.iastore, 1) := by decide +kernel
theorem dX10_drink_133 : decode cX10_drink 133 = .ok (.iload_n 1, 1) := by decide +kernel
theorem dX10_drink_134 : decode cX10_drink 134 = .ok (.iload 4, 2) := by decide +kernel
theorem dX10_drink_136 : decode cX10_drink 136 = .ok (.isub, 1) := by decide +kernel
theorem dX10_drink_137 : decode cX10_drink 137 = .ok (.istore_n 1, 1) := by decide +kernel
theorem dX10_drink_138 : decode cX10_drink 138 = .ok (.aload_n 0, 1) := by decide +kernel
theorem dX10_drink_139 : decode cX10_drink 139 = .ok (.dup, 1) := by decide +kernel
theorem dX10_drink_140 : decode cX10_drink 140 = .ok (.getfield 121, 3) := by decide +kernel
theorem dX10_drink_143 : decode cX10_drink 143 = .ok (.iconst 1, 1) := by decide +kernel
theorem dX10_drink_144 : decode cX10_drink 144 = .ok (.iadd, 1) := by decide +kernel
theorem dX10_drink_145 : decode cX10_drink 145 = .ok (.putfield 121, 3) := by decide +kernel
theorem dX10_drink_148 : decode cX10_drink 148 = .ok (.iinc 2 1, 3) := by decide +kernel
theorem dX10_drink_151 : decode cX10_drink 151 = .ok (.goto (-97), 3) := by decide +kernel
theorem dX10_drink_154 : decode cX10_drink 154 = .ok (.return_, 1) := by decide +kernel
theorem dX10_rowAndLive_0 : decode cX10_rowAndLive 0 = .ok (.aload_n 0, 1) := by decide +kernel
theorem dX10_rowAndLive_1 : decode cX10_rowAndLive 1 = .ok (.getfield 36, 3) := by decide +kernel
theorem dX10_rowAndLive_4 : decode cX10_rowAndLive 4 = .ok (.getfield 130, 3) := by decide +kernel
theorem dX10_rowAndLive_7 : decode cX10_rowAndLive 7 = .ok (.astore_n 1, 1) := by decide +kernel
theorem dX10_rowAndLive_8 : decode cX10_rowAndLive 8 = .ok (.iconst 0, 1) := by decide +kernel
theorem dX10_rowAndLive_9 : decode cX10_rowAndLive 9 = .ok (.istore_n 2, 1) := by decide +kernel
theorem dX10_rowAndLive_10 : decode cX10_rowAndLive 10 = .ok (.iload_n 2, 1) := by decide +kernel
theorem dX10_rowAndLive_11 : decode cX10_rowAndLive 11 = .ok (.aload_n 0, 1) := by decide +kernel
theorem dX10_rowAndLive_12 : decode cX10_rowAndLive 12 = .ok (.getfield 36, 3) := by decide +kernel
theorem dX10_rowAndLive_15 : decode cX10_rowAndLive 15 = .ok (.getfield 111, 3) := by decide +kernel
theorem dX10_rowAndLive_18 : decode cX10_rowAndLive 18 = .ok (.if_icmp .ge 130, 3) := by decide +kernel
theorem dX10_rowAndLive_21 : decode cX10_rowAndLive 21 = .ok (.aload_n 0, 1) := by decide +kernel
theorem dX10_rowAndLive_22 : decode cX10_rowAndLive 22 = .ok (.getfield 11, 3) := by decide +kernel
theorem dX10_rowAndLive_25 : decode cX10_rowAndLive 25 = .ok (.aload_n 0, 1) := by decide +kernel
theorem dX10_rowAndLive_26 : decode cX10_rowAndLive 26 = .ok (.getfield 77, 3) := by decide +kernel
theorem dX10_rowAndLive_29 : decode cX10_rowAndLive 29 = .ok (.aaload, 1) := by decide +kernel
theorem dX10_rowAndLive_30 : decode cX10_rowAndLive 30 = .ok (.iload_n 2, 1) := by decide +kernel
theorem dX10_rowAndLive_31 : decode cX10_rowAndLive 31 = .ok (.iaload, 1) := by decide +kernel
theorem dX10_rowAndLive_32 : decode cX10_rowAndLive 32 = .ok (.ifCond .le 110, 3) := by decide +kernel
theorem dX10_rowAndLive_35 : decode cX10_rowAndLive 35 = .ok (.aload_n 0, 1) := by decide +kernel
theorem dX10_rowAndLive_36 : decode cX10_rowAndLive 36 = .ok (.iload_n 2, 1) := by decide +kernel
theorem dX10_rowAndLive_37 : decode cX10_rowAndLive 37 = .ok (.invokevirtual 134, 3) := by decide +kernel
theorem dX10_rowAndLive_40 : decode cX10_rowAndLive 40 = .ok (.aload_n 0, 1) := by decide +kernel
theorem dX10_rowAndLive_41 : decode cX10_rowAndLive 41 = .ok (.getfield 23, 3) := by decide +kernel
theorem dX10_rowAndLive_44 : decode cX10_rowAndLive 44 = .ok (.aload_n 0, 1) := by decide +kernel
theorem dX10_rowAndLive_45 : decode cX10_rowAndLive 45 = .ok (.getfield 77, 3) := by decide +kernel
theorem dX10_rowAndLive_48 : decode cX10_rowAndLive 48 = .ok (.iconst 1, 1) := by decide +kernel
theorem dX10_rowAndLive_49 : decode cX10_rowAndLive 49 = .ok (.iadd, 1) := by decide +kernel
theorem dX10_rowAndLive_50 : decode cX10_rowAndLive 50 = .ok (.dup2, 1) := by decide +kernel
theorem dX10_rowAndLive_51 : decode cX10_rowAndLive 51 = .ok (.iaload, 1) := by decide +kernel
theorem dX10_rowAndLive_52 : decode cX10_rowAndLive 52 = .ok (.aload_n 1, 1) := by decide +kernel
theorem dX10_rowAndLive_53 : decode cX10_rowAndLive 53 = .ok (.aload_n 0, 1) := by decide +kernel
theorem dX10_rowAndLive_54 : decode cX10_rowAndLive 54 = .ok (.getfield 30, 3) := by decide +kernel
theorem dX10_rowAndLive_57 : decode cX10_rowAndLive 57 = .ok (.aload_n 0, 1) := by decide +kernel
theorem dX10_rowAndLive_58 : decode cX10_rowAndLive 58 = .ok (.getfield 33, 3) := by decide +kernel
theorem dX10_rowAndLive_61 : decode cX10_rowAndLive 61 = .ok (.invokevirtual 138, 3) := by decide +kernel
theorem dX10_rowAndLive_64 : decode cX10_rowAndLive 64 = .ok (.bipush 99, 2) := by decide +kernel
theorem dX10_rowAndLive_66 : decode cX10_rowAndLive 66 = .ok (.invokestatic 144, 3) := by decide +kernel
theorem dX10_rowAndLive_69 : decode cX10_rowAndLive 69 = .ok (.iadd, 1) := by decide +kernel
theorem dX10_rowAndLive_70 : decode cX10_rowAndLive 70 = .ok (.iastore, 1) := by decide +kernel
theorem dX10_rowAndLive_71 : decode cX10_rowAndLive 71 = .ok (.aload_n 1, 1) := by decide +kernel
theorem dX10_rowAndLive_72 : decode cX10_rowAndLive 72 = .ok (.aload_n 0, 1) := by decide +kernel
theorem dX10_rowAndLive_73 : decode cX10_rowAndLive 73 = .ok (.getfield 30, 3) := by decide +kernel
theorem dX10_rowAndLive_76 : decode cX10_rowAndLive 76 = .ok (.aload_n 0, 1) := by decide +kernel
theorem dX10_rowAndLive_77 : decode cX10_rowAndLive 77 = .ok (.getfield 33, 3) := by decide +kernel
theorem dX10_rowAndLive_80 : decode cX10_rowAndLive 80 = .ok (.invokevirtual 147, 3) := by decide +kernel
theorem dX10_rowAndLive_83 : decode cX10_rowAndLive 83 = .ok (.bipush 20, 2) := by decide +kernel
theorem dX10_rowAndLive_85 : decode cX10_rowAndLive 85 = .ok (.invokestatic 144, 3) := by decide +kernel
theorem dX10_rowAndLive_88 : decode cX10_rowAndLive 88 = .ok (.istore_n 3, 1) := by decide +kernel
theorem dX10_rowAndLive_89 : decode cX10_rowAndLive 89 = .ok (.aload_n 0, 1) := by decide +kernel
theorem dX10_rowAndLive_90 : decode cX10_rowAndLive 90 = .ok (.getfield 16, 3) := by decide +kernel
theorem dX10_rowAndLive_93 : decode cX10_rowAndLive 93 = .ok (.aload_n 0, 1) := by decide +kernel
theorem dX10_rowAndLive_94 : decode cX10_rowAndLive 94 = .ok (.getfield 77, 3) := by decide +kernel
theorem dX10_rowAndLive_97 : decode cX10_rowAndLive 97 = .ok (.aaload, 1) := by decide +kernel
theorem dX10_rowAndLive_98 : decode cX10_rowAndLive 98 = .ok (.iload_n 2, 1) := by decide +kernel
theorem dX10_rowAndLive_99 : decode cX10_rowAndLive 99 = .ok (.iaload, 1) := by decide +kernel
theorem dX10_rowAndLive_100 : decode cX10_rowAndLive 100 = .ok (.aload_n 0, 1) := by decide +kernel
theorem dX10_rowAndLive_101 : decode cX10_rowAndLive 101 = .ok (.iload_n 2, 1) := by decide +kernel
theorem dX10_rowAndLive_102 : decode cX10_rowAndLive 102 = .ok (.invokevirtual 150, 3) := by decide +kernel
theorem dX10_rowAndLive_105 : decode cX10_rowAndLive 105 = .ok (.iadd, 1) := by decide +kernel
theorem dX10_rowAndLive_106 : decode cX10_rowAndLive 106 = .ok (.istore 4, 2) := by decide +kernel
theorem dX10_rowAndLive_108 : decode cX10_rowAndLive 108 = .ok (.aload_n 0, 1) := by decide +kernel
theorem dX10_rowAndLive_109 : decode cX10_rowAndLive 109 = .ok (.getfield 11, 3) := by decide +kernel
theorem dX10_rowAndLive_112 : decode cX10_rowAndLive 112 = .ok (.aload_n 0, 1) := by decide +kernel
theorem dX10_rowAndLive_113 : decode cX10_rowAndLive 113 = .ok (.getfield 77, 3) := by decide +kernel
theorem dX10_rowAndLive_116 : decode cX10_rowAndLive 116 = .ok (.iconst 1, 1) := by decide +kernel
theorem dX10_rowAndLive_117 : decode cX10_rowAndLive 117 = .ok (.iadd, 1) := by decide +kernel
theorem dX10_rowAndLive_118 : decode cX10_rowAndLive 118 = .ok (.aaload, 1) := by decide +kernel
theorem dX10_rowAndLive_119 : decode cX10_rowAndLive 119 = .ok (.iload_n 2, 1) := by decide +kernel
theorem dX10_rowAndLive_120 : decode cX10_rowAndLive 120 = .ok (.aload_n 0, 1) := by decide +kernel
theorem dX10_rowAndLive_121 : decode cX10_rowAndLive 121 = .ok (.getfield 11, 3) := by decide +kernel
theorem dX10_rowAndLive_124 : decode cX10_rowAndLive 124 = .ok (.aload_n 0, 1) := by decide +kernel
theorem dX10_rowAndLive_125 : decode cX10_rowAndLive 125 = .ok (.getfield 77, 3) := by decide +kernel
theorem dX10_rowAndLive_128 : decode cX10_rowAndLive 128 = .ok (.aaload, 1) := by decide +kernel
theorem dX10_rowAndLive_129 : decode cX10_rowAndLive 129 = .ok (.iload_n 2, 1) := by decide +kernel
theorem dX10_rowAndLive_130 : decode cX10_rowAndLive 130 = .ok (.iaload, 1) := by decide +kernel
theorem dX10_rowAndLive_131 : decode cX10_rowAndLive 131 = .ok (.iload 4, 2) := by decide +kernel
theorem dX10_rowAndLive_133 : decode cX10_rowAndLive 133 = .ok (.iadd, 1) := by decide +kernel
theorem dX10_rowAndLive_134 : decode cX10_rowAndLive 134 = .ok (.iload_n 3, 1) := by decide +kernel
theorem dX10_rowAndLive_135 : decode cX10_rowAndLive 135 = .ok (.isub, 1) := by decide +kernel
theorem dX10_rowAndLive_136 : decode cX10_rowAndLive 136 = .ok (.bipush 99, 2) := by decide +kernel
theorem dX10_rowAndLive_138 : decode cX10_rowAndLive 138 = .ok (.invokestatic 144, 3) := by decide +kernel
theorem dX10_rowAndLive_141 : decode cX10_rowAndLive 141 = .ok (.iastore, 1) := by decide +kernel
theorem dX10_rowAndLive_142 : decode cX10_rowAndLive 142 = .ok (.iinc 2 1, 3) := by decide +kernel
theorem dX10_rowAndLive_145 : decode cX10_rowAndLive 145 = .ok (.goto (-135), 3) := by decide +kernel
theorem dX10_rowAndLive_148 : decode cX10_rowAndLive 148 = .ok (.return_, 1) := by decide +kernel
theorem dX10_findFacts_0 : decode cX10_findFacts 0 = .ok (.aload_n 0, 1) := by decide +kernel
theorem dX10_findFacts_1 : decode cX10_findFacts 1 = .ok (.getfield 30, 3) := by decide +kernel
theorem dX10_findFacts_4 : decode cX10_findFacts 4 = .ok (.iconst 0, 1) := by decide +kernel
theorem dX10_findFacts_5 : decode cX10_findFacts 5 = .ok (.aload_n 0, 1) := by decide +kernel
theorem dX10_findFacts_6 : decode cX10_findFacts 6 = .ok (.getfield 11, 3) := by decide +kernel
theorem dX10_findFacts_9 : decode cX10_findFacts 9 = .ok (.aload_n 0, 1) := by decide +kernel
theorem dX10_findFacts_10 : decode cX10_findFacts 10 = .ok (.getfield 77, 3) := by decide +kernel
theorem dX10_findFacts_13 : decode cX10_findFacts 13 = .ok (.aaload, 1) := by decide +kernel
theorem dX10_findFacts_14 : decode cX10_findFacts 14 = .ok (.iload_n 1, 1) := by decide +kernel
theorem dX10_findFacts_15 : decode cX10_findFacts 15 = .ok (.iaload, 1) := by decide +kernel
theorem dX10_findFacts_16 : decode cX10_findFacts 16 = .ok (.iastore, 1) := by decide +kernel
theorem dX10_findFacts_17 : decode cX10_findFacts 17 = .ok (.aload_n 0, 1) := by decide +kernel
theorem dX10_findFacts_18 : decode cX10_findFacts 18 = .ok (.getfield 30, 3) := by decide +kernel
theorem dX10_findFacts_21 : decode cX10_findFacts 21 = .ok (.iconst 1, 1) := by decide +kernel
theorem dX10_findFacts_22 : decode cX10_findFacts 22 = .ok (.aload_n 0, 1) := by decide +kernel
theorem dX10_findFacts_23 : decode cX10_findFacts 23 = .ok (.getfield 36, 3) := by decide +kernel
theorem dX10_findFacts_26 : decode cX10_findFacts 26 = .ok (.getfield 153, 3) := by decide +kernel
theorem dX10_findFacts_29 : decode cX10_findFacts 29 = .ok (.iload_n 1, 1) := by decide +kernel
theorem dX10_findFacts_30 : decode cX10_findFacts 30 = .ok (.iaload, 1) := by decide +kernel
theorem dX10_findFacts_31 : decode cX10_findFacts 31 = .ok (.iastore, 1) := by decide +kernel
theorem dX10_findFacts_32 : decode cX10_findFacts 32 = .ok (.aload_n 0, 1) := by decide +kernel
theorem dX10_findFacts_33 : decode cX10_findFacts 33 = .ok (.getfield 30, 3) := by decide +kernel
theorem dX10_findFacts_36 : decode cX10_findFacts 36 = .ok (.iconst 2, 1) := by decide +kernel
theorem dX10_findFacts_37 : decode cX10_findFacts 37 = .ok (.aload_n 0, 1) := by decide +kernel
theorem dX10_findFacts_38 : decode cX10_findFacts 38 = .ok (.getfield 77, 3) := by decide +kernel
theorem dX10_findFacts_41 : decode cX10_findFacts 41 = .ok (.iastore, 1) := by decide +kernel
theorem dX10_findFacts_42 : decode cX10_findFacts 42 = .ok (.aload_n 0, 1) := by decide +kernel
theorem dX10_findFacts_43 : decode cX10_findFacts 43 = .ok (.getfield 30, 3) := by decide +kernel
theorem dX10_findFacts_46 : decode cX10_findFacts 46 = .ok (.iconst 3, 1) := by decide +kernel
theorem dX10_findFacts_47 : decode cX10_findFacts 47 = .ok (.aload_n 0, 1) := by decide +kernel
theorem dX10_findFacts_48 : decode cX10_findFacts 48 = .ok (.getfield 16, 3) := by decide +kernel
theorem dX10_findFacts_51 : decode cX10_findFacts 51 = .ok (.aload_n 0, 1) := by decide +kernel
theorem dX10_findFacts_52 : decode cX10_findFacts 52 = .ok (.getfield 77, 3) := by decide +kernel
theorem dX10_findFacts_55 : decode cX10_findFacts 55 = .ok (.aaload, 1) := by decide +kernel
theorem dX10_findFacts_56 : decode cX10_findFacts 56 = .ok (.iload_n 1, 1) := by decide +kernel
theorem dX10_findFacts_57 : decode cX10_findFacts 57 = .ok (.iaload, 1) := by decide +kernel
theorem dX10_findFacts_58 : decode cX10_findFacts 58 = .ok (.iastore, 1) := by decide +kernel
theorem dX10_findFacts_59 : decode cX10_findFacts 59 = .ok (.aload_n 0, 1) := by decide +kernel
theorem dX10_findFacts_60 : decode cX10_findFacts 60 = .ok (.getfield 30, 3) := by decide +kernel
theorem dX10_findFacts_63 : decode cX10_findFacts 63 = .ok (.iconst 4, 1) := by decide +kernel
theorem dX10_findFacts_64 : decode cX10_findFacts 64 = .ok (.aload_n 0, 1) := by decide +kernel
theorem dX10_findFacts_65 : decode cX10_findFacts 65 = .ok (.getfield 114, 3) := by decide +kernel
theorem dX10_findFacts_68 : decode cX10_findFacts 68 = .ok (.iastore, 1) := by decide +kernel
theorem dX10_findFacts_69 : decode cX10_findFacts 69 = .ok (.aload_n 0, 1) := by decide +kernel
theorem dX10_findFacts_70 : decode cX10_findFacts 70 = .ok (.getfield 30, 3) := by decide +kernel
theorem dX10_findFacts_73 : decode cX10_findFacts 73 = .ok (.iconst 5, 1) := by decide +kernel
theorem dX10_findFacts_74 : decode cX10_findFacts 74 = .ok (.aload_n 0, 1) := by decide +kernel
theorem dX10_findFacts_75 : decode cX10_findFacts 75 = .ok (.getfield 49, 3) := by decide +kernel
theorem dX10_findFacts_78 : decode cX10_findFacts 78 = .ok (.getfield 156, 3) := by decide +kernel
theorem dX10_findFacts_81 : decode cX10_findFacts 81 = .ok (.iastore, 1) := by decide +kernel
theorem dX10_findFacts_82 : decode cX10_findFacts 82 = .ok (.return_, 1) := by decide +kernel
theorem dX10_fromHidden_0 : decode cX10_fromHidden 0 = .ok (.iload_n 1, 1) := by decide +kernel
theorem dX10_fromHidden_1 : decode cX10_fromHidden 1 = .ok (.aload_n 0, 1) := by decide +kernel
theorem dX10_fromHidden_2 : decode cX10_fromHidden 2 = .ok (.getfield 60, 3) := by decide +kernel
theorem dX10_fromHidden_5 : decode cX10_fromHidden 5 = .ok (.if_icmp .ne 10, 3) := by decide +kernel
theorem dX10_fromHidden_8 : decode cX10_fromHidden 8 = .ok (.aload_n 0, 1) := by decide +kernel
theorem dX10_fromHidden_9 : decode cX10_fromHidden 9 = .ok (.getfield 63, 3) := by decide +kernel
theorem dX10_fromHidden_12 : decode cX10_fromHidden 12 = .ok (.ifCond .gt 5, 3) := by decide +kernel
theorem dX10_fromHidden_15 : decode cX10_fromHidden 15 = .ok (.iconst 0, 1) := by decide +kernel
theorem dX10_fromHidden_16 : decode cX10_fromHidden 16 = .ok (.ireturn, 1) := by decide +kernel
theorem dX10_fromHidden_17 : decode cX10_fromHidden 17 = .ok (.aload_n 0, 1) := by decide +kernel
theorem dX10_fromHidden_18 : decode cX10_fromHidden 18 = .ok (.dup, 1) := by decide +kernel
theorem dX10_fromHidden_19 : decode cX10_fromHidden 19 = .ok (.getfield 63, 3) := by decide +kernel
theorem dX10_fromHidden_22 : decode cX10_fromHidden 22 = .ok (.iconst 1, 1) := by decide +kernel
theorem dX10_fromHidden_23 : decode cX10_fromHidden 23 = .ok (.isub, 1) := by decide +kernel
theorem dX10_fromHidden_24 : decode cX10_fromHidden 24 = .ok (.putfield 63, 3) := by decide +kernel
theorem dX10_fromHidden_27 : decode cX10_fromHidden 27 = .ok (.iconst 1, 1) := by decide +kernel
theorem dX10_fromHidden_28 : decode cX10_fromHidden 28 = .ok (.ireturn, 1) := by decide +kernel
theorem dX10_bound_0 : decode cX10_bound 0 = .ok (.iconst 0, 1) := by decide +kernel
theorem dX10_bound_1 : decode cX10_bound 1 = .ok (.iload_n 1, 1) := by decide +kernel
theorem dX10_bound_2 : decode cX10_bound 2 = .ok (.iload_n 0, 1) := by decide +kernel
theorem dX10_bound_3 : decode cX10_bound 3 = .ok (.invokestatic 90, 3) := by decide +kernel
theorem dX10_bound_6 : decode cX10_bound 6 = .ok (.invokestatic 159, 3) := by decide +kernel
theorem dX10_bound_9 : decode cX10_bound 9 = .ok (.ireturn, 1) := by decide +kernel
theorem dX10_shipDays_0 : decode cX10_shipDays 0 = .ok (.aload_n 0, 1) := by decide +kernel
theorem dX10_shipDays_1 : decode cX10_shipDays 1 = .ok (.getfield 66, 3) := by decide +kernel
theorem dX10_shipDays_4 : decode cX10_shipDays 4 = .ok (.iconst (-1), 1) := by decide +kernel
theorem dX10_shipDays_5 : decode cX10_shipDays 5 = .ok (.if_icmp .ne 15, 3) := by decide +kernel
theorem dX10_shipDays_8 : decode cX10_shipDays 8 = .ok (.aload_n 0, 1) := by decide +kernel
theorem dX10_shipDays_9 : decode cX10_shipDays 9 = .ok (.getfield 36, 3) := by decide +kernel
theorem dX10_shipDays_12 : decode cX10_shipDays 12 = .ok (.getfield 40, 3) := by decide +kernel
theorem dX10_shipDays_15 : decode cX10_shipDays 15 = .ok (.iconst 0, 1) := by decide +kernel
theorem dX10_shipDays_16 : decode cX10_shipDays 16 = .ok (.iaload, 1) := by decide +kernel
theorem dX10_shipDays_17 : decode cX10_shipDays 17 = .ok (.goto 9, 3) := by decide +kernel
theorem dX10_shipDays_20 : decode cX10_shipDays 20 = .ok (.aload_n 0, 1) := by decide +kernel
theorem dX10_shipDays_21 : decode cX10_shipDays 21 = .ok (.getfield 66, 3) := by decide +kernel
theorem dX10_shipDays_24 : decode cX10_shipDays 24 = .ok (.iconst 1, 1) := by decide +kernel
theorem dX10_shipDays_25 : decode cX10_shipDays 25 = .ok (.iadd, 1) := by decide +kernel
theorem dX10_shipDays_26 : decode cX10_shipDays 26 = .ok (.ireturn, 1) := by decide +kernel
theorem dX10_sumHomes_0 : decode cX10_sumHomes 0 = .ok (.aload_n 0, 1) := by decide +kernel
theorem dX10_sumHomes_1 : decode cX10_sumHomes 1 = .ok (.getfield 26, 3) := by decide +kernel
theorem dX10_sumHomes_4 : decode cX10_sumHomes 4 = .ok (.lconst 0, 1) := by decide +kernel
theorem dX10_sumHomes_5 : decode cX10_sumHomes 5 = .ok (.invokestatic 162, 3) := by decide +kernel
theorem dX10_sumHomes_8 : decode cX10_sumHomes 8 = .ok (.ldc2_w 165, 3) := by decide +kernel
theorem dX10_sumHomes_11 : decode cX10_sumHomes 11 = .ok (.lstore_n 1, 1) := by decide +kernel
theorem dX10_sumHomes_12 : decode cX10_sumHomes 12 = .ok (.iconst 0, 1) := by decide +kernel
theorem dX10_sumHomes_13 : decode cX10_sumHomes 13 = .ok (.istore_n 3, 1) := by decide +kernel
theorem dX10_sumHomes_14 : decode cX10_sumHomes 14 = .ok (.iload_n 3, 1) := by decide +kernel
theorem dX10_sumHomes_15 : decode cX10_sumHomes 15 = .ok (.aload_n 0, 1) := by decide +kernel
theorem dX10_sumHomes_16 : decode cX10_sumHomes 16 = .ok (.invokevirtual 167, 3) := by decide +kernel
theorem dX10_sumHomes_19 : decode cX10_sumHomes 19 = .ok (.if_icmp .ge 39, 3) := by decide +kernel
theorem dX10_sumHomes_22 : decode cX10_sumHomes 22 = .ok (.lload_n 1, 1) := by decide +kernel
theorem dX10_sumHomes_23 : decode cX10_sumHomes 23 = .ok (.ldc2_w 171, 3) := by decide +kernel
theorem dX10_sumHomes_26 : decode cX10_sumHomes 26 = .ok (.ldiv, 1) := by decide +kernel
theorem dX10_sumHomes_27 : decode cX10_sumHomes 27 = .ok (.aload_n 0, 1) := by decide +kernel
theorem dX10_sumHomes_28 : decode cX10_sumHomes 28 = .ok (.getfield 36, 3) := by decide +kernel
theorem dX10_sumHomes_31 : decode cX10_sumHomes 31 = .ok (.getfield 173, 3) := by decide +kernel
theorem dX10_sumHomes_34 : decode cX10_sumHomes 34 = .ok (.iload_n 3, 1) := by decide +kernel
theorem dX10_sumHomes_35 : decode cX10_sumHomes 35 = .ok (.iaload, 1) := by decide +kernel
theorem dX10_sumHomes_36 : decode cX10_sumHomes 36 = .ok (.i2l, 1) := by decide +kernel
theorem dX10_sumHomes_37 : decode cX10_sumHomes 37 = .ok (.lmul, 1) := by decide +kernel
theorem dX10_sumHomes_38 : decode cX10_sumHomes 38 = .ok (.lstore 4, 2) := by decide +kernel
theorem dX10_sumHomes_40 : decode cX10_sumHomes 40 = .ok (.aload_n 0, 1) := by decide +kernel
theorem dX10_sumHomes_41 : decode cX10_sumHomes 41 = .ok (.iload_n 3, 1) := by decide +kernel
theorem dX10_sumHomes_42 : decode cX10_sumHomes 42 = .ok (.lload 4, 2) := by decide +kernel
theorem dX10_sumHomes_44 : decode cX10_sumHomes 44 = .ok (.invokevirtual 176, 3) := by decide +kernel
theorem dX10_sumHomes_47 : decode cX10_sumHomes 47 = .ok (.lload_n 1, 1) := by decide +kernel
theorem dX10_sumHomes_48 : decode cX10_sumHomes 48 = .ok (.lload 4, 2) := by decide +kernel
theorem dX10_sumHomes_50 : decode cX10_sumHomes 50 = .ok (.lsub, 1) := by decide +kernel
theorem dX10_sumHomes_51 : decode cX10_sumHomes 51 = .ok (.lstore_n 1, 1) := by decide +kernel
theorem dX10_sumHomes_52 : decode cX10_sumHomes 52 = .ok (.iinc 3 1, 3) := by decide +kernel
theorem dX10_sumHomes_55 : decode cX10_sumHomes 55 = .ok (.goto (-41), 3) := by decide +kernel
theorem dX10_sumHomes_58 : decode cX10_sumHomes 58 = .ok (.aload_n 0, 1) := by decide +kernel
theorem dX10_sumHomes_59 : decode cX10_sumHomes 59 = .ok (.getfield 66, 3) := by decide +kernel
theorem dX10_sumHomes_62 : decode cX10_sumHomes 62 = .ok (.iconst (-1), 1) := by decide +kernel
theorem dX10_sumHomes_63 : decode cX10_sumHomes 63 = .ok (.if_icmp .eq 14, 3) := by decide +kernel
theorem dX10_sumHomes_66 : decode cX10_sumHomes 66 = .ok (.aload_n 0, 1) := by decide +kernel
theorem dX10_sumHomes_67 : decode cX10_sumHomes 67 = .ok (.aload_n 0, 1) := by decide +kernel
theorem dX10_sumHomes_68 : decode cX10_sumHomes 68 = .ok (.getfield 66, 3) := by decide +kernel
theorem dX10_sumHomes_71 : decode cX10_sumHomes 71 = .ok (.iconst 1, 1) := by decide +kernel
theorem dX10_sumHomes_72 : decode cX10_sumHomes 72 = .ok (.iadd, 1) := by decide +kernel
theorem dX10_sumHomes_73 : decode cX10_sumHomes 73 = .ok (.lload_n 1, 1) := by decide +kernel
theorem dX10_sumHomes_74 : decode cX10_sumHomes 74 = .ok (.invokevirtual 176, 3) := by decide +kernel
theorem dX10_sumHomes_77 : decode cX10_sumHomes 77 = .ok (.return_, 1) := by decide +kernel
theorem dX10_addToLiving_0 : decode cX10_addToLiving 0 = .ok (.iconst 0, 1) := by decide +kernel
theorem dX10_addToLiving_1 : decode cX10_addToLiving 1 = .ok (.istore 4, 2) := by decide +kernel
theorem dX10_addToLiving_3 : decode cX10_addToLiving 3 = .ok (.iload 4, 2) := by decide +kernel
theorem dX10_addToLiving_5 : decode cX10_addToLiving 5 = .ok (.aload_n 0, 1) := by decide +kernel
theorem dX10_addToLiving_6 : decode cX10_addToLiving 6 = .ok (.getfield 36, 3) := by decide +kernel
theorem dX10_addToLiving_9 : decode cX10_addToLiving 9 = .ok (.getfield 111, 3) := by decide +kernel
theorem dX10_addToLiving_12 : decode cX10_addToLiving 12 = .ok (.if_icmp .ge 32, 3) := by decide +kernel
theorem dX10_addToLiving_15 : decode cX10_addToLiving 15 = .ok (.aload_n 0, 1) := by decide +kernel
theorem dX10_addToLiving_16 : decode cX10_addToLiving 16 = .ok (.getfield 11, 3) := by decide +kernel
theorem dX10_addToLiving_19 : decode cX10_addToLiving 19 = .ok (.iload_n 1, 1) := by decide +kernel
theorem dX10_addToLiving_20 : decode cX10_addToLiving 20 = .ok (.aaload, 1) := by decide +kernel
theorem dX10_addToLiving_21 : decode cX10_addToLiving 21 = .ok (.iload 4, 2) := by decide +kernel
theorem dX10_addToLiving_23 : decode cX10_addToLiving 23 = .ok (.iaload, 1) := by decide +kernel
theorem dX10_addToLiving_24 : decode cX10_addToLiving 24 = .ok (.ifCond .le 14, 3) := by decide +kernel
theorem dX10_addToLiving_27 : decode cX10_addToLiving 27 = .ok (.aload_n 0, 1) := by decide +kernel
theorem dX10_addToLiving_28 : decode cX10_addToLiving 28 = .ok (.getfield 26, 3) := by decide +kernel
theorem dX10_addToLiving_31 : decode cX10_addToLiving 31 = .ok (.iload 4, 2) := by decide +kernel
theorem dX10_addToLiving_33 : decode cX10_addToLiving 33 = .ok (.dup2, 1) := by decide +kernel
theorem dX10_addToLiving_34 : decode cX10_addToLiving 34 = .ok (.laload, 1) := by decide +kernel
theorem dX10_addToLiving_35 : decode cX10_addToLiving 35 = .ok (.lload_n 2, 1) := by decide +kernel
theorem dX10_addToLiving_36 : decode cX10_addToLiving 36 = .ok (.ladd, 1) := by decide +kernel
theorem dX10_addToLiving_37 : decode cX10_addToLiving 37 = .ok (.lastore, 1) := by decide +kernel
theorem dX10_addToLiving_38 : decode cX10_addToLiving 38 = .ok (.iinc 4 1, 3) := by decide +kernel
theorem dX10_addToLiving_41 : decode cX10_addToLiving 41 = .ok (.goto (-38), 3) := by decide +kernel
theorem dX10_addToLiving_44 : decode cX10_addToLiving 44 = .ok (.return_, 1) := by decide +kernel
theorem dX10_worth_0 : decode cX10_worth 0 = .ok (.lconst 0, 1) := by decide +kernel
theorem dX10_worth_1 : decode cX10_worth 1 = .ok (.lstore_n 2, 1) := by decide +kernel
theorem dX10_worth_2 : decode cX10_worth 2 = .ok (.aload_n 0, 1) := by decide +kernel
theorem dX10_worth_3 : decode cX10_worth 3 = .ok (.getfield 36, 3) := by decide +kernel
theorem dX10_worth_6 : decode cX10_worth 6 = .ok (.getfield 111, 3) := by decide +kernel
theorem dX10_worth_9 : decode cX10_worth 9 = .ok (.ifCond .le 9, 3) := by decide +kernel
theorem dX10_worth_12 : decode cX10_worth 12 = .ok (.ldc2_w 165, 3) := by decide +kernel
theorem dX10_worth_15 : decode cX10_worth 15 = .ok (.goto 4, 3) := by decide +kernel
theorem dX10_worth_18 : decode cX10_worth 18 = .ok (.lconst 0, 1) := by decide +kernel
theorem dX10_worth_19 : decode cX10_worth 19 = .ok (.lstore 4, 2) := by decide +kernel
theorem dX10_worth_21 : decode cX10_worth 21 = .ok (.iconst 0, 1) := by decide +kernel
theorem dX10_worth_22 : decode cX10_worth 22 = .ok (.istore 6, 2) := by decide +kernel
theorem dX10_worth_24 : decode cX10_worth 24 = .ok (.iload 6, 2) := by decide +kernel
theorem dX10_worth_26 : decode cX10_worth 26 = .ok (.aload_n 0, 1) := by decide +kernel
theorem dX10_worth_27 : decode cX10_worth 27 = .ok (.getfield 36, 3) := by decide +kernel
theorem dX10_worth_30 : decode cX10_worth 30 = .ok (.getfield 111, 3) := by decide +kernel
theorem dX10_worth_33 : decode cX10_worth 33 = .ok (.if_icmp .ge 33, 3) := by decide +kernel
theorem dX10_worth_36 : decode cX10_worth 36 = .ok (.lload_n 2, 1) := by decide +kernel
theorem dX10_worth_37 : decode cX10_worth 37 = .ok (.aload_n 0, 1) := by decide +kernel
theorem dX10_worth_38 : decode cX10_worth 38 = .ok (.getfield 26, 3) := by decide +kernel
theorem dX10_worth_41 : decode cX10_worth 41 = .ok (.iload 6, 2) := by decide +kernel
theorem dX10_worth_43 : decode cX10_worth 43 = .ok (.laload, 1) := by decide +kernel
theorem dX10_worth_44 : decode cX10_worth 44 = .ok (.ladd, 1) := by decide +kernel
theorem dX10_worth_45 : decode cX10_worth 45 = .ok (.lstore_n 2, 1) := by decide +kernel
theorem dX10_worth_46 : decode cX10_worth 46 = .ok (.lload 4, 2) := by decide +kernel
theorem dX10_worth_48 : decode cX10_worth 48 = .ok (.aload_n 0, 1) := by decide +kernel
theorem dX10_worth_49 : decode cX10_worth 49 = .ok (.getfield 26, 3) := by decide +kernel
theorem dX10_worth_52 : decode cX10_worth 52 = .ok (.iload 6, 2) := by decide +kernel
theorem dX10_worth_54 : decode cX10_worth 54 = .ok (.laload, 1) := by decide +kernel
theorem dX10_worth_55 : decode cX10_worth 55 = .ok (.invokestatic 180, 3) := by decide +kernel
theorem dX10_worth_58 : decode cX10_worth 58 = .ok (.lstore 4, 2) := by decide +kernel
theorem dX10_worth_60 : decode cX10_worth 60 = .ok (.iinc 6 1, 3) := by decide +kernel
theorem dX10_worth_63 : decode cX10_worth 63 = .ok (.goto (-39), 3) := by decide +kernel
theorem dX10_worth_66 : decode cX10_worth 66 = .ok (.iload_n 1, 1) := by decide +kernel
theorem dX10_worth_67 : decode cX10_worth 67 = .ok (.ifCond .ne 7, 3) := by decide +kernel
theorem dX10_worth_70 : decode cX10_worth 70 = .ok (.lload_n 2, 1) := by decide +kernel
theorem dX10_worth_71 : decode cX10_worth 71 = .ok (.goto 5, 3) := by decide +kernel
theorem dX10_worth_74 : decode cX10_worth 74 = .ok (.lload 4, 2) := by decide +kernel
theorem dX10_worth_76 : decode cX10_worth 76 = .ok (.lreturn, 1) := by decide +kernel
theorem dX10_firstDeath_0 : decode cX10_firstDeath 0 = .ok (.iconst 0, 1) := by decide +kernel
theorem dX10_firstDeath_1 : decode cX10_firstDeath 1 = .ok (.istore_n 1, 1) := by decide +kernel
theorem dX10_firstDeath_2 : decode cX10_firstDeath 2 = .ok (.iload_n 1, 1) := by decide +kernel
theorem dX10_firstDeath_3 : decode cX10_firstDeath 3 = .ok (.aload_n 0, 1) := by decide +kernel
theorem dX10_firstDeath_4 : decode cX10_firstDeath 4 = .ok (.getfield 36, 3) := by decide +kernel
theorem dX10_firstDeath_7 : decode cX10_firstDeath 7 = .ok (.getfield 40, 3) := by decide +kernel
theorem dX10_firstDeath_10 : decode cX10_firstDeath 10 = .ok (.iconst 0, 1) := by decide +kernel
theorem dX10_firstDeath_11 : decode cX10_firstDeath 11 = .ok (.iaload, 1) := by decide +kernel
theorem dX10_firstDeath_12 : decode cX10_firstDeath 12 = .ok (.if_icmp .ge 26, 3) := by decide +kernel
theorem dX10_firstDeath_15 : decode cX10_firstDeath 15 = .ok (.aload_n 0, 1) := by decide +kernel
theorem dX10_firstDeath_16 : decode cX10_firstDeath 16 = .ok (.iload_n 1, 1) := by decide +kernel
theorem dX10_firstDeath_17 : decode cX10_firstDeath 17 = .ok (.iconst 1, 1) := by decide +kernel
theorem dX10_firstDeath_18 : decode cX10_firstDeath 18 = .ok (.iadd, 1) := by decide +kernel
theorem dX10_firstDeath_19 : decode cX10_firstDeath 19 = .ok (.invokevirtual 83, 3) := by decide +kernel
theorem dX10_firstDeath_22 : decode cX10_firstDeath 22 = .ok (.aload_n 0, 1) := by decide +kernel
theorem dX10_firstDeath_23 : decode cX10_firstDeath 23 = .ok (.iload_n 1, 1) := by decide +kernel
theorem dX10_firstDeath_24 : decode cX10_firstDeath 24 = .ok (.invokevirtual 83, 3) := by decide +kernel
theorem dX10_firstDeath_27 : decode cX10_firstDeath 27 = .ok (.if_icmp .ge 5, 3) := by decide +kernel
theorem dX10_firstDeath_30 : decode cX10_firstDeath 30 = .ok (.iload_n 1, 1) := by decide +kernel
theorem dX10_firstDeath_31 : decode cX10_firstDeath 31 = .ok (.ireturn, 1) := by decide +kernel
theorem dX10_firstDeath_32 : decode cX10_firstDeath 32 = .ok (.iinc 1 1, 3) := by decide +kernel
theorem dX10_firstDeath_35 : decode cX10_firstDeath 35 = .ok (.goto (-33), 3) := by decide +kernel
theorem dX10_firstDeath_38 : decode cX10_firstDeath 38 = .ok (.iconst (-1), 1) := by decide +kernel
theorem dX10_firstDeath_39 : decode cX10_firstDeath 39 = .ok (.ireturn, 1) := by decide +kernel
theorem dX11_init_0 : decode cX11_init 0 = .ok (.aload_n 0, 1) := by decide +kernel
theorem dX11_init_1 : decode cX11_init 1 = .ok (.invokespecial 3, 3) := by decide +kernel
theorem dX11_init_4 : decode cX11_init 4 = .ok (.aload_n 0, 1) := by decide +kernel
theorem dX11_init_5 : decode cX11_init 5 = .ok (.bipush 8, 2) := by decide +kernel
theorem dX11_init_7 : decode cX11_init 7 = .ok (.anewarray 9, 3) := by decide +kernel
theorem dX11_init_10 : decode cX11_init 10 = .ok (.putfield 11, 3) := by decide +kernel
theorem dX11_init_13 : decode cX11_init 13 = .ok (.aload_n 0, 1) := by decide +kernel
theorem dX11_init_14 : decode cX11_init 14 = .ok (.bipush 6, 2) := by decide +kernel
theorem dX11_init_16 : decode cX11_init 16 = .ok (.anewarray 15, 3) := by decide +kernel
theorem dX11_init_19 : decode cX11_init 19 = .ok (.putfield 17, 3) := by decide +kernel
theorem dX11_init_22 : decode cX11_init 22 = .ok (.aload_n 0, 1) := by decide +kernel
theorem dX11_init_23 : decode cX11_init 23 = .ok (.new 21, 3) := by decide +kernel
theorem dX11_init_26 : decode cX11_init 26 = .ok (.dup, 1) := by decide +kernel
theorem dX11_init_27 : decode cX11_init 27 = .ok (.invokespecial 23, 3) := by decide +kernel
theorem dX11_init_30 : decode cX11_init 30 = .ok (.putfield 24, 3) := by decide +kernel
theorem dX11_init_33 : decode cX11_init 33 = .ok (.aload_n 0, 1) := by decide +kernel
theorem dX11_init_34 : decode cX11_init 34 = .ok (.iconst 4, 1) := by decide +kernel
theorem dX11_init_35 : decode cX11_init 35 = .ok (.anewarray 28, 3) := by decide +kernel
theorem dX11_init_38 : decode cX11_init 38 = .ok (.putfield 30, 3) := by decide +kernel
theorem dX11_init_41 : decode cX11_init 41 = .ok (.aload_n 0, 1) := by decide +kernel
theorem dX11_init_42 : decode cX11_init 42 = .ok (.bipush 8, 2) := by decide +kernel
theorem dX11_init_44 : decode cX11_init 44 = .ok (.newarray .long, 2) := by decide +kernel
theorem dX11_init_46 : decode cX11_init 46 = .ok (.putfield 34, 3) := by decide +kernel
theorem dX11_init_49 : decode cX11_init 49 = .ok (.bipush 6, 2) := by decide +kernel
theorem dX11_init_51 : decode cX11_init 51 = .ok (.newarray .int, 2) := by decide +kernel
theorem dX11_init_53 : decode cX11_init 53 = .ok (.dup, 1) := by decide +kernel
theorem dX11_init_54 : decode cX11_init 54 = .ok (.iconst 0, 1) := by decide +kernel
theorem dX11_init_55 : decode cX11_init 55 = .ok (.iconst 3, 1) := by decide +kernel
theorem dX11_init_56 : decode cX11_init 56 = .ok (.iastore, 1) := by decide +kernel
theorem dX11_init_57 : decode cX11_init 57 = .ok (.dup, 1) := by decide +kernel
theorem dX11_init_58 : decode cX11_init 58 = .ok (.iconst 1, 1) := by decide +kernel
theorem dX11_init_59 : decode cX11_init 59 = .ok (.bipush (-2), 2) := by decide +kernel
theorem dX11_init_61 : decode cX11_init 61 = .ok (.iastore, 1) := by decide +kernel
theorem dX11_init_62 : decode cX11_init 62 = .ok (.dup, 1) := by decide +kernel
theorem dX11_init_63 : decode cX11_init 63 = .ok (.iconst 2, 1) := by decide +kernel
theorem dX11_init_64 : decode cX11_init 64 = .ok (.bipush (-13), 2) := by decide +kernel
theorem dX11_init_66 : decode cX11_init 66 = .ok (.iastore, 1) := by decide +kernel
theorem dX11_init_67 : decode cX11_init 67 = .ok (.dup, 1) := by decide +kernel
theorem dX11_init_68 : decode cX11_init 68 = .ok (.iconst 3, 1) := by decide +kernel
theorem dX11_init_69 : decode cX11_init 69 = .ok (.bipush (-2), 2) := by decide +kernel
theorem dX11_init_71 : decode cX11_init 71 = .ok (.iastore, 1) := by decide +kernel
theorem dX11_init_72 : decode cX11_init 72 = .ok (.dup, 1) := by decide +kernel
theorem dX11_init_73 : decode cX11_init 73 = .ok (.iconst 4, 1) := by decide +kernel
theorem dX11_init_74 : decode cX11_init 74 = .ok (.iconst 4, 1) := by decide +kernel
theorem dX11_init_75 : decode cX11_init 75 = .ok (.iastore, 1) := by decide +kernel
theorem dX11_init_76 : decode cX11_init 76 = .ok (.dup, 1) := by decide +kernel
theorem dX11_init_77 : decode cX11_init 77 = .ok (.iconst 5, 1) := by decide +kernel
theorem dX11_init_78 : decode cX11_init 78 = .ok (.bipush (-15), 2) := by decide +kernel
theorem dX11_init_80 : decode cX11_init 80 = .ok (.iastore, 1) := by decide +kernel
theorem dX11_init_81 : decode cX11_init 81 = .ok (.astore_n 1, 1) := by decide +kernel
theorem dX11_init_82 : decode cX11_init 82 = .ok (.new 15, 3) := by decide +kernel
theorem dX11_init_85 : decode cX11_init 85 = .ok (.dup, 1) := by decide +kernel
theorem dX11_init_86 : decode cX11_init 86 = .ok (.iconst 0, 1) := by decide +kernel
theorem dX11_init_87 : decode cX11_init 87 = .ok (.aload_n 1, 1) := by decide +kernel
theorem dX11_init_88 : decode cX11_init 88 = .ok (.iconst 3, 1) := by decide +kernel
theorem dX11_init_89 : decode cX11_init 89 = .ok (.invokespecial 38, 3) := by decide +kernel
theorem dX11_init_92 : decode cX11_init 92 = .ok (.astore_n 2, 1) := by decide +kernel
theorem dX11_init_93 : decode cX11_init 93 = .ok (.aload_n 0, 1) := by decide +kernel
theorem dX11_init_94 : decode cX11_init 94 = .ok (.getfield 17, 3) := by decide +kernel
theorem dX11_init_97 : decode cX11_init 97 = .ok (.iconst 0, 1) := by decide +kernel
theorem dX11_init_98 : decode cX11_init 98 = .ok (.aload_n 2, 1) := by decide +kernel
theorem dX11_init_99 : decode cX11_init 99 = .ok (.aastore, 1) := by decide +kernel
theorem dX11_init_100 : decode cX11_init 100 = .ok (.aload_n 0, 1) := by decide +kernel
theorem dX11_init_101 : decode cX11_init 101 = .ok (.iconst 1, 1) := by decide +kernel
theorem dX11_init_102 : decode cX11_init 102 = .ok (.putfield 41, 3) := by decide +kernel
theorem dX11_init_105 : decode cX11_init 105 = .ok (.aload_n 0, 1) := by decide +kernel
theorem dX11_init_106 : decode cX11_init 106 = .ok (.new 45, 3) := by decide +kernel
theorem dX11_init_109 : decode cX11_init 109 = .ok (.dup, 1) := by decide +kernel
theorem dX11_init_110 : decode cX11_init 110 = .ok (.aload_n 2, 1) := by decide +kernel
theorem dX11_init_111 : decode cX11_init 111 = .ok (.invokespecial 47, 3) := by decide +kernel
theorem dX11_init_114 : decode cX11_init 114 = .ok (.putfield 50, 3) := by decide +kernel
theorem dX11_init_117 : decode cX11_init 117 = .ok (.aload_n 0, 1) := by decide +kernel
theorem dX11_init_118 : decode cX11_init 118 = .ok (.new 54, 3) := by decide +kernel
theorem dX11_init_121 : decode cX11_init 121 = .ok (.dup, 1) := by decide +kernel
theorem dX11_init_122 : decode cX11_init 122 = .ok (.aload_n 0, 1) := by decide +kernel
theorem dX11_init_123 : decode cX11_init 123 = .ok (.getfield 50, 3) := by decide +kernel
theorem dX11_init_126 : decode cX11_init 126 = .ok (.invokespecial 56, 3) := by decide +kernel
theorem dX11_init_129 : decode cX11_init 129 = .ok (.putfield 59, 3) := by decide +kernel
theorem dX11_init_132 : decode cX11_init 132 = .ok (.iconst 0, 1) := by decide +kernel
theorem dX11_init_133 : decode cX11_init 133 = .ok (.istore_n 3, 1) := by decide +kernel
theorem dX11_init_134 : decode cX11_init 134 = .ok (.iload_n 3, 1) := by decide +kernel
theorem dX11_init_135 : decode cX11_init 135 = .ok (.iconst 4, 1) := by decide +kernel
theorem dX11_init_136 : decode cX11_init 136 = .ok (.if_icmp .ge 22, 3) := by decide +kernel
theorem dX11_init_139 : decode cX11_init 139 = .ok (.aload_n 0, 1) := by decide +kernel
theorem dX11_init_140 : decode cX11_init 140 = .ok (.getfield 30, 3) := by decide +kernel
theorem dX11_init_143 : decode cX11_init 143 = .ok (.iload_n 3, 1) := by decide +kernel
theorem dX11_init_144 : decode cX11_init 144 = .ok (.new 28, 3) := by decide +kernel
theorem dX11_init_147 : decode cX11_init 147 = .ok (.dup, 1) := by decide +kernel
theorem dX11_init_148 : decode cX11_init 148 = .ok (.invokespecial 63, 3) := by decide +kernel
theorem dX11_init_151 : decode cX11_init 151 = .ok (.aastore, 1) := by decide +kernel
theorem dX11_init_152 : decode cX11_init 152 = .ok (.iinc 3 1, 3) := by decide +kernel
theorem dX11_init_155 : decode cX11_init 155 = .ok (.goto (-21), 3) := by decide +kernel
theorem dX11_init_158 : decode cX11_init 158 = .ok (.return_, 1) := by decide +kernel
theorem dX11_man_0 : decode cX11_man 0 = .ok (.iload_n 1, 1) := by decide +kernel
theorem dX11_man_1 : decode cX11_man 1 = .ok (.invokestatic 64, 3) := by decide +kernel
theorem dX11_man_4 : decode cX11_man 4 = .ok (.ifCond .eq 10, 3) := by decide +kernel
theorem dX11_man_7 : decode cX11_man 7 = .ok (.iload_n 2, 1) := by decide +kernel
theorem dX11_man_8 : decode cX11_man 8 = .ok (.invokestatic 68, 3) := by decide +kernel
theorem dX11_man_11 : decode cX11_man 11 = .ok (.ifCond .ne 6, 3) := by decide +kernel
theorem dX11_man_14 : decode cX11_man 14 = .ok (.bipush (-2), 2) := by decide +kernel
theorem dX11_man_16 : decode cX11_man 16 = .ok (.ireturn, 1) := by decide +kernel
theorem dX11_man_17 : decode cX11_man 17 = .ok (.aload_n 0, 1) := by decide +kernel
theorem dX11_man_18 : decode cX11_man 18 = .ok (.getfield 50, 3) := by decide +kernel
theorem dX11_man_21 : decode cX11_man 21 = .ok (.getfield 71, 3) := by decide +kernel
theorem dX11_man_24 : decode cX11_man 24 = .ok (.ifCond .lt 15, 3) := by decide +kernel
theorem dX11_man_27 : decode cX11_man 27 = .ok (.aload_n 0, 1) := by decide +kernel
theorem dX11_man_28 : decode cX11_man 28 = .ok (.getfield 50, 3) := by decide +kernel
theorem dX11_man_31 : decode cX11_man 31 = .ok (.getfield 71, 3) := by decide +kernel
theorem dX11_man_34 : decode cX11_man 34 = .ok (.bipush 8, 2) := by decide +kernel
theorem dX11_man_36 : decode cX11_man 36 = .ok (.if_icmp .lt 6, 3) := by decide +kernel
theorem dX11_man_39 : decode cX11_man 39 = .ok (.bipush (-4), 2) := by decide +kernel
theorem dX11_man_41 : decode cX11_man 41 = .ok (.ireturn, 1) := by decide +kernel
theorem dX11_man_42 : decode cX11_man 42 = .ok (.aload_n 0, 1) := by decide +kernel
theorem dX11_man_43 : decode cX11_man 43 = .ok (.getfield 50, 3) := by decide +kernel
theorem dX11_man_46 : decode cX11_man 46 = .ok (.getfield 74, 3) := by decide +kernel
theorem dX11_man_49 : decode cX11_man 49 = .ok (.aload_n 0, 1) := by decide +kernel
theorem dX11_man_50 : decode cX11_man 50 = .ok (.getfield 50, 3) := by decide +kernel
theorem dX11_man_53 : decode cX11_man 53 = .ok (.getfield 71, 3) := by decide +kernel
theorem dX11_man_56 : decode cX11_man 56 = .ok (.iload_n 1, 1) := by decide +kernel
theorem dX11_man_57 : decode cX11_man 57 = .ok (.iastore, 1) := by decide +kernel
theorem dX11_man_58 : decode cX11_man 58 = .ok (.aload_n 0, 1) := by decide +kernel
theorem dX11_man_59 : decode cX11_man 59 = .ok (.getfield 50, 3) := by decide +kernel
theorem dX11_man_62 : decode cX11_man 62 = .ok (.getfield 78, 3) := by decide +kernel
theorem dX11_man_65 : decode cX11_man 65 = .ok (.aload_n 0, 1) := by decide +kernel
theorem dX11_man_66 : decode cX11_man 66 = .ok (.getfield 50, 3) := by decide +kernel
theorem dX11_man_69 : decode cX11_man 69 = .ok (.getfield 71, 3) := by decide +kernel
theorem dX11_man_72 : decode cX11_man 72 = .ok (.iload_n 2, 1) := by decide +kernel
theorem dX11_man_73 : decode cX11_man 73 = .ok (.iastore, 1) := by decide +kernel
theorem dX11_man_74 : decode cX11_man 74 = .ok (.aload_n 0, 1) := by decide +kernel
theorem dX11_man_75 : decode cX11_man 75 = .ok (.getfield 50, 3) := by decide +kernel
theorem dX11_man_78 : decode cX11_man 78 = .ok (.dup, 1) := by decide +kernel
theorem dX11_man_79 : decode cX11_man 79 = .ok (.getfield 71, 3) := by decide +kernel
theorem dX11_man_82 : decode cX11_man 82 = .ok (.iconst 1, 1) := by decide +kernel
theorem dX11_man_83 : decode cX11_man 83 = .ok (.iadd, 1) := by decide +kernel
theorem dX11_man_84 : decode cX11_man 84 = .ok (.putfield 71, 3) := by decide +kernel
theorem dX11_man_87 : decode cX11_man 87 = .ok (.aload_n 0, 1) := by decide +kernel
theorem dX11_man_88 : decode cX11_man 88 = .ok (.getfield 50, 3) := by decide +kernel
theorem dX11_man_91 : decode cX11_man 91 = .ok (.getfield 71, 3) := by decide +kernel
theorem dX11_man_94 : decode cX11_man 94 = .ok (.iconst 1, 1) := by decide +kernel
theorem dX11_man_95 : decode cX11_man 95 = .ok (.isub, 1) := by decide +kernel
theorem dX11_man_96 : decode cX11_man 96 = .ok (.ireturn, 1) := by decide +kernel
theorem dX11_set_0 : decode cX11_set 0 = .ok (.aload_n 0, 1) := by decide +kernel
theorem dX11_set_1 : decode cX11_set 1 = .ok (.iload_n 1, 1) := by decide +kernel
theorem dX11_set_2 : decode cX11_set 2 = .ok (.invokevirtual 81, 3) := by decide +kernel
theorem dX11_set_5 : decode cX11_set 5 = .ok (.ifCond .ne 6, 3) := by decide +kernel
theorem dX11_set_8 : decode cX11_set 8 = .ok (.bipush (-5), 2) := by decide +kernel
theorem dX11_set_10 : decode cX11_set 10 = .ok (.ireturn, 1) := by decide +kernel
theorem dX11_set_11 : decode cX11_set 11 = .ok (.iload_n 2, 1) := by decide +kernel
theorem dX11_set_12 : decode cX11_set 12 = .ok (.ifCond .ne 23, 3) := by decide +kernel
theorem dX11_set_15 : decode cX11_set 15 = .ok (.iload_n 3, 1) := by decide +kernel
theorem dX11_set_16 : decode cX11_set 16 = .ok (.invokestatic 64, 3) := by decide +kernel
theorem dX11_set_19 : decode cX11_set 19 = .ok (.ifCond .eq 16, 3) := by decide +kernel
theorem dX11_set_22 : decode cX11_set 22 = .ok (.aload_n 0, 1) := by decide +kernel
theorem dX11_set_23 : decode cX11_set 23 = .ok (.getfield 50, 3) := by decide +kernel
theorem dX11_set_26 : decode cX11_set 26 = .ok (.getfield 74, 3) := by decide +kernel
theorem dX11_set_29 : decode cX11_set 29 = .ok (.iload_n 1, 1) := by decide +kernel
theorem dX11_set_30 : decode cX11_set 30 = .ok (.iload_n 3, 1) := by decide +kernel
theorem dX11_set_31 : decode cX11_set 31 = .ok (.invokestatic 84, 3) := by decide +kernel
theorem dX11_set_34 : decode cX11_set 34 = .ok (.ireturn, 1) := by decide +kernel
theorem dX11_set_35 : decode cX11_set 35 = .ok (.iload_n 2, 1) := by decide +kernel
theorem dX11_set_36 : decode cX11_set 36 = .ok (.iconst 1, 1) := by decide +kernel
theorem dX11_set_37 : decode cX11_set 37 = .ok (.if_icmp .ne 23, 3) := by decide +kernel
theorem dX11_set_40 : decode cX11_set 40 = .ok (.iload_n 3, 1) := by decide +kernel
theorem dX11_set_41 : decode cX11_set 41 = .ok (.invokestatic 68, 3) := by decide +kernel
theorem dX11_set_44 : decode cX11_set 44 = .ok (.ifCond .eq 16, 3) := by decide +kernel
theorem dX11_set_47 : decode cX11_set 47 = .ok (.aload_n 0, 1) := by decide +kernel
theorem dX11_set_48 : decode cX11_set 48 = .ok (.getfield 50, 3) := by decide +kernel
theorem dX11_set_51 : decode cX11_set 51 = .ok (.getfield 78, 3) := by decide +kernel
theorem dX11_set_54 : decode cX11_set 54 = .ok (.iload_n 1, 1) := by decide +kernel
theorem dX11_set_55 : decode cX11_set 55 = .ok (.iload_n 3, 1) := by decide +kernel
theorem dX11_set_56 : decode cX11_set 56 = .ok (.invokestatic 84, 3) := by decide +kernel
theorem dX11_set_59 : decode cX11_set 59 = .ok (.ireturn, 1) := by decide +kernel
theorem dX11_set_60 : decode cX11_set 60 = .ok (.bipush (-7), 2) := by decide +kernel
theorem dX11_set_62 : decode cX11_set 62 = .ok (.ireturn, 1) := by decide +kernel
theorem dX11_boat_0 : decode cX11_boat 0 = .ok (.iload_n 1, 1) := by decide +kernel
theorem dX11_boat_1 : decode cX11_boat 1 = .ok (.ifCond .lt 26, 3) := by decide +kernel
theorem dX11_boat_4 : decode cX11_boat 4 = .ok (.iload_n 1, 1) := by decide +kernel
theorem dX11_boat_5 : decode cX11_boat 5 = .ok (.iconst 4, 1) := by decide +kernel
theorem dX11_boat_6 : decode cX11_boat 6 = .ok (.if_icmp .ge 21, 3) := by decide +kernel
theorem dX11_boat_9 : decode cX11_boat 9 = .ok (.iload_n 2, 1) := by decide +kernel
theorem dX11_boat_10 : decode cX11_boat 10 = .ok (.getstatic 88, 3) := by decide +kernel
theorem dX11_boat_13 : decode cX11_boat 13 = .ok (.iload_n 1, 1) := by decide +kernel
theorem dX11_boat_14 : decode cX11_boat 14 = .ok (.iaload, 1) := by decide +kernel
theorem dX11_boat_15 : decode cX11_boat 15 = .ok (.if_icmp .lt 12, 3) := by decide +kernel
theorem dX11_boat_18 : decode cX11_boat 18 = .ok (.iload_n 2, 1) := by decide +kernel
theorem dX11_boat_19 : decode cX11_boat 19 = .ok (.getstatic 91, 3) := by decide +kernel
theorem dX11_boat_22 : decode cX11_boat 22 = .ok (.iload_n 1, 1) := by decide +kernel
theorem dX11_boat_23 : decode cX11_boat 23 = .ok (.iaload, 1) := by decide +kernel
theorem dX11_boat_24 : decode cX11_boat 24 = .ok (.if_icmp .le 6, 3) := by decide +kernel
theorem dX11_boat_27 : decode cX11_boat 27 = .ok (.bipush (-2), 2) := by decide +kernel
theorem dX11_boat_29 : decode cX11_boat 29 = .ok (.ireturn, 1) := by decide +kernel
theorem dX11_boat_30 : decode cX11_boat 30 = .ok (.aload_n 0, 1) := by decide +kernel
theorem dX11_boat_31 : decode cX11_boat 31 = .ok (.getfield 50, 3) := by decide +kernel
theorem dX11_boat_34 : decode cX11_boat 34 = .ok (.getfield 94, 3) := by decide +kernel
theorem dX11_boat_37 : decode cX11_boat 37 = .ok (.iload_n 1, 1) := by decide +kernel
theorem dX11_boat_38 : decode cX11_boat 38 = .ok (.iload_n 2, 1) := by decide +kernel
theorem dX11_boat_39 : decode cX11_boat 39 = .ok (.invokestatic 84, 3) := by decide +kernel
theorem dX11_boat_42 : decode cX11_boat 42 = .ok (.ireturn, 1) := by decide +kernel
theorem dX11_day_0 : decode cX11_day 0 = .ok (.iload_n 1, 1) := by decide +kernel
theorem dX11_day_1 : decode cX11_day 1 = .ok (.ifCond .lt 9, 3) := by decide +kernel
theorem dX11_day_4 : decode cX11_day 4 = .ok (.iload_n 1, 1) := by decide +kernel
theorem dX11_day_5 : decode cX11_day 5 = .ok (.bipush 12, 2) := by decide +kernel
theorem dX11_day_7 : decode cX11_day 7 = .ok (.if_icmp .lt 6, 3) := by decide +kernel
theorem dX11_day_10 : decode cX11_day 10 = .ok (.bipush (-5), 2) := by decide +kernel
theorem dX11_day_12 : decode cX11_day 12 = .ok (.ireturn, 1) := by decide +kernel
theorem dX11_day_13 : decode cX11_day 13 = .ok (.iload_n 2, 1) := by decide +kernel
theorem dX11_day_14 : decode cX11_day 14 = .ok (.ifCond .ne 26, 3) := by decide +kernel
theorem dX11_day_17 : decode cX11_day 17 = .ok (.iload_n 3, 1) := by decide +kernel
theorem dX11_day_18 : decode cX11_day 18 = .ok (.ifCond .lt 22, 3) := by decide +kernel
theorem dX11_day_21 : decode cX11_day 21 = .ok (.iload_n 3, 1) := by decide +kernel
theorem dX11_day_22 : decode cX11_day 22 = .ok (.bipush 9, 2) := by decide +kernel
theorem dX11_day_24 : decode cX11_day 24 = .ok (.if_icmp .gt 16, 3) := by decide +kernel
theorem dX11_day_27 : decode cX11_day 27 = .ok (.aload_n 0, 1) := by decide +kernel
theorem dX11_day_28 : decode cX11_day 28 = .ok (.getfield 50, 3) := by decide +kernel
theorem dX11_day_31 : decode cX11_day 31 = .ok (.getfield 97, 3) := by decide +kernel
theorem dX11_day_34 : decode cX11_day 34 = .ok (.iload_n 1, 1) := by decide +kernel
theorem dX11_day_35 : decode cX11_day 35 = .ok (.iload_n 3, 1) := by decide +kernel
theorem dX11_day_36 : decode cX11_day 36 = .ok (.invokestatic 84, 3) := by decide +kernel
theorem dX11_day_39 : decode cX11_day 39 = .ok (.ireturn, 1) := by decide +kernel
theorem dX11_day_40 : decode cX11_day 40 = .ok (.iload_n 2, 1) := by decide +kernel
theorem dX11_day_41 : decode cX11_day 41 = .ok (.iconst 1, 1) := by decide +kernel
theorem dX11_day_42 : decode cX11_day 42 = .ok (.if_icmp .ne 26, 3) := by decide +kernel
theorem dX11_day_45 : decode cX11_day 45 = .ok (.iload_n 3, 1) := by decide +kernel
theorem dX11_day_46 : decode cX11_day 46 = .ok (.ifCond .lt 22, 3) := by decide +kernel
theorem dX11_day_49 : decode cX11_day 49 = .ok (.iload_n 3, 1) := by decide +kernel
theorem dX11_day_50 : decode cX11_day 50 = .ok (.bipush 50, 2) := by decide +kernel
theorem dX11_day_52 : decode cX11_day 52 = .ok (.if_icmp .gt 16, 3) := by decide +kernel
theorem dX11_day_55 : decode cX11_day 55 = .ok (.aload_n 0, 1) := by decide +kernel
theorem dX11_day_56 : decode cX11_day 56 = .ok (.getfield 50, 3) := by decide +kernel
theorem dX11_day_59 : decode cX11_day 59 = .ok (.getfield 100, 3) := by decide +kernel
theorem dX11_day_62 : decode cX11_day 62 = .ok (.iload_n 1, 1) := by decide +kernel
theorem dX11_day_63 : decode cX11_day 63 = .ok (.iload_n 3, 1) := by decide +kernel
theorem dX11_day_64 : decode cX11_day 64 = .ok (.invokestatic 84, 3) := by decide +kernel
theorem dX11_day_67 : decode cX11_day 67 = .ok (.ireturn, 1) := by decide +kernel
theorem dX11_day_68 : decode cX11_day 68 = .ok (.bipush (-7), 2) := by decide +kernel
theorem dX11_day_70 : decode cX11_day 70 = .ok (.ireturn, 1) := by decide +kernel
theorem dX11_boatTold_0 : decode cX11_boatTold 0 = .ok (.iload_n 1, 1) := by decide +kernel
theorem dX11_boatTold_1 : decode cX11_boatTold 1 = .ok (.tableswitch 98 0 8 #[51, 51, 51, 51, 61, 69, 74, 79, 90], 51) := by decide +kernel
theorem dX11_boatTold_52 : decode cX11_boatTold 52 = .ok (.aload_n 0, 1) := by decide +kernel
theorem dX11_boatTold_53 : decode cX11_boatTold 53 = .ok (.getfield 50, 3) := by decide +kernel
theorem dX11_boatTold_56 : decode cX11_boatTold 56 = .ok (.getfield 94, 3) := by decide +kernel
theorem dX11_boatTold_59 : decode cX11_boatTold 59 = .ok (.iload_n 1, 1) := by decide +kernel
theorem dX11_boatTold_60 : decode cX11_boatTold 60 = .ok (.iaload, 1) := by decide +kernel
theorem dX11_boatTold_61 : decode cX11_boatTold 61 = .ok (.ireturn, 1) := by decide +kernel
theorem dX11_boatTold_62 : decode cX11_boatTold 62 = .ok (.aload_n 0, 1) := by decide +kernel
theorem dX11_boatTold_63 : decode cX11_boatTold 63 = .ok (.getfield 50, 3) := by decide +kernel
theorem dX11_boatTold_66 : decode cX11_boatTold 66 = .ok (.getfield 71, 3) := by decide +kernel
theorem dX11_boatTold_69 : decode cX11_boatTold 69 = .ok (.ireturn, 1) := by decide +kernel
theorem dX11_boatTold_70 : decode cX11_boatTold 70 = .ok (.aload_n 0, 1) := by decide +kernel
theorem dX11_boatTold_71 : decode cX11_boatTold 71 = .ok (.getfield 103, 3) := by decide +kernel
theorem dX11_boatTold_74 : decode cX11_boatTold 74 = .ok (.ireturn, 1) := by decide +kernel
theorem dX11_boatTold_75 : decode cX11_boatTold 75 = .ok (.aload_n 0, 1) := by decide +kernel
theorem dX11_boatTold_76 : decode cX11_boatTold 76 = .ok (.getfield 41, 3) := by decide +kernel
theorem dX11_boatTold_79 : decode cX11_boatTold 79 = .ok (.ireturn, 1) := by decide +kernel
theorem dX11_boatTold_80 : decode cX11_boatTold 80 = .ok (.aload_n 0, 1) := by decide +kernel
theorem dX11_boatTold_81 : decode cX11_boatTold 81 = .ok (.getfield 50, 3) := by decide +kernel
theorem dX11_boatTold_84 : decode cX11_boatTold 84 = .ok (.getfield 106, 3) := by decide +kernel
theorem dX11_boatTold_87 : decode cX11_boatTold 87 = .ok (.getfield 110, 3) := by decide +kernel
theorem dX11_boatTold_90 : decode cX11_boatTold 90 = .ok (.ireturn, 1) := by decide +kernel
theorem dX11_boatTold_91 : decode cX11_boatTold 91 = .ok (.aload_n 0, 1) := by decide +kernel
theorem dX11_boatTold_92 : decode cX11_boatTold 92 = .ok (.getfield 24, 3) := by decide +kernel
theorem dX11_boatTold_95 : decode cX11_boatTold 95 = .ok (.getfield 113, 3) := by decide +kernel
theorem dX11_boatTold_98 : decode cX11_boatTold 98 = .ok (.ireturn, 1) := by decide +kernel
theorem dX11_boatTold_99 : decode cX11_boatTold 99 = .ok (.bipush (-2), 2) := by decide +kernel
theorem dX11_boatTold_101 : decode cX11_boatTold 101 = .ok (.ireturn, 1) := by decide +kernel
theorem dX11_rule_0 : decode cX11_rule 0 = .ok (.iload_n 1, 1) := by decide +kernel
theorem dX11_rule_1 : decode cX11_rule 1 = .ok (.ifCond .lt 18, 3) := by decide +kernel
theorem dX11_rule_4 : decode cX11_rule 4 = .ok (.iload_n 1, 1) := by decide +kernel
theorem dX11_rule_5 : decode cX11_rule 5 = .ok (.iconst 5, 1) := by decide +kernel
theorem dX11_rule_6 : decode cX11_rule 6 = .ok (.if_icmp .gt 13, 3) := by decide +kernel
theorem dX11_rule_9 : decode cX11_rule 9 = .ok (.iload_n 2, 1) := by decide +kernel
theorem dX11_rule_10 : decode cX11_rule 10 = .ok (.ifCond .lt 9, 3) := by decide +kernel
theorem dX11_rule_13 : decode cX11_rule 13 = .ok (.iload_n 2, 1) := by decide +kernel
theorem dX11_rule_14 : decode cX11_rule 14 = .ok (.bipush 99, 2) := by decide +kernel
theorem dX11_rule_16 : decode cX11_rule 16 = .ok (.if_icmp .le 6, 3) := by decide +kernel
theorem dX11_rule_19 : decode cX11_rule 19 = .ok (.bipush (-2), 2) := by decide +kernel
theorem dX11_rule_21 : decode cX11_rule 21 = .ok (.ireturn, 1) := by decide +kernel
theorem dX11_rule_22 : decode cX11_rule 22 = .ok (.aconst_null, 1) := by decide +kernel
theorem dX11_rule_23 : decode cX11_rule 23 = .ok (.astore 4, 2) := by decide +kernel
theorem dX11_rule_25 : decode cX11_rule 25 = .ok (.iload_n 1, 1) := by decide +kernel
theorem dX11_rule_26 : decode cX11_rule 26 = .ok (.iconst 4, 1) := by decide +kernel
theorem dX11_rule_27 : decode cX11_rule 27 = .ok (.if_icmp .ne 58, 3) := by decide +kernel
theorem dX11_rule_30 : decode cX11_rule 30 = .ok (.aload_n 0, 1) := by decide +kernel
theorem dX11_rule_31 : decode cX11_rule 31 = .ok (.iload_n 3, 1) := by decide +kernel
theorem dX11_rule_32 : decode cX11_rule 32 = .ok (.invokevirtual 116, 3) := by decide +kernel
theorem dX11_rule_35 : decode cX11_rule 35 = .ok (.astore 4, 2) := by decide +kernel
theorem dX11_rule_37 : decode cX11_rule 37 = .ok (.aload 4, 2) := by decide +kernel
theorem dX11_rule_39 : decode cX11_rule 39 = .ok (.ifnonnull 6, 3) := by decide +kernel
theorem dX11_rule_42 : decode cX11_rule 42 = .ok (.bipush (-2), 2) := by decide +kernel
theorem dX11_rule_44 : decode cX11_rule 44 = .ok (.ireturn, 1) := by decide +kernel
theorem dX11_rule_45 : decode cX11_rule 45 = .ok (.aload 4, 2) := by decide +kernel
theorem dX11_rule_47 : decode cX11_rule 47 = .ok (.invokevirtual 120, 3) := by decide +kernel
theorem dX11_rule_50 : decode cX11_rule 50 = .ok (.ifCond .eq 6, 3) := by decide +kernel
theorem dX11_rule_53 : decode cX11_rule 53 = .ok (.bipush (-11), 2) := by decide +kernel
theorem dX11_rule_55 : decode cX11_rule 55 = .ok (.ireturn, 1) := by decide +kernel
theorem dX11_rule_56 : decode cX11_rule 56 = .ok (.aload 4, 2) := by decide +kernel
theorem dX11_rule_58 : decode cX11_rule 58 = .ok (.getfield 124, 3) := by decide +kernel
theorem dX11_rule_61 : decode cX11_rule 61 = .ok (.aload_n 0, 1) := by decide +kernel
theorem dX11_rule_62 : decode cX11_rule 62 = .ok (.getfield 50, 3) := by decide +kernel
theorem dX11_rule_65 : decode cX11_rule 65 = .ok (.getfield 71, 3) := by decide +kernel
theorem dX11_rule_68 : decode cX11_rule 68 = .ok (.if_icmp .ne 14, 3) := by decide +kernel
theorem dX11_rule_71 : decode cX11_rule 71 = .ok (.aload 4, 2) := by decide +kernel
theorem dX11_rule_73 : decode cX11_rule 73 = .ok (.iconst 0, 1) := by decide +kernel
theorem dX11_rule_74 : decode cX11_rule 74 = .ok (.bipush 50, 2) := by decide +kernel
theorem dX11_rule_76 : decode cX11_rule 76 = .ok (.invokevirtual 125, 3) := by decide +kernel
theorem dX11_rule_79 : decode cX11_rule 79 = .ok (.ifCond .ne 6, 3) := by decide +kernel
theorem dX11_rule_82 : decode cX11_rule 82 = .ok (.bipush (-2), 2) := by decide +kernel
theorem dX11_rule_84 : decode cX11_rule 84 = .ok (.ireturn, 1) := by decide +kernel
theorem dX11_rule_85 : decode cX11_rule 85 = .ok (.aload_n 0, 1) := by decide +kernel
theorem dX11_rule_86 : decode cX11_rule 86 = .ok (.getfield 103, 3) := by decide +kernel
theorem dX11_rule_89 : decode cX11_rule 89 = .ok (.ifCond .lt 12, 3) := by decide +kernel
theorem dX11_rule_92 : decode cX11_rule 92 = .ok (.aload_n 0, 1) := by decide +kernel
theorem dX11_rule_93 : decode cX11_rule 93 = .ok (.getfield 103, 3) := by decide +kernel
theorem dX11_rule_96 : decode cX11_rule 96 = .ok (.bipush 8, 2) := by decide +kernel
theorem dX11_rule_98 : decode cX11_rule 98 = .ok (.if_icmp .lt 6, 3) := by decide +kernel
theorem dX11_rule_101 : decode cX11_rule 101 = .ok (.bipush (-4), 2) := by decide +kernel
theorem dX11_rule_103 : decode cX11_rule 103 = .ok (.ireturn, 1) := by decide +kernel
theorem dX11_rule_104 : decode cX11_rule 104 = .ok (.aload_n 0, 1) := by decide +kernel
theorem dX11_rule_105 : decode cX11_rule 105 = .ok (.getfield 11, 3) := by decide +kernel
theorem dX11_rule_108 : decode cX11_rule 108 = .ok (.aload_n 0, 1) := by decide +kernel
theorem dX11_rule_109 : decode cX11_rule 109 = .ok (.getfield 103, 3) := by decide +kernel
theorem dX11_rule_112 : decode cX11_rule 112 = .ok (.iload_n 1, 1) := by decide +kernel
theorem dX11_rule_113 : decode cX11_rule 113 = .ok (.iload_n 2, 1) := by decide +kernel
theorem dX11_rule_114 : decode cX11_rule 114 = .ok (.aload 4, 2) := by decide +kernel
theorem dX11_rule_116 : decode cX11_rule 116 = .ok (.invokestatic 129, 3) := by decide +kernel
theorem dX11_rule_119 : decode cX11_rule 119 = .ok (.aastore, 1) := by decide +kernel
theorem dX11_rule_120 : decode cX11_rule 120 = .ok (.aload_n 0, 1) := by decide +kernel
theorem dX11_rule_121 : decode cX11_rule 121 = .ok (.dup, 1) := by decide +kernel
theorem dX11_rule_122 : decode cX11_rule 122 = .ok (.getfield 103, 3) := by decide +kernel
theorem dX11_rule_125 : decode cX11_rule 125 = .ok (.iconst 1, 1) := by decide +kernel
theorem dX11_rule_126 : decode cX11_rule 126 = .ok (.iadd, 1) := by decide +kernel
theorem dX11_rule_127 : decode cX11_rule 127 = .ok (.putfield 103, 3) := by decide +kernel
theorem dX11_rule_130 : decode cX11_rule 130 = .ok (.aload_n 0, 1) := by decide +kernel
theorem dX11_rule_131 : decode cX11_rule 131 = .ok (.getfield 103, 3) := by decide +kernel
theorem dX11_rule_134 : decode cX11_rule 134 = .ok (.iconst 1, 1) := by decide +kernel
theorem dX11_rule_135 : decode cX11_rule 135 = .ok (.isub, 1) := by decide +kernel
theorem dX11_rule_136 : decode cX11_rule 136 = .ok (.ireturn, 1) := by decide +kernel
theorem dX11_ruleTold_0 : decode cX11_ruleTold 0 = .ok (.aload_n 0, 1) := by decide +kernel
theorem dX11_ruleTold_1 : decode cX11_ruleTold 1 = .ok (.iload_n 1, 1) := by decide +kernel
theorem dX11_ruleTold_2 : decode cX11_ruleTold 2 = .ok (.invokevirtual 133, 3) := by decide +kernel
theorem dX11_ruleTold_5 : decode cX11_ruleTold 5 = .ok (.astore_n 3, 1) := by decide +kernel
theorem dX11_ruleTold_6 : decode cX11_ruleTold 6 = .ok (.aload_n 3, 1) := by decide +kernel
theorem dX11_ruleTold_7 : decode cX11_ruleTold 7 = .ok (.ifnonnull 6, 3) := by decide +kernel
theorem dX11_ruleTold_10 : decode cX11_ruleTold 10 = .ok (.bipush (-5), 2) := by decide +kernel
theorem dX11_ruleTold_12 : decode cX11_ruleTold 12 = .ok (.ireturn, 1) := by decide +kernel
theorem dX11_ruleTold_13 : decode cX11_ruleTold 13 = .ok (.iload_n 2, 1) := by decide +kernel
theorem dX11_ruleTold_14 : decode cX11_ruleTold 14 = .ok (.ifCond .lt 9, 3) := by decide +kernel
theorem dX11_ruleTold_17 : decode cX11_ruleTold 17 = .ok (.iload_n 2, 1) := by decide +kernel
theorem dX11_ruleTold_18 : decode cX11_ruleTold 18 = .ok (.bipush 10, 2) := by decide +kernel
theorem dX11_ruleTold_20 : decode cX11_ruleTold 20 = .ok (.if_icmp .lt 6, 3) := by decide +kernel
theorem dX11_ruleTold_23 : decode cX11_ruleTold 23 = .ok (.bipush (-7), 2) := by decide +kernel
theorem dX11_ruleTold_25 : decode cX11_ruleTold 25 = .ok (.ireturn, 1) := by decide +kernel
theorem dX11_ruleTold_26 : decode cX11_ruleTold 26 = .ok (.iload_n 2, 1) := by decide +kernel
theorem dX11_ruleTold_27 : decode cX11_ruleTold 27 = .ok (.ifCond .ne 8, 3) := by decide +kernel
theorem dX11_ruleTold_30 : decode cX11_ruleTold 30 = .ok (.aload_n 3, 1) := by decide +kernel
theorem dX11_ruleTold_31 : decode cX11_ruleTold 31 = .ok (.getfield 137, 3) := by decide +kernel
theorem dX11_ruleTold_34 : decode cX11_ruleTold 34 = .ok (.ireturn, 1) := by decide +kernel
theorem dX11_ruleTold_35 : decode cX11_ruleTold 35 = .ok (.iload_n 2, 1) := by decide +kernel
theorem dX11_ruleTold_36 : decode cX11_ruleTold 36 = .ok (.iconst 1, 1) := by decide +kernel
theorem dX11_ruleTold_37 : decode cX11_ruleTold 37 = .ok (.if_icmp .ne 10, 3) := by decide +kernel
theorem dX11_ruleTold_40 : decode cX11_ruleTold 40 = .ok (.aload_n 3, 1) := by decide +kernel
theorem dX11_ruleTold_41 : decode cX11_ruleTold 41 = .ok (.getfield 140, 3) := by decide +kernel
theorem dX11_ruleTold_44 : decode cX11_ruleTold 44 = .ok (.goto 10, 3) := by decide +kernel
theorem dX11_ruleTold_47 : decode cX11_ruleTold 47 = .ok (.aload_n 3, 1) := by decide +kernel
theorem dX11_ruleTold_48 : decode cX11_ruleTold 48 = .ok (.iload_n 2, 1) := by decide +kernel
theorem dX11_ruleTold_49 : decode cX11_ruleTold 49 = .ok (.iconst 2, 1) := by decide +kernel
theorem dX11_ruleTold_50 : decode cX11_ruleTold 50 = .ok (.isub, 1) := by decide +kernel
theorem dX11_ruleTold_51 : decode cX11_ruleTold 51 = .ok (.invokevirtual 143, 3) := by decide +kernel
theorem dX11_ruleTold_54 : decode cX11_ruleTold 54 = .ok (.ireturn, 1) := by decide +kernel
theorem dX11_feed_0 : decode cX11_feed 0 = .ok (.iload_n 3, 1) := by decide +kernel
theorem dX11_feed_1 : decode cX11_feed 1 = .ok (.iconst 1, 1) := by decide +kernel
theorem dX11_feed_2 : decode cX11_feed 2 = .ok (.if_icmp .lt 9, 3) := by decide +kernel
theorem dX11_feed_5 : decode cX11_feed 5 = .ok (.iload_n 3, 1) := by decide +kernel
theorem dX11_feed_6 : decode cX11_feed 6 = .ok (.bipush 8, 2) := by decide +kernel
theorem dX11_feed_8 : decode cX11_feed 8 = .ok (.if_icmp .le 6, 3) := by decide +kernel
theorem dX11_feed_11 : decode cX11_feed 11 = .ok (.bipush (-2), 2) := by decide +kernel
theorem dX11_feed_13 : decode cX11_feed 13 = .ok (.ireturn, 1) := by decide +kernel
theorem dX11_feed_14 : decode cX11_feed 14 = .ok (.iload_n 3, 1) := by decide +kernel
theorem dX11_feed_15 : decode cX11_feed 15 = .ok (.sipush 160, 3) := by decide +kernel
theorem dX11_feed_18 : decode cX11_feed 18 = .ok (.aload_n 0, 1) := by decide +kernel
theorem dX11_feed_19 : decode cX11_feed 19 = .ok (.getfield 24, 3) := by decide +kernel
theorem dX11_feed_22 : decode cX11_feed 22 = .ok (.getfield 113, 3) := by decide +kernel
theorem dX11_feed_25 : decode cX11_feed 25 = .ok (.isub, 1) := by decide +kernel
theorem dX11_feed_26 : decode cX11_feed 26 = .ok (.if_icmp .le 6, 3) := by decide +kernel
theorem dX11_feed_29 : decode cX11_feed 29 = .ok (.bipush (-4), 2) := by decide +kernel
theorem dX11_feed_31 : decode cX11_feed 31 = .ok (.ireturn, 1) := by decide +kernel
theorem dX11_feed_32 : decode cX11_feed 32 = .ok (.aload_n 0, 1) := by decide +kernel
theorem dX11_feed_33 : decode cX11_feed 33 = .ok (.getfield 24, 3) := by decide +kernel
theorem dX11_feed_36 : decode cX11_feed 36 = .ok (.lload_n 1, 1) := by decide +kernel
theorem dX11_feed_37 : decode cX11_feed 37 = .ok (.iload_n 3, 1) := by decide +kernel
theorem dX11_feed_38 : decode cX11_feed 38 = .ok (.invokevirtual 147, 3) := by decide +kernel
theorem dX11_feed_41 : decode cX11_feed 41 = .ok (.aload_n 0, 1) := by decide +kernel
theorem dX11_feed_42 : decode cX11_feed 42 = .ok (.getfield 24, 3) := by decide +kernel
theorem dX11_feed_45 : decode cX11_feed 45 = .ok (.getfield 113, 3) := by decide +kernel
theorem dX11_feed_48 : decode cX11_feed 48 = .ok (.ireturn, 1) := by decide +kernel
theorem dX11_text_0 : decode cX11_text 0 = .ok (.aload_n 0, 1) := by decide +kernel
theorem dX11_text_1 : decode cX11_text 1 = .ok (.getfield 41, 3) := by decide +kernel
theorem dX11_text_4 : decode cX11_text 4 = .ok (.ifCond .lt 12, 3) := by decide +kernel
theorem dX11_text_7 : decode cX11_text 7 = .ok (.aload_n 0, 1) := by decide +kernel
theorem dX11_text_8 : decode cX11_text 8 = .ok (.getfield 41, 3) := by decide +kernel
theorem dX11_text_11 : decode cX11_text 11 = .ok (.bipush 6, 2) := by decide +kernel
theorem dX11_text_13 : decode cX11_text 13 = .ok (.if_icmp .lt 6, 3) := by decide +kernel
theorem dX11_text_16 : decode cX11_text 16 = .ok (.bipush (-4), 2) := by decide +kernel
theorem dX11_text_18 : decode cX11_text 18 = .ok (.ireturn, 1) := by decide +kernel
theorem dX11_text_19 : decode cX11_text 19 = .ok (.aload_n 0, 1) := by decide +kernel
theorem dX11_text_20 : decode cX11_text 20 = .ok (.getfield 24, 3) := by decide +kernel
theorem dX11_text_23 : decode cX11_text 23 = .ok (.invokevirtual 151, 3) := by decide +kernel
theorem dX11_text_26 : decode cX11_text 26 = .ok (.istore_n 1, 1) := by decide +kernel
theorem dX11_text_27 : decode cX11_text 27 = .ok (.aload_n 0, 1) := by decide +kernel
theorem dX11_text_28 : decode cX11_text 28 = .ok (.getfield 24, 3) := by decide +kernel
theorem dX11_text_31 : decode cX11_text 31 = .ok (.iconst 0, 1) := by decide +kernel
theorem dX11_text_32 : decode cX11_text 32 = .ok (.putfield 113, 3) := by decide +kernel
theorem dX11_text_35 : decode cX11_text 35 = .ok (.iload_n 1, 1) := by decide +kernel
theorem dX11_text_36 : decode cX11_text 36 = .ok (.ifCond .ne 14, 3) := by decide +kernel
theorem dX11_text_39 : decode cX11_text 39 = .ok (.bipush (-100), 2) := by decide +kernel
theorem dX11_text_41 : decode cX11_text 41 = .ok (.aload_n 0, 1) := by decide +kernel
theorem dX11_text_42 : decode cX11_text 42 = .ok (.getfield 24, 3) := by decide +kernel
theorem dX11_text_45 : decode cX11_text 45 = .ok (.getfield 154, 3) := by decide +kernel
theorem dX11_text_48 : decode cX11_text 48 = .ok (.isub, 1) := by decide +kernel
theorem dX11_text_49 : decode cX11_text 49 = .ok (.ireturn, 1) := by decide +kernel
theorem dX11_text_50 : decode cX11_text 50 = .ok (.aload_n 0, 1) := by decide +kernel
theorem dX11_text_51 : decode cX11_text 51 = .ok (.getfield 17, 3) := by decide +kernel
theorem dX11_text_54 : decode cX11_text 54 = .ok (.aload_n 0, 1) := by decide +kernel
theorem dX11_text_55 : decode cX11_text 55 = .ok (.getfield 41, 3) := by decide +kernel
theorem dX11_text_58 : decode cX11_text 58 = .ok (.new 15, 3) := by decide +kernel
theorem dX11_text_61 : decode cX11_text 61 = .ok (.dup, 1) := by decide +kernel
theorem dX11_text_62 : decode cX11_text 62 = .ok (.aload_n 0, 1) := by decide +kernel
theorem dX11_text_63 : decode cX11_text 63 = .ok (.getfield 41, 3) := by decide +kernel
theorem dX11_text_66 : decode cX11_text 66 = .ok (.aload_n 0, 1) := by decide +kernel
theorem dX11_text_67 : decode cX11_text 67 = .ok (.getfield 24, 3) := by decide +kernel
theorem dX11_text_70 : decode cX11_text 70 = .ok (.getfield 157, 3) := by decide +kernel
theorem dX11_text_73 : decode cX11_text 73 = .ok (.aload_n 0, 1) := by decide +kernel
theorem dX11_text_74 : decode cX11_text 74 = .ok (.getfield 24, 3) := by decide +kernel
theorem dX11_text_77 : decode cX11_text 77 = .ok (.getfield 160, 3) := by decide +kernel
theorem dX11_text_80 : decode cX11_text 80 = .ok (.invokestatic 163, 3) := by decide +kernel
theorem dX11_text_83 : decode cX11_text 83 = .ok (.aload_n 0, 1) := by decide +kernel
theorem dX11_text_84 : decode cX11_text 84 = .ok (.getfield 24, 3) := by decide +kernel
theorem dX11_text_87 : decode cX11_text 87 = .ok (.getfield 169, 3) := by decide +kernel
theorem dX11_text_90 : decode cX11_text 90 = .ok (.invokespecial 38, 3) := by decide +kernel
theorem dX11_text_93 : decode cX11_text 93 = .ok (.aastore, 1) := by decide +kernel
theorem dX11_text_94 : decode cX11_text 94 = .ok (.aload_n 0, 1) := by decide +kernel
theorem dX11_text_95 : decode cX11_text 95 = .ok (.dup, 1) := by decide +kernel
theorem dX11_text_96 : decode cX11_text 96 = .ok (.getfield 41, 3) := by decide +kernel
theorem dX11_text_99 : decode cX11_text 99 = .ok (.iconst 1, 1) := by decide +kernel
theorem dX11_text_100 : decode cX11_text 100 = .ok (.iadd, 1) := by decide +kernel
theorem dX11_text_101 : decode cX11_text 101 = .ok (.putfield 41, 3) := by decide +kernel
theorem dX11_text_104 : decode cX11_text 104 = .ok (.aload_n 0, 1) := by decide +kernel
theorem dX11_text_105 : decode cX11_text 105 = .ok (.getfield 41, 3) := by decide +kernel
theorem dX11_text_108 : decode cX11_text 108 = .ok (.iconst 1, 1) := by decide +kernel
theorem dX11_text_109 : decode cX11_text 109 = .ok (.isub, 1) := by decide +kernel
theorem dX11_text_110 : decode cX11_text 110 = .ok (.ireturn, 1) := by decide +kernel
theorem dX11_force_0 : decode cX11_force 0 = .ok (.iload_n 1, 1) := by decide +kernel
theorem dX11_force_1 : decode cX11_force 1 = .ok (.ifCond .lt 18, 3) := by decide +kernel
theorem dX11_force_4 : decode cX11_force 4 = .ok (.iload_n 1, 1) := by decide +kernel
theorem dX11_force_5 : decode cX11_force 5 = .ok (.bipush 6, 2) := by decide +kernel
theorem dX11_force_7 : decode cX11_force 7 = .ok (.if_icmp .ge 12, 3) := by decide +kernel
theorem dX11_force_10 : decode cX11_force 10 = .ok (.aload_n 0, 1) := by decide +kernel
theorem dX11_force_11 : decode cX11_force 11 = .ok (.getfield 17, 3) := by decide +kernel
theorem dX11_force_14 : decode cX11_force 14 = .ok (.iload_n 1, 1) := by decide +kernel
theorem dX11_force_15 : decode cX11_force 15 = .ok (.aaload, 1) := by decide +kernel
theorem dX11_force_16 : decode cX11_force 16 = .ok (.goto 4, 3) := by decide +kernel
theorem dX11_force_19 : decode cX11_force 19 = .ok (.aconst_null, 1) := by decide +kernel
theorem dX11_force_20 : decode cX11_force 20 = .ok (.astore_n 2, 1) := by decide +kernel
theorem dX11_force_21 : decode cX11_force 21 = .ok (.aload_n 2, 1) := by decide +kernel
theorem dX11_force_22 : decode cX11_force 22 = .ok (.ifnonnull 6, 3) := by decide +kernel
theorem dX11_force_25 : decode cX11_force 25 = .ok (.bipush (-2), 2) := by decide +kernel
theorem dX11_force_27 : decode cX11_force 27 = .ok (.ireturn, 1) := by decide +kernel
theorem dX11_force_28 : decode cX11_force 28 = .ok (.aload_n 0, 1) := by decide +kernel
theorem dX11_force_29 : decode cX11_force 29 = .ok (.getfield 50, 3) := by decide +kernel
theorem dX11_force_32 : decode cX11_force 32 = .ok (.getfield 106, 3) := by decide +kernel
theorem dX11_force_35 : decode cX11_force 35 = .ok (.getfield 110, 3) := by decide +kernel
theorem dX11_force_38 : decode cX11_force 38 = .ok (.istore_n 3, 1) := by decide +kernel
theorem dX11_force_39 : decode cX11_force 39 = .ok (.aload_n 0, 1) := by decide +kernel
theorem dX11_force_40 : decode cX11_force 40 = .ok (.getfield 50, 3) := by decide +kernel
theorem dX11_force_43 : decode cX11_force 43 = .ok (.aload_n 2, 1) := by decide +kernel
theorem dX11_force_44 : decode cX11_force 44 = .ok (.putfield 106, 3) := by decide +kernel
theorem dX11_force_47 : decode cX11_force 47 = .ok (.iload_n 3, 1) := by decide +kernel
theorem dX11_force_48 : decode cX11_force 48 = .ok (.ireturn, 1) := by decide +kernel
theorem dX11_home_0 : decode cX11_home 0 = .ok (.aload_n 0, 1) := by decide +kernel
theorem dX11_home_1 : decode cX11_home 1 = .ok (.iload_n 1, 1) := by decide +kernel
theorem dX11_home_2 : decode cX11_home 2 = .ok (.invokevirtual 133, 3) := by decide +kernel
theorem dX11_home_5 : decode cX11_home 5 = .ok (.astore 4, 2) := by decide +kernel
theorem dX11_home_7 : decode cX11_home 7 = .ok (.aload 4, 2) := by decide +kernel
theorem dX11_home_9 : decode cX11_home 9 = .ok (.ifnull 18, 3) := by decide +kernel
theorem dX11_home_12 : decode cX11_home 12 = .ok (.aload_n 0, 1) := by decide +kernel
theorem dX11_home_13 : decode cX11_home 13 = .ok (.iload_n 2, 1) := by decide +kernel
theorem dX11_home_14 : decode cX11_home 14 = .ok (.invokevirtual 81, 3) := by decide +kernel
theorem dX11_home_17 : decode cX11_home 17 = .ok (.ifCond .eq 10, 3) := by decide +kernel
theorem dX11_home_20 : decode cX11_home 20 = .ok (.iload_n 3, 1) := by decide +kernel
theorem dX11_home_21 : decode cX11_home 21 = .ok (.invokestatic 172, 3) := by decide +kernel
theorem dX11_home_24 : decode cX11_home 24 = .ok (.ifCond .ne 7, 3) := by decide +kernel
theorem dX11_home_27 : decode cX11_home 27 = .ok (.ldc2_w 175, 3) := by decide +kernel
theorem dX11_home_30 : decode cX11_home 30 = .ok (.lreturn, 1) := by decide +kernel
theorem dX11_home_31 : decode cX11_home 31 = .ok (.aload_n 0, 1) := by decide +kernel
theorem dX11_home_32 : decode cX11_home 32 = .ok (.getfield 59, 3) := by decide +kernel
theorem dX11_home_35 : decode cX11_home 35 = .ok (.aload 4, 2) := by decide +kernel
theorem dX11_home_37 : decode cX11_home 37 = .ok (.invokevirtual 177, 3) := by decide +kernel
theorem dX11_home_40 : decode cX11_home 40 = .ok (.aload_n 0, 1) := by decide +kernel
theorem dX11_home_41 : decode cX11_home 41 = .ok (.getfield 59, 3) := by decide +kernel
theorem dX11_home_44 : decode cX11_home 44 = .ok (.getfield 181, 3) := by decide +kernel
theorem dX11_home_47 : decode cX11_home 47 = .ok (.iload_n 2, 1) := by decide +kernel
theorem dX11_home_48 : decode cX11_home 48 = .ok (.laload, 1) := by decide +kernel
theorem dX11_home_49 : decode cX11_home 49 = .ok (.iload_n 3, 1) := by decide +kernel
theorem dX11_home_50 : decode cX11_home 50 = .ok (.invokestatic 184, 3) := by decide +kernel
theorem dX11_home_53 : decode cX11_home 53 = .ok (.lreturn, 1) := by decide +kernel
theorem dX11_mean_0 : decode cX11_mean 0 = .ok (.aload_n 0, 1) := by decide +kernel
theorem dX11_mean_1 : decode cX11_mean 1 = .ok (.iload_n 1, 1) := by decide +kernel
theorem dX11_mean_2 : decode cX11_mean 2 = .ok (.invokevirtual 133, 3) := by decide +kernel
theorem dX11_mean_5 : decode cX11_mean 5 = .ok (.astore 4, 2) := by decide +kernel
theorem dX11_mean_7 : decode cX11_mean 7 = .ok (.aload 4, 2) := by decide +kernel
theorem dX11_mean_9 : decode cX11_mean 9 = .ok (.ifnull 19, 3) := by decide +kernel
theorem dX11_mean_12 : decode cX11_mean 12 = .ok (.iload_n 2, 1) := by decide +kernel
theorem dX11_mean_13 : decode cX11_mean 13 = .ok (.ifCond .lt 15, 3) := by decide +kernel
theorem dX11_mean_16 : decode cX11_mean 16 = .ok (.iload_n 2, 1) := by decide +kernel
theorem dX11_mean_17 : decode cX11_mean 17 = .ok (.iconst 1, 1) := by decide +kernel
theorem dX11_mean_18 : decode cX11_mean 18 = .ok (.if_icmp .gt 10, 3) := by decide +kernel
theorem dX11_mean_21 : decode cX11_mean 21 = .ok (.iload_n 3, 1) := by decide +kernel
theorem dX11_mean_22 : decode cX11_mean 22 = .ok (.invokestatic 172, 3) := by decide +kernel
theorem dX11_mean_25 : decode cX11_mean 25 = .ok (.ifCond .ne 7, 3) := by decide +kernel
theorem dX11_mean_28 : decode cX11_mean 28 = .ok (.ldc2_w 175, 3) := by decide +kernel
theorem dX11_mean_31 : decode cX11_mean 31 = .ok (.lreturn, 1) := by decide +kernel
theorem dX11_mean_32 : decode cX11_mean 32 = .ok (.aload_n 0, 1) := by decide +kernel
theorem dX11_mean_33 : decode cX11_mean 33 = .ok (.getfield 59, 3) := by decide +kernel
theorem dX11_mean_36 : decode cX11_mean 36 = .ok (.aload 4, 2) := by decide +kernel
theorem dX11_mean_38 : decode cX11_mean 38 = .ok (.invokevirtual 177, 3) := by decide +kernel
theorem dX11_mean_41 : decode cX11_mean 41 = .ok (.aload_n 0, 1) := by decide +kernel
theorem dX11_mean_42 : decode cX11_mean 42 = .ok (.getfield 59, 3) := by decide +kernel
theorem dX11_mean_45 : decode cX11_mean 45 = .ok (.iload_n 2, 1) := by decide +kernel
theorem dX11_mean_46 : decode cX11_mean 46 = .ok (.invokevirtual 188, 3) := by decide +kernel
theorem dX11_mean_49 : decode cX11_mean 49 = .ok (.iload_n 3, 1) := by decide +kernel
theorem dX11_mean_50 : decode cX11_mean 50 = .ok (.invokestatic 184, 3) := by decide +kernel
theorem dX11_mean_53 : decode cX11_mean 53 = .ok (.lreturn, 1) := by decide +kernel
theorem dX11_told_0 : decode cX11_told 0 = .ok (.aload_n 0, 1) := by decide +kernel
theorem dX11_told_1 : decode cX11_told 1 = .ok (.iload_n 1, 1) := by decide +kernel
theorem dX11_told_2 : decode cX11_told 2 = .ok (.invokevirtual 133, 3) := by decide +kernel
theorem dX11_told_5 : decode cX11_told 5 = .ok (.astore 5, 2) := by decide +kernel
theorem dX11_told_7 : decode cX11_told 7 = .ok (.aload_n 0, 1) := by decide +kernel
theorem dX11_told_8 : decode cX11_told 8 = .ok (.getfield 50, 3) := by decide +kernel
theorem dX11_told_11 : decode cX11_told 11 = .ok (.getfield 94, 3) := by decide +kernel
theorem dX11_told_14 : decode cX11_told 14 = .ok (.iconst 0, 1) := by decide +kernel
theorem dX11_told_15 : decode cX11_told 15 = .ok (.iaload, 1) := by decide +kernel
theorem dX11_told_16 : decode cX11_told 16 = .ok (.istore 6, 2) := by decide +kernel
theorem dX11_told_18 : decode cX11_told 18 = .ok (.aload 5, 2) := by decide +kernel
theorem dX11_told_20 : decode cX11_told 20 = .ok (.ifnull 21, 3) := by decide +kernel
theorem dX11_told_23 : decode cX11_told 23 = .ok (.iload_n 2, 1) := by decide +kernel
theorem dX11_told_24 : decode cX11_told 24 = .ok (.ifCond .lt 17, 3) := by decide +kernel
theorem dX11_told_27 : decode cX11_told 27 = .ok (.iload_n 2, 1) := by decide +kernel
theorem dX11_told_28 : decode cX11_told 28 = .ok (.iload 6, 2) := by decide +kernel
theorem dX11_told_30 : decode cX11_told 30 = .ok (.if_icmp .gt 11, 3) := by decide +kernel
theorem dX11_told_33 : decode cX11_told 33 = .ok (.aload_n 0, 1) := by decide +kernel
theorem dX11_told_34 : decode cX11_told 34 = .ok (.iload_n 3, 1) := by decide +kernel
theorem dX11_told_35 : decode cX11_told 35 = .ok (.invokevirtual 81, 3) := by decide +kernel
theorem dX11_told_38 : decode cX11_told 38 = .ok (.ifCond .ne 6, 3) := by decide +kernel
theorem dX11_told_41 : decode cX11_told 41 = .ok (.bipush (-5), 2) := by decide +kernel
theorem dX11_told_43 : decode cX11_told 43 = .ok (.ireturn, 1) := by decide +kernel
theorem dX11_told_44 : decode cX11_told 44 = .ok (.iload 4, 2) := by decide +kernel
theorem dX11_told_46 : decode cX11_told 46 = .ok (.ifCond .lt 21, 3) := by decide +kernel
theorem dX11_told_49 : decode cX11_told 49 = .ok (.iload 4, 2) := by decide +kernel
theorem dX11_told_51 : decode cX11_told 51 = .ok (.iconst 3, 1) := by decide +kernel
theorem dX11_told_52 : decode cX11_told 52 = .ok (.if_icmp .gt 15, 3) := by decide +kernel
theorem dX11_told_55 : decode cX11_told 55 = .ok (.iload 4, 2) := by decide +kernel
theorem dX11_told_57 : decode cX11_told 57 = .ok (.iconst 1, 1) := by decide +kernel
theorem dX11_told_58 : decode cX11_told 58 = .ok (.if_icmp .ne 12, 3) := by decide +kernel
theorem dX11_told_61 : decode cX11_told 61 = .ok (.iload_n 2, 1) := by decide +kernel
theorem dX11_told_62 : decode cX11_told 62 = .ok (.iload 6, 2) := by decide +kernel
theorem dX11_told_64 : decode cX11_told 64 = .ok (.if_icmp .ne 6, 3) := by decide +kernel
theorem dX11_told_67 : decode cX11_told 67 = .ok (.bipush (-7), 2) := by decide +kernel
theorem dX11_told_69 : decode cX11_told 69 = .ok (.ireturn, 1) := by decide +kernel
theorem dX11_told_70 : decode cX11_told 70 = .ok (.aload_n 0, 1) := by decide +kernel
theorem dX11_told_71 : decode cX11_told 71 = .ok (.getfield 59, 3) := by decide +kernel
theorem dX11_told_74 : decode cX11_told 74 = .ok (.aload 5, 2) := by decide +kernel
theorem dX11_told_76 : decode cX11_told 76 = .ok (.invokevirtual 177, 3) := by decide +kernel
theorem dX11_told_79 : decode cX11_told 79 = .ok (.iload 4, 2) := by decide +kernel
theorem dX11_told_81 : decode cX11_told 81 = .ok (.tableswitch 61 0 2 #[27, 39, 51], 27) := by decide +kernel
theorem dX11_told_108 : decode cX11_told 108 = .ok (.aload_n 0, 1) := by decide +kernel
theorem dX11_told_109 : decode cX11_told 109 = .ok (.getfield 59, 3) := by decide +kernel
theorem dX11_told_112 : decode cX11_told 112 = .ok (.getfield 192, 3) := by decide +kernel
theorem dX11_told_115 : decode cX11_told 115 = .ok (.iload_n 2, 1) := by decide +kernel
theorem dX11_told_116 : decode cX11_told 116 = .ok (.aaload, 1) := by decide +kernel
theorem dX11_told_117 : decode cX11_told 117 = .ok (.iload_n 3, 1) := by decide +kernel
theorem dX11_told_118 : decode cX11_told 118 = .ok (.iaload, 1) := by decide +kernel
theorem dX11_told_119 : decode cX11_told 119 = .ok (.ireturn, 1) := by decide +kernel
theorem dX11_told_120 : decode cX11_told 120 = .ok (.aload_n 0, 1) := by decide +kernel
theorem dX11_told_121 : decode cX11_told 121 = .ok (.getfield 59, 3) := by decide +kernel
theorem dX11_told_124 : decode cX11_told 124 = .ok (.getfield 195, 3) := by decide +kernel
theorem dX11_told_127 : decode cX11_told 127 = .ok (.iload_n 2, 1) := by decide +kernel
theorem dX11_told_128 : decode cX11_told 128 = .ok (.aaload, 1) := by decide +kernel
theorem dX11_told_129 : decode cX11_told 129 = .ok (.iload_n 3, 1) := by decide +kernel
theorem dX11_told_130 : decode cX11_told 130 = .ok (.iaload, 1) := by decide +kernel
theorem dX11_told_131 : decode cX11_told 131 = .ok (.ireturn, 1) := by decide +kernel
theorem dX11_told_132 : decode cX11_told 132 = .ok (.aload_n 0, 1) := by decide +kernel
theorem dX11_told_133 : decode cX11_told 133 = .ok (.getfield 59, 3) := by decide +kernel
theorem dX11_told_136 : decode cX11_told 136 = .ok (.getfield 198, 3) := by decide +kernel
theorem dX11_told_139 : decode cX11_told 139 = .ok (.iload_n 2, 1) := by decide +kernel
theorem dX11_told_140 : decode cX11_told 140 = .ok (.iaload, 1) := by decide +kernel
theorem dX11_told_141 : decode cX11_told 141 = .ok (.ireturn, 1) := by decide +kernel
theorem dX11_told_142 : decode cX11_told 142 = .ok (.aload_n 0, 1) := by decide +kernel
theorem dX11_told_143 : decode cX11_told 143 = .ok (.getfield 59, 3) := by decide +kernel
theorem dX11_told_146 : decode cX11_told 146 = .ok (.getfield 201, 3) := by decide +kernel
theorem dX11_told_149 : decode cX11_told 149 = .ok (.iload_n 2, 1) := by decide +kernel
theorem dX11_told_150 : decode cX11_told 150 = .ok (.iaload, 1) := by decide +kernel
theorem dX11_told_151 : decode cX11_told 151 = .ok (.ireturn, 1) := by decide +kernel
theorem dX11_ends_0 : decode cX11_ends 0 = .ok (.aload_n 0, 1) := by decide +kernel
theorem dX11_ends_1 : decode cX11_ends 1 = .ok (.iload_n 1, 1) := by decide +kernel
theorem dX11_ends_2 : decode cX11_ends 2 = .ok (.invokevirtual 133, 3) := by decide +kernel
theorem dX11_ends_5 : decode cX11_ends 5 = .ok (.astore_n 3, 1) := by decide +kernel
theorem dX11_ends_6 : decode cX11_ends 6 = .ok (.aload_n 3, 1) := by decide +kernel
theorem dX11_ends_7 : decode cX11_ends 7 = .ok (.ifnonnull 6, 3) := by decide +kernel
theorem dX11_ends_10 : decode cX11_ends 10 = .ok (.bipush (-5), 2) := by decide +kernel
theorem dX11_ends_12 : decode cX11_ends 12 = .ok (.ireturn, 1) := by decide +kernel
theorem dX11_ends_13 : decode cX11_ends 13 = .ok (.iload_n 2, 1) := by decide +kernel
theorem dX11_ends_14 : decode cX11_ends 14 = .ok (.ifCond .lt 8, 3) := by decide +kernel
theorem dX11_ends_17 : decode cX11_ends 17 = .ok (.iload_n 2, 1) := by decide +kernel
theorem dX11_ends_18 : decode cX11_ends 18 = .ok (.iconst 2, 1) := by decide +kernel
theorem dX11_ends_19 : decode cX11_ends 19 = .ok (.if_icmp .le 6, 3) := by decide +kernel
theorem dX11_ends_22 : decode cX11_ends 22 = .ok (.bipush (-7), 2) := by decide +kernel
theorem dX11_ends_24 : decode cX11_ends 24 = .ok (.ireturn, 1) := by decide +kernel
theorem dX11_ends_25 : decode cX11_ends 25 = .ok (.aload_n 0, 1) := by decide +kernel
theorem dX11_ends_26 : decode cX11_ends 26 = .ok (.getfield 59, 3) := by decide +kernel
theorem dX11_ends_29 : decode cX11_ends 29 = .ok (.aload_n 3, 1) := by decide +kernel
theorem dX11_ends_30 : decode cX11_ends 30 = .ok (.invokevirtual 177, 3) := by decide +kernel
theorem dX11_ends_33 : decode cX11_ends 33 = .ok (.iload_n 2, 1) := by decide +kernel
theorem dX11_ends_34 : decode cX11_ends 34 = .ok (.ifCond .ne 11, 3) := by decide +kernel
theorem dX11_ends_37 : decode cX11_ends 37 = .ok (.aload_n 0, 1) := by decide +kernel
theorem dX11_ends_38 : decode cX11_ends 38 = .ok (.getfield 59, 3) := by decide +kernel
theorem dX11_ends_41 : decode cX11_ends 41 = .ok (.getfield 204, 3) := by decide +kernel
theorem dX11_ends_44 : decode cX11_ends 44 = .ok (.ireturn, 1) := by decide +kernel
theorem dX11_ends_45 : decode cX11_ends 45 = .ok (.iload_n 2, 1) := by decide +kernel
theorem dX11_ends_46 : decode cX11_ends 46 = .ok (.iconst 1, 1) := by decide +kernel
theorem dX11_ends_47 : decode cX11_ends 47 = .ok (.if_icmp .ne 22, 3) := by decide +kernel
theorem dX11_ends_50 : decode cX11_ends 50 = .ok (.aload_n 0, 1) := by decide +kernel
theorem dX11_ends_51 : decode cX11_ends 51 = .ok (.getfield 59, 3) := by decide +kernel
theorem dX11_ends_54 : decode cX11_ends 54 = .ok (.aload_n 0, 1) := by decide +kernel
theorem dX11_ends_55 : decode cX11_ends 55 = .ok (.getfield 50, 3) := by decide +kernel
theorem dX11_ends_58 : decode cX11_ends 58 = .ok (.getfield 94, 3) := by decide +kernel
theorem dX11_ends_61 : decode cX11_ends 61 = .ok (.iconst 0, 1) := by decide +kernel
theorem dX11_ends_62 : decode cX11_ends 62 = .ok (.iaload, 1) := by decide +kernel
theorem dX11_ends_63 : decode cX11_ends 63 = .ok (.invokevirtual 207, 3) := by decide +kernel
theorem dX11_ends_66 : decode cX11_ends 66 = .ok (.goto 10, 3) := by decide +kernel
theorem dX11_ends_69 : decode cX11_ends 69 = .ok (.aload_n 0, 1) := by decide +kernel
theorem dX11_ends_70 : decode cX11_ends 70 = .ok (.getfield 59, 3) := by decide +kernel
theorem dX11_ends_73 : decode cX11_ends 73 = .ok (.invokevirtual 210, 3) := by decide +kernel
theorem dX11_ends_76 : decode cX11_ends 76 = .ok (.ireturn, 1) := by decide +kernel
theorem dX11_best_0 : decode cX11_best 0 = .ok (.iload_n 1, 1) := by decide +kernel
theorem dX11_best_1 : decode cX11_best 1 = .ok (.ifCond .lt 8, 3) := by decide +kernel
theorem dX11_best_4 : decode cX11_best 4 = .ok (.iload_n 1, 1) := by decide +kernel
theorem dX11_best_5 : decode cX11_best 5 = .ok (.iconst 1, 1) := by decide +kernel
theorem dX11_best_6 : decode cX11_best 6 = .ok (.if_icmp .le 6, 3) := by decide +kernel
theorem dX11_best_9 : decode cX11_best 9 = .ok (.bipush (-2), 2) := by decide +kernel
theorem dX11_best_11 : decode cX11_best 11 = .ok (.ireturn, 1) := by decide +kernel
theorem dX11_best_12 : decode cX11_best 12 = .ok (.iconst (-1), 1) := by decide +kernel
theorem dX11_best_13 : decode cX11_best 13 = .ok (.istore_n 2, 1) := by decide +kernel
theorem dX11_best_14 : decode cX11_best 14 = .ok (.ldc2_w 214, 3) := by decide +kernel
theorem dX11_best_17 : decode cX11_best 17 = .ok (.lstore_n 3, 1) := by decide +kernel
theorem dX11_best_18 : decode cX11_best 18 = .ok (.iconst 0, 1) := by decide +kernel
theorem dX11_best_19 : decode cX11_best 19 = .ok (.istore 5, 2) := by decide +kernel
theorem dX11_best_21 : decode cX11_best 21 = .ok (.iload 5, 2) := by decide +kernel
theorem dX11_best_23 : decode cX11_best 23 = .ok (.aload_n 0, 1) := by decide +kernel
theorem dX11_best_24 : decode cX11_best 24 = .ok (.getfield 103, 3) := by decide +kernel
theorem dX11_best_27 : decode cX11_best 27 = .ok (.if_icmp .ge 54, 3) := by decide +kernel
theorem dX11_best_30 : decode cX11_best 30 = .ok (.aload_n 0, 1) := by decide +kernel
theorem dX11_best_31 : decode cX11_best 31 = .ok (.iload 5, 2) := by decide +kernel
theorem dX11_best_33 : decode cX11_best 33 = .ok (.invokevirtual 133, 3) := by decide +kernel
theorem dX11_best_36 : decode cX11_best 36 = .ok (.astore 6, 2) := by decide +kernel
theorem dX11_best_38 : decode cX11_best 38 = .ok (.aload 6, 2) := by decide +kernel
theorem dX11_best_40 : decode cX11_best 40 = .ok (.ifnull 35, 3) := by decide +kernel
theorem dX11_best_43 : decode cX11_best 43 = .ok (.aload_n 0, 1) := by decide +kernel
theorem dX11_best_44 : decode cX11_best 44 = .ok (.getfield 59, 3) := by decide +kernel
theorem dX11_best_47 : decode cX11_best 47 = .ok (.aload 6, 2) := by decide +kernel
theorem dX11_best_49 : decode cX11_best 49 = .ok (.invokevirtual 177, 3) := by decide +kernel
theorem dX11_best_52 : decode cX11_best 52 = .ok (.aload_n 0, 1) := by decide +kernel
theorem dX11_best_53 : decode cX11_best 53 = .ok (.getfield 59, 3) := by decide +kernel
theorem dX11_best_56 : decode cX11_best 56 = .ok (.iload_n 1, 1) := by decide +kernel
theorem dX11_best_57 : decode cX11_best 57 = .ok (.invokevirtual 188, 3) := by decide +kernel
theorem dX11_best_60 : decode cX11_best 60 = .ok (.lstore 7, 2) := by decide +kernel
theorem dX11_best_62 : decode cX11_best 62 = .ok (.lload 7, 2) := by decide +kernel
theorem dX11_best_64 : decode cX11_best 64 = .ok (.lload_n 3, 1) := by decide +kernel
theorem dX11_best_65 : decode cX11_best 65 = .ok (.lcmp, 1) := by decide +kernel
theorem dX11_best_66 : decode cX11_best 66 = .ok (.ifCond .le 9, 3) := by decide +kernel
theorem dX11_best_69 : decode cX11_best 69 = .ok (.lload 7, 2) := by decide +kernel
theorem dX11_best_71 : decode cX11_best 71 = .ok (.lstore_n 3, 1) := by decide +kernel
theorem dX11_best_72 : decode cX11_best 72 = .ok (.iload 5, 2) := by decide +kernel
theorem dX11_best_74 : decode cX11_best 74 = .ok (.istore_n 2, 1) := by decide +kernel
theorem dX11_best_75 : decode cX11_best 75 = .ok (.iinc 5 1, 3) := by decide +kernel
theorem dX11_best_78 : decode cX11_best 78 = .ok (.goto (-57), 3) := by decide +kernel
theorem dX11_best_81 : decode cX11_best 81 = .ok (.iload_n 2, 1) := by decide +kernel
theorem dX11_best_82 : decode cX11_best 82 = .ok (.ireturn, 1) := by decide +kernel
theorem dX11_rations_0 : decode cX11_rations 0 = .ok (.aload_n 0, 1) := by decide +kernel
theorem dX11_rations_1 : decode cX11_rations 1 = .ok (.iload_n 1, 1) := by decide +kernel
theorem dX11_rations_2 : decode cX11_rations 2 = .ok (.invokevirtual 133, 3) := by decide +kernel
theorem dX11_rations_5 : decode cX11_rations 5 = .ok (.astore_n 2, 1) := by decide +kernel
theorem dX11_rations_6 : decode cX11_rations 6 = .ok (.aload_n 2, 1) := by decide +kernel
theorem dX11_rations_7 : decode cX11_rations 7 = .ok (.ifnonnull 6, 3) := by decide +kernel
theorem dX11_rations_10 : decode cX11_rations 10 = .ok (.bipush (-5), 2) := by decide +kernel
theorem dX11_rations_12 : decode cX11_rations 12 = .ok (.ireturn, 1) := by decide +kernel
theorem dX11_rations_13 : decode cX11_rations 13 = .ok (.iconst 0, 1) := by decide +kernel
theorem dX11_rations_14 : decode cX11_rations 14 = .ok (.istore_n 3, 1) := by decide +kernel
theorem dX11_rations_15 : decode cX11_rations 15 = .ok (.ldc2_w 214, 3) := by decide +kernel
theorem dX11_rations_18 : decode cX11_rations 18 = .ok (.lstore 4, 2) := by decide +kernel
theorem dX11_rations_20 : decode cX11_rations 20 = .ok (.iconst 0, 1) := by decide +kernel
theorem dX11_rations_21 : decode cX11_rations 21 = .ok (.istore 6, 2) := by decide +kernel
theorem dX11_rations_23 : decode cX11_rations 23 = .ok (.iload 6, 2) := by decide +kernel
theorem dX11_rations_25 : decode cX11_rations 25 = .ok (.bipush 99, 2) := by decide +kernel
theorem dX11_rations_27 : decode cX11_rations 27 = .ok (.if_icmp .gt 49, 3) := by decide +kernel
theorem dX11_rations_30 : decode cX11_rations 30 = .ok (.aload_n 0, 1) := by decide +kernel
theorem dX11_rations_31 : decode cX11_rations 31 = .ok (.getfield 59, 3) := by decide +kernel
theorem dX11_rations_34 : decode cX11_rations 34 = .ok (.aload_n 2, 1) := by decide +kernel
theorem dX11_rations_35 : decode cX11_rations 35 = .ok (.iload 6, 2) := by decide +kernel
theorem dX11_rations_37 : decode cX11_rations 37 = .ok (.sipush 255, 3) := by decide +kernel
theorem dX11_rations_40 : decode cX11_rations 40 = .ok (.iconst (-1), 1) := by decide +kernel
theorem dX11_rations_41 : decode cX11_rations 41 = .ok (.iconst 0, 1) := by decide +kernel
theorem dX11_rations_42 : decode cX11_rations 42 = .ok (.invokevirtual 216, 3) := by decide +kernel
theorem dX11_rations_45 : decode cX11_rations 45 = .ok (.aload_n 0, 1) := by decide +kernel
theorem dX11_rations_46 : decode cX11_rations 46 = .ok (.getfield 59, 3) := by decide +kernel
theorem dX11_rations_49 : decode cX11_rations 49 = .ok (.iconst 0, 1) := by decide +kernel
theorem dX11_rations_50 : decode cX11_rations 50 = .ok (.invokevirtual 188, 3) := by decide +kernel
theorem dX11_rations_53 : decode cX11_rations 53 = .ok (.lstore 7, 2) := by decide +kernel
theorem dX11_rations_55 : decode cX11_rations 55 = .ok (.lload 7, 2) := by decide +kernel
theorem dX11_rations_57 : decode cX11_rations 57 = .ok (.lload 4, 2) := by decide +kernel
theorem dX11_rations_59 : decode cX11_rations 59 = .ok (.lcmp, 1) := by decide +kernel
theorem dX11_rations_60 : decode cX11_rations 60 = .ok (.ifCond .le 10, 3) := by decide +kernel
theorem dX11_rations_63 : decode cX11_rations 63 = .ok (.lload 7, 2) := by decide +kernel
theorem dX11_rations_65 : decode cX11_rations 65 = .ok (.lstore 4, 2) := by decide +kernel
theorem dX11_rations_67 : decode cX11_rations 67 = .ok (.iload 6, 2) := by decide +kernel
theorem dX11_rations_69 : decode cX11_rations 69 = .ok (.istore_n 3, 1) := by decide +kernel
theorem dX11_rations_70 : decode cX11_rations 70 = .ok (.iinc 6 1, 3) := by decide +kernel
theorem dX11_rations_73 : decode cX11_rations 73 = .ok (.goto (-50), 3) := by decide +kernel
theorem dX11_rations_76 : decode cX11_rations 76 = .ok (.iload_n 3, 1) := by decide +kernel
theorem dX11_rations_77 : decode cX11_rations 77 = .ok (.ireturn, 1) := by decide +kernel
theorem dX11_take_0 : decode cX11_take 0 = .ok (.aload_n 0, 1) := by decide +kernel
theorem dX11_take_1 : decode cX11_take 1 = .ok (.iload_n 1, 1) := by decide +kernel
theorem dX11_take_2 : decode cX11_take 2 = .ok (.invokevirtual 133, 3) := by decide +kernel
theorem dX11_take_5 : decode cX11_take 5 = .ok (.astore_n 3, 1) := by decide +kernel
theorem dX11_take_6 : decode cX11_take 6 = .ok (.aload_n 3, 1) := by decide +kernel
theorem dX11_take_7 : decode cX11_take 7 = .ok (.ifnonnull 6, 3) := by decide +kernel
theorem dX11_take_10 : decode cX11_take 10 = .ok (.bipush (-5), 2) := by decide +kernel
theorem dX11_take_12 : decode cX11_take 12 = .ok (.ireturn, 1) := by decide +kernel
theorem dX11_take_13 : decode cX11_take 13 = .ok (.iload_n 2, 1) := by decide +kernel
theorem dX11_take_14 : decode cX11_take 14 = .ok (.ifCond .le 16, 3) := by decide +kernel
theorem dX11_take_17 : decode cX11_take 17 = .ok (.iload_n 2, 1) := by decide +kernel
theorem dX11_take_18 : decode cX11_take 18 = .ok (.iconst 1, 1) := by decide +kernel
theorem dX11_take_19 : decode cX11_take 19 = .ok (.aload_n 0, 1) := by decide +kernel
theorem dX11_take_20 : decode cX11_take 20 = .ok (.getfield 50, 3) := by decide +kernel
theorem dX11_take_23 : decode cX11_take 23 = .ok (.getfield 71, 3) := by decide +kernel
theorem dX11_take_26 : decode cX11_take 26 = .ok (.ishl, 1) := by decide +kernel
theorem dX11_take_27 : decode cX11_take 27 = .ok (.if_icmp .lt 6, 3) := by decide +kernel
theorem dX11_take_30 : decode cX11_take 30 = .ok (.bipush (-7), 2) := by decide +kernel
theorem dX11_take_32 : decode cX11_take 32 = .ok (.ireturn, 1) := by decide +kernel
theorem dX11_take_33 : decode cX11_take 33 = .ok (.aload_n 0, 1) := by decide +kernel
theorem dX11_take_34 : decode cX11_take 34 = .ok (.aload_n 3, 1) := by decide +kernel
theorem dX11_take_35 : decode cX11_take 35 = .ok (.invokevirtual 220, 3) := by decide +kernel
theorem dX11_take_38 : decode cX11_take 38 = .ok (.aload_n 0, 1) := by decide +kernel
theorem dX11_take_39 : decode cX11_take 39 = .ok (.aload_n 3, 1) := by decide +kernel
theorem dX11_take_40 : decode cX11_take 40 = .ok (.iload_n 2, 1) := by decide +kernel
theorem dX11_take_41 : decode cX11_take 41 = .ok (.invokevirtual 223, 3) := by decide +kernel
theorem dX11_take_44 : decode cX11_take 44 = .ok (.ifCond .eq 7, 3) := by decide +kernel
theorem dX11_take_47 : decode cX11_take 47 = .ok (.iconst 1, 1) := by decide +kernel
theorem dX11_take_48 : decode cX11_take 48 = .ok (.goto 4, 3) := by decide +kernel
theorem dX11_take_51 : decode cX11_take 51 = .ok (.iconst 0, 1) := by decide +kernel
theorem dX11_take_52 : decode cX11_take 52 = .ok (.ireturn, 1) := by decide +kernel
theorem dX11_takes_0 : decode cX11_takes 0 = .ok (.aload_n 0, 1) := by decide +kernel
theorem dX11_takes_1 : decode cX11_takes 1 = .ok (.iload_n 1, 1) := by decide +kernel
theorem dX11_takes_2 : decode cX11_takes 2 = .ok (.invokevirtual 133, 3) := by decide +kernel
theorem dX11_takes_5 : decode cX11_takes 5 = .ok (.astore_n 2, 1) := by decide +kernel
theorem dX11_takes_6 : decode cX11_takes 6 = .ok (.aload_n 2, 1) := by decide +kernel
theorem dX11_takes_7 : decode cX11_takes 7 = .ok (.ifnonnull 6, 3) := by decide +kernel
theorem dX11_takes_10 : decode cX11_takes 10 = .ok (.bipush (-5), 2) := by decide +kernel
theorem dX11_takes_12 : decode cX11_takes 12 = .ok (.ireturn, 1) := by decide +kernel
theorem dX11_takes_13 : decode cX11_takes 13 = .ok (.aload_n 0, 1) := by decide +kernel
theorem dX11_takes_14 : decode cX11_takes 14 = .ok (.aload_n 2, 1) := by decide +kernel
theorem dX11_takes_15 : decode cX11_takes 15 = .ok (.invokevirtual 220, 3) := by decide +kernel
theorem dX11_takes_18 : decode cX11_takes 18 = .ok (.iconst 1, 1) := by decide +kernel
theorem dX11_takes_19 : decode cX11_takes 19 = .ok (.istore_n 3, 1) := by decide +kernel
theorem dX11_takes_20 : decode cX11_takes 20 = .ok (.iload_n 3, 1) := by decide +kernel
theorem dX11_takes_21 : decode cX11_takes 21 = .ok (.iconst 3, 1) := by decide +kernel
theorem dX11_takes_22 : decode cX11_takes 22 = .ok (.if_icmp .gt 54, 3) := by decide +kernel
theorem dX11_takes_25 : decode cX11_takes 25 = .ok (.iconst 1, 1) := by decide +kernel
theorem dX11_takes_26 : decode cX11_takes 26 = .ok (.istore 4, 2) := by decide +kernel
theorem dX11_takes_28 : decode cX11_takes 28 = .ok (.iload 4, 2) := by decide +kernel
theorem dX11_takes_30 : decode cX11_takes 30 = .ok (.iconst 1, 1) := by decide +kernel
theorem dX11_takes_31 : decode cX11_takes 31 = .ok (.aload_n 0, 1) := by decide +kernel
theorem dX11_takes_32 : decode cX11_takes 32 = .ok (.getfield 50, 3) := by decide +kernel
theorem dX11_takes_35 : decode cX11_takes 35 = .ok (.getfield 71, 3) := by decide +kernel
theorem dX11_takes_38 : decode cX11_takes 38 = .ok (.ishl, 1) := by decide +kernel
theorem dX11_takes_39 : decode cX11_takes 39 = .ok (.if_icmp .ge 31, 3) := by decide +kernel
theorem dX11_takes_42 : decode cX11_takes 42 = .ok (.iload 4, 2) := by decide +kernel
theorem dX11_takes_44 : decode cX11_takes 44 = .ok (.invokestatic 227, 3) := by decide +kernel
theorem dX11_takes_47 : decode cX11_takes 47 = .ok (.iload_n 3, 1) := by decide +kernel
theorem dX11_takes_48 : decode cX11_takes 48 = .ok (.if_icmp .ne 16, 3) := by decide +kernel
theorem dX11_takes_51 : decode cX11_takes 51 = .ok (.aload_n 0, 1) := by decide +kernel
theorem dX11_takes_52 : decode cX11_takes 52 = .ok (.aload_n 2, 1) := by decide +kernel
theorem dX11_takes_53 : decode cX11_takes 53 = .ok (.iload 4, 2) := by decide +kernel
theorem dX11_takes_55 : decode cX11_takes 55 = .ok (.invokevirtual 223, 3) := by decide +kernel
theorem dX11_takes_58 : decode cX11_takes 58 = .ok (.ifCond .eq 6, 3) := by decide +kernel
theorem dX11_takes_61 : decode cX11_takes 61 = .ok (.iload 4, 2) := by decide +kernel
theorem dX11_takes_63 : decode cX11_takes 63 = .ok (.ireturn, 1) := by decide +kernel
theorem dX11_takes_64 : decode cX11_takes 64 = .ok (.iinc 4 1, 3) := by decide +kernel
theorem dX11_takes_67 : decode cX11_takes 67 = .ok (.goto (-39), 3) := by decide +kernel
theorem dX11_takes_70 : decode cX11_takes 70 = .ok (.iinc 3 1, 3) := by decide +kernel
theorem dX11_takes_73 : decode cX11_takes 73 = .ok (.goto (-53), 3) := by decide +kernel
theorem dX11_takes_76 : decode cX11_takes 76 = .ok (.iconst (-1), 1) := by decide +kernel
theorem dX11_takes_77 : decode cX11_takes 77 = .ok (.ireturn, 1) := by decide +kernel
theorem dX11_hid_0 : decode cX11_hid 0 = .ok (.aload_n 0, 1) := by decide +kernel
theorem dX11_hid_1 : decode cX11_hid 1 = .ok (.iload_n 1, 1) := by decide +kernel
theorem dX11_hid_2 : decode cX11_hid 2 = .ok (.invokevirtual 133, 3) := by decide +kernel
theorem dX11_hid_5 : decode cX11_hid 5 = .ok (.astore 5, 2) := by decide +kernel
theorem dX11_hid_7 : decode cX11_hid 7 = .ok (.aload 5, 2) := by decide +kernel
theorem dX11_hid_9 : decode cX11_hid 9 = .ok (.ifnull 29, 3) := by decide +kernel
theorem dX11_hid_12 : decode cX11_hid 12 = .ok (.aload_n 0, 1) := by decide +kernel
theorem dX11_hid_13 : decode cX11_hid 13 = .ok (.iload_n 2, 1) := by decide +kernel
theorem dX11_hid_14 : decode cX11_hid 14 = .ok (.invokevirtual 81, 3) := by decide +kernel
theorem dX11_hid_17 : decode cX11_hid 17 = .ok (.ifCond .eq 21, 3) := by decide +kernel
theorem dX11_hid_20 : decode cX11_hid 20 = .ok (.iload_n 3, 1) := by decide +kernel
theorem dX11_hid_21 : decode cX11_hid 21 = .ok (.ifCond .lt 17, 3) := by decide +kernel
theorem dX11_hid_24 : decode cX11_hid 24 = .ok (.iload_n 3, 1) := by decide +kernel
theorem dX11_hid_25 : decode cX11_hid 25 = .ok (.bipush 50, 2) := by decide +kernel
theorem dX11_hid_27 : decode cX11_hid 27 = .ok (.if_icmp .gt 11, 3) := by decide +kernel
theorem dX11_hid_30 : decode cX11_hid 30 = .ok (.iload 4, 2) := by decide +kernel
theorem dX11_hid_32 : decode cX11_hid 32 = .ok (.invokestatic 172, 3) := by decide +kernel
theorem dX11_hid_35 : decode cX11_hid 35 = .ok (.ifCond .ne 7, 3) := by decide +kernel
theorem dX11_hid_38 : decode cX11_hid 38 = .ok (.ldc2_w 175, 3) := by decide +kernel
theorem dX11_hid_41 : decode cX11_hid 41 = .ok (.lreturn, 1) := by decide +kernel
theorem dX11_hid_42 : decode cX11_hid 42 = .ok (.aload_n 0, 1) := by decide +kernel
theorem dX11_hid_43 : decode cX11_hid 43 = .ok (.aload 5, 2) := by decide +kernel
theorem dX11_hid_45 : decode cX11_hid 45 = .ok (.invokevirtual 220, 3) := by decide +kernel
theorem dX11_hid_48 : decode cX11_hid 48 = .ok (.aload_n 0, 1) := by decide +kernel
theorem dX11_hid_49 : decode cX11_hid 49 = .ok (.getfield 59, 3) := by decide +kernel
theorem dX11_hid_52 : decode cX11_hid 52 = .ok (.aload 5, 2) := by decide +kernel
theorem dX11_hid_54 : decode cX11_hid 54 = .ok (.aload_n 0, 1) := by decide +kernel
theorem dX11_hid_55 : decode cX11_hid 55 = .ok (.getfield 50, 3) := by decide +kernel
theorem dX11_hid_58 : decode cX11_hid 58 = .ok (.getfield 94, 3) := by decide +kernel
theorem dX11_hid_61 : decode cX11_hid 61 = .ok (.iconst 2, 1) := by decide +kernel
theorem dX11_hid_62 : decode cX11_hid 62 = .ok (.iaload, 1) := by decide +kernel
theorem dX11_hid_63 : decode cX11_hid 63 = .ok (.sipush 255, 3) := by decide +kernel
theorem dX11_hid_66 : decode cX11_hid 66 = .ok (.iload_n 2, 1) := by decide +kernel
theorem dX11_hid_67 : decode cX11_hid 67 = .ok (.iload_n 3, 1) := by decide +kernel
theorem dX11_hid_68 : decode cX11_hid 68 = .ok (.invokevirtual 216, 3) := by decide +kernel
theorem dX11_hid_71 : decode cX11_hid 71 = .ok (.aload_n 0, 1) := by decide +kernel
theorem dX11_hid_72 : decode cX11_hid 72 = .ok (.getfield 59, 3) := by decide +kernel
theorem dX11_hid_75 : decode cX11_hid 75 = .ok (.getfield 181, 3) := by decide +kernel
theorem dX11_hid_78 : decode cX11_hid 78 = .ok (.iload_n 2, 1) := by decide +kernel
theorem dX11_hid_79 : decode cX11_hid 79 = .ok (.laload, 1) := by decide +kernel
theorem dX11_hid_80 : decode cX11_hid 80 = .ok (.aload_n 0, 1) := by decide +kernel
theorem dX11_hid_81 : decode cX11_hid 81 = .ok (.getfield 34, 3) := by decide +kernel
theorem dX11_hid_84 : decode cX11_hid 84 = .ok (.iload_n 2, 1) := by decide +kernel
theorem dX11_hid_85 : decode cX11_hid 85 = .ok (.laload, 1) := by decide +kernel
theorem dX11_hid_86 : decode cX11_hid 86 = .ok (.lsub, 1) := by decide +kernel
theorem dX11_hid_87 : decode cX11_hid 87 = .ok (.iload 4, 2) := by decide +kernel
theorem dX11_hid_89 : decode cX11_hid 89 = .ok (.invokestatic 184, 3) := by decide +kernel
theorem dX11_hid_92 : decode cX11_hid 92 = .ok (.lreturn, 1) := by decide +kernel
theorem dX11_judge_0 : decode cX11_judge 0 = .ok (.aload_n 0, 1) := by decide +kernel
theorem dX11_judge_1 : decode cX11_judge 1 = .ok (.iload_n 1, 1) := by decide +kernel
theorem dX11_judge_2 : decode cX11_judge 2 = .ok (.invokevirtual 133, 3) := by decide +kernel
theorem dX11_judge_5 : decode cX11_judge 5 = .ok (.astore 4, 2) := by decide +kernel
theorem dX11_judge_7 : decode cX11_judge 7 = .ok (.aload 4, 2) := by decide +kernel
theorem dX11_judge_9 : decode cX11_judge 9 = .ok (.ifnull 20, 3) := by decide +kernel
theorem dX11_judge_12 : decode cX11_judge 12 = .ok (.iload_n 2, 1) := by decide +kernel
theorem dX11_judge_13 : decode cX11_judge 13 = .ok (.ifCond .lt 16, 3) := by decide +kernel
theorem dX11_judge_16 : decode cX11_judge 16 = .ok (.iload_n 2, 1) := by decide +kernel
theorem dX11_judge_17 : decode cX11_judge 17 = .ok (.aload_n 0, 1) := by decide +kernel
theorem dX11_judge_18 : decode cX11_judge 18 = .ok (.getfield 50, 3) := by decide +kernel
theorem dX11_judge_21 : decode cX11_judge 21 = .ok (.getfield 94, 3) := by decide +kernel
theorem dX11_judge_24 : decode cX11_judge 24 = .ok (.iconst 0, 1) := by decide +kernel
theorem dX11_judge_25 : decode cX11_judge 25 = .ok (.iaload, 1) := by decide +kernel
theorem dX11_judge_26 : decode cX11_judge 26 = .ok (.if_icmp .lt 6, 3) := by decide +kernel
theorem dX11_judge_29 : decode cX11_judge 29 = .ok (.bipush (-5), 2) := by decide +kernel
theorem dX11_judge_31 : decode cX11_judge 31 = .ok (.ireturn, 1) := by decide +kernel
theorem dX11_judge_32 : decode cX11_judge 32 = .ok (.aload_n 0, 1) := by decide +kernel
theorem dX11_judge_33 : decode cX11_judge 33 = .ok (.iload_n 3, 1) := by decide +kernel
theorem dX11_judge_34 : decode cX11_judge 34 = .ok (.invokevirtual 116, 3) := by decide +kernel
theorem dX11_judge_37 : decode cX11_judge 37 = .ok (.astore 5, 2) := by decide +kernel
theorem dX11_judge_39 : decode cX11_judge 39 = .ok (.aload 5, 2) := by decide +kernel
theorem dX11_judge_41 : decode cX11_judge 41 = .ok (.ifnonnull 6, 3) := by decide +kernel
theorem dX11_judge_44 : decode cX11_judge 44 = .ok (.bipush (-2), 2) := by decide +kernel
theorem dX11_judge_46 : decode cX11_judge 46 = .ok (.ireturn, 1) := by decide +kernel
theorem dX11_judge_47 : decode cX11_judge 47 = .ok (.aload 5, 2) := by decide +kernel
theorem dX11_judge_49 : decode cX11_judge 49 = .ok (.invokevirtual 120, 3) := by decide +kernel
theorem dX11_judge_52 : decode cX11_judge 52 = .ok (.ifCond .eq 6, 3) := by decide +kernel
theorem dX11_judge_55 : decode cX11_judge 55 = .ok (.bipush (-11), 2) := by decide +kernel
theorem dX11_judge_57 : decode cX11_judge 57 = .ok (.ireturn, 1) := by decide +kernel
theorem dX11_judge_58 : decode cX11_judge 58 = .ok (.aload 5, 2) := by decide +kernel
theorem dX11_judge_60 : decode cX11_judge 60 = .ok (.getfield 124, 3) := by decide +kernel
theorem dX11_judge_63 : decode cX11_judge 63 = .ok (.aload_n 0, 1) := by decide +kernel
theorem dX11_judge_64 : decode cX11_judge 64 = .ok (.getfield 50, 3) := by decide +kernel
theorem dX11_judge_67 : decode cX11_judge 67 = .ok (.getfield 71, 3) := by decide +kernel
theorem dX11_judge_70 : decode cX11_judge 70 = .ok (.if_icmp .eq 6, 3) := by decide +kernel
theorem dX11_judge_73 : decode cX11_judge 73 = .ok (.bipush (-2), 2) := by decide +kernel
theorem dX11_judge_75 : decode cX11_judge 75 = .ok (.ireturn, 1) := by decide +kernel
theorem dX11_judge_76 : decode cX11_judge 76 = .ok (.aload_n 0, 1) := by decide +kernel
theorem dX11_judge_77 : decode cX11_judge 77 = .ok (.getfield 59, 3) := by decide +kernel
theorem dX11_judge_80 : decode cX11_judge 80 = .ok (.aload 4, 2) := by decide +kernel
theorem dX11_judge_82 : decode cX11_judge 82 = .ok (.invokevirtual 177, 3) := by decide +kernel
theorem dX11_judge_85 : decode cX11_judge 85 = .ok (.iconst 0, 1) := by decide +kernel
theorem dX11_judge_86 : decode cX11_judge 86 = .ok (.istore 6, 2) := by decide +kernel
theorem dX11_judge_88 : decode cX11_judge 88 = .ok (.iload 6, 2) := by decide +kernel
theorem dX11_judge_90 : decode cX11_judge 90 = .ok (.aload_n 0, 1) := by decide +kernel
theorem dX11_judge_91 : decode cX11_judge 91 = .ok (.getfield 50, 3) := by decide +kernel
theorem dX11_judge_94 : decode cX11_judge 94 = .ok (.getfield 71, 3) := by decide +kernel
theorem dX11_judge_97 : decode cX11_judge 97 = .ok (.if_icmp .ge 35, 3) := by decide +kernel
theorem dX11_judge_100 : decode cX11_judge 100 = .ok (.aload 5, 2) := by decide +kernel
theorem dX11_judge_102 : decode cX11_judge 102 = .ok (.getfield 232, 3) := by decide +kernel
theorem dX11_judge_105 : decode cX11_judge 105 = .ok (.iload 6, 2) := by decide +kernel
theorem dX11_judge_107 : decode cX11_judge 107 = .ok (.iaload, 1) := by decide +kernel
theorem dX11_judge_108 : decode cX11_judge 108 = .ok (.aload_n 0, 1) := by decide +kernel
theorem dX11_judge_109 : decode cX11_judge 109 = .ok (.getfield 59, 3) := by decide +kernel
theorem dX11_judge_112 : decode cX11_judge 112 = .ok (.getfield 195, 3) := by decide +kernel
theorem dX11_judge_115 : decode cX11_judge 115 = .ok (.iload_n 2, 1) := by decide +kernel
theorem dX11_judge_116 : decode cX11_judge 116 = .ok (.aaload, 1) := by decide +kernel
theorem dX11_judge_117 : decode cX11_judge 117 = .ok (.iload 6, 2) := by decide +kernel
theorem dX11_judge_119 : decode cX11_judge 119 = .ok (.iaload, 1) := by decide +kernel
theorem dX11_judge_120 : decode cX11_judge 120 = .ok (.if_icmp .eq 6, 3) := by decide +kernel
theorem dX11_judge_123 : decode cX11_judge 123 = .ok (.iload 6, 2) := by decide +kernel
theorem dX11_judge_125 : decode cX11_judge 125 = .ok (.ireturn, 1) := by decide +kernel
theorem dX11_judge_126 : decode cX11_judge 126 = .ok (.iinc 6 1, 3) := by decide +kernel
theorem dX11_judge_129 : decode cX11_judge 129 = .ok (.goto (-41), 3) := by decide +kernel
theorem dX11_judge_132 : decode cX11_judge 132 = .ok (.iconst (-1), 1) := by decide +kernel
theorem dX11_judge_133 : decode cX11_judge 133 = .ok (.ireturn, 1) := by decide +kernel
theorem dX11_until_0 : decode cX11_until 0 = .ok (.aload_n 0, 1) := by decide +kernel
theorem dX11_until_1 : decode cX11_until 1 = .ok (.iload_n 1, 1) := by decide +kernel
theorem dX11_until_2 : decode cX11_until 2 = .ok (.invokevirtual 133, 3) := by decide +kernel
theorem dX11_until_5 : decode cX11_until 5 = .ok (.astore_n 3, 1) := by decide +kernel
theorem dX11_until_6 : decode cX11_until 6 = .ok (.aload_n 3, 1) := by decide +kernel
theorem dX11_until_7 : decode cX11_until 7 = .ok (.ifnull 11, 3) := by decide +kernel
theorem dX11_until_10 : decode cX11_until 10 = .ok (.aload_n 0, 1) := by decide +kernel
theorem dX11_until_11 : decode cX11_until 11 = .ok (.iload_n 2, 1) := by decide +kernel
theorem dX11_until_12 : decode cX11_until 12 = .ok (.invokevirtual 81, 3) := by decide +kernel
theorem dX11_until_15 : decode cX11_until 15 = .ok (.ifCond .ne 6, 3) := by decide +kernel
theorem dX11_until_18 : decode cX11_until 18 = .ok (.bipush (-5), 2) := by decide +kernel
theorem dX11_until_20 : decode cX11_until 20 = .ok (.ireturn, 1) := by decide +kernel
theorem dX11_until_21 : decode cX11_until 21 = .ok (.aload_n 0, 1) := by decide +kernel
theorem dX11_until_22 : decode cX11_until 22 = .ok (.getfield 59, 3) := by decide +kernel
theorem dX11_until_25 : decode cX11_until 25 = .ok (.aload_n 3, 1) := by decide +kernel
theorem dX11_until_26 : decode cX11_until 26 = .ok (.invokevirtual 177, 3) := by decide +kernel
theorem dX11_until_29 : decode cX11_until 29 = .ok (.iconst 0, 1) := by decide +kernel
theorem dX11_until_30 : decode cX11_until 30 = .ok (.istore 4, 2) := by decide +kernel
theorem dX11_until_32 : decode cX11_until 32 = .ok (.iconst 0, 1) := by decide +kernel
theorem dX11_until_33 : decode cX11_until 33 = .ok (.istore 5, 2) := by decide +kernel
theorem dX11_until_35 : decode cX11_until 35 = .ok (.iload 5, 2) := by decide +kernel
theorem dX11_until_37 : decode cX11_until 37 = .ok (.aload_n 0, 1) := by decide +kernel
theorem dX11_until_38 : decode cX11_until 38 = .ok (.getfield 59, 3) := by decide +kernel
theorem dX11_until_41 : decode cX11_until 41 = .ok (.invokevirtual 235, 3) := by decide +kernel
theorem dX11_until_44 : decode cX11_until 44 = .ok (.if_icmp .ge 28, 3) := by decide +kernel
theorem dX11_until_47 : decode cX11_until 47 = .ok (.aload_n 0, 1) := by decide +kernel
theorem dX11_until_48 : decode cX11_until 48 = .ok (.getfield 59, 3) := by decide +kernel
theorem dX11_until_51 : decode cX11_until 51 = .ok (.getfield 192, 3) := by decide +kernel
theorem dX11_until_54 : decode cX11_until 54 = .ok (.iload 5, 2) := by decide +kernel
theorem dX11_until_56 : decode cX11_until 56 = .ok (.aaload, 1) := by decide +kernel
theorem dX11_until_57 : decode cX11_until 57 = .ok (.iload_n 2, 1) := by decide +kernel
theorem dX11_until_58 : decode cX11_until 58 = .ok (.iaload, 1) := by decide +kernel
theorem dX11_until_59 : decode cX11_until 59 = .ok (.ifCond .le 7, 3) := by decide +kernel
theorem dX11_until_62 : decode cX11_until 62 = .ok (.iload 5, 2) := by decide +kernel
theorem dX11_until_64 : decode cX11_until 64 = .ok (.istore 4, 2) := by decide +kernel
theorem dX11_until_66 : decode cX11_until 66 = .ok (.iinc 5 1, 3) := by decide +kernel
theorem dX11_until_69 : decode cX11_until 69 = .ok (.goto (-34), 3) := by decide +kernel
theorem dX11_until_72 : decode cX11_until 72 = .ok (.iload 4, 2) := by decide +kernel
theorem dX11_until_74 : decode cX11_until 74 = .ok (.ireturn, 1) := by decide +kernel
theorem dX11_image_0 : decode cX11_image 0 = .ok (.aload_n 0, 1) := by decide +kernel
theorem dX11_image_1 : decode cX11_image 1 = .ok (.getfield 238, 3) := by decide +kernel
theorem dX11_image_4 : decode cX11_image 4 = .ok (.ifnonnull 21, 3) := by decide +kernel
theorem dX11_image_7 : decode cX11_image 7 = .ok (.aload_n 0, 1) := by decide +kernel
theorem dX11_image_8 : decode cX11_image 8 = .ok (.new 45, 3) := by decide +kernel
theorem dX11_image_11 : decode cX11_image 11 = .ok (.dup, 1) := by decide +kernel
theorem dX11_image_12 : decode cX11_image 12 = .ok (.aload_n 0, 1) := by decide +kernel
theorem dX11_image_13 : decode cX11_image 13 = .ok (.getfield 50, 3) := by decide +kernel
theorem dX11_image_16 : decode cX11_image 16 = .ok (.getfield 106, 3) := by decide +kernel
theorem dX11_image_19 : decode cX11_image 19 = .ok (.invokespecial 47, 3) := by decide +kernel
theorem dX11_image_22 : decode cX11_image 22 = .ok (.putfield 238, 3) := by decide +kernel
theorem dX11_image_25 : decode cX11_image 25 = .ok (.aload_n 0, 1) := by decide +kernel
theorem dX11_image_26 : decode cX11_image 26 = .ok (.getfield 238, 3) := by decide +kernel
theorem dX11_image_29 : decode cX11_image 29 = .ok (.aload_n 0, 1) := by decide +kernel
theorem dX11_image_30 : decode cX11_image 30 = .ok (.getfield 50, 3) := by decide +kernel
theorem dX11_image_33 : decode cX11_image 33 = .ok (.getfield 71, 3) := by decide +kernel
theorem dX11_image_36 : decode cX11_image 36 = .ok (.putfield 71, 3) := by decide +kernel
theorem dX11_image_39 : decode cX11_image 39 = .ok (.aload_n 0, 1) := by decide +kernel
theorem dX11_image_40 : decode cX11_image 40 = .ok (.getfield 238, 3) := by decide +kernel
theorem dX11_image_43 : decode cX11_image 43 = .ok (.aload_n 0, 1) := by decide +kernel
theorem dX11_image_44 : decode cX11_image 44 = .ok (.getfield 50, 3) := by decide +kernel
theorem dX11_image_47 : decode cX11_image 47 = .ok (.invokevirtual 241, 3) := by decide +kernel
theorem dX11_image_50 : decode cX11_image 50 = .ok (.aload_n 0, 1) := by decide +kernel
theorem dX11_image_51 : decode cX11_image 51 = .ok (.getfield 50, 3) := by decide +kernel
theorem dX11_image_54 : decode cX11_image 54 = .ok (.getfield 71, 3) := by decide +kernel
theorem dX11_image_57 : decode cX11_image 57 = .ok (.ireturn, 1) := by decide +kernel
theorem dX11_back_0 : decode cX11_back 0 = .ok (.aload_n 0, 1) := by decide +kernel
theorem dX11_back_1 : decode cX11_back 1 = .ok (.getfield 238, 3) := by decide +kernel
theorem dX11_back_4 : decode cX11_back 4 = .ok (.ifnonnull 6, 3) := by decide +kernel
theorem dX11_back_7 : decode cX11_back 7 = .ok (.bipush (-3), 2) := by decide +kernel
theorem dX11_back_9 : decode cX11_back 9 = .ok (.ireturn, 1) := by decide +kernel
theorem dX11_back_10 : decode cX11_back 10 = .ok (.aload_n 0, 1) := by decide +kernel
theorem dX11_back_11 : decode cX11_back 11 = .ok (.getfield 50, 3) := by decide +kernel
theorem dX11_back_14 : decode cX11_back 14 = .ok (.aload_n 0, 1) := by decide +kernel
theorem dX11_back_15 : decode cX11_back 15 = .ok (.getfield 238, 3) := by decide +kernel
theorem dX11_back_18 : decode cX11_back 18 = .ok (.invokevirtual 241, 3) := by decide +kernel
theorem dX11_back_21 : decode cX11_back 21 = .ok (.aload_n 0, 1) := by decide +kernel
theorem dX11_back_22 : decode cX11_back 22 = .ok (.getfield 50, 3) := by decide +kernel
theorem dX11_back_25 : decode cX11_back 25 = .ok (.getfield 71, 3) := by decide +kernel
theorem dX11_back_28 : decode cX11_back 28 = .ok (.ireturn, 1) := by decide +kernel
theorem dX11_sheet_0 : decode cX11_sheet 0 = .ok (.aload_n 0, 1) := by decide +kernel
theorem dX11_sheet_1 : decode cX11_sheet 1 = .ok (.iload_n 1, 1) := by decide +kernel
theorem dX11_sheet_2 : decode cX11_sheet 2 = .ok (.invokevirtual 116, 3) := by decide +kernel
theorem dX11_sheet_5 : decode cX11_sheet 5 = .ok (.astore 4, 2) := by decide +kernel
theorem dX11_sheet_7 : decode cX11_sheet 7 = .ok (.aload 4, 2) := by decide +kernel
theorem dX11_sheet_9 : decode cX11_sheet 9 = .ok (.ifnull 13, 3) := by decide +kernel
theorem dX11_sheet_12 : decode cX11_sheet 12 = .ok (.iload_n 2, 1) := by decide +kernel
theorem dX11_sheet_13 : decode cX11_sheet 13 = .ok (.iconst (-1), 1) := by decide +kernel
theorem dX11_sheet_14 : decode cX11_sheet 14 = .ok (.if_icmp .lt 8, 3) := by decide +kernel
theorem dX11_sheet_17 : decode cX11_sheet 17 = .ok (.iload_n 2, 1) := by decide +kernel
theorem dX11_sheet_18 : decode cX11_sheet 18 = .ok (.iconst 2, 1) := by decide +kernel
theorem dX11_sheet_19 : decode cX11_sheet 19 = .ok (.if_icmp .le 6, 3) := by decide +kernel
theorem dX11_sheet_22 : decode cX11_sheet 22 = .ok (.bipush (-2), 2) := by decide +kernel
theorem dX11_sheet_24 : decode cX11_sheet 24 = .ok (.ireturn, 1) := by decide +kernel
theorem dX11_sheet_25 : decode cX11_sheet 25 = .ok (.iload_n 2, 1) := by decide +kernel
theorem dX11_sheet_26 : decode cX11_sheet 26 = .ok (.iconst (-1), 1) := by decide +kernel
theorem dX11_sheet_27 : decode cX11_sheet 27 = .ok (.if_icmp .ne 12, 3) := by decide +kernel
theorem dX11_sheet_30 : decode cX11_sheet 30 = .ok (.aload 4, 2) := by decide +kernel
theorem dX11_sheet_32 : decode cX11_sheet 32 = .ok (.iload_n 2, 1) := by decide +kernel
theorem dX11_sheet_33 : decode cX11_sheet 33 = .ok (.iconst 0, 1) := by decide +kernel
theorem dX11_sheet_34 : decode cX11_sheet 34 = .ok (.invokevirtual 244, 3) := by decide +kernel
theorem dX11_sheet_37 : decode cX11_sheet 37 = .ok (.iconst 1, 1) := by decide +kernel
theorem dX11_sheet_38 : decode cX11_sheet 38 = .ok (.ireturn, 1) := by decide +kernel
theorem dX11_sheet_39 : decode cX11_sheet 39 = .ok (.iload_n 3, 1) := by decide +kernel
theorem dX11_sheet_40 : decode cX11_sheet 40 = .ok (.bipush 40, 2) := by decide +kernel
theorem dX11_sheet_42 : decode cX11_sheet 42 = .ok (.if_icmp .le 6, 3) := by decide +kernel
theorem dX11_sheet_45 : decode cX11_sheet 45 = .ok (.bipush (-2), 2) := by decide +kernel
theorem dX11_sheet_47 : decode cX11_sheet 47 = .ok (.ireturn, 1) := by decide +kernel
theorem dX11_sheet_48 : decode cX11_sheet 48 = .ok (.iload_n 3, 1) := by decide +kernel
theorem dX11_sheet_49 : decode cX11_sheet 49 = .ok (.ifCond .ge 6, 3) := by decide +kernel
theorem dX11_sheet_52 : decode cX11_sheet 52 = .ok (.bipush (-14), 2) := by decide +kernel
theorem dX11_sheet_54 : decode cX11_sheet 54 = .ok (.ireturn, 1) := by decide +kernel
theorem dX11_sheet_55 : decode cX11_sheet 55 = .ok (.aload 4, 2) := by decide +kernel
theorem dX11_sheet_57 : decode cX11_sheet 57 = .ok (.iload_n 2, 1) := by decide +kernel
theorem dX11_sheet_58 : decode cX11_sheet 58 = .ok (.iload_n 3, 1) := by decide +kernel
theorem dX11_sheet_59 : decode cX11_sheet 59 = .ok (.invokevirtual 244, 3) := by decide +kernel
theorem dX11_sheet_62 : decode cX11_sheet 62 = .ok (.iconst 1, 1) := by decide +kernel
theorem dX11_sheet_63 : decode cX11_sheet 63 = .ok (.ireturn, 1) := by decide +kernel
theorem dX11_cell_0 : decode cX11_cell 0 = .ok (.aload_n 0, 1) := by decide +kernel
theorem dX11_cell_1 : decode cX11_cell 1 = .ok (.iload_n 1, 1) := by decide +kernel
theorem dX11_cell_2 : decode cX11_cell 2 = .ok (.invokevirtual 116, 3) := by decide +kernel
theorem dX11_cell_5 : decode cX11_cell 5 = .ok (.astore 4, 2) := by decide +kernel
theorem dX11_cell_7 : decode cX11_cell 7 = .ok (.aload 4, 2) := by decide +kernel
theorem dX11_cell_9 : decode cX11_cell 9 = .ok (.ifnonnull 6, 3) := by decide +kernel
theorem dX11_cell_12 : decode cX11_cell 12 = .ok (.bipush (-2), 2) := by decide +kernel
theorem dX11_cell_14 : decode cX11_cell 14 = .ok (.ireturn, 1) := by decide +kernel
theorem dX11_cell_15 : decode cX11_cell 15 = .ok (.aload 4, 2) := by decide +kernel
theorem dX11_cell_17 : decode cX11_cell 17 = .ok (.invokevirtual 120, 3) := by decide +kernel
theorem dX11_cell_20 : decode cX11_cell 20 = .ok (.ifCond .eq 6, 3) := by decide +kernel
theorem dX11_cell_23 : decode cX11_cell 23 = .ok (.bipush (-11), 2) := by decide +kernel
theorem dX11_cell_25 : decode cX11_cell 25 = .ok (.ireturn, 1) := by decide +kernel
theorem dX11_cell_26 : decode cX11_cell 26 = .ok (.iload_n 2, 1) := by decide +kernel
theorem dX11_cell_27 : decode cX11_cell 27 = .ok (.ifCond .lt 12, 3) := by decide +kernel
theorem dX11_cell_30 : decode cX11_cell 30 = .ok (.iload_n 2, 1) := by decide +kernel
theorem dX11_cell_31 : decode cX11_cell 31 = .ok (.aload 4, 2) := by decide +kernel
theorem dX11_cell_33 : decode cX11_cell 33 = .ok (.getfield 124, 3) := by decide +kernel
theorem dX11_cell_36 : decode cX11_cell 36 = .ok (.if_icmp .lt 6, 3) := by decide +kernel
theorem dX11_cell_39 : decode cX11_cell 39 = .ok (.bipush (-12), 2) := by decide +kernel
theorem dX11_cell_41 : decode cX11_cell 41 = .ok (.ireturn, 1) := by decide +kernel
theorem dX11_cell_42 : decode cX11_cell 42 = .ok (.aload 4, 2) := by decide +kernel
theorem dX11_cell_44 : decode cX11_cell 44 = .ok (.getfield 232, 3) := by decide +kernel
theorem dX11_cell_47 : decode cX11_cell 47 = .ok (.iload_n 2, 1) := by decide +kernel
theorem dX11_cell_48 : decode cX11_cell 48 = .ok (.aload 4, 2) := by decide +kernel
theorem dX11_cell_50 : decode cX11_cell 50 = .ok (.iload_n 3, 1) := by decide +kernel
theorem dX11_cell_51 : decode cX11_cell 51 = .ok (.invokevirtual 248, 3) := by decide +kernel
theorem dX11_cell_54 : decode cX11_cell 54 = .ok (.iastore, 1) := by decide +kernel
theorem dX11_cell_55 : decode cX11_cell 55 = .ok (.iconst 1, 1) := by decide +kernel
theorem dX11_cell_56 : decode cX11_cell 56 = .ok (.ireturn, 1) := by decide +kernel
theorem dX11_copy_0 : decode cX11_copy 0 = .ok (.aload_n 0, 1) := by decide +kernel
theorem dX11_copy_1 : decode cX11_copy 1 = .ok (.iload_n 1, 1) := by decide +kernel
theorem dX11_copy_2 : decode cX11_copy 2 = .ok (.invokevirtual 116, 3) := by decide +kernel
theorem dX11_copy_5 : decode cX11_copy 5 = .ok (.astore 6, 2) := by decide +kernel
theorem dX11_copy_7 : decode cX11_copy 7 = .ok (.aload_n 0, 1) := by decide +kernel
theorem dX11_copy_8 : decode cX11_copy 8 = .ok (.iload_n 3, 1) := by decide +kernel
theorem dX11_copy_9 : decode cX11_copy 9 = .ok (.invokevirtual 116, 3) := by decide +kernel
theorem dX11_copy_12 : decode cX11_copy 12 = .ok (.astore 7, 2) := by decide +kernel
theorem dX11_copy_14 : decode cX11_copy 14 = .ok (.aload 6, 2) := by decide +kernel
theorem dX11_copy_16 : decode cX11_copy 16 = .ok (.ifnull 8, 3) := by decide +kernel
theorem dX11_copy_19 : decode cX11_copy 19 = .ok (.aload 7, 2) := by decide +kernel
theorem dX11_copy_21 : decode cX11_copy 21 = .ok (.ifnonnull 6, 3) := by decide +kernel
theorem dX11_copy_24 : decode cX11_copy 24 = .ok (.bipush (-2), 2) := by decide +kernel
theorem dX11_copy_26 : decode cX11_copy 26 = .ok (.ireturn, 1) := by decide +kernel
theorem dX11_copy_27 : decode cX11_copy 27 = .ok (.aload 6, 2) := by decide +kernel
theorem dX11_copy_29 : decode cX11_copy 29 = .ok (.invokevirtual 120, 3) := by decide +kernel
theorem dX11_copy_32 : decode cX11_copy 32 = .ok (.ifCond .ne 11, 3) := by decide +kernel
theorem dX11_copy_35 : decode cX11_copy 35 = .ok (.aload 7, 2) := by decide +kernel
theorem dX11_copy_37 : decode cX11_copy 37 = .ok (.invokevirtual 120, 3) := by decide +kernel
theorem dX11_copy_40 : decode cX11_copy 40 = .ok (.ifCond .eq 6, 3) := by decide +kernel
theorem dX11_copy_43 : decode cX11_copy 43 = .ok (.bipush (-11), 2) := by decide +kernel
theorem dX11_copy_45 : decode cX11_copy 45 = .ok (.ireturn, 1) := by decide +kernel
theorem dX11_copy_46 : decode cX11_copy 46 = .ok (.aload 6, 2) := by decide +kernel
theorem dX11_copy_48 : decode cX11_copy 48 = .ok (.getfield 251, 3) := by decide +kernel
theorem dX11_copy_51 : decode cX11_copy 51 = .ok (.aload 7, 2) := by decide +kernel
theorem dX11_copy_53 : decode cX11_copy 53 = .ok (.getfield 251, 3) := by decide +kernel
theorem dX11_copy_56 : decode cX11_copy 56 = .ok (.if_icmp .eq 6, 3) := by decide +kernel
theorem dX11_copy_59 : decode cX11_copy 59 = .ok (.bipush (-13), 2) := by decide +kernel
theorem dX11_copy_61 : decode cX11_copy 61 = .ok (.ireturn, 1) := by decide +kernel
theorem dX11_copy_62 : decode cX11_copy 62 = .ok (.aload 6, 2) := by decide +kernel
theorem dX11_copy_64 : decode cX11_copy 64 = .ok (.iload_n 2, 1) := by decide +kernel
theorem dX11_copy_65 : decode cX11_copy 65 = .ok (.iload 5, 2) := by decide +kernel
theorem dX11_copy_67 : decode cX11_copy 67 = .ok (.invokevirtual 254, 3) := by decide +kernel
theorem dX11_copy_70 : decode cX11_copy 70 = .ok (.ifCond .eq 15, 3) := by decide +kernel
theorem dX11_copy_73 : decode cX11_copy 73 = .ok (.aload 7, 2) := by decide +kernel
theorem dX11_copy_75 : decode cX11_copy 75 = .ok (.iload 4, 2) := by decide +kernel
theorem dX11_copy_77 : decode cX11_copy 77 = .ok (.iload 5, 2) := by decide +kernel
theorem dX11_copy_79 : decode cX11_copy 79 = .ok (.invokevirtual 254, 3) := by decide +kernel
theorem dX11_copy_82 : decode cX11_copy 82 = .ok (.ifCond .ne 6, 3) := by decide +kernel
theorem dX11_copy_85 : decode cX11_copy 85 = .ok (.bipush (-12), 2) := by decide +kernel
theorem dX11_copy_87 : decode cX11_copy 87 = .ok (.ireturn, 1) := by decide +kernel
theorem dX11_copy_88 : decode cX11_copy 88 = .ok (.aload 6, 2) := by decide +kernel
theorem dX11_copy_90 : decode cX11_copy 90 = .ok (.getfield 232, 3) := by decide +kernel
theorem dX11_copy_93 : decode cX11_copy 93 = .ok (.iload_n 2, 1) := by decide +kernel
theorem dX11_copy_94 : decode cX11_copy 94 = .ok (.aload 7, 2) := by decide +kernel
theorem dX11_copy_96 : decode cX11_copy 96 = .ok (.getfield 232, 3) := by decide +kernel
theorem dX11_copy_99 : decode cX11_copy 99 = .ok (.iload 4, 2) := by decide +kernel
theorem dX11_copy_101 : decode cX11_copy 101 = .ok (.iload 5, 2) := by decide +kernel
theorem dX11_copy_103 : decode cX11_copy 103 = .ok (.invokestatic 257, 3) := by decide +kernel
theorem dX11_copy_106 : decode cX11_copy 106 = .ok (.iload 5, 2) := by decide +kernel
theorem dX11_copy_108 : decode cX11_copy 108 = .ok (.ireturn, 1) := by decide +kernel
theorem dX11_men_0 : decode cX11_men 0 = .ok (.aload_n 0, 1) := by decide +kernel
theorem dX11_men_1 : decode cX11_men 1 = .ok (.iload_n 1, 1) := by decide +kernel
theorem dX11_men_2 : decode cX11_men 2 = .ok (.invokevirtual 116, 3) := by decide +kernel
theorem dX11_men_5 : decode cX11_men 5 = .ok (.astore 5, 2) := by decide +kernel
theorem dX11_men_7 : decode cX11_men 7 = .ok (.aload 5, 2) := by decide +kernel
theorem dX11_men_9 : decode cX11_men 9 = .ok (.ifnull 24, 3) := by decide +kernel
theorem dX11_men_12 : decode cX11_men 12 = .ok (.iload_n 2, 1) := by decide +kernel
theorem dX11_men_13 : decode cX11_men 13 = .ok (.ifCond .lt 20, 3) := by decide +kernel
theorem dX11_men_16 : decode cX11_men 16 = .ok (.iload_n 2, 1) := by decide +kernel
theorem dX11_men_17 : decode cX11_men 17 = .ok (.iconst 2, 1) := by decide +kernel
theorem dX11_men_18 : decode cX11_men 18 = .ok (.if_icmp .gt 15, 3) := by decide +kernel
theorem dX11_men_21 : decode cX11_men 21 = .ok (.iload 4, 2) := by decide +kernel
theorem dX11_men_23 : decode cX11_men 23 = .ok (.ifCond .lt 10, 3) := by decide +kernel
theorem dX11_men_26 : decode cX11_men 26 = .ok (.iload 4, 2) := by decide +kernel
theorem dX11_men_28 : decode cX11_men 28 = .ok (.bipush 8, 2) := by decide +kernel
theorem dX11_men_30 : decode cX11_men 30 = .ok (.if_icmp .le 6, 3) := by decide +kernel
theorem dX11_men_33 : decode cX11_men 33 = .ok (.bipush (-2), 2) := by decide +kernel
theorem dX11_men_35 : decode cX11_men 35 = .ok (.ireturn, 1) := by decide +kernel
theorem dX11_men_36 : decode cX11_men 36 = .ok (.aload 5, 2) := by decide +kernel
theorem dX11_men_38 : decode cX11_men 38 = .ok (.invokevirtual 120, 3) := by decide +kernel
theorem dX11_men_41 : decode cX11_men 41 = .ok (.ifCond .eq 6, 3) := by decide +kernel
theorem dX11_men_44 : decode cX11_men 44 = .ok (.bipush (-11), 2) := by decide +kernel
theorem dX11_men_46 : decode cX11_men 46 = .ok (.ireturn, 1) := by decide +kernel
theorem dX11_men_47 : decode cX11_men 47 = .ok (.aload 5, 2) := by decide +kernel
theorem dX11_men_49 : decode cX11_men 49 = .ok (.getfield 251, 3) := by decide +kernel
theorem dX11_men_52 : decode cX11_men 52 = .ok (.iload_n 2, 1) := by decide +kernel
theorem dX11_men_53 : decode cX11_men 53 = .ok (.if_icmp .eq 6, 3) := by decide +kernel
theorem dX11_men_56 : decode cX11_men 56 = .ok (.bipush (-13), 2) := by decide +kernel
theorem dX11_men_58 : decode cX11_men 58 = .ok (.ireturn, 1) := by decide +kernel
theorem dX11_men_59 : decode cX11_men 59 = .ok (.iconst 0, 1) := by decide +kernel
theorem dX11_men_60 : decode cX11_men 60 = .ok (.istore 6, 2) := by decide +kernel
theorem dX11_men_62 : decode cX11_men 62 = .ok (.iconst 0, 1) := by decide +kernel
theorem dX11_men_63 : decode cX11_men 63 = .ok (.istore 7, 2) := by decide +kernel
theorem dX11_men_65 : decode cX11_men 65 = .ok (.iload 7, 2) := by decide +kernel
theorem dX11_men_67 : decode cX11_men 67 = .ok (.iload 4, 2) := by decide +kernel
theorem dX11_men_69 : decode cX11_men 69 = .ok (.if_icmp .ge 59, 3) := by decide +kernel
theorem dX11_men_72 : decode cX11_men 72 = .ok (.iload_n 3, 1) := by decide +kernel
theorem dX11_men_73 : decode cX11_men 73 = .ok (.iconst 2, 1) := by decide +kernel
theorem dX11_men_74 : decode cX11_men 74 = .ok (.iload 7, 2) := by decide +kernel
theorem dX11_men_76 : decode cX11_men 76 = .ok (.imul, 1) := by decide +kernel
theorem dX11_men_77 : decode cX11_men 77 = .ok (.iadd, 1) := by decide +kernel
theorem dX11_men_78 : decode cX11_men 78 = .ok (.istore 8, 2) := by decide +kernel
theorem dX11_men_80 : decode cX11_men 80 = .ok (.aload 5, 2) := by decide +kernel
theorem dX11_men_82 : decode cX11_men 82 = .ok (.iload 8, 2) := by decide +kernel
theorem dX11_men_84 : decode cX11_men 84 = .ok (.iconst 2, 1) := by decide +kernel
theorem dX11_men_85 : decode cX11_men 85 = .ok (.invokevirtual 254, 3) := by decide +kernel
theorem dX11_men_88 : decode cX11_men 88 = .ok (.ifCond .ne 6, 3) := by decide +kernel
theorem dX11_men_91 : decode cX11_men 91 = .ok (.bipush (-12), 2) := by decide +kernel
theorem dX11_men_93 : decode cX11_men 93 = .ok (.ireturn, 1) := by decide +kernel
theorem dX11_men_94 : decode cX11_men 94 = .ok (.aload_n 0, 1) := by decide +kernel
theorem dX11_men_95 : decode cX11_men 95 = .ok (.aload 5, 2) := by decide +kernel
theorem dX11_men_97 : decode cX11_men 97 = .ok (.getfield 232, 3) := by decide +kernel
theorem dX11_men_100 : decode cX11_men 100 = .ok (.iload 8, 2) := by decide +kernel
theorem dX11_men_102 : decode cX11_men 102 = .ok (.iaload, 1) := by decide +kernel
theorem dX11_men_103 : decode cX11_men 103 = .ok (.aload 5, 2) := by decide +kernel
theorem dX11_men_105 : decode cX11_men 105 = .ok (.getfield 232, 3) := by decide +kernel
theorem dX11_men_108 : decode cX11_men 108 = .ok (.iload 8, 2) := by decide +kernel
theorem dX11_men_110 : decode cX11_men 110 = .ok (.iconst 1, 1) := by decide +kernel
theorem dX11_men_111 : decode cX11_men 111 = .ok (.iadd, 1) := by decide +kernel
theorem dX11_men_112 : decode cX11_men 112 = .ok (.iaload, 1) := by decide +kernel
theorem dX11_men_113 : decode cX11_men 113 = .ok (.invokevirtual 263, 3) := by decide +kernel
theorem dX11_men_116 : decode cX11_men 116 = .ok (.ifCond .lt 6, 3) := by decide +kernel
theorem dX11_men_119 : decode cX11_men 119 = .ok (.iinc 6 1, 3) := by decide +kernel
theorem dX11_men_122 : decode cX11_men 122 = .ok (.iinc 7 1, 3) := by decide +kernel
theorem dX11_men_125 : decode cX11_men 125 = .ok (.goto (-60), 3) := by decide +kernel
theorem dX11_men_128 : decode cX11_men 128 = .ok (.iload 6, 2) := by decide +kernel
theorem dX11_men_130 : decode cX11_men 130 = .ok (.ireturn, 1) := by decide +kernel
theorem dX11_taken_0 : decode cX11_taken 0 = .ok (.iload_n 2, 1) := by decide +kernel
theorem dX11_taken_1 : decode cX11_taken 1 = .ok (.ifCond .lt 9, 3) := by decide +kernel
theorem dX11_taken_4 : decode cX11_taken 4 = .ok (.iload_n 2, 1) := by decide +kernel
theorem dX11_taken_5 : decode cX11_taken 5 = .ok (.bipush 6, 2) := by decide +kernel
theorem dX11_taken_7 : decode cX11_taken 7 = .ok (.if_icmp .le 6, 3) := by decide +kernel
theorem dX11_taken_10 : decode cX11_taken 10 = .ok (.bipush (-2), 2) := by decide +kernel
theorem dX11_taken_12 : decode cX11_taken 12 = .ok (.ireturn, 1) := by decide +kernel
theorem dX11_taken_13 : decode cX11_taken 13 = .ok (.iload_n 1, 1) := by decide +kernel
theorem dX11_taken_14 : decode cX11_taken 14 = .ok (.ifCond .lt 9, 3) := by decide +kernel
theorem dX11_taken_17 : decode cX11_taken 17 = .ok (.iload_n 1, 1) := by decide +kernel
theorem dX11_taken_18 : decode cX11_taken 18 = .ok (.bipush 16, 2) := by decide +kernel
theorem dX11_taken_20 : decode cX11_taken 20 = .ok (.if_icmp .lt 6, 3) := by decide +kernel
theorem dX11_taken_23 : decode cX11_taken 23 = .ok (.bipush (-12), 2) := by decide +kernel
theorem dX11_taken_25 : decode cX11_taken 25 = .ok (.ireturn, 1) := by decide +kernel
theorem dX11_taken_26 : decode cX11_taken 26 = .ok (.iload_n 1, 1) := by decide +kernel
theorem dX11_taken_27 : decode cX11_taken 27 = .ok (.bipush 8, 2) := by decide +kernel
theorem dX11_taken_29 : decode cX11_taken 29 = .ok (.if_icmp .ge 35, 3) := by decide +kernel
theorem dX11_taken_32 : decode cX11_taken 32 = .ok (.aload_n 0, 1) := by decide +kernel
theorem dX11_taken_33 : decode cX11_taken 33 = .ok (.iload_n 1, 1) := by decide +kernel
theorem dX11_taken_34 : decode cX11_taken 34 = .ok (.invokevirtual 81, 3) := by decide +kernel
theorem dX11_taken_37 : decode cX11_taken 37 = .ok (.ifCond .ne 6, 3) := by decide +kernel
theorem dX11_taken_40 : decode cX11_taken 40 = .ok (.bipush (-11), 2) := by decide +kernel
theorem dX11_taken_42 : decode cX11_taken 42 = .ok (.ireturn, 1) := by decide +kernel
theorem dX11_taken_43 : decode cX11_taken 43 = .ok (.iload_n 2, 1) := by decide +kernel
theorem dX11_taken_44 : decode cX11_taken 44 = .ok (.bipush 6, 2) := by decide +kernel
theorem dX11_taken_46 : decode cX11_taken 46 = .ok (.if_icmp .ne 15, 3) := by decide +kernel
theorem dX11_taken_49 : decode cX11_taken 49 = .ok (.aload_n 0, 1) := by decide +kernel
theorem dX11_taken_50 : decode cX11_taken 50 = .ok (.getfield 50, 3) := by decide +kernel
theorem dX11_taken_53 : decode cX11_taken 53 = .ok (.getfield 74, 3) := by decide +kernel
theorem dX11_taken_56 : decode cX11_taken 56 = .ok (.iload_n 1, 1) := by decide +kernel
theorem dX11_taken_57 : decode cX11_taken 57 = .ok (.iaload, 1) := by decide +kernel
theorem dX11_taken_58 : decode cX11_taken 58 = .ok (.goto 5, 3) := by decide +kernel
theorem dX11_taken_61 : decode cX11_taken 61 = .ok (.bipush (-13), 2) := by decide +kernel
theorem dX11_taken_63 : decode cX11_taken 63 = .ok (.ireturn, 1) := by decide +kernel
theorem dX11_taken_64 : decode cX11_taken 64 = .ok (.aload_n 0, 1) := by decide +kernel
theorem dX11_taken_65 : decode cX11_taken 65 = .ok (.iload_n 1, 1) := by decide +kernel
theorem dX11_taken_66 : decode cX11_taken 66 = .ok (.bipush 8, 2) := by decide +kernel
theorem dX11_taken_68 : decode cX11_taken 68 = .ok (.isub, 1) := by decide +kernel
theorem dX11_taken_69 : decode cX11_taken 69 = .ok (.invokevirtual 133, 3) := by decide +kernel
theorem dX11_taken_72 : decode cX11_taken 72 = .ok (.astore_n 3, 1) := by decide +kernel
theorem dX11_taken_73 : decode cX11_taken 73 = .ok (.aload_n 3, 1) := by decide +kernel
theorem dX11_taken_74 : decode cX11_taken 74 = .ok (.ifnonnull 6, 3) := by decide +kernel
theorem dX11_taken_77 : decode cX11_taken 77 = .ok (.bipush (-11), 2) := by decide +kernel
theorem dX11_taken_79 : decode cX11_taken 79 = .ok (.ireturn, 1) := by decide +kernel
theorem dX11_taken_80 : decode cX11_taken 80 = .ok (.aload_n 3, 1) := by decide +kernel
theorem dX11_taken_81 : decode cX11_taken 81 = .ok (.iload_n 2, 1) := by decide +kernel
theorem dX11_taken_82 : decode cX11_taken 82 = .ok (.invokestatic 267, 3) := by decide +kernel
theorem dX11_taken_85 : decode cX11_taken 85 = .ok (.ifCond .eq 10, 3) := by decide +kernel
theorem dX11_taken_88 : decode cX11_taken 88 = .ok (.iload_n 1, 1) := by decide +kernel
theorem dX11_taken_89 : decode cX11_taken 89 = .ok (.bipush 8, 2) := by decide +kernel
theorem dX11_taken_91 : decode cX11_taken 91 = .ok (.isub, 1) := by decide +kernel
theorem dX11_taken_92 : decode cX11_taken 92 = .ok (.goto 5, 3) := by decide +kernel
theorem dX11_taken_95 : decode cX11_taken 95 = .ok (.bipush (-13), 2) := by decide +kernel
theorem dX11_taken_97 : decode cX11_taken 97 = .ok (.ireturn, 1) := by decide +kernel
theorem dX11_isStore_0 : decode cX11_isStore 0 = .ok (.iload_n 0, 1) := by decide +kernel
theorem dX11_isStore_1 : decode cX11_isStore 1 = .ok (.iconst 1, 1) := by decide +kernel
theorem dX11_isStore_2 : decode cX11_isStore 2 = .ok (.if_icmp .lt 13, 3) := by decide +kernel
theorem dX11_isStore_5 : decode cX11_isStore 5 = .ok (.iload_n 0, 1) := by decide +kernel
theorem dX11_isStore_6 : decode cX11_isStore 6 = .ok (.bipush 99, 2) := by decide +kernel
theorem dX11_isStore_8 : decode cX11_isStore 8 = .ok (.if_icmp .gt 7, 3) := by decide +kernel
theorem dX11_isStore_11 : decode cX11_isStore 11 = .ok (.iconst 1, 1) := by decide +kernel
theorem dX11_isStore_12 : decode cX11_isStore 12 = .ok (.goto 4, 3) := by decide +kernel
theorem dX11_isStore_15 : decode cX11_isStore 15 = .ok (.iconst 0, 1) := by decide +kernel
theorem dX11_isStore_16 : decode cX11_isStore 16 = .ok (.ireturn, 1) := by decide +kernel
theorem dX11_isRows_0 : decode cX11_isRows 0 = .ok (.iload_n 0, 1) := by decide +kernel
theorem dX11_isRows_1 : decode cX11_isRows 1 = .ok (.ifCond .lt 13, 3) := by decide +kernel
theorem dX11_isRows_4 : decode cX11_isRows 4 = .ok (.iload_n 0, 1) := by decide +kernel
theorem dX11_isRows_5 : decode cX11_isRows 5 = .ok (.bipush 9, 2) := by decide +kernel
theorem dX11_isRows_7 : decode cX11_isRows 7 = .ok (.if_icmp .gt 7, 3) := by decide +kernel
theorem dX11_isRows_10 : decode cX11_isRows 10 = .ok (.iconst 1, 1) := by decide +kernel
theorem dX11_isRows_11 : decode cX11_isRows 11 = .ok (.goto 4, 3) := by decide +kernel
theorem dX11_isRows_14 : decode cX11_isRows 14 = .ok (.iconst 0, 1) := by decide +kernel
theorem dX11_isRows_15 : decode cX11_isRows 15 = .ok (.ireturn, 1) := by decide +kernel
theorem dX11_isPart_0 : decode cX11_isPart 0 = .ok (.iload_n 0, 1) := by decide +kernel
theorem dX11_isPart_1 : decode cX11_isPart 1 = .ok (.ifCond .eq 8, 3) := by decide +kernel
theorem dX11_isPart_4 : decode cX11_isPart 4 = .ok (.iload_n 0, 1) := by decide +kernel
theorem dX11_isPart_5 : decode cX11_isPart 5 = .ok (.iconst 1, 1) := by decide +kernel
theorem dX11_isPart_6 : decode cX11_isPart 6 = .ok (.if_icmp .ne 7, 3) := by decide +kernel
theorem dX11_isPart_9 : decode cX11_isPart 9 = .ok (.iconst 1, 1) := by decide +kernel
theorem dX11_isPart_10 : decode cX11_isPart 10 = .ok (.goto 4, 3) := by decide +kernel
theorem dX11_isPart_13 : decode cX11_isPart 13 = .ok (.iconst 0, 1) := by decide +kernel
theorem dX11_isPart_14 : decode cX11_isPart 14 = .ok (.ireturn, 1) := by decide +kernel
theorem dX11_isMan_0 : decode cX11_isMan 0 = .ok (.iload_n 1, 1) := by decide +kernel
theorem dX11_isMan_1 : decode cX11_isMan 1 = .ok (.ifCond .lt 18, 3) := by decide +kernel
theorem dX11_isMan_4 : decode cX11_isMan 4 = .ok (.iload_n 1, 1) := by decide +kernel
theorem dX11_isMan_5 : decode cX11_isMan 5 = .ok (.aload_n 0, 1) := by decide +kernel
theorem dX11_isMan_6 : decode cX11_isMan 6 = .ok (.getfield 50, 3) := by decide +kernel
theorem dX11_isMan_9 : decode cX11_isMan 9 = .ok (.getfield 71, 3) := by decide +kernel
theorem dX11_isMan_12 : decode cX11_isMan 12 = .ok (.if_icmp .ge 7, 3) := by decide +kernel
theorem dX11_isMan_15 : decode cX11_isMan 15 = .ok (.iconst 1, 1) := by decide +kernel
theorem dX11_isMan_16 : decode cX11_isMan 16 = .ok (.goto 4, 3) := by decide +kernel
theorem dX11_isMan_19 : decode cX11_isMan 19 = .ok (.iconst 0, 1) := by decide +kernel
theorem dX11_isMan_20 : decode cX11_isMan 20 = .ok (.ireturn, 1) := by decide +kernel
theorem dX11_ruleAt_0 : decode cX11_ruleAt 0 = .ok (.iload_n 1, 1) := by decide +kernel
theorem dX11_ruleAt_1 : decode cX11_ruleAt 1 = .ok (.ifCond .lt 18, 3) := by decide +kernel
theorem dX11_ruleAt_4 : decode cX11_ruleAt 4 = .ok (.iload_n 1, 1) := by decide +kernel
theorem dX11_ruleAt_5 : decode cX11_ruleAt 5 = .ok (.bipush 8, 2) := by decide +kernel
theorem dX11_ruleAt_7 : decode cX11_ruleAt 7 = .ok (.if_icmp .ge 12, 3) := by decide +kernel
theorem dX11_ruleAt_10 : decode cX11_ruleAt 10 = .ok (.aload_n 0, 1) := by decide +kernel
theorem dX11_ruleAt_11 : decode cX11_ruleAt 11 = .ok (.getfield 11, 3) := by decide +kernel
theorem dX11_ruleAt_14 : decode cX11_ruleAt 14 = .ok (.iload_n 1, 1) := by decide +kernel
theorem dX11_ruleAt_15 : decode cX11_ruleAt 15 = .ok (.aaload, 1) := by decide +kernel
theorem dX11_ruleAt_16 : decode cX11_ruleAt 16 = .ok (.goto 4, 3) := by decide +kernel
theorem dX11_ruleAt_19 : decode cX11_ruleAt 19 = .ok (.aconst_null, 1) := by decide +kernel
theorem dX11_ruleAt_20 : decode cX11_ruleAt 20 = .ok (.areturn, 1) := by decide +kernel
theorem dX11_sheetAt_0 : decode cX11_sheetAt 0 = .ok (.iload_n 1, 1) := by decide +kernel
theorem dX11_sheetAt_1 : decode cX11_sheetAt 1 = .ok (.ifCond .lt 17, 3) := by decide +kernel
theorem dX11_sheetAt_4 : decode cX11_sheetAt 4 = .ok (.iload_n 1, 1) := by decide +kernel
theorem dX11_sheetAt_5 : decode cX11_sheetAt 5 = .ok (.iconst 4, 1) := by decide +kernel
theorem dX11_sheetAt_6 : decode cX11_sheetAt 6 = .ok (.if_icmp .ge 12, 3) := by decide +kernel
theorem dX11_sheetAt_9 : decode cX11_sheetAt 9 = .ok (.aload_n 0, 1) := by decide +kernel
theorem dX11_sheetAt_10 : decode cX11_sheetAt 10 = .ok (.getfield 30, 3) := by decide +kernel
theorem dX11_sheetAt_13 : decode cX11_sheetAt 13 = .ok (.iload_n 1, 1) := by decide +kernel
theorem dX11_sheetAt_14 : decode cX11_sheetAt 14 = .ok (.aaload, 1) := by decide +kernel
theorem dX11_sheetAt_15 : decode cX11_sheetAt 15 = .ok (.goto 4, 3) := by decide +kernel
theorem dX11_sheetAt_18 : decode cX11_sheetAt 18 = .ok (.aconst_null, 1) := by decide +kernel
theorem dX11_sheetAt_19 : decode cX11_sheetAt 19 = .ok (.areturn, 1) := by decide +kernel
theorem dX11_exchange_0 : decode cX11_exchange 0 = .ok (.aload_n 0, 1) := by decide +kernel
theorem dX11_exchange_1 : decode cX11_exchange 1 = .ok (.iload_n 1, 1) := by decide +kernel
theorem dX11_exchange_2 : decode cX11_exchange 2 = .ok (.iaload, 1) := by decide +kernel
theorem dX11_exchange_3 : decode cX11_exchange 3 = .ok (.istore_n 3, 1) := by decide +kernel
theorem dX11_exchange_4 : decode cX11_exchange 4 = .ok (.aload_n 0, 1) := by decide +kernel
theorem dX11_exchange_5 : decode cX11_exchange 5 = .ok (.iload_n 1, 1) := by decide +kernel
theorem dX11_exchange_6 : decode cX11_exchange 6 = .ok (.iload_n 2, 1) := by decide +kernel
theorem dX11_exchange_7 : decode cX11_exchange 7 = .ok (.iastore, 1) := by decide +kernel
theorem dX11_exchange_8 : decode cX11_exchange 8 = .ok (.iload_n 3, 1) := by decide +kernel
theorem dX11_exchange_9 : decode cX11_exchange 9 = .ok (.ireturn, 1) := by decide +kernel
theorem dX11_ruleOf_0 : decode cX11_ruleOf 0 = .ok (.iload_n 0, 1) := by decide +kernel
theorem dX11_ruleOf_1 : decode cX11_ruleOf 1 = .ok (.tableswitch 86 1 5 #[35, 45, 55, 65, 76], 35) := by decide +kernel
theorem dX11_ruleOf_36 : decode cX11_ruleOf 36 = .ok (.new 270, 3) := by decide +kernel
theorem dX11_ruleOf_39 : decode cX11_ruleOf 39 = .ok (.dup, 1) := by decide +kernel
theorem dX11_ruleOf_40 : decode cX11_ruleOf 40 = .ok (.iload_n 0, 1) := by decide +kernel
theorem dX11_ruleOf_41 : decode cX11_ruleOf 41 = .ok (.iload_n 1, 1) := by decide +kernel
theorem dX11_ruleOf_42 : decode cX11_ruleOf 42 = .ok (.invokespecial 272, 3) := by decide +kernel
theorem dX11_ruleOf_45 : decode cX11_ruleOf 45 = .ok (.areturn, 1) := by decide +kernel
theorem dX11_ruleOf_46 : decode cX11_ruleOf 46 = .ok (.new 274, 3) := by decide +kernel
theorem dX11_ruleOf_49 : decode cX11_ruleOf 49 = .ok (.dup, 1) := by decide +kernel
theorem dX11_ruleOf_50 : decode cX11_ruleOf 50 = .ok (.iload_n 0, 1) := by decide +kernel
theorem dX11_ruleOf_51 : decode cX11_ruleOf 51 = .ok (.iload_n 1, 1) := by decide +kernel
theorem dX11_ruleOf_52 : decode cX11_ruleOf 52 = .ok (.invokespecial 276, 3) := by decide +kernel
theorem dX11_ruleOf_55 : decode cX11_ruleOf 55 = .ok (.areturn, 1) := by decide +kernel
theorem dX11_ruleOf_56 : decode cX11_ruleOf 56 = .ok (.new 277, 3) := by decide +kernel
theorem dX11_ruleOf_59 : decode cX11_ruleOf 59 = .ok (.dup, 1) := by decide +kernel
theorem dX11_ruleOf_60 : decode cX11_ruleOf 60 = .ok (.iload_n 0, 1) := by decide +kernel
theorem dX11_ruleOf_61 : decode cX11_ruleOf 61 = .ok (.iload_n 1, 1) := by decide +kernel
theorem dX11_ruleOf_62 : decode cX11_ruleOf 62 = .ok (.invokespecial 279, 3) := by decide +kernel
theorem dX11_ruleOf_65 : decode cX11_ruleOf 65 = .ok (.areturn, 1) := by decide +kernel
theorem dX11_ruleOf_66 : decode cX11_ruleOf 66 = .ok (.new 280, 3) := by decide +kernel
theorem dX11_ruleOf_69 : decode cX11_ruleOf 69 = .ok (.dup, 1) := by decide +kernel
theorem dX11_ruleOf_70 : decode cX11_ruleOf 70 = .ok (.iload_n 0, 1) := by decide +kernel
theorem dX11_ruleOf_71 : decode cX11_ruleOf 71 = .ok (.iload_n 1, 1) := by decide +kernel
theorem dX11_ruleOf_72 : decode cX11_ruleOf 72 = .ok (.aload_n 2, 1) := by decide +kernel
theorem dX11_ruleOf_73 : decode cX11_ruleOf 73 = .ok (.invokespecial 282, 3) := by decide +kernel
theorem dX11_ruleOf_76 : decode cX11_ruleOf 76 = .ok (.areturn, 1) := by decide +kernel
theorem dX11_ruleOf_77 : decode cX11_ruleOf 77 = .ok (.new 285, 3) := by decide +kernel
theorem dX11_ruleOf_80 : decode cX11_ruleOf 80 = .ok (.dup, 1) := by decide +kernel
theorem dX11_ruleOf_81 : decode cX11_ruleOf 81 = .ok (.iload_n 0, 1) := by decide +kernel
theorem dX11_ruleOf_82 : decode cX11_ruleOf 82 = .ok (.iload_n 1, 1) := by decide +kernel
theorem dX11_ruleOf_83 : decode cX11_ruleOf 83 = .ok (.invokespecial 287, 3) := by decide +kernel
theorem dX11_ruleOf_86 : decode cX11_ruleOf 86 = .ok (.areturn, 1) := by decide +kernel
theorem dX11_ruleOf_87 : decode cX11_ruleOf 87 = .ok (.new 9, 3) := by decide +kernel
theorem dX11_ruleOf_90 : decode cX11_ruleOf 90 = .ok (.dup, 1) := by decide +kernel
theorem dX11_ruleOf_91 : decode cX11_ruleOf 91 = .ok (.iload_n 0, 1) := by decide +kernel
theorem dX11_ruleOf_92 : decode cX11_ruleOf 92 = .ok (.iload_n 1, 1) := by decide +kernel
theorem dX11_ruleOf_93 : decode cX11_ruleOf 93 = .ok (.invokespecial 288, 3) := by decide +kernel
theorem dX11_ruleOf_96 : decode cX11_ruleOf 96 = .ok (.areturn, 1) := by decide +kernel
theorem dX11_isOfKind_0 : decode cX11_isOfKind 0 = .ok (.iload_n 1, 1) := by decide +kernel
theorem dX11_isOfKind_1 : decode cX11_isOfKind 1 = .ok (.tableswitch 66 0 5 #[39, 41, 46, 51, 56, 61], 39) := by decide +kernel
theorem dX11_isOfKind_40 : decode cX11_isOfKind 40 = .ok (.iconst 1, 1) := by decide +kernel
theorem dX11_isOfKind_41 : decode cX11_isOfKind 41 = .ok (.ireturn, 1) := by decide +kernel
theorem dX11_isOfKind_42 : decode cX11_isOfKind 42 = .ok (.aload_n 0, 1) := by decide +kernel
theorem dX11_isOfKind_43 : decode cX11_isOfKind 43 = .ok (.instanceof 270, 3) := by decide +kernel
theorem dX11_isOfKind_46 : decode cX11_isOfKind 46 = .ok (.ireturn, 1) := by decide +kernel
theorem dX11_isOfKind_47 : decode cX11_isOfKind 47 = .ok (.aload_n 0, 1) := by decide +kernel
theorem dX11_isOfKind_48 : decode cX11_isOfKind 48 = .ok (.instanceof 274, 3) := by decide +kernel
theorem dX11_isOfKind_51 : decode cX11_isOfKind 51 = .ok (.ireturn, 1) := by decide +kernel
theorem dX11_isOfKind_52 : decode cX11_isOfKind 52 = .ok (.aload_n 0, 1) := by decide +kernel
theorem dX11_isOfKind_53 : decode cX11_isOfKind 53 = .ok (.instanceof 277, 3) := by decide +kernel
theorem dX11_isOfKind_56 : decode cX11_isOfKind 56 = .ok (.ireturn, 1) := by decide +kernel
theorem dX11_isOfKind_57 : decode cX11_isOfKind 57 = .ok (.aload_n 0, 1) := by decide +kernel
theorem dX11_isOfKind_58 : decode cX11_isOfKind 58 = .ok (.instanceof 280, 3) := by decide +kernel
theorem dX11_isOfKind_61 : decode cX11_isOfKind 61 = .ok (.ireturn, 1) := by decide +kernel
theorem dX11_isOfKind_62 : decode cX11_isOfKind 62 = .ok (.aload_n 0, 1) := by decide +kernel
theorem dX11_isOfKind_63 : decode cX11_isOfKind 63 = .ok (.instanceof 285, 3) := by decide +kernel
theorem dX11_isOfKind_66 : decode cX11_isOfKind 66 = .ok (.ireturn, 1) := by decide +kernel
theorem dX11_isOfKind_67 : decode cX11_isOfKind 67 = .ok (.iconst 0, 1) := by decide +kernel
theorem dX11_isOfKind_68 : decode cX11_isOfKind 68 = .ok (.ireturn, 1) := by decide +kernel
theorem dX11_keepHomes_0 : decode cX11_keepHomes 0 = .ok (.aload_n 0, 1) := by decide +kernel
theorem dX11_keepHomes_1 : decode cX11_keepHomes 1 = .ok (.getfield 59, 3) := by decide +kernel
theorem dX11_keepHomes_4 : decode cX11_keepHomes 4 = .ok (.aload_n 1, 1) := by decide +kernel
theorem dX11_keepHomes_5 : decode cX11_keepHomes 5 = .ok (.invokevirtual 177, 3) := by decide +kernel
theorem dX11_keepHomes_8 : decode cX11_keepHomes 8 = .ok (.aload_n 0, 1) := by decide +kernel
theorem dX11_keepHomes_9 : decode cX11_keepHomes 9 = .ok (.getfield 59, 3) := by decide +kernel
theorem dX11_keepHomes_12 : decode cX11_keepHomes 12 = .ok (.getfield 181, 3) := by decide +kernel
theorem dX11_keepHomes_15 : decode cX11_keepHomes 15 = .ok (.iconst 0, 1) := by decide +kernel
theorem dX11_keepHomes_16 : decode cX11_keepHomes 16 = .ok (.aload_n 0, 1) := by decide +kernel
theorem dX11_keepHomes_17 : decode cX11_keepHomes 17 = .ok (.getfield 34, 3) := by decide +kernel
theorem dX11_keepHomes_20 : decode cX11_keepHomes 20 = .ok (.iconst 0, 1) := by decide +kernel
theorem dX11_keepHomes_21 : decode cX11_keepHomes 21 = .ok (.bipush 8, 2) := by decide +kernel
theorem dX11_keepHomes_23 : decode cX11_keepHomes 23 = .ok (.invokestatic 257, 3) := by decide +kernel
theorem dX11_keepHomes_26 : decode cX11_keepHomes 26 = .ok (.return_, 1) := by decide +kernel
theorem dX11_wouldTake_0 : decode cX11_wouldTake 0 = .ok (.aload_n 0, 1) := by decide +kernel
theorem dX11_wouldTake_1 : decode cX11_wouldTake 1 = .ok (.getfield 59, 3) := by decide +kernel
theorem dX11_wouldTake_4 : decode cX11_wouldTake 4 = .ok (.aload_n 1, 1) := by decide +kernel
theorem dX11_wouldTake_5 : decode cX11_wouldTake 5 = .ok (.aload_n 0, 1) := by decide +kernel
theorem dX11_wouldTake_6 : decode cX11_wouldTake 6 = .ok (.getfield 50, 3) := by decide +kernel
theorem dX11_wouldTake_9 : decode cX11_wouldTake 9 = .ok (.getfield 94, 3) := by decide +kernel
theorem dX11_wouldTake_12 : decode cX11_wouldTake 12 = .ok (.iconst 2, 1) := by decide +kernel
theorem dX11_wouldTake_13 : decode cX11_wouldTake 13 = .ok (.iaload, 1) := by decide +kernel
theorem dX11_wouldTake_14 : decode cX11_wouldTake 14 = .ok (.iload_n 2, 1) := by decide +kernel
theorem dX11_wouldTake_15 : decode cX11_wouldTake 15 = .ok (.iconst (-1), 1) := by decide +kernel
theorem dX11_wouldTake_16 : decode cX11_wouldTake 16 = .ok (.iconst 0, 1) := by decide +kernel
theorem dX11_wouldTake_17 : decode cX11_wouldTake 17 = .ok (.invokevirtual 216, 3) := by decide +kernel
theorem dX11_wouldTake_20 : decode cX11_wouldTake 20 = .ok (.iconst 0, 1) := by decide +kernel
theorem dX11_wouldTake_21 : decode cX11_wouldTake 21 = .ok (.istore_n 3, 1) := by decide +kernel
theorem dX11_wouldTake_22 : decode cX11_wouldTake 22 = .ok (.iload_n 3, 1) := by decide +kernel
theorem dX11_wouldTake_23 : decode cX11_wouldTake 23 = .ok (.aload_n 0, 1) := by decide +kernel
theorem dX11_wouldTake_24 : decode cX11_wouldTake 24 = .ok (.getfield 50, 3) := by decide +kernel
theorem dX11_wouldTake_27 : decode cX11_wouldTake 27 = .ok (.getfield 71, 3) := by decide +kernel
theorem dX11_wouldTake_30 : decode cX11_wouldTake 30 = .ok (.if_icmp .ge 39, 3) := by decide +kernel
theorem dX11_wouldTake_33 : decode cX11_wouldTake 33 = .ok (.iload_n 2, 1) := by decide +kernel
theorem dX11_wouldTake_34 : decode cX11_wouldTake 34 = .ok (.iload_n 3, 1) := by decide +kernel
theorem dX11_wouldTake_35 : decode cX11_wouldTake 35 = .ok (.ishr, 1) := by decide +kernel
theorem dX11_wouldTake_36 : decode cX11_wouldTake 36 = .ok (.iconst 1, 1) := by decide +kernel
theorem dX11_wouldTake_37 : decode cX11_wouldTake 37 = .ok (.iand, 1) := by decide +kernel
theorem dX11_wouldTake_38 : decode cX11_wouldTake 38 = .ok (.iconst 1, 1) := by decide +kernel
theorem dX11_wouldTake_39 : decode cX11_wouldTake 39 = .ok (.if_icmp .ne 24, 3) := by decide +kernel
theorem dX11_wouldTake_42 : decode cX11_wouldTake 42 = .ok (.aload_n 0, 1) := by decide +kernel
theorem dX11_wouldTake_43 : decode cX11_wouldTake 43 = .ok (.getfield 59, 3) := by decide +kernel
theorem dX11_wouldTake_46 : decode cX11_wouldTake 46 = .ok (.getfield 181, 3) := by decide +kernel
theorem dX11_wouldTake_49 : decode cX11_wouldTake 49 = .ok (.iload_n 3, 1) := by decide +kernel
theorem dX11_wouldTake_50 : decode cX11_wouldTake 50 = .ok (.laload, 1) := by decide +kernel
theorem dX11_wouldTake_51 : decode cX11_wouldTake 51 = .ok (.aload_n 0, 1) := by decide +kernel
theorem dX11_wouldTake_52 : decode cX11_wouldTake 52 = .ok (.getfield 34, 3) := by decide +kernel
theorem dX11_wouldTake_55 : decode cX11_wouldTake 55 = .ok (.iload_n 3, 1) := by decide +kernel
theorem dX11_wouldTake_56 : decode cX11_wouldTake 56 = .ok (.laload, 1) := by decide +kernel
theorem dX11_wouldTake_57 : decode cX11_wouldTake 57 = .ok (.lcmp, 1) := by decide +kernel
theorem dX11_wouldTake_58 : decode cX11_wouldTake 58 = .ok (.ifCond .gt 5, 3) := by decide +kernel
theorem dX11_wouldTake_61 : decode cX11_wouldTake 61 = .ok (.iconst 0, 1) := by decide +kernel
theorem dX11_wouldTake_62 : decode cX11_wouldTake 62 = .ok (.ireturn, 1) := by decide +kernel
theorem dX11_wouldTake_63 : decode cX11_wouldTake 63 = .ok (.iinc 3 1, 3) := by decide +kernel
theorem dX11_wouldTake_66 : decode cX11_wouldTake 66 = .ok (.goto (-44), 3) := by decide +kernel
theorem dX11_wouldTake_69 : decode cX11_wouldTake 69 = .ok (.iconst 1, 1) := by decide +kernel
theorem dX11_wouldTake_70 : decode cX11_wouldTake 70 = .ok (.ireturn, 1) := by decide +kernel
theorem dX11_inLowestTerms_0 : decode cX11_inLowestTerms 0 = .ok (.ldc2_w 289, 3) := by decide +kernel
theorem dX11_inLowestTerms_3 : decode cX11_inLowestTerms 3 = .ok (.lstore_n 3, 1) := by decide +kernel
theorem dX11_inLowestTerms_4 : decode cX11_inLowestTerms 4 = .ok (.lload_n 0, 1) := by decide +kernel
theorem dX11_inLowestTerms_5 : decode cX11_inLowestTerms 5 = .ok (.invokestatic 291, 3) := by decide +kernel
theorem dX11_inLowestTerms_8 : decode cX11_inLowestTerms 8 = .ok (.lstore 5, 2) := by decide +kernel
theorem dX11_inLowestTerms_10 : decode cX11_inLowestTerms 10 = .ok (.iconst 0, 1) := by decide +kernel
theorem dX11_inLowestTerms_11 : decode cX11_inLowestTerms 11 = .ok (.istore 7, 2) := by decide +kernel
theorem dX11_inLowestTerms_13 : decode cX11_inLowestTerms 13 = .ok (.iload 7, 2) := by decide +kernel
theorem dX11_inLowestTerms_15 : decode cX11_inLowestTerms 15 = .ok (.bipush 100, 2) := by decide +kernel
theorem dX11_inLowestTerms_17 : decode cX11_inLowestTerms 17 = .ok (.if_icmp .ge 29, 3) := by decide +kernel
theorem dX11_inLowestTerms_20 : decode cX11_inLowestTerms 20 = .ok (.lload 5, 2) := by decide +kernel
theorem dX11_inLowestTerms_22 : decode cX11_inLowestTerms 22 = .ok (.lconst 0, 1) := by decide +kernel
theorem dX11_inLowestTerms_23 : decode cX11_inLowestTerms 23 = .ok (.lcmp, 1) := by decide +kernel
theorem dX11_inLowestTerms_24 : decode cX11_inLowestTerms 24 = .ok (.ifCond .eq 22, 3) := by decide +kernel
theorem dX11_inLowestTerms_27 : decode cX11_inLowestTerms 27 = .ok (.lload_n 3, 1) := by decide +kernel
theorem dX11_inLowestTerms_28 : decode cX11_inLowestTerms 28 = .ok (.lload 5, 2) := by decide +kernel
theorem dX11_inLowestTerms_30 : decode cX11_inLowestTerms 30 = .ok (.lrem, 1) := by decide +kernel
theorem dX11_inLowestTerms_31 : decode cX11_inLowestTerms 31 = .ok (.lstore 8, 2) := by decide +kernel
theorem dX11_inLowestTerms_33 : decode cX11_inLowestTerms 33 = .ok (.lload 5, 2) := by decide +kernel
theorem dX11_inLowestTerms_35 : decode cX11_inLowestTerms 35 = .ok (.lstore_n 3, 1) := by decide +kernel
theorem dX11_inLowestTerms_36 : decode cX11_inLowestTerms 36 = .ok (.lload 8, 2) := by decide +kernel
theorem dX11_inLowestTerms_38 : decode cX11_inLowestTerms 38 = .ok (.lstore 5, 2) := by decide +kernel
theorem dX11_inLowestTerms_40 : decode cX11_inLowestTerms 40 = .ok (.iinc 7 1, 3) := by decide +kernel
theorem dX11_inLowestTerms_43 : decode cX11_inLowestTerms 43 = .ok (.goto (-30), 3) := by decide +kernel
theorem dX11_inLowestTerms_46 : decode cX11_inLowestTerms 46 = .ok (.lload_n 3, 1) := by decide +kernel
theorem dX11_inLowestTerms_47 : decode cX11_inLowestTerms 47 = .ok (.lconst 0, 1) := by decide +kernel
theorem dX11_inLowestTerms_48 : decode cX11_inLowestTerms 48 = .ok (.lcmp, 1) := by decide +kernel
theorem dX11_inLowestTerms_49 : decode cX11_inLowestTerms 49 = .ok (.ifCond .ne 7, 3) := by decide +kernel
theorem dX11_inLowestTerms_52 : decode cX11_inLowestTerms 52 = .ok (.ldc2_w 175, 3) := by decide +kernel
theorem dX11_inLowestTerms_55 : decode cX11_inLowestTerms 55 = .ok (.lreturn, 1) := by decide +kernel
theorem dX11_inLowestTerms_56 : decode cX11_inLowestTerms 56 = .ok (.iload_n 2, 1) := by decide +kernel
theorem dX11_inLowestTerms_57 : decode cX11_inLowestTerms 57 = .ok (.ifCond .ne 9, 3) := by decide +kernel
theorem dX11_inLowestTerms_60 : decode cX11_inLowestTerms 60 = .ok (.lload_n 0, 1) := by decide +kernel
theorem dX11_inLowestTerms_61 : decode cX11_inLowestTerms 61 = .ok (.lload_n 3, 1) := by decide +kernel
theorem dX11_inLowestTerms_62 : decode cX11_inLowestTerms 62 = .ok (.ldiv, 1) := by decide +kernel
theorem dX11_inLowestTerms_63 : decode cX11_inLowestTerms 63 = .ok (.goto 8, 3) := by decide +kernel
theorem dX11_inLowestTerms_66 : decode cX11_inLowestTerms 66 = .ok (.ldc2_w 289, 3) := by decide +kernel
theorem dX11_inLowestTerms_69 : decode cX11_inLowestTerms 69 = .ok (.lload_n 3, 1) := by decide +kernel
theorem dX11_inLowestTerms_70 : decode cX11_inLowestTerms 70 = .ok (.ldiv, 1) := by decide +kernel
theorem dX11_inLowestTerms_71 : decode cX11_inLowestTerms 71 = .ok (.lreturn, 1) := by decide +kernel
theorem dX12_init_0 : decode cX12_init 0 = .ok (.aload_n 0, 1) := by decide +kernel
theorem dX12_init_1 : decode cX12_init 1 = .ok (.invokespecial 1, 3) := by decide +kernel
theorem dX12_init_4 : decode cX12_init 4 = .ok (.aload_n 0, 1) := by decide +kernel
theorem dX12_init_5 : decode cX12_init 5 = .ok (.bipush 8, 2) := by decide +kernel
theorem dX12_init_7 : decode cX12_init 7 = .ok (.newarray .int, 2) := by decide +kernel
theorem dX12_init_9 : decode cX12_init 9 = .ok (.putfield 7, 3) := by decide +kernel
theorem dX12_init_12 : decode cX12_init 12 = .ok (.aload_n 0, 1) := by decide +kernel
theorem dX12_init_13 : decode cX12_init 13 = .ok (.bipush 8, 2) := by decide +kernel
theorem dX12_init_15 : decode cX12_init 15 = .ok (.newarray .int, 2) := by decide +kernel
theorem dX12_init_17 : decode cX12_init 17 = .ok (.putfield 13, 3) := by decide +kernel
theorem dX12_init_20 : decode cX12_init 20 = .ok (.aload_n 0, 1) := by decide +kernel
theorem dX12_init_21 : decode cX12_init 21 = .ok (.bipush 6, 2) := by decide +kernel
theorem dX12_init_23 : decode cX12_init 23 = .ok (.putfield 16, 3) := by decide +kernel
theorem dX12_init_26 : decode cX12_init 26 = .ok (.aload_n 0, 1) := by decide +kernel
theorem dX12_init_27 : decode cX12_init 27 = .ok (.bipush 60, 2) := by decide +kernel
theorem dX12_init_29 : decode cX12_init 29 = .ok (.putfield 20, 3) := by decide +kernel
theorem dX12_init_32 : decode cX12_init 32 = .ok (.aload_n 0, 1) := by decide +kernel
theorem dX12_init_33 : decode cX12_init 33 = .ok (.bipush 12, 2) := by decide +kernel
theorem dX12_init_35 : decode cX12_init 35 = .ok (.putfield 23, 3) := by decide +kernel
theorem dX12_init_38 : decode cX12_init 38 = .ok (.aload_n 0, 1) := by decide +kernel
theorem dX12_init_39 : decode cX12_init 39 = .ok (.bipush 100, 2) := by decide +kernel
theorem dX12_init_41 : decode cX12_init 41 = .ok (.putfield 26, 3) := by decide +kernel
theorem dX12_init_44 : decode cX12_init 44 = .ok (.aload_n 0, 1) := by decide +kernel
theorem dX12_init_45 : decode cX12_init 45 = .ok (.bipush 12, 2) := by decide +kernel
theorem dX12_init_47 : decode cX12_init 47 = .ok (.newarray .int, 2) := by decide +kernel
theorem dX12_init_49 : decode cX12_init 49 = .ok (.putfield 29, 3) := by decide +kernel
theorem dX12_init_52 : decode cX12_init 52 = .ok (.aload_n 0, 1) := by decide +kernel
theorem dX12_init_53 : decode cX12_init 53 = .ok (.bipush 12, 2) := by decide +kernel
theorem dX12_init_55 : decode cX12_init 55 = .ok (.newarray .int, 2) := by decide +kernel
theorem dX12_init_57 : decode cX12_init 57 = .ok (.putfield 32, 3) := by decide +kernel
theorem dX12_init_60 : decode cX12_init 60 = .ok (.aload_n 0, 1) := by decide +kernel
theorem dX12_init_61 : decode cX12_init 61 = .ok (.bipush 8, 2) := by decide +kernel
theorem dX12_init_63 : decode cX12_init 63 = .ok (.newarray .int, 2) := by decide +kernel
theorem dX12_init_65 : decode cX12_init 65 = .ok (.putfield 35, 3) := by decide +kernel
theorem dX12_init_68 : decode cX12_init 68 = .ok (.aload_n 0, 1) := by decide +kernel
theorem dX12_init_69 : decode cX12_init 69 = .ok (.bipush 8, 2) := by decide +kernel
theorem dX12_init_71 : decode cX12_init 71 = .ok (.newarray .int, 2) := by decide +kernel
theorem dX12_init_73 : decode cX12_init 73 = .ok (.putfield 38, 3) := by decide +kernel
theorem dX12_init_76 : decode cX12_init 76 = .ok (.aload_n 0, 1) := by decide +kernel
theorem dX12_init_77 : decode cX12_init 77 = .ok (.bipush 64, 2) := by decide +kernel
theorem dX12_init_79 : decode cX12_init 79 = .ok (.newarray .int, 2) := by decide +kernel
theorem dX12_init_81 : decode cX12_init 81 = .ok (.putfield 41, 3) := by decide +kernel
theorem dX12_init_84 : decode cX12_init 84 = .ok (.aload_n 0, 1) := by decide +kernel
theorem dX12_init_85 : decode cX12_init 85 = .ok (.sipush 160, 3) := by decide +kernel
theorem dX12_init_88 : decode cX12_init 88 = .ok (.newarray .int, 2) := by decide +kernel
theorem dX12_init_90 : decode cX12_init 90 = .ok (.putfield 44, 3) := by decide +kernel
theorem dX12_init_93 : decode cX12_init 93 = .ok (.aload_n 0, 1) := by decide +kernel
theorem dX12_init_94 : decode cX12_init 94 = .ok (.sipush 1200, 3) := by decide +kernel
theorem dX12_init_97 : decode cX12_init 97 = .ok (.newarray .int, 2) := by decide +kernel
theorem dX12_init_99 : decode cX12_init 99 = .ok (.putfield 47, 3) := by decide +kernel
theorem dX12_init_102 : decode cX12_init 102 = .ok (.aload_n 0, 1) := by decide +kernel
theorem dX12_init_103 : decode cX12_init 103 = .ok (.bipush 24, 2) := by decide +kernel
theorem dX12_init_105 : decode cX12_init 105 = .ok (.newarray .int, 2) := by decide +kernel
theorem dX12_init_107 : decode cX12_init 107 = .ok (.putfield 50, 3) := by decide +kernel
theorem dX12_init_110 : decode cX12_init 110 = .ok (.aload_n 0, 1) := by decide +kernel
theorem dX12_init_111 : decode cX12_init 111 = .ok (.iconst 1, 1) := by decide +kernel
theorem dX12_init_112 : decode cX12_init 112 = .ok (.putfield 53, 3) := by decide +kernel
theorem dX12_init_115 : decode cX12_init 115 = .ok (.aload_n 0, 1) := by decide +kernel
theorem dX12_init_116 : decode cX12_init 116 = .ok (.bipush 104, 2) := by decide +kernel
theorem dX12_init_118 : decode cX12_init 118 = .ok (.newarray .int, 2) := by decide +kernel
theorem dX12_init_120 : decode cX12_init 120 = .ok (.putfield 56, 3) := by decide +kernel
theorem dX12_init_123 : decode cX12_init 123 = .ok (.aload_n 0, 1) := by decide +kernel
theorem dX12_init_124 : decode cX12_init 124 = .ok (.bipush 96, 2) := by decide +kernel
theorem dX12_init_126 : decode cX12_init 126 = .ok (.newarray .int, 2) := by decide +kernel
theorem dX12_init_128 : decode cX12_init 128 = .ok (.putfield 59, 3) := by decide +kernel
theorem dX12_init_131 : decode cX12_init 131 = .ok (.aload_n 0, 1) := by decide +kernel
theorem dX12_init_132 : decode cX12_init 132 = .ok (.bipush 13, 2) := by decide +kernel
theorem dX12_init_134 : decode cX12_init 134 = .ok (.newarray .int, 2) := by decide +kernel
theorem dX12_init_136 : decode cX12_init 136 = .ok (.putfield 62, 3) := by decide +kernel
theorem dX12_init_139 : decode cX12_init 139 = .ok (.aload_n 0, 1) := by decide +kernel
theorem dX12_init_140 : decode cX12_init 140 = .ok (.bipush 13, 2) := by decide +kernel
theorem dX12_init_142 : decode cX12_init 142 = .ok (.newarray .int, 2) := by decide +kernel
theorem dX12_init_144 : decode cX12_init 144 = .ok (.putfield 65, 3) := by decide +kernel
theorem dX12_init_147 : decode cX12_init 147 = .ok (.aload_n 0, 1) := by decide +kernel
theorem dX12_init_148 : decode cX12_init 148 = .ok (.bipush 8, 2) := by decide +kernel
theorem dX12_init_150 : decode cX12_init 150 = .ok (.newarray .int, 2) := by decide +kernel
theorem dX12_init_152 : decode cX12_init 152 = .ok (.putfield 68, 3) := by decide +kernel
theorem dX12_init_155 : decode cX12_init 155 = .ok (.aload_n 0, 1) := by decide +kernel
theorem dX12_init_156 : decode cX12_init 156 = .ok (.bipush 12, 2) := by decide +kernel
theorem dX12_init_158 : decode cX12_init 158 = .ok (.newarray .int, 2) := by decide +kernel
theorem dX12_init_160 : decode cX12_init 160 = .ok (.putfield 71, 3) := by decide +kernel
theorem dX12_init_163 : decode cX12_init 163 = .ok (.aload_n 0, 1) := by decide +kernel
theorem dX12_init_164 : decode cX12_init 164 = .ok (.bipush 12, 2) := by decide +kernel
theorem dX12_init_166 : decode cX12_init 166 = .ok (.newarray .int, 2) := by decide +kernel
theorem dX12_init_168 : decode cX12_init 168 = .ok (.putfield 74, 3) := by decide +kernel
theorem dX12_init_171 : decode cX12_init 171 = .ok (.aload_n 0, 1) := by decide +kernel
theorem dX12_init_172 : decode cX12_init 172 = .ok (.iconst 4, 1) := by decide +kernel
theorem dX12_init_173 : decode cX12_init 173 = .ok (.newarray .int, 2) := by decide +kernel
theorem dX12_init_175 : decode cX12_init 175 = .ok (.dup, 1) := by decide +kernel
theorem dX12_init_176 : decode cX12_init 176 = .ok (.iconst 0, 1) := by decide +kernel
theorem dX12_init_177 : decode cX12_init 177 = .ok (.iconst (-1), 1) := by decide +kernel
theorem dX12_init_178 : decode cX12_init 178 = .ok (.iastore, 1) := by decide +kernel
theorem dX12_init_179 : decode cX12_init 179 = .ok (.dup, 1) := by decide +kernel
theorem dX12_init_180 : decode cX12_init 180 = .ok (.iconst 1, 1) := by decide +kernel
theorem dX12_init_181 : decode cX12_init 181 = .ok (.iconst (-1), 1) := by decide +kernel
theorem dX12_init_182 : decode cX12_init 182 = .ok (.iastore, 1) := by decide +kernel
theorem dX12_init_183 : decode cX12_init 183 = .ok (.dup, 1) := by decide +kernel
theorem dX12_init_184 : decode cX12_init 184 = .ok (.iconst 2, 1) := by decide +kernel
theorem dX12_init_185 : decode cX12_init 185 = .ok (.iconst (-1), 1) := by decide +kernel
theorem dX12_init_186 : decode cX12_init 186 = .ok (.iastore, 1) := by decide +kernel
theorem dX12_init_187 : decode cX12_init 187 = .ok (.dup, 1) := by decide +kernel
theorem dX12_init_188 : decode cX12_init 188 = .ok (.iconst 3, 1) := by decide +kernel
theorem dX12_init_189 : decode cX12_init 189 = .ok (.iconst (-1), 1) := by decide +kernel
theorem dX12_init_190 : decode cX12_init 190 = .ok (.iastore, 1) := by decide +kernel
theorem dX12_init_191 : decode cX12_init 191 = .ok (.putfield 77, 3) := by decide +kernel
theorem dX12_init_194 : decode cX12_init 194 = .ok (.aload_n 0, 1) := by decide +kernel
theorem dX12_init_195 : decode cX12_init 195 = .ok (.iconst 4, 1) := by decide +kernel
theorem dX12_init_196 : decode cX12_init 196 = .ok (.newarray .int, 2) := by decide +kernel
theorem dX12_init_198 : decode cX12_init 198 = .ok (.putfield 80, 3) := by decide +kernel
theorem dX12_init_201 : decode cX12_init 201 = .ok (.aload_n 0, 1) := by decide +kernel
theorem dX12_init_202 : decode cX12_init 202 = .ok (.sipush 160, 3) := by decide +kernel
theorem dX12_init_205 : decode cX12_init 205 = .ok (.newarray .int, 2) := by decide +kernel
theorem dX12_init_207 : decode cX12_init 207 = .ok (.putfield 83, 3) := by decide +kernel
theorem dX12_init_210 : decode cX12_init 210 = .ok (.aload_n 0, 1) := by decide +kernel
theorem dX12_init_211 : decode cX12_init 211 = .ok (.bipush 11, 2) := by decide +kernel
theorem dX12_init_213 : decode cX12_init 213 = .ok (.newarray .long, 2) := by decide +kernel
theorem dX12_init_215 : decode cX12_init 215 = .ok (.dup, 1) := by decide +kernel
theorem dX12_init_216 : decode cX12_init 216 = .ok (.iconst 0, 1) := by decide +kernel
theorem dX12_init_217 : decode cX12_init 217 = .ok (.ldc2_w 86, 3) := by decide +kernel
theorem dX12_init_220 : decode cX12_init 220 = .ok (.lastore, 1) := by decide +kernel
theorem dX12_init_221 : decode cX12_init 221 = .ok (.dup, 1) := by decide +kernel
theorem dX12_init_222 : decode cX12_init 222 = .ok (.iconst 1, 1) := by decide +kernel
theorem dX12_init_223 : decode cX12_init 223 = .ok (.ldc2_w 88, 3) := by decide +kernel
theorem dX12_init_226 : decode cX12_init 226 = .ok (.lastore, 1) := by decide +kernel
theorem dX12_init_227 : decode cX12_init 227 = .ok (.dup, 1) := by decide +kernel
theorem dX12_init_228 : decode cX12_init 228 = .ok (.iconst 2, 1) := by decide +kernel
theorem dX12_init_229 : decode cX12_init 229 = .ok (.ldc2_w 90, 3) := by decide +kernel
theorem dX12_init_232 : decode cX12_init 232 = .ok (.lastore, 1) := by decide +kernel
theorem dX12_init_233 : decode cX12_init 233 = .ok (.dup, 1) := by decide +kernel
theorem dX12_init_234 : decode cX12_init 234 = .ok (.iconst 3, 1) := by decide +kernel
theorem dX12_init_235 : decode cX12_init 235 = .ok (.ldc2_w 92, 3) := by decide +kernel
theorem dX12_init_238 : decode cX12_init 238 = .ok (.lastore, 1) := by decide +kernel
theorem dX12_init_239 : decode cX12_init 239 = .ok (.dup, 1) := by decide +kernel
theorem dX12_init_240 : decode cX12_init 240 = .ok (.iconst 4, 1) := by decide +kernel
theorem dX12_init_241 : decode cX12_init 241 = .ok (.ldc2_w 94, 3) := by decide +kernel
theorem dX12_init_244 : decode cX12_init 244 = .ok (.lastore, 1) := by decide +kernel
theorem dX12_init_245 : decode cX12_init 245 = .ok (.dup, 1) := by decide +kernel
theorem dX12_init_246 : decode cX12_init 246 = .ok (.iconst 5, 1) := by decide +kernel
theorem dX12_init_247 : decode cX12_init 247 = .ok (.ldc2_w 96, 3) := by decide +kernel
theorem dX12_init_250 : decode cX12_init 250 = .ok (.lastore, 1) := by decide +kernel
theorem dX12_init_251 : decode cX12_init 251 = .ok (.dup, 1) := by decide +kernel
theorem dX12_init_252 : decode cX12_init 252 = .ok (.bipush 6, 2) := by decide +kernel
theorem dX12_init_254 : decode cX12_init 254 = .ok (.ldc2_w 98, 3) := by decide +kernel
theorem dX12_init_257 : decode cX12_init 257 = .ok (.lastore, 1) := by decide +kernel
theorem dX12_init_258 : decode cX12_init 258 = .ok (.dup, 1) := by decide +kernel
theorem dX12_init_259 : decode cX12_init 259 = .ok (.bipush 7, 2) := by decide +kernel
theorem dX12_init_261 : decode cX12_init 261 = .ok (.ldc2_w 100, 3) := by decide +kernel
theorem dX12_init_264 : decode cX12_init 264 = .ok (.lastore, 1) := by decide +kernel
theorem dX12_init_265 : decode cX12_init 265 = .ok (.dup, 1) := by decide +kernel
theorem dX12_init_266 : decode cX12_init 266 = .ok (.bipush 8, 2) := by decide +kernel
theorem dX12_init_268 : decode cX12_init 268 = .ok (.ldc2_w 102, 3) := by decide +kernel
theorem dX12_init_271 : decode cX12_init 271 = .ok (.lastore, 1) := by decide +kernel
theorem dX12_init_272 : decode cX12_init 272 = .ok (.dup, 1) := by decide +kernel
theorem dX12_init_273 : decode cX12_init 273 = .ok (.bipush 9, 2) := by decide +kernel
theorem dX12_init_275 : decode cX12_init 275 = .ok (.ldc2_w 104, 3) := by decide +kernel
theorem dX12_init_278 : decode cX12_init 278 = .ok (.lastore, 1) := by decide +kernel
theorem dX12_init_279 : decode cX12_init 279 = .ok (.dup, 1) := by decide +kernel
theorem dX12_init_280 : decode cX12_init 280 = .ok (.bipush 10, 2) := by decide +kernel
theorem dX12_init_282 : decode cX12_init 282 = .ok (.ldc2_w 106, 3) := by decide +kernel
theorem dX12_init_285 : decode cX12_init 285 = .ok (.lastore, 1) := by decide +kernel
theorem dX12_init_286 : decode cX12_init 286 = .ok (.putfield 108, 3) := by decide +kernel
theorem dX12_init_289 : decode cX12_init 289 = .ok (.aload_n 0, 1) := by decide +kernel
theorem dX12_init_290 : decode cX12_init 290 = .ok (.sipush 200, 3) := by decide +kernel
theorem dX12_init_293 : decode cX12_init 293 = .ok (.newarray .int, 2) := by decide +kernel
theorem dX12_init_295 : decode cX12_init 295 = .ok (.putfield 112, 3) := by decide +kernel
theorem dX12_init_298 : decode cX12_init 298 = .ok (.aload_n 0, 1) := by decide +kernel
theorem dX12_init_299 : decode cX12_init 299 = .ok (.sipush 200, 3) := by decide +kernel
theorem dX12_init_302 : decode cX12_init 302 = .ok (.newarray .int, 2) := by decide +kernel
theorem dX12_init_304 : decode cX12_init 304 = .ok (.putfield 115, 3) := by decide +kernel
theorem dX12_init_307 : decode cX12_init 307 = .ok (.aload_n 0, 1) := by decide +kernel
theorem dX12_init_308 : decode cX12_init 308 = .ok (.bipush 6, 2) := by decide +kernel
theorem dX12_init_310 : decode cX12_init 310 = .ok (.newarray .int, 2) := by decide +kernel
theorem dX12_init_312 : decode cX12_init 312 = .ok (.putfield 118, 3) := by decide +kernel
theorem dX12_init_315 : decode cX12_init 315 = .ok (.aload_n 0, 1) := by decide +kernel
theorem dX12_init_316 : decode cX12_init 316 = .ok (.bipush 8, 2) := by decide +kernel
theorem dX12_init_318 : decode cX12_init 318 = .ok (.newarray .long, 2) := by decide +kernel
theorem dX12_init_320 : decode cX12_init 320 = .ok (.putfield 121, 3) := by decide +kernel
theorem dX12_init_323 : decode cX12_init 323 = .ok (.aload_n 0, 1) := by decide +kernel
theorem dX12_init_324 : decode cX12_init 324 = .ok (.iconst 0, 1) := by decide +kernel
theorem dX12_init_325 : decode cX12_init 325 = .ok (.ldc 124, 2) := by decide +kernel
theorem dX12_init_327 : decode cX12_init 327 = .ok (.iconst 1, 1) := by decide +kernel
theorem dX12_init_328 : decode cX12_init 328 = .ok (.bipush 16, 2) := by decide +kernel
theorem dX12_init_330 : decode cX12_init 330 = .ok (.iconst 1, 1) := by decide +kernel
theorem dX12_init_331 : decode cX12_init 331 = .ok (.invokevirtual 125, 3) := by decide +kernel
theorem dX12_init_334 : decode cX12_init 334 = .ok (.aload_n 0, 1) := by decide +kernel
theorem dX12_init_335 : decode cX12_init 335 = .ok (.getfield 47, 3) := by decide +kernel
theorem dX12_init_338 : decode cX12_init 338 = .ok (.iconst 4, 1) := by decide +kernel
theorem dX12_init_339 : decode cX12_init 339 = .ok (.ldc 129, 2) := by decide +kernel
theorem dX12_init_341 : decode cX12_init 341 = .ok (.iastore, 1) := by decide +kernel
theorem dX12_init_342 : decode cX12_init 342 = .ok (.aload_n 0, 1) := by decide +kernel
theorem dX12_init_343 : decode cX12_init 343 = .ok (.getfield 47, 3) := by decide +kernel
theorem dX12_init_346 : decode cX12_init 346 = .ok (.iconst 5, 1) := by decide +kernel
theorem dX12_init_347 : decode cX12_init 347 = .ok (.bipush 18, 2) := by decide +kernel
theorem dX12_init_349 : decode cX12_init 349 = .ok (.iastore, 1) := by decide +kernel
theorem dX12_init_350 : decode cX12_init 350 = .ok (.aload_n 0, 1) := by decide +kernel
theorem dX12_init_351 : decode cX12_init 351 = .ok (.getfield 50, 3) := by decide +kernel
theorem dX12_init_354 : decode cX12_init 354 = .ok (.iconst 1, 1) := by decide +kernel
theorem dX12_init_355 : decode cX12_init 355 = .ok (.iconst 3, 1) := by decide +kernel
theorem dX12_init_356 : decode cX12_init 356 = .ok (.iastore, 1) := by decide +kernel
theorem dX12_init_357 : decode cX12_init 357 = .ok (.aload_n 0, 1) := by decide +kernel
theorem dX12_init_358 : decode cX12_init 358 = .ok (.getfield 50, 3) := by decide +kernel
theorem dX12_init_361 : decode cX12_init 361 = .ok (.iconst 2, 1) := by decide +kernel
theorem dX12_init_362 : decode cX12_init 362 = .ok (.bipush 6, 2) := by decide +kernel
theorem dX12_init_364 : decode cX12_init 364 = .ok (.iastore, 1) := by decide +kernel
theorem dX12_init_365 : decode cX12_init 365 = .ok (.return_, 1) := by decide +kernel
theorem dX12_first_0 : decode cX12_first 0 = .ok (.aload_n 0, 1) := by decide +kernel
theorem dX12_first_1 : decode cX12_first 1 = .ok (.getfield 47, 3) := by decide +kernel
theorem dX12_first_4 : decode cX12_first 4 = .ok (.iload_n 1, 1) := by decide +kernel
theorem dX12_first_5 : decode cX12_first 5 = .ok (.iload_n 2, 1) := by decide +kernel
theorem dX12_first_6 : decode cX12_first 6 = .ok (.iastore, 1) := by decide +kernel
theorem dX12_first_7 : decode cX12_first 7 = .ok (.aload_n 0, 1) := by decide +kernel
theorem dX12_first_8 : decode cX12_first 8 = .ok (.getfield 47, 3) := by decide +kernel
theorem dX12_first_11 : decode cX12_first 11 = .ok (.iload_n 1, 1) := by decide +kernel
theorem dX12_first_12 : decode cX12_first 12 = .ok (.iconst 1, 1) := by decide +kernel
theorem dX12_first_13 : decode cX12_first 13 = .ok (.iadd, 1) := by decide +kernel
theorem dX12_first_14 : decode cX12_first 14 = .ok (.iload_n 3, 1) := by decide +kernel
theorem dX12_first_15 : decode cX12_first 15 = .ok (.iastore, 1) := by decide +kernel
theorem dX12_first_16 : decode cX12_first 16 = .ok (.aload_n 0, 1) := by decide +kernel
theorem dX12_first_17 : decode cX12_first 17 = .ok (.getfield 47, 3) := by decide +kernel
theorem dX12_first_20 : decode cX12_first 20 = .ok (.iload_n 1, 1) := by decide +kernel
theorem dX12_first_21 : decode cX12_first 21 = .ok (.iconst 2, 1) := by decide +kernel
theorem dX12_first_22 : decode cX12_first 22 = .ok (.iadd, 1) := by decide +kernel
theorem dX12_first_23 : decode cX12_first 23 = .ok (.iload 4, 2) := by decide +kernel
theorem dX12_first_25 : decode cX12_first 25 = .ok (.iastore, 1) := by decide +kernel
theorem dX12_first_26 : decode cX12_first 26 = .ok (.aload_n 0, 1) := by decide +kernel
theorem dX12_first_27 : decode cX12_first 27 = .ok (.getfield 47, 3) := by decide +kernel
theorem dX12_first_30 : decode cX12_first 30 = .ok (.iload_n 1, 1) := by decide +kernel
theorem dX12_first_31 : decode cX12_first 31 = .ok (.iconst 3, 1) := by decide +kernel
theorem dX12_first_32 : decode cX12_first 32 = .ok (.iadd, 1) := by decide +kernel
theorem dX12_first_33 : decode cX12_first 33 = .ok (.iload 5, 2) := by decide +kernel
theorem dX12_first_35 : decode cX12_first 35 = .ok (.iastore, 1) := by decide +kernel
theorem dX12_first_36 : decode cX12_first 36 = .ok (.return_, 1) := by decide +kernel
theorem dX12_in_0 : decode cX12_in 0 = .ok (.iload_n 0, 1) := by decide +kernel
theorem dX12_in_1 : decode cX12_in 1 = .ok (.iload_n 1, 1) := by decide +kernel
theorem dX12_in_2 : decode cX12_in 2 = .ok (.if_icmp .lt 12, 3) := by decide +kernel
theorem dX12_in_5 : decode cX12_in 5 = .ok (.iload_n 0, 1) := by decide +kernel
theorem dX12_in_6 : decode cX12_in 6 = .ok (.iload_n 2, 1) := by decide +kernel
theorem dX12_in_7 : decode cX12_in 7 = .ok (.if_icmp .gt 7, 3) := by decide +kernel
theorem dX12_in_10 : decode cX12_in 10 = .ok (.iconst 1, 1) := by decide +kernel
theorem dX12_in_11 : decode cX12_in 11 = .ok (.goto 4, 3) := by decide +kernel
theorem dX12_in_14 : decode cX12_in 14 = .ok (.iconst 0, 1) := by decide +kernel
theorem dX12_in_15 : decode cX12_in 15 = .ok (.ireturn, 1) := by decide +kernel
theorem dX12_isMan_0 : decode cX12_isMan 0 = .ok (.iload_n 1, 1) := by decide +kernel
theorem dX12_isMan_1 : decode cX12_isMan 1 = .ok (.iconst 0, 1) := by decide +kernel
theorem dX12_isMan_2 : decode cX12_isMan 2 = .ok (.aload_n 0, 1) := by decide +kernel
theorem dX12_isMan_3 : decode cX12_isMan 3 = .ok (.getfield 130, 3) := by decide +kernel
theorem dX12_isMan_6 : decode cX12_isMan 6 = .ok (.iconst 1, 1) := by decide +kernel
theorem dX12_isMan_7 : decode cX12_isMan 7 = .ok (.isub, 1) := by decide +kernel
theorem dX12_isMan_8 : decode cX12_isMan 8 = .ok (.invokestatic 133, 3) := by decide +kernel
theorem dX12_isMan_11 : decode cX12_isMan 11 = .ok (.ireturn, 1) := by decide +kernel
theorem dX12_isRule_0 : decode cX12_isRule 0 = .ok (.iload_n 1, 1) := by decide +kernel
theorem dX12_isRule_1 : decode cX12_isRule 1 = .ok (.iconst 0, 1) := by decide +kernel
theorem dX12_isRule_2 : decode cX12_isRule 2 = .ok (.aload_n 0, 1) := by decide +kernel
theorem dX12_isRule_3 : decode cX12_isRule 3 = .ok (.getfield 137, 3) := by decide +kernel
theorem dX12_isRule_6 : decode cX12_isRule 6 = .ok (.iconst 1, 1) := by decide +kernel
theorem dX12_isRule_7 : decode cX12_isRule 7 = .ok (.isub, 1) := by decide +kernel
theorem dX12_isRule_8 : decode cX12_isRule 8 = .ok (.invokestatic 133, 3) := by decide +kernel
theorem dX12_isRule_11 : decode cX12_isRule 11 = .ok (.ireturn, 1) := by decide +kernel
theorem dX12_man_0 : decode cX12_man 0 = .ok (.iload_n 1, 1) := by decide +kernel
theorem dX12_man_1 : decode cX12_man 1 = .ok (.iconst 1, 1) := by decide +kernel
theorem dX12_man_2 : decode cX12_man 2 = .ok (.bipush 99, 2) := by decide +kernel
theorem dX12_man_4 : decode cX12_man 4 = .ok (.invokestatic 133, 3) := by decide +kernel
theorem dX12_man_7 : decode cX12_man 7 = .ok (.ifCond .eq 13, 3) := by decide +kernel
theorem dX12_man_10 : decode cX12_man 10 = .ok (.iload_n 2, 1) := by decide +kernel
theorem dX12_man_11 : decode cX12_man 11 = .ok (.iconst 0, 1) := by decide +kernel
theorem dX12_man_12 : decode cX12_man 12 = .ok (.bipush 9, 2) := by decide +kernel
theorem dX12_man_14 : decode cX12_man 14 = .ok (.invokestatic 133, 3) := by decide +kernel
theorem dX12_man_17 : decode cX12_man 17 = .ok (.ifCond .ne 6, 3) := by decide +kernel
theorem dX12_man_20 : decode cX12_man 20 = .ok (.bipush (-2), 2) := by decide +kernel
theorem dX12_man_22 : decode cX12_man 22 = .ok (.ireturn, 1) := by decide +kernel
theorem dX12_man_23 : decode cX12_man 23 = .ok (.aload_n 0, 1) := by decide +kernel
theorem dX12_man_24 : decode cX12_man 24 = .ok (.getfield 130, 3) := by decide +kernel
theorem dX12_man_27 : decode cX12_man 27 = .ok (.bipush 8, 2) := by decide +kernel
theorem dX12_man_29 : decode cX12_man 29 = .ok (.if_icmp .ne 6, 3) := by decide +kernel
theorem dX12_man_32 : decode cX12_man 32 = .ok (.bipush (-4), 2) := by decide +kernel
theorem dX12_man_34 : decode cX12_man 34 = .ok (.ireturn, 1) := by decide +kernel
theorem dX12_man_35 : decode cX12_man 35 = .ok (.aload_n 0, 1) := by decide +kernel
theorem dX12_man_36 : decode cX12_man 36 = .ok (.getfield 7, 3) := by decide +kernel
theorem dX12_man_39 : decode cX12_man 39 = .ok (.aload_n 0, 1) := by decide +kernel
theorem dX12_man_40 : decode cX12_man 40 = .ok (.getfield 130, 3) := by decide +kernel
theorem dX12_man_43 : decode cX12_man 43 = .ok (.iload_n 1, 1) := by decide +kernel
theorem dX12_man_44 : decode cX12_man 44 = .ok (.iastore, 1) := by decide +kernel
theorem dX12_man_45 : decode cX12_man 45 = .ok (.aload_n 0, 1) := by decide +kernel
theorem dX12_man_46 : decode cX12_man 46 = .ok (.getfield 13, 3) := by decide +kernel
theorem dX12_man_49 : decode cX12_man 49 = .ok (.aload_n 0, 1) := by decide +kernel
theorem dX12_man_50 : decode cX12_man 50 = .ok (.getfield 130, 3) := by decide +kernel
theorem dX12_man_53 : decode cX12_man 53 = .ok (.iload_n 2, 1) := by decide +kernel
theorem dX12_man_54 : decode cX12_man 54 = .ok (.iastore, 1) := by decide +kernel
theorem dX12_man_55 : decode cX12_man 55 = .ok (.aload_n 0, 1) := by decide +kernel
theorem dX12_man_56 : decode cX12_man 56 = .ok (.dup, 1) := by decide +kernel
theorem dX12_man_57 : decode cX12_man 57 = .ok (.getfield 130, 3) := by decide +kernel
theorem dX12_man_60 : decode cX12_man 60 = .ok (.iconst 1, 1) := by decide +kernel
theorem dX12_man_61 : decode cX12_man 61 = .ok (.iadd, 1) := by decide +kernel
theorem dX12_man_62 : decode cX12_man 62 = .ok (.putfield 130, 3) := by decide +kernel
theorem dX12_man_65 : decode cX12_man 65 = .ok (.aload_n 0, 1) := by decide +kernel
theorem dX12_man_66 : decode cX12_man 66 = .ok (.getfield 130, 3) := by decide +kernel
theorem dX12_man_69 : decode cX12_man 69 = .ok (.iconst 1, 1) := by decide +kernel
theorem dX12_man_70 : decode cX12_man 70 = .ok (.isub, 1) := by decide +kernel
theorem dX12_man_71 : decode cX12_man 71 = .ok (.ireturn, 1) := by decide +kernel
theorem dX12_set_0 : decode cX12_set 0 = .ok (.aload_n 0, 1) := by decide +kernel
theorem dX12_set_1 : decode cX12_set 1 = .ok (.iload_n 1, 1) := by decide +kernel
theorem dX12_set_2 : decode cX12_set 2 = .ok (.invokevirtual 140, 3) := by decide +kernel
theorem dX12_set_5 : decode cX12_set 5 = .ok (.ifCond .ne 6, 3) := by decide +kernel
theorem dX12_set_8 : decode cX12_set 8 = .ok (.bipush (-5), 2) := by decide +kernel
theorem dX12_set_10 : decode cX12_set 10 = .ok (.ireturn, 1) := by decide +kernel
theorem dX12_set_11 : decode cX12_set 11 = .ok (.iload_n 2, 1) := by decide +kernel
theorem dX12_set_12 : decode cX12_set 12 = .ok (.ifCond .ne 13, 3) := by decide +kernel
theorem dX12_set_15 : decode cX12_set 15 = .ok (.iload_n 3, 1) := by decide +kernel
theorem dX12_set_16 : decode cX12_set 16 = .ok (.iconst 1, 1) := by decide +kernel
theorem dX12_set_17 : decode cX12_set 17 = .ok (.bipush 99, 2) := by decide +kernel
theorem dX12_set_19 : decode cX12_set 19 = .ok (.invokestatic 133, 3) := by decide +kernel
theorem dX12_set_22 : decode cX12_set 22 = .ok (.goto 23, 3) := by decide +kernel
theorem dX12_set_25 : decode cX12_set 25 = .ok (.iload_n 2, 1) := by decide +kernel
theorem dX12_set_26 : decode cX12_set 26 = .ok (.iconst 1, 1) := by decide +kernel
theorem dX12_set_27 : decode cX12_set 27 = .ok (.if_icmp .ne 17, 3) := by decide +kernel
theorem dX12_set_30 : decode cX12_set 30 = .ok (.iload_n 3, 1) := by decide +kernel
theorem dX12_set_31 : decode cX12_set 31 = .ok (.iconst 0, 1) := by decide +kernel
theorem dX12_set_32 : decode cX12_set 32 = .ok (.bipush 9, 2) := by decide +kernel
theorem dX12_set_34 : decode cX12_set 34 = .ok (.invokestatic 133, 3) := by decide +kernel
theorem dX12_set_37 : decode cX12_set 37 = .ok (.ifCond .eq 7, 3) := by decide +kernel
theorem dX12_set_40 : decode cX12_set 40 = .ok (.iconst 1, 1) := by decide +kernel
theorem dX12_set_41 : decode cX12_set 41 = .ok (.goto 4, 3) := by decide +kernel
theorem dX12_set_44 : decode cX12_set 44 = .ok (.iconst 0, 1) := by decide +kernel
theorem dX12_set_45 : decode cX12_set 45 = .ok (.istore 4, 2) := by decide +kernel
theorem dX12_set_47 : decode cX12_set 47 = .ok (.iload 4, 2) := by decide +kernel
theorem dX12_set_49 : decode cX12_set 49 = .ok (.ifCond .ne 6, 3) := by decide +kernel
theorem dX12_set_52 : decode cX12_set 52 = .ok (.bipush (-7), 2) := by decide +kernel
theorem dX12_set_54 : decode cX12_set 54 = .ok (.ireturn, 1) := by decide +kernel
theorem dX12_set_55 : decode cX12_set 55 = .ok (.iload_n 2, 1) := by decide +kernel
theorem dX12_set_56 : decode cX12_set 56 = .ok (.ifCond .ne 12, 3) := by decide +kernel
theorem dX12_set_59 : decode cX12_set 59 = .ok (.aload_n 0, 1) := by decide +kernel
theorem dX12_set_60 : decode cX12_set 60 = .ok (.getfield 7, 3) := by decide +kernel
theorem dX12_set_63 : decode cX12_set 63 = .ok (.iload_n 1, 1) := by decide +kernel
theorem dX12_set_64 : decode cX12_set 64 = .ok (.iaload, 1) := by decide +kernel
theorem dX12_set_65 : decode cX12_set 65 = .ok (.goto 9, 3) := by decide +kernel
theorem dX12_set_68 : decode cX12_set 68 = .ok (.aload_n 0, 1) := by decide +kernel
theorem dX12_set_69 : decode cX12_set 69 = .ok (.getfield 13, 3) := by decide +kernel
theorem dX12_set_72 : decode cX12_set 72 = .ok (.iload_n 1, 1) := by decide +kernel
theorem dX12_set_73 : decode cX12_set 73 = .ok (.iaload, 1) := by decide +kernel
theorem dX12_set_74 : decode cX12_set 74 = .ok (.istore 5, 2) := by decide +kernel
theorem dX12_set_76 : decode cX12_set 76 = .ok (.iload_n 2, 1) := by decide +kernel
theorem dX12_set_77 : decode cX12_set 77 = .ok (.ifCond .ne 13, 3) := by decide +kernel
theorem dX12_set_80 : decode cX12_set 80 = .ok (.aload_n 0, 1) := by decide +kernel
theorem dX12_set_81 : decode cX12_set 81 = .ok (.getfield 7, 3) := by decide +kernel
theorem dX12_set_84 : decode cX12_set 84 = .ok (.iload_n 1, 1) := by decide +kernel
theorem dX12_set_85 : decode cX12_set 85 = .ok (.iload_n 3, 1) := by decide +kernel
theorem dX12_set_86 : decode cX12_set 86 = .ok (.iastore, 1) := by decide +kernel
theorem dX12_set_87 : decode cX12_set 87 = .ok (.goto 10, 3) := by decide +kernel
theorem dX12_set_90 : decode cX12_set 90 = .ok (.aload_n 0, 1) := by decide +kernel
theorem dX12_set_91 : decode cX12_set 91 = .ok (.getfield 13, 3) := by decide +kernel
theorem dX12_set_94 : decode cX12_set 94 = .ok (.iload_n 1, 1) := by decide +kernel
theorem dX12_set_95 : decode cX12_set 95 = .ok (.iload_n 3, 1) := by decide +kernel
theorem dX12_set_96 : decode cX12_set 96 = .ok (.iastore, 1) := by decide +kernel
theorem dX12_set_97 : decode cX12_set 97 = .ok (.iload 5, 2) := by decide +kernel
theorem dX12_set_99 : decode cX12_set 99 = .ok (.ireturn, 1) := by decide +kernel
theorem dX12_boat_0 : decode cX12_boat 0 = .ok (.iload_n 1, 1) := by decide +kernel
theorem dX12_boat_1 : decode cX12_boat 1 = .ok (.ifCond .ne 13, 3) := by decide +kernel
theorem dX12_boat_4 : decode cX12_boat 4 = .ok (.iload_n 2, 1) := by decide +kernel
theorem dX12_boat_5 : decode cX12_boat 5 = .ok (.iconst 1, 1) := by decide +kernel
theorem dX12_boat_6 : decode cX12_boat 6 = .ok (.bipush 12, 2) := by decide +kernel
theorem dX12_boat_8 : decode cX12_boat 8 = .ok (.invokestatic 133, 3) := by decide +kernel
theorem dX12_boat_11 : decode cX12_boat 11 = .ok (.goto 55, 3) := by decide +kernel
theorem dX12_boat_14 : decode cX12_boat 14 = .ok (.iload_n 1, 1) := by decide +kernel
theorem dX12_boat_15 : decode cX12_boat 15 = .ok (.iconst 1, 1) := by decide +kernel
theorem dX12_boat_16 : decode cX12_boat 16 = .ok (.if_icmp .ne 14, 3) := by decide +kernel
theorem dX12_boat_19 : decode cX12_boat 19 = .ok (.iload_n 2, 1) := by decide +kernel
theorem dX12_boat_20 : decode cX12_boat 20 = .ok (.iconst 0, 1) := by decide +kernel
theorem dX12_boat_21 : decode cX12_boat 21 = .ok (.sipush 999, 3) := by decide +kernel
theorem dX12_boat_24 : decode cX12_boat 24 = .ok (.invokestatic 133, 3) := by decide +kernel
theorem dX12_boat_27 : decode cX12_boat 27 = .ok (.goto 39, 3) := by decide +kernel
theorem dX12_boat_30 : decode cX12_boat 30 = .ok (.iload_n 1, 1) := by decide +kernel
theorem dX12_boat_31 : decode cX12_boat 31 = .ok (.iconst 2, 1) := by decide +kernel
theorem dX12_boat_32 : decode cX12_boat 32 = .ok (.if_icmp .ne 13, 3) := by decide +kernel
theorem dX12_boat_35 : decode cX12_boat 35 = .ok (.iload_n 2, 1) := by decide +kernel
theorem dX12_boat_36 : decode cX12_boat 36 = .ok (.iconst 0, 1) := by decide +kernel
theorem dX12_boat_37 : decode cX12_boat 37 = .ok (.bipush 99, 2) := by decide +kernel
theorem dX12_boat_39 : decode cX12_boat 39 = .ok (.invokestatic 133, 3) := by decide +kernel
theorem dX12_boat_42 : decode cX12_boat 42 = .ok (.goto 24, 3) := by decide +kernel
theorem dX12_boat_45 : decode cX12_boat 45 = .ok (.iload_n 1, 1) := by decide +kernel
theorem dX12_boat_46 : decode cX12_boat 46 = .ok (.iconst 3, 1) := by decide +kernel
theorem dX12_boat_47 : decode cX12_boat 47 = .ok (.if_icmp .ne 18, 3) := by decide +kernel
theorem dX12_boat_50 : decode cX12_boat 50 = .ok (.iload_n 2, 1) := by decide +kernel
theorem dX12_boat_51 : decode cX12_boat 51 = .ok (.iconst 0, 1) := by decide +kernel
theorem dX12_boat_52 : decode cX12_boat 52 = .ok (.sipush 9999, 3) := by decide +kernel
theorem dX12_boat_55 : decode cX12_boat 55 = .ok (.invokestatic 133, 3) := by decide +kernel
theorem dX12_boat_58 : decode cX12_boat 58 = .ok (.ifCond .eq 7, 3) := by decide +kernel
theorem dX12_boat_61 : decode cX12_boat 61 = .ok (.iconst 1, 1) := by decide +kernel
theorem dX12_boat_62 : decode cX12_boat 62 = .ok (.goto 4, 3) := by decide +kernel
theorem dX12_boat_65 : decode cX12_boat 65 = .ok (.iconst 0, 1) := by decide +kernel
theorem dX12_boat_66 : decode cX12_boat 66 = .ok (.istore_n 3, 1) := by decide +kernel
theorem dX12_boat_67 : decode cX12_boat 67 = .ok (.iload_n 3, 1) := by decide +kernel
theorem dX12_boat_68 : decode cX12_boat 68 = .ok (.ifCond .ne 6, 3) := by decide +kernel
theorem dX12_boat_71 : decode cX12_boat 71 = .ok (.bipush (-2), 2) := by decide +kernel
theorem dX12_boat_73 : decode cX12_boat 73 = .ok (.ireturn, 1) := by decide +kernel
theorem dX12_boat_74 : decode cX12_boat 74 = .ok (.aload_n 0, 1) := by decide +kernel
theorem dX12_boat_75 : decode cX12_boat 75 = .ok (.iload_n 1, 1) := by decide +kernel
theorem dX12_boat_76 : decode cX12_boat 76 = .ok (.invokevirtual 144, 3) := by decide +kernel
theorem dX12_boat_79 : decode cX12_boat 79 = .ok (.istore 4, 2) := by decide +kernel
theorem dX12_boat_81 : decode cX12_boat 81 = .ok (.aload_n 0, 1) := by decide +kernel
theorem dX12_boat_82 : decode cX12_boat 82 = .ok (.iload_n 1, 1) := by decide +kernel
theorem dX12_boat_83 : decode cX12_boat 83 = .ok (.ifCond .ne 7, 3) := by decide +kernel
theorem dX12_boat_86 : decode cX12_boat 86 = .ok (.iload_n 2, 1) := by decide +kernel
theorem dX12_boat_87 : decode cX12_boat 87 = .ok (.goto 7, 3) := by decide +kernel
theorem dX12_boat_90 : decode cX12_boat 90 = .ok (.aload_n 0, 1) := by decide +kernel
theorem dX12_boat_91 : decode cX12_boat 91 = .ok (.getfield 16, 3) := by decide +kernel
theorem dX12_boat_94 : decode cX12_boat 94 = .ok (.putfield 16, 3) := by decide +kernel
theorem dX12_boat_97 : decode cX12_boat 97 = .ok (.aload_n 0, 1) := by decide +kernel
theorem dX12_boat_98 : decode cX12_boat 98 = .ok (.iload_n 1, 1) := by decide +kernel
theorem dX12_boat_99 : decode cX12_boat 99 = .ok (.iconst 1, 1) := by decide +kernel
theorem dX12_boat_100 : decode cX12_boat 100 = .ok (.if_icmp .ne 7, 3) := by decide +kernel
theorem dX12_boat_103 : decode cX12_boat 103 = .ok (.iload_n 2, 1) := by decide +kernel
theorem dX12_boat_104 : decode cX12_boat 104 = .ok (.goto 7, 3) := by decide +kernel
theorem dX12_boat_107 : decode cX12_boat 107 = .ok (.aload_n 0, 1) := by decide +kernel
theorem dX12_boat_108 : decode cX12_boat 108 = .ok (.getfield 20, 3) := by decide +kernel
theorem dX12_boat_111 : decode cX12_boat 111 = .ok (.putfield 20, 3) := by decide +kernel
theorem dX12_boat_114 : decode cX12_boat 114 = .ok (.aload_n 0, 1) := by decide +kernel
theorem dX12_boat_115 : decode cX12_boat 115 = .ok (.iload_n 1, 1) := by decide +kernel
theorem dX12_boat_116 : decode cX12_boat 116 = .ok (.iconst 2, 1) := by decide +kernel
theorem dX12_boat_117 : decode cX12_boat 117 = .ok (.if_icmp .ne 7, 3) := by decide +kernel
theorem dX12_boat_120 : decode cX12_boat 120 = .ok (.iload_n 2, 1) := by decide +kernel
theorem dX12_boat_121 : decode cX12_boat 121 = .ok (.goto 7, 3) := by decide +kernel
theorem dX12_boat_124 : decode cX12_boat 124 = .ok (.aload_n 0, 1) := by decide +kernel
theorem dX12_boat_125 : decode cX12_boat 125 = .ok (.getfield 23, 3) := by decide +kernel
theorem dX12_boat_128 : decode cX12_boat 128 = .ok (.putfield 23, 3) := by decide +kernel
theorem dX12_boat_131 : decode cX12_boat 131 = .ok (.aload_n 0, 1) := by decide +kernel
theorem dX12_boat_132 : decode cX12_boat 132 = .ok (.iload_n 1, 1) := by decide +kernel
theorem dX12_boat_133 : decode cX12_boat 133 = .ok (.iconst 3, 1) := by decide +kernel
theorem dX12_boat_134 : decode cX12_boat 134 = .ok (.if_icmp .ne 7, 3) := by decide +kernel
theorem dX12_boat_137 : decode cX12_boat 137 = .ok (.iload_n 2, 1) := by decide +kernel
theorem dX12_boat_138 : decode cX12_boat 138 = .ok (.goto 7, 3) := by decide +kernel
theorem dX12_boat_141 : decode cX12_boat 141 = .ok (.aload_n 0, 1) := by decide +kernel
theorem dX12_boat_142 : decode cX12_boat 142 = .ok (.getfield 26, 3) := by decide +kernel
theorem dX12_boat_145 : decode cX12_boat 145 = .ok (.putfield 26, 3) := by decide +kernel
theorem dX12_boat_148 : decode cX12_boat 148 = .ok (.iload 4, 2) := by decide +kernel
theorem dX12_boat_150 : decode cX12_boat 150 = .ok (.ireturn, 1) := by decide +kernel
theorem dX12_day_0 : decode cX12_day 0 = .ok (.iload_n 1, 1) := by decide +kernel
theorem dX12_day_1 : decode cX12_day 1 = .ok (.iconst 0, 1) := by decide +kernel
theorem dX12_day_2 : decode cX12_day 2 = .ok (.bipush 11, 2) := by decide +kernel
theorem dX12_day_4 : decode cX12_day 4 = .ok (.invokestatic 133, 3) := by decide +kernel
theorem dX12_day_7 : decode cX12_day 7 = .ok (.ifCond .ne 6, 3) := by decide +kernel
theorem dX12_day_10 : decode cX12_day 10 = .ok (.bipush (-5), 2) := by decide +kernel
theorem dX12_day_12 : decode cX12_day 12 = .ok (.ireturn, 1) := by decide +kernel
theorem dX12_day_13 : decode cX12_day 13 = .ok (.iload_n 2, 1) := by decide +kernel
theorem dX12_day_14 : decode cX12_day 14 = .ok (.ifCond .ne 13, 3) := by decide +kernel
theorem dX12_day_17 : decode cX12_day 17 = .ok (.iload_n 3, 1) := by decide +kernel
theorem dX12_day_18 : decode cX12_day 18 = .ok (.iconst 0, 1) := by decide +kernel
theorem dX12_day_19 : decode cX12_day 19 = .ok (.bipush 9, 2) := by decide +kernel
theorem dX12_day_21 : decode cX12_day 21 = .ok (.invokestatic 133, 3) := by decide +kernel
theorem dX12_day_24 : decode cX12_day 24 = .ok (.goto 23, 3) := by decide +kernel
theorem dX12_day_27 : decode cX12_day 27 = .ok (.iload_n 2, 1) := by decide +kernel
theorem dX12_day_28 : decode cX12_day 28 = .ok (.iconst 1, 1) := by decide +kernel
theorem dX12_day_29 : decode cX12_day 29 = .ok (.if_icmp .ne 17, 3) := by decide +kernel
theorem dX12_day_32 : decode cX12_day 32 = .ok (.iload_n 3, 1) := by decide +kernel
theorem dX12_day_33 : decode cX12_day 33 = .ok (.iconst 0, 1) := by decide +kernel
theorem dX12_day_34 : decode cX12_day 34 = .ok (.bipush 50, 2) := by decide +kernel
theorem dX12_day_36 : decode cX12_day 36 = .ok (.invokestatic 133, 3) := by decide +kernel
theorem dX12_day_39 : decode cX12_day 39 = .ok (.ifCond .eq 7, 3) := by decide +kernel
theorem dX12_day_42 : decode cX12_day 42 = .ok (.iconst 1, 1) := by decide +kernel
theorem dX12_day_43 : decode cX12_day 43 = .ok (.goto 4, 3) := by decide +kernel
theorem dX12_day_46 : decode cX12_day 46 = .ok (.iconst 0, 1) := by decide +kernel
theorem dX12_day_47 : decode cX12_day 47 = .ok (.istore 4, 2) := by decide +kernel
theorem dX12_day_49 : decode cX12_day 49 = .ok (.iload 4, 2) := by decide +kernel
theorem dX12_day_51 : decode cX12_day 51 = .ok (.ifCond .ne 6, 3) := by decide +kernel
theorem dX12_day_54 : decode cX12_day 54 = .ok (.bipush (-7), 2) := by decide +kernel
theorem dX12_day_56 : decode cX12_day 56 = .ok (.ireturn, 1) := by decide +kernel
theorem dX12_day_57 : decode cX12_day 57 = .ok (.iload_n 2, 1) := by decide +kernel
theorem dX12_day_58 : decode cX12_day 58 = .ok (.ifCond .ne 12, 3) := by decide +kernel
theorem dX12_day_61 : decode cX12_day 61 = .ok (.aload_n 0, 1) := by decide +kernel
theorem dX12_day_62 : decode cX12_day 62 = .ok (.getfield 29, 3) := by decide +kernel
theorem dX12_day_65 : decode cX12_day 65 = .ok (.iload_n 1, 1) := by decide +kernel
theorem dX12_day_66 : decode cX12_day 66 = .ok (.iaload, 1) := by decide +kernel
theorem dX12_day_67 : decode cX12_day 67 = .ok (.goto 9, 3) := by decide +kernel
theorem dX12_day_70 : decode cX12_day 70 = .ok (.aload_n 0, 1) := by decide +kernel
theorem dX12_day_71 : decode cX12_day 71 = .ok (.getfield 32, 3) := by decide +kernel
theorem dX12_day_74 : decode cX12_day 74 = .ok (.iload_n 1, 1) := by decide +kernel
theorem dX12_day_75 : decode cX12_day 75 = .ok (.iaload, 1) := by decide +kernel
theorem dX12_day_76 : decode cX12_day 76 = .ok (.istore 5, 2) := by decide +kernel
theorem dX12_day_78 : decode cX12_day 78 = .ok (.iload_n 2, 1) := by decide +kernel
theorem dX12_day_79 : decode cX12_day 79 = .ok (.ifCond .ne 13, 3) := by decide +kernel
theorem dX12_day_82 : decode cX12_day 82 = .ok (.aload_n 0, 1) := by decide +kernel
theorem dX12_day_83 : decode cX12_day 83 = .ok (.getfield 29, 3) := by decide +kernel
theorem dX12_day_86 : decode cX12_day 86 = .ok (.iload_n 1, 1) := by decide +kernel
theorem dX12_day_87 : decode cX12_day 87 = .ok (.iload_n 3, 1) := by decide +kernel
theorem dX12_day_88 : decode cX12_day 88 = .ok (.iastore, 1) := by decide +kernel
theorem dX12_day_89 : decode cX12_day 89 = .ok (.goto 10, 3) := by decide +kernel
theorem dX12_day_92 : decode cX12_day 92 = .ok (.aload_n 0, 1) := by decide +kernel
theorem dX12_day_93 : decode cX12_day 93 = .ok (.getfield 32, 3) := by decide +kernel
theorem dX12_day_96 : decode cX12_day 96 = .ok (.iload_n 1, 1) := by decide +kernel
theorem dX12_day_97 : decode cX12_day 97 = .ok (.iload_n 3, 1) := by decide +kernel
theorem dX12_day_98 : decode cX12_day 98 = .ok (.iastore, 1) := by decide +kernel
theorem dX12_day_99 : decode cX12_day 99 = .ok (.iload 5, 2) := by decide +kernel
theorem dX12_day_101 : decode cX12_day 101 = .ok (.ireturn, 1) := by decide +kernel
theorem dX12_boatTold_0 : decode cX12_boatTold 0 = .ok (.iload_n 1, 1) := by decide +kernel
theorem dX12_boatTold_1 : decode cX12_boatTold 1 = .ok (.tableswitch 96 0 8 #[51, 56, 61, 66, 71, 76, 81, 86, 91], 51) := by decide +kernel
theorem dX12_boatTold_52 : decode cX12_boatTold 52 = .ok (.aload_n 0, 1) := by decide +kernel
theorem dX12_boatTold_53 : decode cX12_boatTold 53 = .ok (.getfield 16, 3) := by decide +kernel
theorem dX12_boatTold_56 : decode cX12_boatTold 56 = .ok (.ireturn, 1) := by decide +kernel
theorem dX12_boatTold_57 : decode cX12_boatTold 57 = .ok (.aload_n 0, 1) := by decide +kernel
theorem dX12_boatTold_58 : decode cX12_boatTold 58 = .ok (.getfield 20, 3) := by decide +kernel
theorem dX12_boatTold_61 : decode cX12_boatTold 61 = .ok (.ireturn, 1) := by decide +kernel
theorem dX12_boatTold_62 : decode cX12_boatTold 62 = .ok (.aload_n 0, 1) := by decide +kernel
theorem dX12_boatTold_63 : decode cX12_boatTold 63 = .ok (.getfield 23, 3) := by decide +kernel
theorem dX12_boatTold_66 : decode cX12_boatTold 66 = .ok (.ireturn, 1) := by decide +kernel
theorem dX12_boatTold_67 : decode cX12_boatTold 67 = .ok (.aload_n 0, 1) := by decide +kernel
theorem dX12_boatTold_68 : decode cX12_boatTold 68 = .ok (.getfield 26, 3) := by decide +kernel
theorem dX12_boatTold_71 : decode cX12_boatTold 71 = .ok (.ireturn, 1) := by decide +kernel
theorem dX12_boatTold_72 : decode cX12_boatTold 72 = .ok (.aload_n 0, 1) := by decide +kernel
theorem dX12_boatTold_73 : decode cX12_boatTold 73 = .ok (.getfield 130, 3) := by decide +kernel
theorem dX12_boatTold_76 : decode cX12_boatTold 76 = .ok (.ireturn, 1) := by decide +kernel
theorem dX12_boatTold_77 : decode cX12_boatTold 77 = .ok (.aload_n 0, 1) := by decide +kernel
theorem dX12_boatTold_78 : decode cX12_boatTold 78 = .ok (.getfield 137, 3) := by decide +kernel
theorem dX12_boatTold_81 : decode cX12_boatTold 81 = .ok (.ireturn, 1) := by decide +kernel
theorem dX12_boatTold_82 : decode cX12_boatTold 82 = .ok (.aload_n 0, 1) := by decide +kernel
theorem dX12_boatTold_83 : decode cX12_boatTold 83 = .ok (.getfield 53, 3) := by decide +kernel
theorem dX12_boatTold_86 : decode cX12_boatTold 86 = .ok (.ireturn, 1) := by decide +kernel
theorem dX12_boatTold_87 : decode cX12_boatTold 87 = .ok (.aload_n 0, 1) := by decide +kernel
theorem dX12_boatTold_88 : decode cX12_boatTold 88 = .ok (.getfield 148, 3) := by decide +kernel
theorem dX12_boatTold_91 : decode cX12_boatTold 91 = .ok (.ireturn, 1) := by decide +kernel
theorem dX12_boatTold_92 : decode cX12_boatTold 92 = .ok (.aload_n 0, 1) := by decide +kernel
theorem dX12_boatTold_93 : decode cX12_boatTold 93 = .ok (.getfield 151, 3) := by decide +kernel
theorem dX12_boatTold_96 : decode cX12_boatTold 96 = .ok (.ireturn, 1) := by decide +kernel
theorem dX12_boatTold_97 : decode cX12_boatTold 97 = .ok (.bipush (-2), 2) := by decide +kernel
theorem dX12_boatTold_99 : decode cX12_boatTold 99 = .ok (.ireturn, 1) := by decide +kernel
theorem dX12_rule_0 : decode cX12_rule 0 = .ok (.iload_n 1, 1) := by decide +kernel
theorem dX12_rule_1 : decode cX12_rule 1 = .ok (.iconst 0, 1) := by decide +kernel
theorem dX12_rule_2 : decode cX12_rule 2 = .ok (.iconst 5, 1) := by decide +kernel
theorem dX12_rule_3 : decode cX12_rule 3 = .ok (.invokestatic 133, 3) := by decide +kernel
theorem dX12_rule_6 : decode cX12_rule 6 = .ok (.ifCond .eq 27, 3) := by decide +kernel
theorem dX12_rule_9 : decode cX12_rule 9 = .ok (.iload_n 2, 1) := by decide +kernel
theorem dX12_rule_10 : decode cX12_rule 10 = .ok (.iconst 0, 1) := by decide +kernel
theorem dX12_rule_11 : decode cX12_rule 11 = .ok (.bipush 99, 2) := by decide +kernel
theorem dX12_rule_13 : decode cX12_rule 13 = .ok (.invokestatic 133, 3) := by decide +kernel
theorem dX12_rule_16 : decode cX12_rule 16 = .ok (.ifCond .eq 17, 3) := by decide +kernel
theorem dX12_rule_19 : decode cX12_rule 19 = .ok (.iload_n 1, 1) := by decide +kernel
theorem dX12_rule_20 : decode cX12_rule 20 = .ok (.iconst 4, 1) := by decide +kernel
theorem dX12_rule_21 : decode cX12_rule 21 = .ok (.if_icmp .ne 15, 3) := by decide +kernel
theorem dX12_rule_24 : decode cX12_rule 24 = .ok (.iload_n 3, 1) := by decide +kernel
theorem dX12_rule_25 : decode cX12_rule 25 = .ok (.iconst 0, 1) := by decide +kernel
theorem dX12_rule_26 : decode cX12_rule 26 = .ok (.iconst 3, 1) := by decide +kernel
theorem dX12_rule_27 : decode cX12_rule 27 = .ok (.invokestatic 133, 3) := by decide +kernel
theorem dX12_rule_30 : decode cX12_rule 30 = .ok (.ifCond .ne 6, 3) := by decide +kernel
theorem dX12_rule_33 : decode cX12_rule 33 = .ok (.bipush (-2), 2) := by decide +kernel
theorem dX12_rule_35 : decode cX12_rule 35 = .ok (.ireturn, 1) := by decide +kernel
theorem dX12_rule_36 : decode cX12_rule 36 = .ok (.iload_n 1, 1) := by decide +kernel
theorem dX12_rule_37 : decode cX12_rule 37 = .ok (.iconst 4, 1) := by decide +kernel
theorem dX12_rule_38 : decode cX12_rule 38 = .ok (.if_icmp .ne 29, 3) := by decide +kernel
theorem dX12_rule_41 : decode cX12_rule 41 = .ok (.aload_n 0, 1) := by decide +kernel
theorem dX12_rule_42 : decode cX12_rule 42 = .ok (.getfield 77, 3) := by decide +kernel
theorem dX12_rule_45 : decode cX12_rule 45 = .ok (.iload_n 3, 1) := by decide +kernel
theorem dX12_rule_46 : decode cX12_rule 46 = .ok (.iconst 0, 1) := by decide +kernel
theorem dX12_rule_47 : decode cX12_rule 47 = .ok (.iconst 3, 1) := by decide +kernel
theorem dX12_rule_48 : decode cX12_rule 48 = .ok (.invokestatic 133, 3) := by decide +kernel
theorem dX12_rule_51 : decode cX12_rule 51 = .ok (.ifCond .eq 7, 3) := by decide +kernel
theorem dX12_rule_54 : decode cX12_rule 54 = .ok (.iload_n 3, 1) := by decide +kernel
theorem dX12_rule_55 : decode cX12_rule 55 = .ok (.goto 4, 3) := by decide +kernel
theorem dX12_rule_58 : decode cX12_rule 58 = .ok (.iconst 0, 1) := by decide +kernel
theorem dX12_rule_59 : decode cX12_rule 59 = .ok (.iaload, 1) := by decide +kernel
theorem dX12_rule_60 : decode cX12_rule 60 = .ok (.iconst (-1), 1) := by decide +kernel
theorem dX12_rule_61 : decode cX12_rule 61 = .ok (.if_icmp .ne 6, 3) := by decide +kernel
theorem dX12_rule_64 : decode cX12_rule 64 = .ok (.bipush (-11), 2) := by decide +kernel
theorem dX12_rule_66 : decode cX12_rule 66 = .ok (.ireturn, 1) := by decide +kernel
theorem dX12_rule_67 : decode cX12_rule 67 = .ok (.iload_n 1, 1) := by decide +kernel
theorem dX12_rule_68 : decode cX12_rule 68 = .ok (.iconst 4, 1) := by decide +kernel
theorem dX12_rule_69 : decode cX12_rule 69 = .ok (.if_icmp .ne 16, 3) := by decide +kernel
theorem dX12_rule_72 : decode cX12_rule 72 = .ok (.aload_n 0, 1) := by decide +kernel
theorem dX12_rule_73 : decode cX12_rule 73 = .ok (.getfield 80, 3) := by decide +kernel
theorem dX12_rule_76 : decode cX12_rule 76 = .ok (.iload_n 3, 1) := by decide +kernel
theorem dX12_rule_77 : decode cX12_rule 77 = .ok (.iaload, 1) := by decide +kernel
theorem dX12_rule_78 : decode cX12_rule 78 = .ok (.aload_n 0, 1) := by decide +kernel
theorem dX12_rule_79 : decode cX12_rule 79 = .ok (.getfield 130, 3) := by decide +kernel
theorem dX12_rule_82 : decode cX12_rule 82 = .ok (.if_icmp .ne 7, 3) := by decide +kernel
theorem dX12_rule_85 : decode cX12_rule 85 = .ok (.iconst 1, 1) := by decide +kernel
theorem dX12_rule_86 : decode cX12_rule 86 = .ok (.goto 4, 3) := by decide +kernel
theorem dX12_rule_89 : decode cX12_rule 89 = .ok (.iconst 0, 1) := by decide +kernel
theorem dX12_rule_90 : decode cX12_rule 90 = .ok (.istore 4, 2) := by decide +kernel
theorem dX12_rule_92 : decode cX12_rule 92 = .ok (.iconst 0, 1) := by decide +kernel
theorem dX12_rule_93 : decode cX12_rule 93 = .ok (.istore 5, 2) := by decide +kernel
theorem dX12_rule_95 : decode cX12_rule 95 = .ok (.iload 5, 2) := by decide +kernel
theorem dX12_rule_97 : decode cX12_rule 97 = .ok (.aload_n 0, 1) := by decide +kernel
theorem dX12_rule_98 : decode cX12_rule 98 = .ok (.getfield 130, 3) := by decide +kernel
theorem dX12_rule_101 : decode cX12_rule 101 = .ok (.if_icmp .ge 39, 3) := by decide +kernel
theorem dX12_rule_104 : decode cX12_rule 104 = .ok (.iload 4, 2) := by decide +kernel
theorem dX12_rule_106 : decode cX12_rule 106 = .ok (.ifCond .eq 34, 3) := by decide +kernel
theorem dX12_rule_109 : decode cX12_rule 109 = .ok (.iload_n 1, 1) := by decide +kernel
theorem dX12_rule_110 : decode cX12_rule 110 = .ok (.iconst 4, 1) := by decide +kernel
theorem dX12_rule_111 : decode cX12_rule 111 = .ok (.if_icmp .ne 29, 3) := by decide +kernel
theorem dX12_rule_114 : decode cX12_rule 114 = .ok (.aload_n 0, 1) := by decide +kernel
theorem dX12_rule_115 : decode cX12_rule 115 = .ok (.getfield 83, 3) := by decide +kernel
theorem dX12_rule_118 : decode cX12_rule 118 = .ok (.bipush 40, 2) := by decide +kernel
theorem dX12_rule_120 : decode cX12_rule 120 = .ok (.iload_n 3, 1) := by decide +kernel
theorem dX12_rule_121 : decode cX12_rule 121 = .ok (.imul, 1) := by decide +kernel
theorem dX12_rule_122 : decode cX12_rule 122 = .ok (.iload 5, 2) := by decide +kernel
theorem dX12_rule_124 : decode cX12_rule 124 = .ok (.iadd, 1) := by decide +kernel
theorem dX12_rule_125 : decode cX12_rule 125 = .ok (.iaload, 1) := by decide +kernel
theorem dX12_rule_126 : decode cX12_rule 126 = .ok (.iconst 0, 1) := by decide +kernel
theorem dX12_rule_127 : decode cX12_rule 127 = .ok (.bipush 50, 2) := by decide +kernel
theorem dX12_rule_129 : decode cX12_rule 129 = .ok (.invokestatic 133, 3) := by decide +kernel
theorem dX12_rule_132 : decode cX12_rule 132 = .ok (.istore 4, 2) := by decide +kernel
theorem dX12_rule_134 : decode cX12_rule 134 = .ok (.iinc 5 1, 3) := by decide +kernel
theorem dX12_rule_137 : decode cX12_rule 137 = .ok (.goto (-42), 3) := by decide +kernel
theorem dX12_rule_140 : decode cX12_rule 140 = .ok (.iload 4, 2) := by decide +kernel
theorem dX12_rule_142 : decode cX12_rule 142 = .ok (.ifCond .ne 6, 3) := by decide +kernel
theorem dX12_rule_145 : decode cX12_rule 145 = .ok (.bipush (-2), 2) := by decide +kernel
theorem dX12_rule_147 : decode cX12_rule 147 = .ok (.ireturn, 1) := by decide +kernel
theorem dX12_rule_148 : decode cX12_rule 148 = .ok (.aload_n 0, 1) := by decide +kernel
theorem dX12_rule_149 : decode cX12_rule 149 = .ok (.getfield 137, 3) := by decide +kernel
theorem dX12_rule_152 : decode cX12_rule 152 = .ok (.bipush 8, 2) := by decide +kernel
theorem dX12_rule_154 : decode cX12_rule 154 = .ok (.if_icmp .ne 6, 3) := by decide +kernel
theorem dX12_rule_157 : decode cX12_rule 157 = .ok (.bipush (-4), 2) := by decide +kernel
theorem dX12_rule_159 : decode cX12_rule 159 = .ok (.ireturn, 1) := by decide +kernel
theorem dX12_rule_160 : decode cX12_rule 160 = .ok (.aload_n 0, 1) := by decide +kernel
theorem dX12_rule_161 : decode cX12_rule 161 = .ok (.getfield 35, 3) := by decide +kernel
theorem dX12_rule_164 : decode cX12_rule 164 = .ok (.aload_n 0, 1) := by decide +kernel
theorem dX12_rule_165 : decode cX12_rule 165 = .ok (.getfield 137, 3) := by decide +kernel
theorem dX12_rule_168 : decode cX12_rule 168 = .ok (.iload_n 1, 1) := by decide +kernel
theorem dX12_rule_169 : decode cX12_rule 169 = .ok (.iastore, 1) := by decide +kernel
theorem dX12_rule_170 : decode cX12_rule 170 = .ok (.aload_n 0, 1) := by decide +kernel
theorem dX12_rule_171 : decode cX12_rule 171 = .ok (.getfield 38, 3) := by decide +kernel
theorem dX12_rule_174 : decode cX12_rule 174 = .ok (.aload_n 0, 1) := by decide +kernel
theorem dX12_rule_175 : decode cX12_rule 175 = .ok (.getfield 137, 3) := by decide +kernel
theorem dX12_rule_178 : decode cX12_rule 178 = .ok (.iload_n 2, 1) := by decide +kernel
theorem dX12_rule_179 : decode cX12_rule 179 = .ok (.iastore, 1) := by decide +kernel
theorem dX12_rule_180 : decode cX12_rule 180 = .ok (.iconst 0, 1) := by decide +kernel
theorem dX12_rule_181 : decode cX12_rule 181 = .ok (.istore 5, 2) := by decide +kernel
theorem dX12_rule_183 : decode cX12_rule 183 = .ok (.iload 5, 2) := by decide +kernel
theorem dX12_rule_185 : decode cX12_rule 185 = .ok (.bipush 8, 2) := by decide +kernel
theorem dX12_rule_187 : decode cX12_rule 187 = .ok (.if_icmp .ge 54, 3) := by decide +kernel
theorem dX12_rule_190 : decode cX12_rule 190 = .ok (.aload_n 0, 1) := by decide +kernel
theorem dX12_rule_191 : decode cX12_rule 191 = .ok (.getfield 41, 3) := by decide +kernel
theorem dX12_rule_194 : decode cX12_rule 194 = .ok (.bipush 8, 2) := by decide +kernel
theorem dX12_rule_196 : decode cX12_rule 196 = .ok (.aload_n 0, 1) := by decide +kernel
theorem dX12_rule_197 : decode cX12_rule 197 = .ok (.getfield 137, 3) := by decide +kernel
theorem dX12_rule_200 : decode cX12_rule 200 = .ok (.imul, 1) := by decide +kernel
theorem dX12_rule_201 : decode cX12_rule 201 = .ok (.iload 5, 2) := by decide +kernel
theorem dX12_rule_203 : decode cX12_rule 203 = .ok (.iadd, 1) := by decide +kernel
theorem dX12_rule_204 : decode cX12_rule 204 = .ok (.iload_n 1, 1) := by decide +kernel
theorem dX12_rule_205 : decode cX12_rule 205 = .ok (.iconst 4, 1) := by decide +kernel
theorem dX12_rule_206 : decode cX12_rule 206 = .ok (.if_icmp .ne 27, 3) := by decide +kernel
theorem dX12_rule_209 : decode cX12_rule 209 = .ok (.iload 5, 2) := by decide +kernel
theorem dX12_rule_211 : decode cX12_rule 211 = .ok (.aload_n 0, 1) := by decide +kernel
theorem dX12_rule_212 : decode cX12_rule 212 = .ok (.getfield 130, 3) := by decide +kernel
theorem dX12_rule_215 : decode cX12_rule 215 = .ok (.if_icmp .ge 18, 3) := by decide +kernel
theorem dX12_rule_218 : decode cX12_rule 218 = .ok (.aload_n 0, 1) := by decide +kernel
theorem dX12_rule_219 : decode cX12_rule 219 = .ok (.getfield 83, 3) := by decide +kernel
theorem dX12_rule_222 : decode cX12_rule 222 = .ok (.bipush 40, 2) := by decide +kernel
theorem dX12_rule_224 : decode cX12_rule 224 = .ok (.iload_n 3, 1) := by decide +kernel
theorem dX12_rule_225 : decode cX12_rule 225 = .ok (.imul, 1) := by decide +kernel
theorem dX12_rule_226 : decode cX12_rule 226 = .ok (.iload 5, 2) := by decide +kernel
theorem dX12_rule_228 : decode cX12_rule 228 = .ok (.iadd, 1) := by decide +kernel
theorem dX12_rule_229 : decode cX12_rule 229 = .ok (.iaload, 1) := by decide +kernel
theorem dX12_rule_230 : decode cX12_rule 230 = .ok (.goto 4, 3) := by decide +kernel
theorem dX12_rule_233 : decode cX12_rule 233 = .ok (.iconst 0, 1) := by decide +kernel
theorem dX12_rule_234 : decode cX12_rule 234 = .ok (.iastore, 1) := by decide +kernel
theorem dX12_rule_235 : decode cX12_rule 235 = .ok (.iinc 5 1, 3) := by decide +kernel
theorem dX12_rule_238 : decode cX12_rule 238 = .ok (.goto (-55), 3) := by decide +kernel
theorem dX12_rule_241 : decode cX12_rule 241 = .ok (.aload_n 0, 1) := by decide +kernel
theorem dX12_rule_242 : decode cX12_rule 242 = .ok (.dup, 1) := by decide +kernel
theorem dX12_rule_243 : decode cX12_rule 243 = .ok (.getfield 137, 3) := by decide +kernel
theorem dX12_rule_246 : decode cX12_rule 246 = .ok (.iconst 1, 1) := by decide +kernel
theorem dX12_rule_247 : decode cX12_rule 247 = .ok (.iadd, 1) := by decide +kernel
theorem dX12_rule_248 : decode cX12_rule 248 = .ok (.putfield 137, 3) := by decide +kernel
theorem dX12_rule_251 : decode cX12_rule 251 = .ok (.aload_n 0, 1) := by decide +kernel
theorem dX12_rule_252 : decode cX12_rule 252 = .ok (.getfield 137, 3) := by decide +kernel
theorem dX12_rule_255 : decode cX12_rule 255 = .ok (.iconst 1, 1) := by decide +kernel
theorem dX12_rule_256 : decode cX12_rule 256 = .ok (.isub, 1) := by decide +kernel
theorem dX12_rule_257 : decode cX12_rule 257 = .ok (.ireturn, 1) := by decide +kernel
theorem dX12_ruleTold_0 : decode cX12_ruleTold 0 = .ok (.aload_n 0, 1) := by decide +kernel
theorem dX12_ruleTold_1 : decode cX12_ruleTold 1 = .ok (.iload_n 1, 1) := by decide +kernel
theorem dX12_ruleTold_2 : decode cX12_ruleTold 2 = .ok (.invokevirtual 154, 3) := by decide +kernel
theorem dX12_ruleTold_5 : decode cX12_ruleTold 5 = .ok (.ifCond .ne 6, 3) := by decide +kernel
theorem dX12_ruleTold_8 : decode cX12_ruleTold 8 = .ok (.bipush (-5), 2) := by decide +kernel
theorem dX12_ruleTold_10 : decode cX12_ruleTold 10 = .ok (.ireturn, 1) := by decide +kernel
theorem dX12_ruleTold_11 : decode cX12_ruleTold 11 = .ok (.iload_n 2, 1) := by decide +kernel
theorem dX12_ruleTold_12 : decode cX12_ruleTold 12 = .ok (.ifCond .ne 12, 3) := by decide +kernel
theorem dX12_ruleTold_15 : decode cX12_ruleTold 15 = .ok (.aload_n 0, 1) := by decide +kernel
theorem dX12_ruleTold_16 : decode cX12_ruleTold 16 = .ok (.getfield 35, 3) := by decide +kernel
theorem dX12_ruleTold_19 : decode cX12_ruleTold 19 = .ok (.iload_n 1, 1) := by decide +kernel
theorem dX12_ruleTold_20 : decode cX12_ruleTold 20 = .ok (.iaload, 1) := by decide +kernel
theorem dX12_ruleTold_21 : decode cX12_ruleTold 21 = .ok (.goto 45, 3) := by decide +kernel
theorem dX12_ruleTold_24 : decode cX12_ruleTold 24 = .ok (.iload_n 2, 1) := by decide +kernel
theorem dX12_ruleTold_25 : decode cX12_ruleTold 25 = .ok (.iconst 1, 1) := by decide +kernel
theorem dX12_ruleTold_26 : decode cX12_ruleTold 26 = .ok (.if_icmp .ne 12, 3) := by decide +kernel
theorem dX12_ruleTold_29 : decode cX12_ruleTold 29 = .ok (.aload_n 0, 1) := by decide +kernel
theorem dX12_ruleTold_30 : decode cX12_ruleTold 30 = .ok (.getfield 38, 3) := by decide +kernel
theorem dX12_ruleTold_33 : decode cX12_ruleTold 33 = .ok (.iload_n 1, 1) := by decide +kernel
theorem dX12_ruleTold_34 : decode cX12_ruleTold 34 = .ok (.iaload, 1) := by decide +kernel
theorem dX12_ruleTold_35 : decode cX12_ruleTold 35 = .ok (.goto 31, 3) := by decide +kernel
theorem dX12_ruleTold_38 : decode cX12_ruleTold 38 = .ok (.iload_n 2, 1) := by decide +kernel
theorem dX12_ruleTold_39 : decode cX12_ruleTold 39 = .ok (.iconst 2, 1) := by decide +kernel
theorem dX12_ruleTold_40 : decode cX12_ruleTold 40 = .ok (.bipush 9, 2) := by decide +kernel
theorem dX12_ruleTold_42 : decode cX12_ruleTold 42 = .ok (.invokestatic 133, 3) := by decide +kernel
theorem dX12_ruleTold_45 : decode cX12_ruleTold 45 = .ok (.ifCond .eq 19, 3) := by decide +kernel
theorem dX12_ruleTold_48 : decode cX12_ruleTold 48 = .ok (.aload_n 0, 1) := by decide +kernel
theorem dX12_ruleTold_49 : decode cX12_ruleTold 49 = .ok (.getfield 41, 3) := by decide +kernel
theorem dX12_ruleTold_52 : decode cX12_ruleTold 52 = .ok (.bipush 8, 2) := by decide +kernel
theorem dX12_ruleTold_54 : decode cX12_ruleTold 54 = .ok (.iload_n 1, 1) := by decide +kernel
theorem dX12_ruleTold_55 : decode cX12_ruleTold 55 = .ok (.imul, 1) := by decide +kernel
theorem dX12_ruleTold_56 : decode cX12_ruleTold 56 = .ok (.iload_n 2, 1) := by decide +kernel
theorem dX12_ruleTold_57 : decode cX12_ruleTold 57 = .ok (.iadd, 1) := by decide +kernel
theorem dX12_ruleTold_58 : decode cX12_ruleTold 58 = .ok (.iconst 2, 1) := by decide +kernel
theorem dX12_ruleTold_59 : decode cX12_ruleTold 59 = .ok (.isub, 1) := by decide +kernel
theorem dX12_ruleTold_60 : decode cX12_ruleTold 60 = .ok (.iaload, 1) := by decide +kernel
theorem dX12_ruleTold_61 : decode cX12_ruleTold 61 = .ok (.goto 5, 3) := by decide +kernel
theorem dX12_ruleTold_64 : decode cX12_ruleTold 64 = .ok (.bipush (-7), 2) := by decide +kernel
theorem dX12_ruleTold_66 : decode cX12_ruleTold 66 = .ok (.ireturn, 1) := by decide +kernel
theorem dX12_feed_0 : decode cX12_feed 0 = .ok (.iload_n 3, 1) := by decide +kernel
theorem dX12_feed_1 : decode cX12_feed 1 = .ok (.iconst 1, 1) := by decide +kernel
theorem dX12_feed_2 : decode cX12_feed 2 = .ok (.bipush 8, 2) := by decide +kernel
theorem dX12_feed_4 : decode cX12_feed 4 = .ok (.invokestatic 133, 3) := by decide +kernel
theorem dX12_feed_7 : decode cX12_feed 7 = .ok (.ifCond .ne 6, 3) := by decide +kernel
theorem dX12_feed_10 : decode cX12_feed 10 = .ok (.bipush (-2), 2) := by decide +kernel
theorem dX12_feed_12 : decode cX12_feed 12 = .ok (.ireturn, 1) := by decide +kernel
theorem dX12_feed_13 : decode cX12_feed 13 = .ok (.aload_n 0, 1) := by decide +kernel
theorem dX12_feed_14 : decode cX12_feed 14 = .ok (.getfield 151, 3) := by decide +kernel
theorem dX12_feed_17 : decode cX12_feed 17 = .ok (.iload_n 3, 1) := by decide +kernel
theorem dX12_feed_18 : decode cX12_feed 18 = .ok (.iadd, 1) := by decide +kernel
theorem dX12_feed_19 : decode cX12_feed 19 = .ok (.sipush 160, 3) := by decide +kernel
theorem dX12_feed_22 : decode cX12_feed 22 = .ok (.if_icmp .le 6, 3) := by decide +kernel
theorem dX12_feed_25 : decode cX12_feed 25 = .ok (.bipush (-4), 2) := by decide +kernel
theorem dX12_feed_27 : decode cX12_feed 27 = .ok (.ireturn, 1) := by decide +kernel
theorem dX12_feed_28 : decode cX12_feed 28 = .ok (.iload_n 3, 1) := by decide +kernel
theorem dX12_feed_29 : decode cX12_feed 29 = .ok (.iconst 1, 1) := by decide +kernel
theorem dX12_feed_30 : decode cX12_feed 30 = .ok (.isub, 1) := by decide +kernel
theorem dX12_feed_31 : decode cX12_feed 31 = .ok (.istore 4, 2) := by decide +kernel
theorem dX12_feed_33 : decode cX12_feed 33 = .ok (.iload 4, 2) := by decide +kernel
theorem dX12_feed_35 : decode cX12_feed 35 = .ok (.ifCond .lt 40, 3) := by decide +kernel
theorem dX12_feed_38 : decode cX12_feed 38 = .ok (.aload_n 0, 1) := by decide +kernel
theorem dX12_feed_39 : decode cX12_feed 39 = .ok (.getfield 44, 3) := by decide +kernel
theorem dX12_feed_42 : decode cX12_feed 42 = .ok (.aload_n 0, 1) := by decide +kernel
theorem dX12_feed_43 : decode cX12_feed 43 = .ok (.getfield 151, 3) := by decide +kernel
theorem dX12_feed_46 : decode cX12_feed 46 = .ok (.lload_n 1, 1) := by decide +kernel
theorem dX12_feed_47 : decode cX12_feed 47 = .ok (.bipush 8, 2) := by decide +kernel
theorem dX12_feed_49 : decode cX12_feed 49 = .ok (.iload 4, 2) := by decide +kernel
theorem dX12_feed_51 : decode cX12_feed 51 = .ok (.imul, 1) := by decide +kernel
theorem dX12_feed_52 : decode cX12_feed 52 = .ok (.lshr, 1) := by decide +kernel
theorem dX12_feed_53 : decode cX12_feed 53 = .ok (.ldc2_w 157, 3) := by decide +kernel
theorem dX12_feed_56 : decode cX12_feed 56 = .ok (.land, 1) := by decide +kernel
theorem dX12_feed_57 : decode cX12_feed 57 = .ok (.l2i, 1) := by decide +kernel
theorem dX12_feed_58 : decode cX12_feed 58 = .ok (.iastore, 1) := by decide +kernel
theorem dX12_feed_59 : decode cX12_feed 59 = .ok (.aload_n 0, 1) := by decide +kernel
theorem dX12_feed_60 : decode cX12_feed 60 = .ok (.dup, 1) := by decide +kernel
theorem dX12_feed_61 : decode cX12_feed 61 = .ok (.getfield 151, 3) := by decide +kernel
theorem dX12_feed_64 : decode cX12_feed 64 = .ok (.iconst 1, 1) := by decide +kernel
theorem dX12_feed_65 : decode cX12_feed 65 = .ok (.iadd, 1) := by decide +kernel
theorem dX12_feed_66 : decode cX12_feed 66 = .ok (.putfield 151, 3) := by decide +kernel
theorem dX12_feed_69 : decode cX12_feed 69 = .ok (.iinc 4 (-1), 3) := by decide +kernel
theorem dX12_feed_72 : decode cX12_feed 72 = .ok (.goto (-39), 3) := by decide +kernel
theorem dX12_feed_75 : decode cX12_feed 75 = .ok (.aload_n 0, 1) := by decide +kernel
theorem dX12_feed_76 : decode cX12_feed 76 = .ok (.getfield 151, 3) := by decide +kernel
theorem dX12_feed_79 : decode cX12_feed 79 = .ok (.ireturn, 1) := by decide +kernel
theorem dX12_letters_0 : decode cX12_letters 0 = .ok (.lconst 0, 1) := by decide +kernel
theorem dX12_letters_1 : decode cX12_letters 1 = .ok (.lstore_n 1, 1) := by decide +kernel
theorem dX12_letters_2 : decode cX12_letters 2 = .ok (.iconst 0, 1) := by decide +kernel
theorem dX12_letters_3 : decode cX12_letters 3 = .ok (.istore_n 3, 1) := by decide +kernel
theorem dX12_letters_4 : decode cX12_letters 4 = .ok (.aload_n 0, 1) := by decide +kernel
theorem dX12_letters_5 : decode cX12_letters 5 = .ok (.getfield 159, 3) := by decide +kernel
theorem dX12_letters_8 : decode cX12_letters 8 = .ok (.aload_n 0, 1) := by decide +kernel
theorem dX12_letters_9 : decode cX12_letters 9 = .ok (.getfield 151, 3) := by decide +kernel
theorem dX12_letters_12 : decode cX12_letters 12 = .ok (.if_icmp .ge 64, 3) := by decide +kernel
theorem dX12_letters_15 : decode cX12_letters 15 = .ok (.aload_n 0, 1) := by decide +kernel
theorem dX12_letters_16 : decode cX12_letters 16 = .ok (.getfield 44, 3) := by decide +kernel
theorem dX12_letters_19 : decode cX12_letters 19 = .ok (.aload_n 0, 1) := by decide +kernel
theorem dX12_letters_20 : decode cX12_letters 20 = .ok (.getfield 159, 3) := by decide +kernel
theorem dX12_letters_23 : decode cX12_letters 23 = .ok (.iaload, 1) := by decide +kernel
theorem dX12_letters_24 : decode cX12_letters 24 = .ok (.bipush 97, 2) := by decide +kernel
theorem dX12_letters_26 : decode cX12_letters 26 = .ok (.bipush 122, 2) := by decide +kernel
theorem dX12_letters_28 : decode cX12_letters 28 = .ok (.invokestatic 133, 3) := by decide +kernel
theorem dX12_letters_31 : decode cX12_letters 31 = .ok (.ifCond .eq 45, 3) := by decide +kernel
theorem dX12_letters_34 : decode cX12_letters 34 = .ok (.iload_n 3, 1) := by decide +kernel
theorem dX12_letters_35 : decode cX12_letters 35 = .ok (.bipush 8, 2) := by decide +kernel
theorem dX12_letters_37 : decode cX12_letters 37 = .ok (.if_icmp .ge 21, 3) := by decide +kernel
theorem dX12_letters_40 : decode cX12_letters 40 = .ok (.lload_n 1, 1) := by decide +kernel
theorem dX12_letters_41 : decode cX12_letters 41 = .ok (.bipush 8, 2) := by decide +kernel
theorem dX12_letters_43 : decode cX12_letters 43 = .ok (.lshl, 1) := by decide +kernel
theorem dX12_letters_44 : decode cX12_letters 44 = .ok (.aload_n 0, 1) := by decide +kernel
theorem dX12_letters_45 : decode cX12_letters 45 = .ok (.getfield 44, 3) := by decide +kernel
theorem dX12_letters_48 : decode cX12_letters 48 = .ok (.aload_n 0, 1) := by decide +kernel
theorem dX12_letters_49 : decode cX12_letters 49 = .ok (.getfield 159, 3) := by decide +kernel
theorem dX12_letters_52 : decode cX12_letters 52 = .ok (.iaload, 1) := by decide +kernel
theorem dX12_letters_53 : decode cX12_letters 53 = .ok (.i2l, 1) := by decide +kernel
theorem dX12_letters_54 : decode cX12_letters 54 = .ok (.lor, 1) := by decide +kernel
theorem dX12_letters_55 : decode cX12_letters 55 = .ok (.goto 4, 3) := by decide +kernel
theorem dX12_letters_58 : decode cX12_letters 58 = .ok (.lload_n 1, 1) := by decide +kernel
theorem dX12_letters_59 : decode cX12_letters 59 = .ok (.lstore_n 1, 1) := by decide +kernel
theorem dX12_letters_60 : decode cX12_letters 60 = .ok (.iinc 3 1, 3) := by decide +kernel
theorem dX12_letters_63 : decode cX12_letters 63 = .ok (.aload_n 0, 1) := by decide +kernel
theorem dX12_letters_64 : decode cX12_letters 64 = .ok (.dup, 1) := by decide +kernel
theorem dX12_letters_65 : decode cX12_letters 65 = .ok (.getfield 159, 3) := by decide +kernel
theorem dX12_letters_68 : decode cX12_letters 68 = .ok (.iconst 1, 1) := by decide +kernel
theorem dX12_letters_69 : decode cX12_letters 69 = .ok (.iadd, 1) := by decide +kernel
theorem dX12_letters_70 : decode cX12_letters 70 = .ok (.putfield 159, 3) := by decide +kernel
theorem dX12_letters_73 : decode cX12_letters 73 = .ok (.goto (-69), 3) := by decide +kernel
theorem dX12_letters_76 : decode cX12_letters 76 = .ok (.iload_n 3, 1) := by decide +kernel
theorem dX12_letters_77 : decode cX12_letters 77 = .ok (.iconst 5, 1) := by decide +kernel
theorem dX12_letters_78 : decode cX12_letters 78 = .ok (.if_icmp .le 7, 3) := by decide +kernel
theorem dX12_letters_81 : decode cX12_letters 81 = .ok (.lconst 0, 1) := by decide +kernel
theorem dX12_letters_82 : decode cX12_letters 82 = .ok (.goto 4, 3) := by decide +kernel
theorem dX12_letters_85 : decode cX12_letters 85 = .ok (.lload_n 1, 1) := by decide +kernel
theorem dX12_letters_86 : decode cX12_letters 86 = .ok (.lreturn, 1) := by decide +kernel
theorem dX12_next_0 : decode cX12_next 0 = .ok (.aload_n 0, 1) := by decide +kernel
theorem dX12_next_1 : decode cX12_next 1 = .ok (.getfield 159, 3) := by decide +kernel
theorem dX12_next_4 : decode cX12_next 4 = .ok (.aload_n 0, 1) := by decide +kernel
theorem dX12_next_5 : decode cX12_next 5 = .ok (.getfield 151, 3) := by decide +kernel
theorem dX12_next_8 : decode cX12_next 8 = .ok (.if_icmp .ge 44, 3) := by decide +kernel
theorem dX12_next_11 : decode cX12_next 11 = .ok (.aload_n 0, 1) := by decide +kernel
theorem dX12_next_12 : decode cX12_next 12 = .ok (.getfield 44, 3) := by decide +kernel
theorem dX12_next_15 : decode cX12_next 15 = .ok (.aload_n 0, 1) := by decide +kernel
theorem dX12_next_16 : decode cX12_next 16 = .ok (.getfield 159, 3) := by decide +kernel
theorem dX12_next_19 : decode cX12_next 19 = .ok (.iaload, 1) := by decide +kernel
theorem dX12_next_20 : decode cX12_next 20 = .ok (.bipush 32, 2) := by decide +kernel
theorem dX12_next_22 : decode cX12_next 22 = .ok (.if_icmp .eq 17, 3) := by decide +kernel
theorem dX12_next_25 : decode cX12_next 25 = .ok (.aload_n 0, 1) := by decide +kernel
theorem dX12_next_26 : decode cX12_next 26 = .ok (.getfield 44, 3) := by decide +kernel
theorem dX12_next_29 : decode cX12_next 29 = .ok (.aload_n 0, 1) := by decide +kernel
theorem dX12_next_30 : decode cX12_next 30 = .ok (.getfield 159, 3) := by decide +kernel
theorem dX12_next_33 : decode cX12_next 33 = .ok (.iaload, 1) := by decide +kernel
theorem dX12_next_34 : decode cX12_next 34 = .ok (.bipush 10, 2) := by decide +kernel
theorem dX12_next_36 : decode cX12_next 36 = .ok (.if_icmp .ne 16, 3) := by decide +kernel
theorem dX12_next_39 : decode cX12_next 39 = .ok (.aload_n 0, 1) := by decide +kernel
theorem dX12_next_40 : decode cX12_next 40 = .ok (.dup, 1) := by decide +kernel
theorem dX12_next_41 : decode cX12_next 41 = .ok (.getfield 159, 3) := by decide +kernel
theorem dX12_next_44 : decode cX12_next 44 = .ok (.iconst 1, 1) := by decide +kernel
theorem dX12_next_45 : decode cX12_next 45 = .ok (.iadd, 1) := by decide +kernel
theorem dX12_next_46 : decode cX12_next 46 = .ok (.putfield 159, 3) := by decide +kernel
theorem dX12_next_49 : decode cX12_next 49 = .ok (.goto (-49), 3) := by decide +kernel
theorem dX12_next_52 : decode cX12_next 52 = .ok (.aload_n 0, 1) := by decide +kernel
theorem dX12_next_53 : decode cX12_next 53 = .ok (.aload_n 0, 1) := by decide +kernel
theorem dX12_next_54 : decode cX12_next 54 = .ok (.getfield 159, 3) := by decide +kernel
theorem dX12_next_57 : decode cX12_next 57 = .ok (.putfield 162, 3) := by decide +kernel
theorem dX12_next_60 : decode cX12_next 60 = .ok (.aload_n 0, 1) := by decide +kernel
theorem dX12_next_61 : decode cX12_next 61 = .ok (.iconst 0, 1) := by decide +kernel
theorem dX12_next_62 : decode cX12_next 62 = .ok (.putfield 165, 3) := by decide +kernel
theorem dX12_next_65 : decode cX12_next 65 = .ok (.aload_n 0, 1) := by decide +kernel
theorem dX12_next_66 : decode cX12_next 66 = .ok (.iconst 0, 1) := by decide +kernel
theorem dX12_next_67 : decode cX12_next 67 = .ok (.putfield 168, 3) := by decide +kernel
theorem dX12_next_70 : decode cX12_next 70 = .ok (.aload_n 0, 1) := by decide +kernel
theorem dX12_next_71 : decode cX12_next 71 = .ok (.getfield 159, 3) := by decide +kernel
theorem dX12_next_74 : decode cX12_next 74 = .ok (.aload_n 0, 1) := by decide +kernel
theorem dX12_next_75 : decode cX12_next 75 = .ok (.getfield 151, 3) := by decide +kernel
theorem dX12_next_78 : decode cX12_next 78 = .ok (.if_icmp .ne 4, 3) := by decide +kernel
theorem dX12_next_81 : decode cX12_next 81 = .ok (.return_, 1) := by decide +kernel
theorem dX12_next_82 : decode cX12_next 82 = .ok (.aload_n 0, 1) := by decide +kernel
theorem dX12_next_83 : decode cX12_next 83 = .ok (.getfield 44, 3) := by decide +kernel
theorem dX12_next_86 : decode cX12_next 86 = .ok (.aload_n 0, 1) := by decide +kernel
theorem dX12_next_87 : decode cX12_next 87 = .ok (.getfield 159, 3) := by decide +kernel
theorem dX12_next_90 : decode cX12_next 90 = .ok (.iaload, 1) := by decide +kernel
theorem dX12_next_91 : decode cX12_next 91 = .ok (.istore_n 1, 1) := by decide +kernel
theorem dX12_next_92 : decode cX12_next 92 = .ok (.iload_n 1, 1) := by decide +kernel
theorem dX12_next_93 : decode cX12_next 93 = .ok (.bipush 97, 2) := by decide +kernel
theorem dX12_next_95 : decode cX12_next 95 = .ok (.bipush 122, 2) := by decide +kernel
theorem dX12_next_97 : decode cX12_next 97 = .ok (.invokestatic 133, 3) := by decide +kernel
theorem dX12_next_100 : decode cX12_next 100 = .ok (.ifCond .eq 101, 3) := by decide +kernel
theorem dX12_next_103 : decode cX12_next 103 = .ok (.aload_n 0, 1) := by decide +kernel
theorem dX12_next_104 : decode cX12_next 104 = .ok (.invokevirtual 171, 3) := by decide +kernel
theorem dX12_next_107 : decode cX12_next 107 = .ok (.lstore_n 2, 1) := by decide +kernel
theorem dX12_next_108 : decode cX12_next 108 = .ok (.iconst 0, 1) := by decide +kernel
theorem dX12_next_109 : decode cX12_next 109 = .ok (.istore 4, 2) := by decide +kernel
theorem dX12_next_111 : decode cX12_next 111 = .ok (.iload 4, 2) := by decide +kernel
theorem dX12_next_113 : decode cX12_next 113 = .ok (.bipush 11, 2) := by decide +kernel
theorem dX12_next_115 : decode cX12_next 115 = .ok (.if_icmp .ge 21, 3) := by decide +kernel
theorem dX12_next_118 : decode cX12_next 118 = .ok (.aload_n 0, 1) := by decide +kernel
theorem dX12_next_119 : decode cX12_next 119 = .ok (.getfield 108, 3) := by decide +kernel
theorem dX12_next_122 : decode cX12_next 122 = .ok (.iload 4, 2) := by decide +kernel
theorem dX12_next_124 : decode cX12_next 124 = .ok (.laload, 1) := by decide +kernel
theorem dX12_next_125 : decode cX12_next 125 = .ok (.lload_n 2, 1) := by decide +kernel
theorem dX12_next_126 : decode cX12_next 126 = .ok (.lcmp, 1) := by decide +kernel
theorem dX12_next_127 : decode cX12_next 127 = .ok (.ifCond .eq 9, 3) := by decide +kernel
theorem dX12_next_130 : decode cX12_next 130 = .ok (.iinc 4 1, 3) := by decide +kernel
theorem dX12_next_133 : decode cX12_next 133 = .ok (.goto (-22), 3) := by decide +kernel
theorem dX12_next_136 : decode cX12_next 136 = .ok (.aload_n 0, 1) := by decide +kernel
theorem dX12_next_137 : decode cX12_next 137 = .ok (.iload 4, 2) := by decide +kernel
theorem dX12_next_139 : decode cX12_next 139 = .ok (.iconst 2, 1) := by decide +kernel
theorem dX12_next_140 : decode cX12_next 140 = .ok (.if_icmp .ge 7, 3) := by decide +kernel
theorem dX12_next_143 : decode cX12_next 143 = .ok (.iconst 3, 1) := by decide +kernel
theorem dX12_next_144 : decode cX12_next 144 = .ok (.goto 32, 3) := by decide +kernel
theorem dX12_next_147 : decode cX12_next 147 = .ok (.iload 4, 2) := by decide +kernel
theorem dX12_next_149 : decode cX12_next 149 = .ok (.bipush 8, 2) := by decide +kernel
theorem dX12_next_151 : decode cX12_next 151 = .ok (.if_icmp .ge 7, 3) := by decide +kernel
theorem dX12_next_154 : decode cX12_next 154 = .ok (.iconst 2, 1) := by decide +kernel
theorem dX12_next_155 : decode cX12_next 155 = .ok (.goto 21, 3) := by decide +kernel
theorem dX12_next_158 : decode cX12_next 158 = .ok (.iload 4, 2) := by decide +kernel
theorem dX12_next_160 : decode cX12_next 160 = .ok (.bipush 11, 2) := by decide +kernel
theorem dX12_next_162 : decode cX12_next 162 = .ok (.if_icmp .ne 7, 3) := by decide +kernel
theorem dX12_next_165 : decode cX12_next 165 = .ok (.iconst (-1), 1) := by decide +kernel
theorem dX12_next_166 : decode cX12_next 166 = .ok (.goto 10, 3) := by decide +kernel
theorem dX12_next_169 : decode cX12_next 169 = .ok (.iconst 4, 1) := by decide +kernel
theorem dX12_next_170 : decode cX12_next 170 = .ok (.iload 4, 2) := by decide +kernel
theorem dX12_next_172 : decode cX12_next 172 = .ok (.iadd, 1) := by decide +kernel
theorem dX12_next_173 : decode cX12_next 173 = .ok (.bipush 8, 2) := by decide +kernel
theorem dX12_next_175 : decode cX12_next 175 = .ok (.isub, 1) := by decide +kernel
theorem dX12_next_176 : decode cX12_next 176 = .ok (.putfield 165, 3) := by decide +kernel
theorem dX12_next_179 : decode cX12_next 179 = .ok (.aload_n 0, 1) := by decide +kernel
theorem dX12_next_180 : decode cX12_next 180 = .ok (.iload 4, 2) := by decide +kernel
theorem dX12_next_182 : decode cX12_next 182 = .ok (.iconst 2, 1) := by decide +kernel
theorem dX12_next_183 : decode cX12_next 183 = .ok (.if_icmp .ge 8, 3) := by decide +kernel
theorem dX12_next_186 : decode cX12_next 186 = .ok (.iload 4, 2) := by decide +kernel
theorem dX12_next_188 : decode cX12_next 188 = .ok (.goto 7, 3) := by decide +kernel
theorem dX12_next_191 : decode cX12_next 191 = .ok (.iload 4, 2) := by decide +kernel
theorem dX12_next_193 : decode cX12_next 193 = .ok (.iconst 2, 1) := by decide +kernel
theorem dX12_next_194 : decode cX12_next 194 = .ok (.isub, 1) := by decide +kernel
theorem dX12_next_195 : decode cX12_next 195 = .ok (.putfield 168, 3) := by decide +kernel
theorem dX12_next_198 : decode cX12_next 198 = .ok (.goto 189, 3) := by decide +kernel
theorem dX12_next_201 : decode cX12_next 201 = .ok (.iload_n 1, 1) := by decide +kernel
theorem dX12_next_202 : decode cX12_next 202 = .ok (.bipush 48, 2) := by decide +kernel
theorem dX12_next_204 : decode cX12_next 204 = .ok (.bipush 57, 2) := by decide +kernel
theorem dX12_next_206 : decode cX12_next 206 = .ok (.invokestatic 133, 3) := by decide +kernel
theorem dX12_next_209 : decode cX12_next 209 = .ok (.ifCond .eq 101, 3) := by decide +kernel
theorem dX12_next_212 : decode cX12_next 212 = .ok (.iconst 0, 1) := by decide +kernel
theorem dX12_next_213 : decode cX12_next 213 = .ok (.istore_n 2, 1) := by decide +kernel
theorem dX12_next_214 : decode cX12_next 214 = .ok (.aload_n 0, 1) := by decide +kernel
theorem dX12_next_215 : decode cX12_next 215 = .ok (.getfield 159, 3) := by decide +kernel
theorem dX12_next_218 : decode cX12_next 218 = .ok (.aload_n 0, 1) := by decide +kernel
theorem dX12_next_219 : decode cX12_next 219 = .ok (.getfield 151, 3) := by decide +kernel
theorem dX12_next_222 : decode cX12_next 222 = .ok (.if_icmp .ge 71, 3) := by decide +kernel
theorem dX12_next_225 : decode cX12_next 225 = .ok (.aload_n 0, 1) := by decide +kernel
theorem dX12_next_226 : decode cX12_next 226 = .ok (.getfield 44, 3) := by decide +kernel
theorem dX12_next_229 : decode cX12_next 229 = .ok (.aload_n 0, 1) := by decide +kernel
theorem dX12_next_230 : decode cX12_next 230 = .ok (.getfield 159, 3) := by decide +kernel
theorem dX12_next_233 : decode cX12_next 233 = .ok (.iaload, 1) := by decide +kernel
theorem dX12_next_234 : decode cX12_next 234 = .ok (.bipush 48, 2) := by decide +kernel
theorem dX12_next_236 : decode cX12_next 236 = .ok (.bipush 57, 2) := by decide +kernel
theorem dX12_next_238 : decode cX12_next 238 = .ok (.invokestatic 133, 3) := by decide +kernel
theorem dX12_next_241 : decode cX12_next 241 = .ok (.ifCond .eq 52, 3) := by decide +kernel
theorem dX12_next_244 : decode cX12_next 244 = .ok (.aload_n 0, 1) := by decide +kernel
theorem dX12_next_245 : decode cX12_next 245 = .ok (.iload_n 2, 1) := by decide +kernel
theorem dX12_next_246 : decode cX12_next 246 = .ok (.iconst 4, 1) := by decide +kernel
theorem dX12_next_247 : decode cX12_next 247 = .ok (.if_icmp .ge 26, 3) := by decide +kernel
theorem dX12_next_250 : decode cX12_next 250 = .ok (.bipush 10, 2) := by decide +kernel
theorem dX12_next_252 : decode cX12_next 252 = .ok (.aload_n 0, 1) := by decide +kernel
theorem dX12_next_253 : decode cX12_next 253 = .ok (.getfield 168, 3) := by decide +kernel
theorem dX12_next_256 : decode cX12_next 256 = .ok (.imul, 1) := by decide +kernel
theorem dX12_next_257 : decode cX12_next 257 = .ok (.aload_n 0, 1) := by decide +kernel
theorem dX12_next_258 : decode cX12_next 258 = .ok (.getfield 44, 3) := by decide +kernel
theorem dX12_next_261 : decode cX12_next 261 = .ok (.aload_n 0, 1) := by decide +kernel
theorem dX12_next_262 : decode cX12_next 262 = .ok (.getfield 159, 3) := by decide +kernel
theorem dX12_next_265 : decode cX12_next 265 = .ok (.iaload, 1) := by decide +kernel
theorem dX12_next_266 : decode cX12_next 266 = .ok (.iadd, 1) := by decide +kernel
theorem dX12_next_267 : decode cX12_next 267 = .ok (.bipush 48, 2) := by decide +kernel
theorem dX12_next_269 : decode cX12_next 269 = .ok (.isub, 1) := by decide +kernel
theorem dX12_next_270 : decode cX12_next 270 = .ok (.goto 4, 3) := by decide +kernel
theorem dX12_next_273 : decode cX12_next 273 = .ok (.iconst 0, 1) := by decide +kernel
theorem dX12_next_274 : decode cX12_next 274 = .ok (.putfield 168, 3) := by decide +kernel
theorem dX12_next_277 : decode cX12_next 277 = .ok (.iinc 2 1, 3) := by decide +kernel
theorem dX12_next_280 : decode cX12_next 280 = .ok (.aload_n 0, 1) := by decide +kernel
theorem dX12_next_281 : decode cX12_next 281 = .ok (.dup, 1) := by decide +kernel
theorem dX12_next_282 : decode cX12_next 282 = .ok (.getfield 159, 3) := by decide +kernel
theorem dX12_next_285 : decode cX12_next 285 = .ok (.iconst 1, 1) := by decide +kernel
theorem dX12_next_286 : decode cX12_next 286 = .ok (.iadd, 1) := by decide +kernel
theorem dX12_next_287 : decode cX12_next 287 = .ok (.putfield 159, 3) := by decide +kernel
theorem dX12_next_290 : decode cX12_next 290 = .ok (.goto (-76), 3) := by decide +kernel
theorem dX12_next_293 : decode cX12_next 293 = .ok (.aload_n 0, 1) := by decide +kernel
theorem dX12_next_294 : decode cX12_next 294 = .ok (.iload_n 2, 1) := by decide +kernel
theorem dX12_next_295 : decode cX12_next 295 = .ok (.iconst 4, 1) := by decide +kernel
theorem dX12_next_296 : decode cX12_next 296 = .ok (.if_icmp .le 7, 3) := by decide +kernel
theorem dX12_next_299 : decode cX12_next 299 = .ok (.iconst (-1), 1) := by decide +kernel
theorem dX12_next_300 : decode cX12_next 300 = .ok (.goto 4, 3) := by decide +kernel
theorem dX12_next_303 : decode cX12_next 303 = .ok (.iconst 1, 1) := by decide +kernel
theorem dX12_next_304 : decode cX12_next 304 = .ok (.putfield 165, 3) := by decide +kernel
theorem dX12_next_307 : decode cX12_next 307 = .ok (.goto 80, 3) := by decide +kernel
theorem dX12_next_310 : decode cX12_next 310 = .ok (.iload_n 1, 1) := by decide +kernel
theorem dX12_next_311 : decode cX12_next 311 = .ok (.bipush 40, 2) := by decide +kernel
theorem dX12_next_313 : decode cX12_next 313 = .ok (.if_icmp .eq 45, 3) := by decide +kernel
theorem dX12_next_316 : decode cX12_next 316 = .ok (.iload_n 1, 1) := by decide +kernel
theorem dX12_next_317 : decode cX12_next 317 = .ok (.bipush 41, 2) := by decide +kernel
theorem dX12_next_319 : decode cX12_next 319 = .ok (.if_icmp .eq 39, 3) := by decide +kernel
theorem dX12_next_322 : decode cX12_next 322 = .ok (.iload_n 1, 1) := by decide +kernel
theorem dX12_next_323 : decode cX12_next 323 = .ok (.bipush 59, 2) := by decide +kernel
theorem dX12_next_325 : decode cX12_next 325 = .ok (.if_icmp .eq 33, 3) := by decide +kernel
theorem dX12_next_328 : decode cX12_next 328 = .ok (.iload_n 1, 1) := by decide +kernel
theorem dX12_next_329 : decode cX12_next 329 = .ok (.bipush 43, 2) := by decide +kernel
theorem dX12_next_331 : decode cX12_next 331 = .ok (.if_icmp .eq 27, 3) := by decide +kernel
theorem dX12_next_334 : decode cX12_next 334 = .ok (.iload_n 1, 1) := by decide +kernel
theorem dX12_next_335 : decode cX12_next 335 = .ok (.bipush 45, 2) := by decide +kernel
theorem dX12_next_337 : decode cX12_next 337 = .ok (.if_icmp .eq 21, 3) := by decide +kernel
theorem dX12_next_340 : decode cX12_next 340 = .ok (.iload_n 1, 1) := by decide +kernel
theorem dX12_next_341 : decode cX12_next 341 = .ok (.bipush 42, 2) := by decide +kernel
theorem dX12_next_343 : decode cX12_next 343 = .ok (.if_icmp .eq 15, 3) := by decide +kernel
theorem dX12_next_346 : decode cX12_next 346 = .ok (.iload_n 1, 1) := by decide +kernel
theorem dX12_next_347 : decode cX12_next 347 = .ok (.bipush 60, 2) := by decide +kernel
theorem dX12_next_349 : decode cX12_next 349 = .ok (.if_icmp .eq 9, 3) := by decide +kernel
theorem dX12_next_352 : decode cX12_next 352 = .ok (.iload_n 1, 1) := by decide +kernel
theorem dX12_next_353 : decode cX12_next 353 = .ok (.bipush 61, 2) := by decide +kernel
theorem dX12_next_355 : decode cX12_next 355 = .ok (.if_icmp .ne 7, 3) := by decide +kernel
theorem dX12_next_358 : decode cX12_next 358 = .ok (.iconst 1, 1) := by decide +kernel
theorem dX12_next_359 : decode cX12_next 359 = .ok (.goto 4, 3) := by decide +kernel
theorem dX12_next_362 : decode cX12_next 362 = .ok (.iconst 0, 1) := by decide +kernel
theorem dX12_next_363 : decode cX12_next 363 = .ok (.istore_n 2, 1) := by decide +kernel
theorem dX12_next_364 : decode cX12_next 364 = .ok (.aload_n 0, 1) := by decide +kernel
theorem dX12_next_365 : decode cX12_next 365 = .ok (.iload_n 2, 1) := by decide +kernel
theorem dX12_next_366 : decode cX12_next 366 = .ok (.ifCond .eq 7, 3) := by decide +kernel
theorem dX12_next_369 : decode cX12_next 369 = .ok (.iload_n 1, 1) := by decide +kernel
theorem dX12_next_370 : decode cX12_next 370 = .ok (.goto 4, 3) := by decide +kernel
theorem dX12_next_373 : decode cX12_next 373 = .ok (.iconst (-1), 1) := by decide +kernel
theorem dX12_next_374 : decode cX12_next 374 = .ok (.putfield 165, 3) := by decide +kernel
theorem dX12_next_377 : decode cX12_next 377 = .ok (.aload_n 0, 1) := by decide +kernel
theorem dX12_next_378 : decode cX12_next 378 = .ok (.dup, 1) := by decide +kernel
theorem dX12_next_379 : decode cX12_next 379 = .ok (.getfield 159, 3) := by decide +kernel
theorem dX12_next_382 : decode cX12_next 382 = .ok (.iconst 1, 1) := by decide +kernel
theorem dX12_next_383 : decode cX12_next 383 = .ok (.iadd, 1) := by decide +kernel
theorem dX12_next_384 : decode cX12_next 384 = .ok (.putfield 159, 3) := by decide +kernel
theorem dX12_next_387 : decode cX12_next 387 = .ok (.return_, 1) := by decide +kernel
theorem dX12_rank_0 : decode cX12_rank 0 = .ok (.iload_n 0, 1) := by decide +kernel
theorem dX12_rank_1 : decode cX12_rank 1 = .ok (.ifCond .ne 7, 3) := by decide +kernel
theorem dX12_rank_4 : decode cX12_rank 4 = .ok (.iconst 0, 1) := by decide +kernel
theorem dX12_rank_5 : decode cX12_rank 5 = .ok (.goto 66, 3) := by decide +kernel
theorem dX12_rank_8 : decode cX12_rank 8 = .ok (.iload_n 0, 1) := by decide +kernel
theorem dX12_rank_9 : decode cX12_rank 9 = .ok (.bipush 11, 2) := by decide +kernel
theorem dX12_rank_11 : decode cX12_rank 11 = .ok (.if_icmp .ne 7, 3) := by decide +kernel
theorem dX12_rank_14 : decode cX12_rank 14 = .ok (.iconst 1, 1) := by decide +kernel
theorem dX12_rank_15 : decode cX12_rank 15 = .ok (.goto 56, 3) := by decide +kernel
theorem dX12_rank_18 : decode cX12_rank 18 = .ok (.iload_n 0, 1) := by decide +kernel
theorem dX12_rank_19 : decode cX12_rank 19 = .ok (.bipush 12, 2) := by decide +kernel
theorem dX12_rank_21 : decode cX12_rank 21 = .ok (.if_icmp .ne 7, 3) := by decide +kernel
theorem dX12_rank_24 : decode cX12_rank 24 = .ok (.iconst 2, 1) := by decide +kernel
theorem dX12_rank_25 : decode cX12_rank 25 = .ok (.goto 46, 3) := by decide +kernel
theorem dX12_rank_28 : decode cX12_rank 28 = .ok (.iload_n 0, 1) := by decide +kernel
theorem dX12_rank_29 : decode cX12_rank 29 = .ok (.bipush 13, 2) := by decide +kernel
theorem dX12_rank_31 : decode cX12_rank 31 = .ok (.if_icmp .ne 7, 3) := by decide +kernel
theorem dX12_rank_34 : decode cX12_rank 34 = .ok (.iconst 3, 1) := by decide +kernel
theorem dX12_rank_35 : decode cX12_rank 35 = .ok (.goto 36, 3) := by decide +kernel
theorem dX12_rank_38 : decode cX12_rank 38 = .ok (.iload_n 0, 1) := by decide +kernel
theorem dX12_rank_39 : decode cX12_rank 39 = .ok (.bipush 15, 2) := by decide +kernel
theorem dX12_rank_41 : decode cX12_rank 41 = .ok (.if_icmp .gt 7, 3) := by decide +kernel
theorem dX12_rank_44 : decode cX12_rank 44 = .ok (.iconst 4, 1) := by decide +kernel
theorem dX12_rank_45 : decode cX12_rank 45 = .ok (.goto 26, 3) := by decide +kernel
theorem dX12_rank_48 : decode cX12_rank 48 = .ok (.iload_n 0, 1) := by decide +kernel
theorem dX12_rank_49 : decode cX12_rank 49 = .ok (.bipush 17, 2) := by decide +kernel
theorem dX12_rank_51 : decode cX12_rank 51 = .ok (.if_icmp .gt 7, 3) := by decide +kernel
theorem dX12_rank_54 : decode cX12_rank 54 = .ok (.iconst 5, 1) := by decide +kernel
theorem dX12_rank_55 : decode cX12_rank 55 = .ok (.goto 16, 3) := by decide +kernel
theorem dX12_rank_58 : decode cX12_rank 58 = .ok (.iload_n 0, 1) := by decide +kernel
theorem dX12_rank_59 : decode cX12_rank 59 = .ok (.bipush 18, 2) := by decide +kernel
theorem dX12_rank_61 : decode cX12_rank 61 = .ok (.if_icmp .ne 8, 3) := by decide +kernel
theorem dX12_rank_64 : decode cX12_rank 64 = .ok (.bipush 6, 2) := by decide +kernel
theorem dX12_rank_66 : decode cX12_rank 66 = .ok (.goto 5, 3) := by decide +kernel
theorem dX12_rank_69 : decode cX12_rank 69 = .ok (.bipush 7, 2) := by decide +kernel
theorem dX12_rank_71 : decode cX12_rank 71 = .ok (.ireturn, 1) := by decide +kernel
theorem dX12_puts_0 : decode cX12_puts 0 = .ok (.aload_n 0, 1) := by decide +kernel
theorem dX12_puts_1 : decode cX12_puts 1 = .ok (.getfield 47, 3) := by decide +kernel
theorem dX12_puts_4 : decode cX12_puts 4 = .ok (.sipush 200, 3) := by decide +kernel
theorem dX12_puts_7 : decode cX12_puts 7 = .ok (.aload_n 0, 1) := by decide +kernel
theorem dX12_puts_8 : decode cX12_puts 8 = .ok (.getfield 53, 3) := by decide +kernel
theorem dX12_puts_11 : decode cX12_puts 11 = .ok (.imul, 1) := by decide +kernel
theorem dX12_puts_12 : decode cX12_puts 12 = .ok (.aload_n 0, 1) := by decide +kernel
theorem dX12_puts_13 : decode cX12_puts 13 = .ok (.getfield 175, 3) := by decide +kernel
theorem dX12_puts_16 : decode cX12_puts 16 = .ok (.iadd, 1) := by decide +kernel
theorem dX12_puts_17 : decode cX12_puts 17 = .ok (.iload_n 1, 1) := by decide +kernel
theorem dX12_puts_18 : decode cX12_puts 18 = .ok (.iastore, 1) := by decide +kernel
theorem dX12_puts_19 : decode cX12_puts 19 = .ok (.aload_n 0, 1) := by decide +kernel
theorem dX12_puts_20 : decode cX12_puts 20 = .ok (.dup, 1) := by decide +kernel
theorem dX12_puts_21 : decode cX12_puts 21 = .ok (.getfield 175, 3) := by decide +kernel
theorem dX12_puts_24 : decode cX12_puts 24 = .ok (.iconst 1, 1) := by decide +kernel
theorem dX12_puts_25 : decode cX12_puts 25 = .ok (.iadd, 1) := by decide +kernel
theorem dX12_puts_26 : decode cX12_puts 26 = .ok (.putfield 175, 3) := by decide +kernel
theorem dX12_puts_29 : decode cX12_puts 29 = .ok (.return_, 1) := by decide +kernel
theorem dX12_unwinds_0 : decode cX12_unwinds 0 = .ok (.aload_n 0, 1) := by decide +kernel
theorem dX12_unwinds_1 : decode cX12_unwinds 1 = .ok (.getfield 178, 3) := by decide +kernel
theorem dX12_unwinds_4 : decode cX12_unwinds 4 = .ok (.ifCond .le 75, 3) := by decide +kernel
theorem dX12_unwinds_7 : decode cX12_unwinds 7 = .ok (.aload_n 0, 1) := by decide +kernel
theorem dX12_unwinds_8 : decode cX12_unwinds 8 = .ok (.getfield 112, 3) := by decide +kernel
theorem dX12_unwinds_11 : decode cX12_unwinds 11 = .ok (.aload_n 0, 1) := by decide +kernel
theorem dX12_unwinds_12 : decode cX12_unwinds 12 = .ok (.getfield 178, 3) := by decide +kernel
theorem dX12_unwinds_15 : decode cX12_unwinds 15 = .ok (.iconst 1, 1) := by decide +kernel
theorem dX12_unwinds_16 : decode cX12_unwinds 16 = .ok (.isub, 1) := by decide +kernel
theorem dX12_unwinds_17 : decode cX12_unwinds 17 = .ok (.iaload, 1) := by decide +kernel
theorem dX12_unwinds_18 : decode cX12_unwinds 18 = .ok (.invokestatic 181, 3) := by decide +kernel
theorem dX12_unwinds_21 : decode cX12_unwinds 21 = .ok (.iload_n 1, 1) := by decide +kernel
theorem dX12_unwinds_22 : decode cX12_unwinds 22 = .ok (.if_icmp .lt 57, 3) := by decide +kernel
theorem dX12_unwinds_25 : decode cX12_unwinds 25 = .ok (.aload_n 0, 1) := by decide +kernel
theorem dX12_unwinds_26 : decode cX12_unwinds 26 = .ok (.dup, 1) := by decide +kernel
theorem dX12_unwinds_27 : decode cX12_unwinds 27 = .ok (.getfield 178, 3) := by decide +kernel
theorem dX12_unwinds_30 : decode cX12_unwinds 30 = .ok (.iconst 1, 1) := by decide +kernel
theorem dX12_unwinds_31 : decode cX12_unwinds 31 = .ok (.isub, 1) := by decide +kernel
theorem dX12_unwinds_32 : decode cX12_unwinds 32 = .ok (.putfield 178, 3) := by decide +kernel
theorem dX12_unwinds_35 : decode cX12_unwinds 35 = .ok (.aload_n 0, 1) := by decide +kernel
theorem dX12_unwinds_36 : decode cX12_unwinds 36 = .ok (.getfield 112, 3) := by decide +kernel
theorem dX12_unwinds_39 : decode cX12_unwinds 39 = .ok (.aload_n 0, 1) := by decide +kernel
theorem dX12_unwinds_40 : decode cX12_unwinds 40 = .ok (.getfield 178, 3) := by decide +kernel
theorem dX12_unwinds_43 : decode cX12_unwinds 43 = .ok (.iaload, 1) := by decide +kernel
theorem dX12_unwinds_44 : decode cX12_unwinds 44 = .ok (.istore_n 2, 1) := by decide +kernel
theorem dX12_unwinds_45 : decode cX12_unwinds 45 = .ok (.aload_n 0, 1) := by decide +kernel
theorem dX12_unwinds_46 : decode cX12_unwinds 46 = .ok (.dup, 1) := by decide +kernel
theorem dX12_unwinds_47 : decode cX12_unwinds 47 = .ok (.getfield 184, 3) := by decide +kernel
theorem dX12_unwinds_50 : decode cX12_unwinds 50 = .ok (.iload_n 2, 1) := by decide +kernel
theorem dX12_unwinds_51 : decode cX12_unwinds 51 = .ok (.bipush 13, 2) := by decide +kernel
theorem dX12_unwinds_53 : decode cX12_unwinds 53 = .ok (.if_icmp .eq 9, 3) := by decide +kernel
theorem dX12_unwinds_56 : decode cX12_unwinds 56 = .ok (.iload_n 2, 1) := by decide +kernel
theorem dX12_unwinds_57 : decode cX12_unwinds 57 = .ok (.bipush 19, 2) := by decide +kernel
theorem dX12_unwinds_59 : decode cX12_unwinds 59 = .ok (.if_icmp .ne 7, 3) := by decide +kernel
theorem dX12_unwinds_62 : decode cX12_unwinds 62 = .ok (.iconst 1, 1) := by decide +kernel
theorem dX12_unwinds_63 : decode cX12_unwinds 63 = .ok (.goto 4, 3) := by decide +kernel
theorem dX12_unwinds_66 : decode cX12_unwinds 66 = .ok (.iconst 0, 1) := by decide +kernel
theorem dX12_unwinds_67 : decode cX12_unwinds 67 = .ok (.isub, 1) := by decide +kernel
theorem dX12_unwinds_68 : decode cX12_unwinds 68 = .ok (.putfield 184, 3) := by decide +kernel
theorem dX12_unwinds_71 : decode cX12_unwinds 71 = .ok (.aload_n 0, 1) := by decide +kernel
theorem dX12_unwinds_72 : decode cX12_unwinds 72 = .ok (.iload_n 2, 1) := by decide +kernel
theorem dX12_unwinds_73 : decode cX12_unwinds 73 = .ok (.invokevirtual 187, 3) := by decide +kernel
theorem dX12_unwinds_76 : decode cX12_unwinds 76 = .ok (.goto (-76), 3) := by decide +kernel
theorem dX12_unwinds_79 : decode cX12_unwinds 79 = .ok (.return_, 1) := by decide +kernel
theorem dX12_holds_0 : decode cX12_holds 0 = .ok (.aload_n 0, 1) := by decide +kernel
theorem dX12_holds_1 : decode cX12_holds 1 = .ok (.getfield 112, 3) := by decide +kernel
theorem dX12_holds_4 : decode cX12_holds 4 = .ok (.aload_n 0, 1) := by decide +kernel
theorem dX12_holds_5 : decode cX12_holds 5 = .ok (.getfield 178, 3) := by decide +kernel
theorem dX12_holds_8 : decode cX12_holds 8 = .ok (.iload_n 1, 1) := by decide +kernel
theorem dX12_holds_9 : decode cX12_holds 9 = .ok (.iastore, 1) := by decide +kernel
theorem dX12_holds_10 : decode cX12_holds 10 = .ok (.aload_n 0, 1) := by decide +kernel
theorem dX12_holds_11 : decode cX12_holds 11 = .ok (.dup, 1) := by decide +kernel
theorem dX12_holds_12 : decode cX12_holds 12 = .ok (.getfield 178, 3) := by decide +kernel
theorem dX12_holds_15 : decode cX12_holds 15 = .ok (.iconst 1, 1) := by decide +kernel
theorem dX12_holds_16 : decode cX12_holds 16 = .ok (.iadd, 1) := by decide +kernel
theorem dX12_holds_17 : decode cX12_holds 17 = .ok (.putfield 178, 3) := by decide +kernel
theorem dX12_holds_20 : decode cX12_holds 20 = .ok (.return_, 1) := by decide +kernel
theorem dX12_opensOne_0 : decode cX12_opensOne 0 = .ok (.aload_n 0, 1) := by decide +kernel
theorem dX12_opensOne_1 : decode cX12_opensOne 1 = .ok (.getfield 184, 3) := by decide +kernel
theorem dX12_opensOne_4 : decode cX12_opensOne 4 = .ok (.iconst 5, 1) := by decide +kernel
theorem dX12_opensOne_5 : decode cX12_opensOne 5 = .ok (.if_icmp .ne 5, 3) := by decide +kernel
theorem dX12_opensOne_8 : decode cX12_opensOne 8 = .ok (.iconst 0, 1) := by decide +kernel
theorem dX12_opensOne_9 : decode cX12_opensOne 9 = .ok (.ireturn, 1) := by decide +kernel
theorem dX12_opensOne_10 : decode cX12_opensOne 10 = .ok (.aload_n 0, 1) := by decide +kernel
theorem dX12_opensOne_11 : decode cX12_opensOne 11 = .ok (.dup, 1) := by decide +kernel
theorem dX12_opensOne_12 : decode cX12_opensOne 12 = .ok (.getfield 184, 3) := by decide +kernel
theorem dX12_opensOne_15 : decode cX12_opensOne 15 = .ok (.iconst 1, 1) := by decide +kernel
theorem dX12_opensOne_16 : decode cX12_opensOne 16 = .ok (.iadd, 1) := by decide +kernel
theorem dX12_opensOne_17 : decode cX12_opensOne 17 = .ok (.putfield 184, 3) := by decide +kernel
theorem dX12_opensOne_20 : decode cX12_opensOne 20 = .ok (.aload_n 0, 1) := by decide +kernel
theorem dX12_opensOne_21 : decode cX12_opensOne 21 = .ok (.iload_n 1, 1) := by decide +kernel
theorem dX12_opensOne_22 : decode cX12_opensOne 22 = .ok (.invokevirtual 191, 3) := by decide +kernel
theorem dX12_opensOne_25 : decode cX12_opensOne 25 = .ok (.iconst 1, 1) := by decide +kernel
theorem dX12_opensOne_26 : decode cX12_opensOne 26 = .ok (.ireturn, 1) := by decide +kernel
theorem dX12_between_0 : decode cX12_between 0 = .ok (.aload_n 0, 1) := by decide +kernel
theorem dX12_between_1 : decode cX12_between 1 = .ok (.iload_n 1, 1) := by decide +kernel
theorem dX12_between_2 : decode cX12_between 2 = .ok (.invokestatic 181, 3) := by decide +kernel
theorem dX12_between_5 : decode cX12_between 5 = .ok (.iconst 4, 1) := by decide +kernel
theorem dX12_between_6 : decode cX12_between 6 = .ok (.if_icmp .ne 7, 3) := by decide +kernel
theorem dX12_between_9 : decode cX12_between 9 = .ok (.iconst 5, 1) := by decide +kernel
theorem dX12_between_10 : decode cX12_between 10 = .ok (.goto 7, 3) := by decide +kernel
theorem dX12_between_13 : decode cX12_between 13 = .ok (.iload_n 1, 1) := by decide +kernel
theorem dX12_between_14 : decode cX12_between 14 = .ok (.invokestatic 181, 3) := by decide +kernel
theorem dX12_between_17 : decode cX12_between 17 = .ok (.invokevirtual 194, 3) := by decide +kernel
theorem dX12_between_20 : decode cX12_between 20 = .ok (.iload_n 1, 1) := by decide +kernel
theorem dX12_between_21 : decode cX12_between 21 = .ok (.invokestatic 181, 3) := by decide +kernel
theorem dX12_between_24 : decode cX12_between 24 = .ok (.iconst 4, 1) := by decide +kernel
theorem dX12_between_25 : decode cX12_between 25 = .ok (.if_icmp .ne 30, 3) := by decide +kernel
theorem dX12_between_28 : decode cX12_between 28 = .ok (.aload_n 0, 1) := by decide +kernel
theorem dX12_between_29 : decode cX12_between 29 = .ok (.getfield 178, 3) := by decide +kernel
theorem dX12_between_32 : decode cX12_between 32 = .ok (.ifCond .le 23, 3) := by decide +kernel
theorem dX12_between_35 : decode cX12_between 35 = .ok (.aload_n 0, 1) := by decide +kernel
theorem dX12_between_36 : decode cX12_between 36 = .ok (.getfield 112, 3) := by decide +kernel
theorem dX12_between_39 : decode cX12_between 39 = .ok (.aload_n 0, 1) := by decide +kernel
theorem dX12_between_40 : decode cX12_between 40 = .ok (.getfield 178, 3) := by decide +kernel
theorem dX12_between_43 : decode cX12_between 43 = .ok (.iconst 1, 1) := by decide +kernel
theorem dX12_between_44 : decode cX12_between 44 = .ok (.isub, 1) := by decide +kernel
theorem dX12_between_45 : decode cX12_between 45 = .ok (.iaload, 1) := by decide +kernel
theorem dX12_between_46 : decode cX12_between 46 = .ok (.invokestatic 181, 3) := by decide +kernel
theorem dX12_between_49 : decode cX12_between 49 = .ok (.iconst 4, 1) := by decide +kernel
theorem dX12_between_50 : decode cX12_between 50 = .ok (.if_icmp .ne 5, 3) := by decide +kernel
theorem dX12_between_53 : decode cX12_between 53 = .ok (.iconst 0, 1) := by decide +kernel
theorem dX12_between_54 : decode cX12_between 54 = .ok (.ireturn, 1) := by decide +kernel
theorem dX12_between_55 : decode cX12_between 55 = .ok (.aload_n 0, 1) := by decide +kernel
theorem dX12_between_56 : decode cX12_between 56 = .ok (.iload_n 1, 1) := by decide +kernel
theorem dX12_between_57 : decode cX12_between 57 = .ok (.invokevirtual 191, 3) := by decide +kernel
theorem dX12_between_60 : decode cX12_between 60 = .ok (.iconst 1, 1) := by decide +kernel
theorem dX12_between_61 : decode cX12_between 61 = .ok (.ireturn, 1) := by decide +kernel
theorem dX12_signOf_0 : decode cX12_signOf 0 = .ok (.aload_n 0, 1) := by decide +kernel
theorem dX12_signOf_1 : decode cX12_signOf 1 = .ok (.getfield 165, 3) := by decide +kernel
theorem dX12_signOf_4 : decode cX12_signOf 4 = .ok (.iconst 4, 1) := by decide +kernel
theorem dX12_signOf_5 : decode cX12_signOf 5 = .ok (.if_icmp .ne 8, 3) := by decide +kernel
theorem dX12_signOf_8 : decode cX12_signOf 8 = .ok (.bipush 11, 2) := by decide +kernel
theorem dX12_signOf_10 : decode cX12_signOf 10 = .ok (.goto 87, 3) := by decide +kernel
theorem dX12_signOf_13 : decode cX12_signOf 13 = .ok (.aload_n 0, 1) := by decide +kernel
theorem dX12_signOf_14 : decode cX12_signOf 14 = .ok (.getfield 165, 3) := by decide +kernel
theorem dX12_signOf_17 : decode cX12_signOf 17 = .ok (.iconst 5, 1) := by decide +kernel
theorem dX12_signOf_18 : decode cX12_signOf 18 = .ok (.if_icmp .ne 8, 3) := by decide +kernel
theorem dX12_signOf_21 : decode cX12_signOf 21 = .ok (.bipush 12, 2) := by decide +kernel
theorem dX12_signOf_23 : decode cX12_signOf 23 = .ok (.goto 74, 3) := by decide +kernel
theorem dX12_signOf_26 : decode cX12_signOf 26 = .ok (.aload_n 0, 1) := by decide +kernel
theorem dX12_signOf_27 : decode cX12_signOf 27 = .ok (.getfield 165, 3) := by decide +kernel
theorem dX12_signOf_30 : decode cX12_signOf 30 = .ok (.bipush 60, 2) := by decide +kernel
theorem dX12_signOf_32 : decode cX12_signOf 32 = .ok (.if_icmp .ne 8, 3) := by decide +kernel
theorem dX12_signOf_35 : decode cX12_signOf 35 = .ok (.bipush 14, 2) := by decide +kernel
theorem dX12_signOf_37 : decode cX12_signOf 37 = .ok (.goto 60, 3) := by decide +kernel
theorem dX12_signOf_40 : decode cX12_signOf 40 = .ok (.aload_n 0, 1) := by decide +kernel
theorem dX12_signOf_41 : decode cX12_signOf 41 = .ok (.getfield 165, 3) := by decide +kernel
theorem dX12_signOf_44 : decode cX12_signOf 44 = .ok (.bipush 61, 2) := by decide +kernel
theorem dX12_signOf_46 : decode cX12_signOf 46 = .ok (.if_icmp .ne 8, 3) := by decide +kernel
theorem dX12_signOf_49 : decode cX12_signOf 49 = .ok (.bipush 15, 2) := by decide +kernel
theorem dX12_signOf_51 : decode cX12_signOf 51 = .ok (.goto 46, 3) := by decide +kernel
theorem dX12_signOf_54 : decode cX12_signOf 54 = .ok (.aload_n 0, 1) := by decide +kernel
theorem dX12_signOf_55 : decode cX12_signOf 55 = .ok (.getfield 165, 3) := by decide +kernel
theorem dX12_signOf_58 : decode cX12_signOf 58 = .ok (.bipush 43, 2) := by decide +kernel
theorem dX12_signOf_60 : decode cX12_signOf 60 = .ok (.if_icmp .ne 8, 3) := by decide +kernel
theorem dX12_signOf_63 : decode cX12_signOf 63 = .ok (.bipush 16, 2) := by decide +kernel
theorem dX12_signOf_65 : decode cX12_signOf 65 = .ok (.goto 32, 3) := by decide +kernel
theorem dX12_signOf_68 : decode cX12_signOf 68 = .ok (.aload_n 0, 1) := by decide +kernel
theorem dX12_signOf_69 : decode cX12_signOf 69 = .ok (.getfield 165, 3) := by decide +kernel
theorem dX12_signOf_72 : decode cX12_signOf 72 = .ok (.bipush 45, 2) := by decide +kernel
theorem dX12_signOf_74 : decode cX12_signOf 74 = .ok (.if_icmp .ne 8, 3) := by decide +kernel
theorem dX12_signOf_77 : decode cX12_signOf 77 = .ok (.bipush 17, 2) := by decide +kernel
theorem dX12_signOf_79 : decode cX12_signOf 79 = .ok (.goto 18, 3) := by decide +kernel
theorem dX12_signOf_82 : decode cX12_signOf 82 = .ok (.aload_n 0, 1) := by decide +kernel
theorem dX12_signOf_83 : decode cX12_signOf 83 = .ok (.getfield 165, 3) := by decide +kernel
theorem dX12_signOf_86 : decode cX12_signOf 86 = .ok (.bipush 42, 2) := by decide +kernel
theorem dX12_signOf_88 : decode cX12_signOf 88 = .ok (.if_icmp .ne 8, 3) := by decide +kernel
theorem dX12_signOf_91 : decode cX12_signOf 91 = .ok (.bipush 18, 2) := by decide +kernel
theorem dX12_signOf_93 : decode cX12_signOf 93 = .ok (.goto 4, 3) := by decide +kernel
theorem dX12_signOf_96 : decode cX12_signOf 96 = .ok (.iconst (-1), 1) := by decide +kernel
theorem dX12_signOf_97 : decode cX12_signOf 97 = .ok (.ireturn, 1) := by decide +kernel
theorem dX12_eRead_0 : decode cX12_eRead 0 = .ok (.aload_n 0, 1) := by decide +kernel
theorem dX12_eRead_1 : decode cX12_eRead 1 = .ok (.iconst 0, 1) := by decide +kernel
theorem dX12_eRead_2 : decode cX12_eRead 2 = .ok (.putfield 178, 3) := by decide +kernel
theorem dX12_eRead_5 : decode cX12_eRead 5 = .ok (.aload_n 0, 1) := by decide +kernel
theorem dX12_eRead_6 : decode cX12_eRead 6 = .ok (.iconst 0, 1) := by decide +kernel
theorem dX12_eRead_7 : decode cX12_eRead 7 = .ok (.putfield 184, 3) := by decide +kernel
theorem dX12_eRead_10 : decode cX12_eRead 10 = .ok (.iconst 1, 1) := by decide +kernel
theorem dX12_eRead_11 : decode cX12_eRead 11 = .ok (.istore_n 1, 1) := by decide +kernel
theorem dX12_eRead_12 : decode cX12_eRead 12 = .ok (.iconst 1, 1) := by decide +kernel
theorem dX12_eRead_13 : decode cX12_eRead 13 = .ok (.istore_n 2, 1) := by decide +kernel
theorem dX12_eRead_14 : decode cX12_eRead 14 = .ok (.aload_n 0, 1) := by decide +kernel
theorem dX12_eRead_15 : decode cX12_eRead 15 = .ok (.invokevirtual 197, 3) := by decide +kernel
theorem dX12_eRead_18 : decode cX12_eRead 18 = .ok (.iload_n 1, 1) := by decide +kernel
theorem dX12_eRead_19 : decode cX12_eRead 19 = .ok (.ifCond .eq 131, 3) := by decide +kernel
theorem dX12_eRead_22 : decode cX12_eRead 22 = .ok (.aload_n 0, 1) := by decide +kernel
theorem dX12_eRead_23 : decode cX12_eRead 23 = .ok (.getfield 165, 3) := by decide +kernel
theorem dX12_eRead_26 : decode cX12_eRead 26 = .ok (.iconst 1, 1) := by decide +kernel
theorem dX12_eRead_27 : decode cX12_eRead 27 = .ok (.if_icmp .eq 11, 3) := by decide +kernel
theorem dX12_eRead_30 : decode cX12_eRead 30 = .ok (.aload_n 0, 1) := by decide +kernel
theorem dX12_eRead_31 : decode cX12_eRead 31 = .ok (.getfield 165, 3) := by decide +kernel
theorem dX12_eRead_34 : decode cX12_eRead 34 = .ok (.iconst 2, 1) := by decide +kernel
theorem dX12_eRead_35 : decode cX12_eRead 35 = .ok (.if_icmp .ne 40, 3) := by decide +kernel
theorem dX12_eRead_38 : decode cX12_eRead 38 = .ok (.aload_n 0, 1) := by decide +kernel
theorem dX12_eRead_39 : decode cX12_eRead 39 = .ok (.aload_n 0, 1) := by decide +kernel
theorem dX12_eRead_40 : decode cX12_eRead 40 = .ok (.getfield 165, 3) := by decide +kernel
theorem dX12_eRead_43 : decode cX12_eRead 43 = .ok (.iconst 1, 1) := by decide +kernel
theorem dX12_eRead_44 : decode cX12_eRead 44 = .ok (.if_icmp .ne 13, 3) := by decide +kernel
theorem dX12_eRead_47 : decode cX12_eRead 47 = .ok (.ldc 200, 2) := by decide +kernel
theorem dX12_eRead_49 : decode cX12_eRead 49 = .ok (.aload_n 0, 1) := by decide +kernel
theorem dX12_eRead_50 : decode cX12_eRead 50 = .ok (.getfield 168, 3) := by decide +kernel
theorem dX12_eRead_53 : decode cX12_eRead 53 = .ok (.iadd, 1) := by decide +kernel
theorem dX12_eRead_54 : decode cX12_eRead 54 = .ok (.goto 7, 3) := by decide +kernel
theorem dX12_eRead_57 : decode cX12_eRead 57 = .ok (.aload_n 0, 1) := by decide +kernel
theorem dX12_eRead_58 : decode cX12_eRead 58 = .ok (.getfield 168, 3) := by decide +kernel
theorem dX12_eRead_61 : decode cX12_eRead 61 = .ok (.invokevirtual 187, 3) := by decide +kernel
theorem dX12_eRead_64 : decode cX12_eRead 64 = .ok (.aload_n 0, 1) := by decide +kernel
theorem dX12_eRead_65 : decode cX12_eRead 65 = .ok (.bipush 7, 2) := by decide +kernel
theorem dX12_eRead_67 : decode cX12_eRead 67 = .ok (.invokevirtual 194, 3) := by decide +kernel
theorem dX12_eRead_70 : decode cX12_eRead 70 = .ok (.iconst 0, 1) := by decide +kernel
theorem dX12_eRead_71 : decode cX12_eRead 71 = .ok (.istore_n 1, 1) := by decide +kernel
theorem dX12_eRead_72 : decode cX12_eRead 72 = .ok (.goto (-58), 3) := by decide +kernel
theorem dX12_eRead_75 : decode cX12_eRead 75 = .ok (.aload_n 0, 1) := by decide +kernel
theorem dX12_eRead_76 : decode cX12_eRead 76 = .ok (.getfield 165, 3) := by decide +kernel
theorem dX12_eRead_79 : decode cX12_eRead 79 = .ok (.bipush 6, 2) := by decide +kernel
theorem dX12_eRead_81 : decode cX12_eRead 81 = .ok (.if_icmp .ne 18, 3) := by decide +kernel
theorem dX12_eRead_84 : decode cX12_eRead 84 = .ok (.iload_n 2, 1) := by decide +kernel
theorem dX12_eRead_85 : decode cX12_eRead 85 = .ok (.ifCond .eq 14, 3) := by decide +kernel
theorem dX12_eRead_88 : decode cX12_eRead 88 = .ok (.aload_n 0, 1) := by decide +kernel
theorem dX12_eRead_89 : decode cX12_eRead 89 = .ok (.bipush 13, 2) := by decide +kernel
theorem dX12_eRead_91 : decode cX12_eRead 91 = .ok (.invokevirtual 201, 3) := by decide +kernel
theorem dX12_eRead_94 : decode cX12_eRead 94 = .ok (.ifCond .ne (-80), 3) := by decide +kernel
theorem dX12_eRead_97 : decode cX12_eRead 97 = .ok (.iconst 0, 1) := by decide +kernel
theorem dX12_eRead_98 : decode cX12_eRead 98 = .ok (.ireturn, 1) := by decide +kernel
theorem dX12_eRead_99 : decode cX12_eRead 99 = .ok (.aload_n 0, 1) := by decide +kernel
theorem dX12_eRead_100 : decode cX12_eRead 100 = .ok (.getfield 165, 3) := by decide +kernel
theorem dX12_eRead_103 : decode cX12_eRead 103 = .ok (.bipush 45, 2) := by decide +kernel
theorem dX12_eRead_105 : decode cX12_eRead 105 = .ok (.if_icmp .ne 19, 3) := by decide +kernel
theorem dX12_eRead_108 : decode cX12_eRead 108 = .ok (.aload_n 0, 1) := by decide +kernel
theorem dX12_eRead_109 : decode cX12_eRead 109 = .ok (.bipush 19, 2) := by decide +kernel
theorem dX12_eRead_111 : decode cX12_eRead 111 = .ok (.invokevirtual 201, 3) := by decide +kernel
theorem dX12_eRead_114 : decode cX12_eRead 114 = .ok (.ifCond .ne 5, 3) := by decide +kernel
theorem dX12_eRead_117 : decode cX12_eRead 117 = .ok (.iconst 0, 1) := by decide +kernel
theorem dX12_eRead_118 : decode cX12_eRead 118 = .ok (.ireturn, 1) := by decide +kernel
theorem dX12_eRead_119 : decode cX12_eRead 119 = .ok (.iconst 0, 1) := by decide +kernel
theorem dX12_eRead_120 : decode cX12_eRead 120 = .ok (.istore_n 2, 1) := by decide +kernel
theorem dX12_eRead_121 : decode cX12_eRead 121 = .ok (.goto (-107), 3) := by decide +kernel
theorem dX12_eRead_124 : decode cX12_eRead 124 = .ok (.aload_n 0, 1) := by decide +kernel
theorem dX12_eRead_125 : decode cX12_eRead 125 = .ok (.getfield 165, 3) := by decide +kernel
theorem dX12_eRead_128 : decode cX12_eRead 128 = .ok (.bipush 40, 2) := by decide +kernel
theorem dX12_eRead_130 : decode cX12_eRead 130 = .ok (.if_icmp .ne 18, 3) := by decide +kernel
theorem dX12_eRead_133 : decode cX12_eRead 133 = .ok (.aload_n 0, 1) := by decide +kernel
theorem dX12_eRead_134 : decode cX12_eRead 134 = .ok (.iconst 0, 1) := by decide +kernel
theorem dX12_eRead_135 : decode cX12_eRead 135 = .ok (.invokevirtual 201, 3) := by decide +kernel
theorem dX12_eRead_138 : decode cX12_eRead 138 = .ok (.ifCond .ne 5, 3) := by decide +kernel
theorem dX12_eRead_141 : decode cX12_eRead 141 = .ok (.iconst 0, 1) := by decide +kernel
theorem dX12_eRead_142 : decode cX12_eRead 142 = .ok (.ireturn, 1) := by decide +kernel
theorem dX12_eRead_143 : decode cX12_eRead 143 = .ok (.iconst 1, 1) := by decide +kernel
theorem dX12_eRead_144 : decode cX12_eRead 144 = .ok (.istore_n 2, 1) := by decide +kernel
theorem dX12_eRead_145 : decode cX12_eRead 145 = .ok (.goto (-131), 3) := by decide +kernel
theorem dX12_eRead_148 : decode cX12_eRead 148 = .ok (.iconst 0, 1) := by decide +kernel
theorem dX12_eRead_149 : decode cX12_eRead 149 = .ok (.ireturn, 1) := by decide +kernel
theorem dX12_eRead_150 : decode cX12_eRead 150 = .ok (.aload_n 0, 1) := by decide +kernel
theorem dX12_eRead_151 : decode cX12_eRead 151 = .ok (.getfield 165, 3) := by decide +kernel
theorem dX12_eRead_154 : decode cX12_eRead 154 = .ok (.bipush 59, 2) := by decide +kernel
theorem dX12_eRead_156 : decode cX12_eRead 156 = .ok (.if_icmp .ne 21, 3) := by decide +kernel
theorem dX12_eRead_159 : decode cX12_eRead 159 = .ok (.aload_n 0, 1) := by decide +kernel
theorem dX12_eRead_160 : decode cX12_eRead 160 = .ok (.iconst 1, 1) := by decide +kernel
theorem dX12_eRead_161 : decode cX12_eRead 161 = .ok (.invokevirtual 194, 3) := by decide +kernel
theorem dX12_eRead_164 : decode cX12_eRead 164 = .ok (.aload_n 0, 1) := by decide +kernel
theorem dX12_eRead_165 : decode cX12_eRead 165 = .ok (.getfield 178, 3) := by decide +kernel
theorem dX12_eRead_168 : decode cX12_eRead 168 = .ok (.ifCond .ne 7, 3) := by decide +kernel
theorem dX12_eRead_171 : decode cX12_eRead 171 = .ok (.iconst 1, 1) := by decide +kernel
theorem dX12_eRead_172 : decode cX12_eRead 172 = .ok (.goto 4, 3) := by decide +kernel
theorem dX12_eRead_175 : decode cX12_eRead 175 = .ok (.iconst 0, 1) := by decide +kernel
theorem dX12_eRead_176 : decode cX12_eRead 176 = .ok (.ireturn, 1) := by decide +kernel
theorem dX12_eRead_177 : decode cX12_eRead 177 = .ok (.aload_n 0, 1) := by decide +kernel
theorem dX12_eRead_178 : decode cX12_eRead 178 = .ok (.getfield 165, 3) := by decide +kernel
theorem dX12_eRead_181 : decode cX12_eRead 181 = .ok (.bipush 41, 2) := by decide +kernel
theorem dX12_eRead_183 : decode cX12_eRead 183 = .ok (.if_icmp .ne 46, 3) := by decide +kernel
theorem dX12_eRead_186 : decode cX12_eRead 186 = .ok (.aload_n 0, 1) := by decide +kernel
theorem dX12_eRead_187 : decode cX12_eRead 187 = .ok (.iconst 1, 1) := by decide +kernel
theorem dX12_eRead_188 : decode cX12_eRead 188 = .ok (.invokevirtual 194, 3) := by decide +kernel
theorem dX12_eRead_191 : decode cX12_eRead 191 = .ok (.aload_n 0, 1) := by decide +kernel
theorem dX12_eRead_192 : decode cX12_eRead 192 = .ok (.getfield 178, 3) := by decide +kernel
theorem dX12_eRead_195 : decode cX12_eRead 195 = .ok (.ifCond .ne 5, 3) := by decide +kernel
theorem dX12_eRead_198 : decode cX12_eRead 198 = .ok (.iconst 0, 1) := by decide +kernel
theorem dX12_eRead_199 : decode cX12_eRead 199 = .ok (.ireturn, 1) := by decide +kernel
theorem dX12_eRead_200 : decode cX12_eRead 200 = .ok (.aload_n 0, 1) := by decide +kernel
theorem dX12_eRead_201 : decode cX12_eRead 201 = .ok (.dup, 1) := by decide +kernel
theorem dX12_eRead_202 : decode cX12_eRead 202 = .ok (.getfield 178, 3) := by decide +kernel
theorem dX12_eRead_205 : decode cX12_eRead 205 = .ok (.iconst 1, 1) := by decide +kernel
theorem dX12_eRead_206 : decode cX12_eRead 206 = .ok (.isub, 1) := by decide +kernel
theorem dX12_eRead_207 : decode cX12_eRead 207 = .ok (.putfield 178, 3) := by decide +kernel
theorem dX12_eRead_210 : decode cX12_eRead 210 = .ok (.aload_n 0, 1) := by decide +kernel
theorem dX12_eRead_211 : decode cX12_eRead 211 = .ok (.dup, 1) := by decide +kernel
theorem dX12_eRead_212 : decode cX12_eRead 212 = .ok (.getfield 184, 3) := by decide +kernel
theorem dX12_eRead_215 : decode cX12_eRead 215 = .ok (.iconst 1, 1) := by decide +kernel
theorem dX12_eRead_216 : decode cX12_eRead 216 = .ok (.isub, 1) := by decide +kernel
theorem dX12_eRead_217 : decode cX12_eRead 217 = .ok (.putfield 184, 3) := by decide +kernel
theorem dX12_eRead_220 : decode cX12_eRead 220 = .ok (.aload_n 0, 1) := by decide +kernel
theorem dX12_eRead_221 : decode cX12_eRead 221 = .ok (.bipush 7, 2) := by decide +kernel
theorem dX12_eRead_223 : decode cX12_eRead 223 = .ok (.invokevirtual 194, 3) := by decide +kernel
theorem dX12_eRead_226 : decode cX12_eRead 226 = .ok (.goto (-212), 3) := by decide +kernel
theorem dX12_eRead_229 : decode cX12_eRead 229 = .ok (.aload_n 0, 1) := by decide +kernel
theorem dX12_eRead_230 : decode cX12_eRead 230 = .ok (.invokevirtual 204, 3) := by decide +kernel
theorem dX12_eRead_233 : decode cX12_eRead 233 = .ok (.istore_n 3, 1) := by decide +kernel
theorem dX12_eRead_234 : decode cX12_eRead 234 = .ok (.iload_n 3, 1) := by decide +kernel
theorem dX12_eRead_235 : decode cX12_eRead 235 = .ok (.iconst (-1), 1) := by decide +kernel
theorem dX12_eRead_236 : decode cX12_eRead 236 = .ok (.if_icmp .eq 11, 3) := by decide +kernel
theorem dX12_eRead_239 : decode cX12_eRead 239 = .ok (.aload_n 0, 1) := by decide +kernel
theorem dX12_eRead_240 : decode cX12_eRead 240 = .ok (.iload_n 3, 1) := by decide +kernel
theorem dX12_eRead_241 : decode cX12_eRead 241 = .ok (.invokevirtual 208, 3) := by decide +kernel
theorem dX12_eRead_244 : decode cX12_eRead 244 = .ok (.ifCond .ne 5, 3) := by decide +kernel
theorem dX12_eRead_247 : decode cX12_eRead 247 = .ok (.iconst 0, 1) := by decide +kernel
theorem dX12_eRead_248 : decode cX12_eRead 248 = .ok (.ireturn, 1) := by decide +kernel
theorem dX12_eRead_249 : decode cX12_eRead 249 = .ok (.iconst 1, 1) := by decide +kernel
theorem dX12_eRead_250 : decode cX12_eRead 250 = .ok (.istore_n 1, 1) := by decide +kernel
theorem dX12_eRead_251 : decode cX12_eRead 251 = .ok (.iload_n 3, 1) := by decide +kernel
theorem dX12_eRead_252 : decode cX12_eRead 252 = .ok (.bipush 12, 2) := by decide +kernel
theorem dX12_eRead_254 : decode cX12_eRead 254 = .ok (.if_icmp .gt 7, 3) := by decide +kernel
theorem dX12_eRead_257 : decode cX12_eRead 257 = .ok (.iconst 1, 1) := by decide +kernel
theorem dX12_eRead_258 : decode cX12_eRead 258 = .ok (.goto 4, 3) := by decide +kernel
theorem dX12_eRead_261 : decode cX12_eRead 261 = .ok (.iconst 0, 1) := by decide +kernel
theorem dX12_eRead_262 : decode cX12_eRead 262 = .ok (.istore_n 2, 1) := by decide +kernel
theorem dX12_eRead_263 : decode cX12_eRead 263 = .ok (.goto (-249), 3) := by decide +kernel
theorem dX12_text_0 : decode cX12_text 0 = .ok (.aload_n 0, 1) := by decide +kernel
theorem dX12_text_1 : decode cX12_text 1 = .ok (.getfield 53, 3) := by decide +kernel
theorem dX12_text_4 : decode cX12_text 4 = .ok (.bipush 6, 2) := by decide +kernel
theorem dX12_text_6 : decode cX12_text 6 = .ok (.if_icmp .ne 6, 3) := by decide +kernel
theorem dX12_text_9 : decode cX12_text 9 = .ok (.bipush (-4), 2) := by decide +kernel
theorem dX12_text_11 : decode cX12_text 11 = .ok (.ireturn, 1) := by decide +kernel
theorem dX12_text_12 : decode cX12_text 12 = .ok (.aload_n 0, 1) := by decide +kernel
theorem dX12_text_13 : decode cX12_text 13 = .ok (.iconst 0, 1) := by decide +kernel
theorem dX12_text_14 : decode cX12_text 14 = .ok (.putfield 159, 3) := by decide +kernel
theorem dX12_text_17 : decode cX12_text 17 = .ok (.aload_n 0, 1) := by decide +kernel
theorem dX12_text_18 : decode cX12_text 18 = .ok (.iconst 0, 1) := by decide +kernel
theorem dX12_text_19 : decode cX12_text 19 = .ok (.putfield 175, 3) := by decide +kernel
theorem dX12_text_22 : decode cX12_text 22 = .ok (.iconst 1, 1) := by decide +kernel
theorem dX12_text_23 : decode cX12_text 23 = .ok (.istore_n 1, 1) := by decide +kernel
theorem dX12_text_24 : decode cX12_text 24 = .ok (.iconst 0, 1) := by decide +kernel
theorem dX12_text_25 : decode cX12_text 25 = .ok (.istore_n 2, 1) := by decide +kernel
theorem dX12_text_26 : decode cX12_text 26 = .ok (.iload_n 2, 1) := by decide +kernel
theorem dX12_text_27 : decode cX12_text 27 = .ok (.iconst 2, 1) := by decide +kernel
theorem dX12_text_28 : decode cX12_text 28 = .ok (.if_icmp .ge 73, 3) := by decide +kernel
theorem dX12_text_31 : decode cX12_text 31 = .ok (.iload_n 1, 1) := by decide +kernel
theorem dX12_text_32 : decode cX12_text 32 = .ok (.ifCond .eq 69, 3) := by decide +kernel
theorem dX12_text_35 : decode cX12_text 35 = .ok (.aload_n 0, 1) := by decide +kernel
theorem dX12_text_36 : decode cX12_text 36 = .ok (.invokevirtual 197, 3) := by decide +kernel
theorem dX12_text_39 : decode cX12_text 39 = .ok (.aload_n 0, 1) := by decide +kernel
theorem dX12_text_40 : decode cX12_text 40 = .ok (.getfield 165, 3) := by decide +kernel
theorem dX12_text_43 : decode cX12_text 43 = .ok (.iconst 3, 1) := by decide +kernel
theorem dX12_text_44 : decode cX12_text 44 = .ok (.if_icmp .ne 15, 3) := by decide +kernel
theorem dX12_text_47 : decode cX12_text 47 = .ok (.aload_n 0, 1) := by decide +kernel
theorem dX12_text_48 : decode cX12_text 48 = .ok (.getfield 168, 3) := by decide +kernel
theorem dX12_text_51 : decode cX12_text 51 = .ok (.iload_n 2, 1) := by decide +kernel
theorem dX12_text_52 : decode cX12_text 52 = .ok (.if_icmp .ne 7, 3) := by decide +kernel
theorem dX12_text_55 : decode cX12_text 55 = .ok (.iconst 1, 1) := by decide +kernel
theorem dX12_text_56 : decode cX12_text 56 = .ok (.goto 4, 3) := by decide +kernel
theorem dX12_text_59 : decode cX12_text 59 = .ok (.iconst 0, 1) := by decide +kernel
theorem dX12_text_60 : decode cX12_text 60 = .ok (.istore_n 1, 1) := by decide +kernel
theorem dX12_text_61 : decode cX12_text 61 = .ok (.aload_n 0, 1) := by decide +kernel
theorem dX12_text_62 : decode cX12_text 62 = .ok (.getfield 50, 3) := by decide +kernel
theorem dX12_text_65 : decode cX12_text 65 = .ok (.iconst 4, 1) := by decide +kernel
theorem dX12_text_66 : decode cX12_text 66 = .ok (.aload_n 0, 1) := by decide +kernel
theorem dX12_text_67 : decode cX12_text 67 = .ok (.getfield 53, 3) := by decide +kernel
theorem dX12_text_70 : decode cX12_text 70 = .ok (.imul, 1) := by decide +kernel
theorem dX12_text_71 : decode cX12_text 71 = .ok (.iload_n 2, 1) := by decide +kernel
theorem dX12_text_72 : decode cX12_text 72 = .ok (.iadd, 1) := by decide +kernel
theorem dX12_text_73 : decode cX12_text 73 = .ok (.aload_n 0, 1) := by decide +kernel
theorem dX12_text_74 : decode cX12_text 74 = .ok (.getfield 175, 3) := by decide +kernel
theorem dX12_text_77 : decode cX12_text 77 = .ok (.iastore, 1) := by decide +kernel
theorem dX12_text_78 : decode cX12_text 78 = .ok (.iload_n 1, 1) := by decide +kernel
theorem dX12_text_79 : decode cX12_text 79 = .ok (.ifCond .eq 14, 3) := by decide +kernel
theorem dX12_text_82 : decode cX12_text 82 = .ok (.aload_n 0, 1) := by decide +kernel
theorem dX12_text_83 : decode cX12_text 83 = .ok (.invokevirtual 211, 3) := by decide +kernel
theorem dX12_text_86 : decode cX12_text 86 = .ok (.ifCond .eq 7, 3) := by decide +kernel
theorem dX12_text_89 : decode cX12_text 89 = .ok (.iconst 1, 1) := by decide +kernel
theorem dX12_text_90 : decode cX12_text 90 = .ok (.goto 4, 3) := by decide +kernel
theorem dX12_text_93 : decode cX12_text 93 = .ok (.iconst 0, 1) := by decide +kernel
theorem dX12_text_94 : decode cX12_text 94 = .ok (.istore_n 1, 1) := by decide +kernel
theorem dX12_text_95 : decode cX12_text 95 = .ok (.iinc 2 1, 3) := by decide +kernel
theorem dX12_text_98 : decode cX12_text 98 = .ok (.goto (-72), 3) := by decide +kernel
theorem dX12_text_101 : decode cX12_text 101 = .ok (.iload_n 1, 1) := by decide +kernel
theorem dX12_text_102 : decode cX12_text 102 = .ok (.ifCond .eq 20, 3) := by decide +kernel
theorem dX12_text_105 : decode cX12_text 105 = .ok (.aload_n 0, 1) := by decide +kernel
theorem dX12_text_106 : decode cX12_text 106 = .ok (.invokevirtual 197, 3) := by decide +kernel
theorem dX12_text_109 : decode cX12_text 109 = .ok (.aload_n 0, 1) := by decide +kernel
theorem dX12_text_110 : decode cX12_text 110 = .ok (.getfield 165, 3) := by decide +kernel
theorem dX12_text_113 : decode cX12_text 113 = .ok (.ifCond .ne 7, 3) := by decide +kernel
theorem dX12_text_116 : decode cX12_text 116 = .ok (.iconst 1, 1) := by decide +kernel
theorem dX12_text_117 : decode cX12_text 117 = .ok (.goto 4, 3) := by decide +kernel
theorem dX12_text_120 : decode cX12_text 120 = .ok (.iconst 0, 1) := by decide +kernel
theorem dX12_text_121 : decode cX12_text 121 = .ok (.istore_n 1, 1) := by decide +kernel
theorem dX12_text_122 : decode cX12_text 122 = .ok (.aload_n 0, 1) := by decide +kernel
theorem dX12_text_123 : decode cX12_text 123 = .ok (.getfield 50, 3) := by decide +kernel
theorem dX12_text_126 : decode cX12_text 126 = .ok (.iconst 4, 1) := by decide +kernel
theorem dX12_text_127 : decode cX12_text 127 = .ok (.aload_n 0, 1) := by decide +kernel
theorem dX12_text_128 : decode cX12_text 128 = .ok (.getfield 53, 3) := by decide +kernel
theorem dX12_text_131 : decode cX12_text 131 = .ok (.imul, 1) := by decide +kernel
theorem dX12_text_132 : decode cX12_text 132 = .ok (.iconst 2, 1) := by decide +kernel
theorem dX12_text_133 : decode cX12_text 133 = .ok (.iadd, 1) := by decide +kernel
theorem dX12_text_134 : decode cX12_text 134 = .ok (.aload_n 0, 1) := by decide +kernel
theorem dX12_text_135 : decode cX12_text 135 = .ok (.getfield 175, 3) := by decide +kernel
theorem dX12_text_138 : decode cX12_text 138 = .ok (.iastore, 1) := by decide +kernel
theorem dX12_text_139 : decode cX12_text 139 = .ok (.aload_n 0, 1) := by decide +kernel
theorem dX12_text_140 : decode cX12_text 140 = .ok (.iconst 0, 1) := by decide +kernel
theorem dX12_text_141 : decode cX12_text 141 = .ok (.putfield 151, 3) := by decide +kernel
theorem dX12_text_144 : decode cX12_text 144 = .ok (.iload_n 1, 1) := by decide +kernel
theorem dX12_text_145 : decode cX12_text 145 = .ok (.ifCond .ne 11, 3) := by decide +kernel
theorem dX12_text_148 : decode cX12_text 148 = .ok (.bipush (-100), 2) := by decide +kernel
theorem dX12_text_150 : decode cX12_text 150 = .ok (.aload_n 0, 1) := by decide +kernel
theorem dX12_text_151 : decode cX12_text 151 = .ok (.getfield 162, 3) := by decide +kernel
theorem dX12_text_154 : decode cX12_text 154 = .ok (.isub, 1) := by decide +kernel
theorem dX12_text_155 : decode cX12_text 155 = .ok (.ireturn, 1) := by decide +kernel
theorem dX12_text_156 : decode cX12_text 156 = .ok (.aload_n 0, 1) := by decide +kernel
theorem dX12_text_157 : decode cX12_text 157 = .ok (.dup, 1) := by decide +kernel
theorem dX12_text_158 : decode cX12_text 158 = .ok (.getfield 53, 3) := by decide +kernel
theorem dX12_text_161 : decode cX12_text 161 = .ok (.iconst 1, 1) := by decide +kernel
theorem dX12_text_162 : decode cX12_text 162 = .ok (.iadd, 1) := by decide +kernel
theorem dX12_text_163 : decode cX12_text 163 = .ok (.putfield 53, 3) := by decide +kernel
theorem dX12_text_166 : decode cX12_text 166 = .ok (.aload_n 0, 1) := by decide +kernel
theorem dX12_text_167 : decode cX12_text 167 = .ok (.getfield 53, 3) := by decide +kernel
theorem dX12_text_170 : decode cX12_text 170 = .ok (.iconst 1, 1) := by decide +kernel
theorem dX12_text_171 : decode cX12_text 171 = .ok (.isub, 1) := by decide +kernel
theorem dX12_text_172 : decode cX12_text 172 = .ok (.ireturn, 1) := by decide +kernel
theorem dX12_two_0 : decode cX12_two 0 = .ok (.iload_n 0, 1) := by decide +kernel
theorem dX12_two_1 : decode cX12_two 1 = .ok (.tableswitch 101 11 17 #[43, 57, 101, 71, 82, 93, 97], 43) := by decide +kernel
theorem dX12_two_44 : decode cX12_two 44 = .ok (.iload_n 1, 1) := by decide +kernel
theorem dX12_two_45 : decode cX12_two 45 = .ok (.ifCond .ne 7, 3) := by decide +kernel
theorem dX12_two_48 : decode cX12_two 48 = .ok (.iload_n 2, 1) := by decide +kernel
theorem dX12_two_49 : decode cX12_two 49 = .ok (.ifCond .eq 7, 3) := by decide +kernel
theorem dX12_two_52 : decode cX12_two 52 = .ok (.iconst 1, 1) := by decide +kernel
theorem dX12_two_53 : decode cX12_two 53 = .ok (.goto 4, 3) := by decide +kernel
theorem dX12_two_56 : decode cX12_two 56 = .ok (.iconst 0, 1) := by decide +kernel
theorem dX12_two_57 : decode cX12_two 57 = .ok (.ireturn, 1) := by decide +kernel
theorem dX12_two_58 : decode cX12_two 58 = .ok (.iload_n 1, 1) := by decide +kernel
theorem dX12_two_59 : decode cX12_two 59 = .ok (.ifCond .eq 11, 3) := by decide +kernel
theorem dX12_two_62 : decode cX12_two 62 = .ok (.iload_n 2, 1) := by decide +kernel
theorem dX12_two_63 : decode cX12_two 63 = .ok (.ifCond .eq 7, 3) := by decide +kernel
theorem dX12_two_66 : decode cX12_two 66 = .ok (.iconst 1, 1) := by decide +kernel
theorem dX12_two_67 : decode cX12_two 67 = .ok (.goto 4, 3) := by decide +kernel
theorem dX12_two_70 : decode cX12_two 70 = .ok (.iconst 0, 1) := by decide +kernel
theorem dX12_two_71 : decode cX12_two 71 = .ok (.ireturn, 1) := by decide +kernel
theorem dX12_two_72 : decode cX12_two 72 = .ok (.iload_n 1, 1) := by decide +kernel
theorem dX12_two_73 : decode cX12_two 73 = .ok (.iload_n 2, 1) := by decide +kernel
theorem dX12_two_74 : decode cX12_two 74 = .ok (.if_icmp .ge 7, 3) := by decide +kernel
theorem dX12_two_77 : decode cX12_two 77 = .ok (.iconst 1, 1) := by decide +kernel
theorem dX12_two_78 : decode cX12_two 78 = .ok (.goto 4, 3) := by decide +kernel
theorem dX12_two_81 : decode cX12_two 81 = .ok (.iconst 0, 1) := by decide +kernel
theorem dX12_two_82 : decode cX12_two 82 = .ok (.ireturn, 1) := by decide +kernel
theorem dX12_two_83 : decode cX12_two 83 = .ok (.iload_n 1, 1) := by decide +kernel
theorem dX12_two_84 : decode cX12_two 84 = .ok (.iload_n 2, 1) := by decide +kernel
theorem dX12_two_85 : decode cX12_two 85 = .ok (.if_icmp .ne 7, 3) := by decide +kernel
theorem dX12_two_88 : decode cX12_two 88 = .ok (.iconst 1, 1) := by decide +kernel
theorem dX12_two_89 : decode cX12_two 89 = .ok (.goto 4, 3) := by decide +kernel
theorem dX12_two_92 : decode cX12_two 92 = .ok (.iconst 0, 1) := by decide +kernel
theorem dX12_two_93 : decode cX12_two 93 = .ok (.ireturn, 1) := by decide +kernel
theorem dX12_two_94 : decode cX12_two 94 = .ok (.iload_n 1, 1) := by decide +kernel
theorem dX12_two_95 : decode cX12_two 95 = .ok (.iload_n 2, 1) := by decide +kernel
theorem dX12_two_96 : decode cX12_two 96 = .ok (.iadd, 1) := by decide +kernel
theorem dX12_two_97 : decode cX12_two 97 = .ok (.ireturn, 1) := by decide +kernel
theorem dX12_two_98 : decode cX12_two 98 = .ok (.iload_n 1, 1) := by decide +kernel
theorem dX12_two_99 : decode cX12_two 99 = .ok (.iload_n 2, 1) := by decide +kernel
theorem dX12_two_100 : decode cX12_two 100 = .ok (.isub, 1) := by decide +kernel
theorem dX12_two_101 : decode cX12_two 101 = .ok (.ireturn, 1) := by decide +kernel
theorem dX12_two_102 : decode cX12_two 102 = .ok (.iload_n 1, 1) := by decide +kernel
theorem dX12_two_103 : decode cX12_two 103 = .ok (.iload_n 2, 1) := by decide +kernel
theorem dX12_two_104 : decode cX12_two 104 = .ok (.imul, 1) := by decide +kernel
theorem dX12_two_105 : decode cX12_two 105 = .ok (.ireturn, 1) := by decide +kernel
theorem dX12_worth_0 : decode cX12_worth 0 = .ok (.iconst 0, 1) := by decide +kernel
theorem dX12_worth_1 : decode cX12_worth 1 = .ok (.istore_n 3, 1) := by decide +kernel
theorem dX12_worth_2 : decode cX12_worth 2 = .ok (.aload_n 0, 1) := by decide +kernel
theorem dX12_worth_3 : decode cX12_worth 3 = .ok (.getfield 50, 3) := by decide +kernel
theorem dX12_worth_6 : decode cX12_worth 6 = .ok (.iconst 4, 1) := by decide +kernel
theorem dX12_worth_7 : decode cX12_worth 7 = .ok (.aload_n 0, 1) := by decide +kernel
theorem dX12_worth_8 : decode cX12_worth 8 = .ok (.getfield 148, 3) := by decide +kernel
theorem dX12_worth_11 : decode cX12_worth 11 = .ok (.imul, 1) := by decide +kernel
theorem dX12_worth_12 : decode cX12_worth 12 = .ok (.iload_n 1, 1) := by decide +kernel
theorem dX12_worth_13 : decode cX12_worth 13 = .ok (.iadd, 1) := by decide +kernel
theorem dX12_worth_14 : decode cX12_worth 14 = .ok (.iaload, 1) := by decide +kernel
theorem dX12_worth_15 : decode cX12_worth 15 = .ok (.istore 4, 2) := by decide +kernel
theorem dX12_worth_17 : decode cX12_worth 17 = .ok (.iload 4, 2) := by decide +kernel
theorem dX12_worth_19 : decode cX12_worth 19 = .ok (.aload_n 0, 1) := by decide +kernel
theorem dX12_worth_20 : decode cX12_worth 20 = .ok (.getfield 50, 3) := by decide +kernel
theorem dX12_worth_23 : decode cX12_worth 23 = .ok (.iconst 4, 1) := by decide +kernel
theorem dX12_worth_24 : decode cX12_worth 24 = .ok (.aload_n 0, 1) := by decide +kernel
theorem dX12_worth_25 : decode cX12_worth 25 = .ok (.getfield 148, 3) := by decide +kernel
theorem dX12_worth_28 : decode cX12_worth 28 = .ok (.imul, 1) := by decide +kernel
theorem dX12_worth_29 : decode cX12_worth 29 = .ok (.iload_n 1, 1) := by decide +kernel
theorem dX12_worth_30 : decode cX12_worth 30 = .ok (.iadd, 1) := by decide +kernel
theorem dX12_worth_31 : decode cX12_worth 31 = .ok (.iconst 1, 1) := by decide +kernel
theorem dX12_worth_32 : decode cX12_worth 32 = .ok (.iadd, 1) := by decide +kernel
theorem dX12_worth_33 : decode cX12_worth 33 = .ok (.iaload, 1) := by decide +kernel
theorem dX12_worth_34 : decode cX12_worth 34 = .ok (.if_icmp .ge 166, 3) := by decide +kernel
theorem dX12_worth_37 : decode cX12_worth 37 = .ok (.aload_n 0, 1) := by decide +kernel
theorem dX12_worth_38 : decode cX12_worth 38 = .ok (.getfield 47, 3) := by decide +kernel
theorem dX12_worth_41 : decode cX12_worth 41 = .ok (.sipush 200, 3) := by decide +kernel
theorem dX12_worth_44 : decode cX12_worth 44 = .ok (.aload_n 0, 1) := by decide +kernel
theorem dX12_worth_45 : decode cX12_worth 45 = .ok (.getfield 148, 3) := by decide +kernel
theorem dX12_worth_48 : decode cX12_worth 48 = .ok (.imul, 1) := by decide +kernel
theorem dX12_worth_49 : decode cX12_worth 49 = .ok (.iload 4, 2) := by decide +kernel
theorem dX12_worth_51 : decode cX12_worth 51 = .ok (.iadd, 1) := by decide +kernel
theorem dX12_worth_52 : decode cX12_worth 52 = .ok (.iaload, 1) := by decide +kernel
theorem dX12_worth_53 : decode cX12_worth 53 = .ok (.istore 5, 2) := by decide +kernel
theorem dX12_worth_55 : decode cX12_worth 55 = .ok (.iload 5, 2) := by decide +kernel
theorem dX12_worth_57 : decode cX12_worth 57 = .ok (.ldc 200, 2) := by decide +kernel
theorem dX12_worth_59 : decode cX12_worth 59 = .ok (.if_icmp .ge 10, 3) := by decide +kernel
theorem dX12_worth_62 : decode cX12_worth 62 = .ok (.iload 5, 2) := by decide +kernel
theorem dX12_worth_64 : decode cX12_worth 64 = .ok (.bipush 11, 2) := by decide +kernel
theorem dX12_worth_66 : decode cX12_worth 66 = .ok (.if_icmp .ge 37, 3) := by decide +kernel
theorem dX12_worth_69 : decode cX12_worth 69 = .ok (.aload_n 0, 1) := by decide +kernel
theorem dX12_worth_70 : decode cX12_worth 70 = .ok (.getfield 115, 3) := by decide +kernel
theorem dX12_worth_73 : decode cX12_worth 73 = .ok (.iload_n 3, 1) := by decide +kernel
theorem dX12_worth_74 : decode cX12_worth 74 = .ok (.iload 5, 2) := by decide +kernel
theorem dX12_worth_76 : decode cX12_worth 76 = .ok (.bipush 11, 2) := by decide +kernel
theorem dX12_worth_78 : decode cX12_worth 78 = .ok (.if_icmp .ge 13, 3) := by decide +kernel
theorem dX12_worth_81 : decode cX12_worth 81 = .ok (.aload_n 0, 1) := by decide +kernel
theorem dX12_worth_82 : decode cX12_worth 82 = .ok (.getfield 118, 3) := by decide +kernel
theorem dX12_worth_85 : decode cX12_worth 85 = .ok (.iload 5, 2) := by decide +kernel
theorem dX12_worth_87 : decode cX12_worth 87 = .ok (.iaload, 1) := by decide +kernel
theorem dX12_worth_88 : decode cX12_worth 88 = .ok (.goto 8, 3) := by decide +kernel
theorem dX12_worth_91 : decode cX12_worth 91 = .ok (.iload 5, 2) := by decide +kernel
theorem dX12_worth_93 : decode cX12_worth 93 = .ok (.ldc 200, 2) := by decide +kernel
theorem dX12_worth_95 : decode cX12_worth 95 = .ok (.isub, 1) := by decide +kernel
theorem dX12_worth_96 : decode cX12_worth 96 = .ok (.iastore, 1) := by decide +kernel
theorem dX12_worth_97 : decode cX12_worth 97 = .ok (.iinc 3 1, 3) := by decide +kernel
theorem dX12_worth_100 : decode cX12_worth 100 = .ok (.goto 94, 3) := by decide +kernel
theorem dX12_worth_103 : decode cX12_worth 103 = .ok (.iload 5, 2) := by decide +kernel
theorem dX12_worth_105 : decode cX12_worth 105 = .ok (.bipush 13, 2) := by decide +kernel
theorem dX12_worth_107 : decode cX12_worth 107 = .ok (.if_icmp .ne 30, 3) := by decide +kernel
theorem dX12_worth_110 : decode cX12_worth 110 = .ok (.aload_n 0, 1) := by decide +kernel
theorem dX12_worth_111 : decode cX12_worth 111 = .ok (.getfield 115, 3) := by decide +kernel
theorem dX12_worth_114 : decode cX12_worth 114 = .ok (.iload_n 3, 1) := by decide +kernel
theorem dX12_worth_115 : decode cX12_worth 115 = .ok (.iconst 1, 1) := by decide +kernel
theorem dX12_worth_116 : decode cX12_worth 116 = .ok (.isub, 1) := by decide +kernel
theorem dX12_worth_117 : decode cX12_worth 117 = .ok (.aload_n 0, 1) := by decide +kernel
theorem dX12_worth_118 : decode cX12_worth 118 = .ok (.getfield 115, 3) := by decide +kernel
theorem dX12_worth_121 : decode cX12_worth 121 = .ok (.iload_n 3, 1) := by decide +kernel
theorem dX12_worth_122 : decode cX12_worth 122 = .ok (.iconst 1, 1) := by decide +kernel
theorem dX12_worth_123 : decode cX12_worth 123 = .ok (.isub, 1) := by decide +kernel
theorem dX12_worth_124 : decode cX12_worth 124 = .ok (.iaload, 1) := by decide +kernel
theorem dX12_worth_125 : decode cX12_worth 125 = .ok (.ifCond .ne 7, 3) := by decide +kernel
theorem dX12_worth_128 : decode cX12_worth 128 = .ok (.iconst 1, 1) := by decide +kernel
theorem dX12_worth_129 : decode cX12_worth 129 = .ok (.goto 4, 3) := by decide +kernel
theorem dX12_worth_132 : decode cX12_worth 132 = .ok (.iconst 0, 1) := by decide +kernel
theorem dX12_worth_133 : decode cX12_worth 133 = .ok (.iastore, 1) := by decide +kernel
theorem dX12_worth_134 : decode cX12_worth 134 = .ok (.goto 60, 3) := by decide +kernel
theorem dX12_worth_137 : decode cX12_worth 137 = .ok (.iload 5, 2) := by decide +kernel
theorem dX12_worth_139 : decode cX12_worth 139 = .ok (.bipush 19, 2) := by decide +kernel
theorem dX12_worth_141 : decode cX12_worth 141 = .ok (.if_icmp .ne 23, 3) := by decide +kernel
theorem dX12_worth_144 : decode cX12_worth 144 = .ok (.aload_n 0, 1) := by decide +kernel
theorem dX12_worth_145 : decode cX12_worth 145 = .ok (.getfield 115, 3) := by decide +kernel
theorem dX12_worth_148 : decode cX12_worth 148 = .ok (.iload_n 3, 1) := by decide +kernel
theorem dX12_worth_149 : decode cX12_worth 149 = .ok (.iconst 1, 1) := by decide +kernel
theorem dX12_worth_150 : decode cX12_worth 150 = .ok (.isub, 1) := by decide +kernel
theorem dX12_worth_151 : decode cX12_worth 151 = .ok (.aload_n 0, 1) := by decide +kernel
theorem dX12_worth_152 : decode cX12_worth 152 = .ok (.getfield 115, 3) := by decide +kernel
theorem dX12_worth_155 : decode cX12_worth 155 = .ok (.iload_n 3, 1) := by decide +kernel
theorem dX12_worth_156 : decode cX12_worth 156 = .ok (.iconst 1, 1) := by decide +kernel
theorem dX12_worth_157 : decode cX12_worth 157 = .ok (.isub, 1) := by decide +kernel
theorem dX12_worth_158 : decode cX12_worth 158 = .ok (.iaload, 1) := by decide +kernel
theorem dX12_worth_159 : decode cX12_worth 159 = .ok (.ineg, 1) := by decide +kernel
theorem dX12_worth_160 : decode cX12_worth 160 = .ok (.iastore, 1) := by decide +kernel
theorem dX12_worth_161 : decode cX12_worth 161 = .ok (.goto 33, 3) := by decide +kernel
theorem dX12_worth_164 : decode cX12_worth 164 = .ok (.iinc 3 (-1), 3) := by decide +kernel
theorem dX12_worth_167 : decode cX12_worth 167 = .ok (.aload_n 0, 1) := by decide +kernel
theorem dX12_worth_168 : decode cX12_worth 168 = .ok (.getfield 115, 3) := by decide +kernel
theorem dX12_worth_171 : decode cX12_worth 171 = .ok (.iload_n 3, 1) := by decide +kernel
theorem dX12_worth_172 : decode cX12_worth 172 = .ok (.iconst 1, 1) := by decide +kernel
theorem dX12_worth_173 : decode cX12_worth 173 = .ok (.isub, 1) := by decide +kernel
theorem dX12_worth_174 : decode cX12_worth 174 = .ok (.iload 5, 2) := by decide +kernel
theorem dX12_worth_176 : decode cX12_worth 176 = .ok (.aload_n 0, 1) := by decide +kernel
theorem dX12_worth_177 : decode cX12_worth 177 = .ok (.getfield 115, 3) := by decide +kernel
theorem dX12_worth_180 : decode cX12_worth 180 = .ok (.iload_n 3, 1) := by decide +kernel
theorem dX12_worth_181 : decode cX12_worth 181 = .ok (.iconst 1, 1) := by decide +kernel
theorem dX12_worth_182 : decode cX12_worth 182 = .ok (.isub, 1) := by decide +kernel
theorem dX12_worth_183 : decode cX12_worth 183 = .ok (.iaload, 1) := by decide +kernel
theorem dX12_worth_184 : decode cX12_worth 184 = .ok (.aload_n 0, 1) := by decide +kernel
theorem dX12_worth_185 : decode cX12_worth 185 = .ok (.getfield 115, 3) := by decide +kernel
theorem dX12_worth_188 : decode cX12_worth 188 = .ok (.iload_n 3, 1) := by decide +kernel
theorem dX12_worth_189 : decode cX12_worth 189 = .ok (.iaload, 1) := by decide +kernel
theorem dX12_worth_190 : decode cX12_worth 190 = .ok (.invokestatic 215, 3) := by decide +kernel
theorem dX12_worth_193 : decode cX12_worth 193 = .ok (.iastore, 1) := by decide +kernel
theorem dX12_worth_194 : decode cX12_worth 194 = .ok (.iinc 4 1, 3) := by decide +kernel
theorem dX12_worth_197 : decode cX12_worth 197 = .ok (.goto (-180), 3) := by decide +kernel
theorem dX12_worth_200 : decode cX12_worth 200 = .ok (.aload_n 0, 1) := by decide +kernel
theorem dX12_worth_201 : decode cX12_worth 201 = .ok (.getfield 115, 3) := by decide +kernel
theorem dX12_worth_204 : decode cX12_worth 204 = .ok (.iconst 0, 1) := by decide +kernel
theorem dX12_worth_205 : decode cX12_worth 205 = .ok (.iaload, 1) := by decide +kernel
theorem dX12_worth_206 : decode cX12_worth 206 = .ok (.ifCond .ge 7, 3) := by decide +kernel
theorem dX12_worth_209 : decode cX12_worth 209 = .ok (.iconst 0, 1) := by decide +kernel
theorem dX12_worth_210 : decode cX12_worth 210 = .ok (.goto 23, 3) := by decide +kernel
theorem dX12_worth_213 : decode cX12_worth 213 = .ok (.aload_n 0, 1) := by decide +kernel
theorem dX12_worth_214 : decode cX12_worth 214 = .ok (.getfield 115, 3) := by decide +kernel
theorem dX12_worth_217 : decode cX12_worth 217 = .ok (.iconst 0, 1) := by decide +kernel
theorem dX12_worth_218 : decode cX12_worth 218 = .ok (.iaload, 1) := by decide +kernel
theorem dX12_worth_219 : decode cX12_worth 219 = .ok (.iload_n 2, 1) := by decide +kernel
theorem dX12_worth_220 : decode cX12_worth 220 = .ok (.if_icmp .le 7, 3) := by decide +kernel
theorem dX12_worth_223 : decode cX12_worth 223 = .ok (.iload_n 2, 1) := by decide +kernel
theorem dX12_worth_224 : decode cX12_worth 224 = .ok (.goto 9, 3) := by decide +kernel
theorem dX12_worth_227 : decode cX12_worth 227 = .ok (.aload_n 0, 1) := by decide +kernel
theorem dX12_worth_228 : decode cX12_worth 228 = .ok (.getfield 115, 3) := by decide +kernel
theorem dX12_worth_231 : decode cX12_worth 231 = .ok (.iconst 0, 1) := by decide +kernel
theorem dX12_worth_232 : decode cX12_worth 232 = .ok (.iaload, 1) := by decide +kernel
theorem dX12_worth_233 : decode cX12_worth 233 = .ok (.ireturn, 1) := by decide +kernel
theorem dX12_force_0 : decode cX12_force 0 = .ok (.iload_n 1, 1) := by decide +kernel
theorem dX12_force_1 : decode cX12_force 1 = .ok (.iconst 0, 1) := by decide +kernel
theorem dX12_force_2 : decode cX12_force 2 = .ok (.aload_n 0, 1) := by decide +kernel
theorem dX12_force_3 : decode cX12_force 3 = .ok (.getfield 53, 3) := by decide +kernel
theorem dX12_force_6 : decode cX12_force 6 = .ok (.iconst 1, 1) := by decide +kernel
theorem dX12_force_7 : decode cX12_force 7 = .ok (.isub, 1) := by decide +kernel
theorem dX12_force_8 : decode cX12_force 8 = .ok (.invokestatic 133, 3) := by decide +kernel
theorem dX12_force_11 : decode cX12_force 11 = .ok (.ifCond .ne 6, 3) := by decide +kernel
theorem dX12_force_14 : decode cX12_force 14 = .ok (.bipush (-2), 2) := by decide +kernel
theorem dX12_force_16 : decode cX12_force 16 = .ok (.ireturn, 1) := by decide +kernel
theorem dX12_force_17 : decode cX12_force 17 = .ok (.aload_n 0, 1) := by decide +kernel
theorem dX12_force_18 : decode cX12_force 18 = .ok (.getfield 148, 3) := by decide +kernel
theorem dX12_force_21 : decode cX12_force 21 = .ok (.istore_n 2, 1) := by decide +kernel
theorem dX12_force_22 : decode cX12_force 22 = .ok (.aload_n 0, 1) := by decide +kernel
theorem dX12_force_23 : decode cX12_force 23 = .ok (.iload_n 1, 1) := by decide +kernel
theorem dX12_force_24 : decode cX12_force 24 = .ok (.putfield 148, 3) := by decide +kernel
theorem dX12_force_27 : decode cX12_force 27 = .ok (.iload_n 2, 1) := by decide +kernel
theorem dX12_force_28 : decode cX12_force 28 = .ok (.ireturn, 1) := by decide +kernel
theorem dX12_low_0 : decode cX12_low 0 = .ok (.iload_n 0, 1) := by decide +kernel
theorem dX12_low_1 : decode cX12_low 1 = .ok (.ifCond .ge 7, 3) := by decide +kernel
theorem dX12_low_4 : decode cX12_low 4 = .ok (.iconst 0, 1) := by decide +kernel
theorem dX12_low_5 : decode cX12_low 5 = .ok (.goto 4, 3) := by decide +kernel
theorem dX12_low_8 : decode cX12_low 8 = .ok (.iload_n 0, 1) := by decide +kernel
theorem dX12_low_9 : decode cX12_low 9 = .ok (.ireturn, 1) := by decide +kernel
theorem dX12_share_0 : decode cX12_share 0 = .ok (.aload_n 0, 1) := by decide +kernel
theorem dX12_share_1 : decode cX12_share 1 = .ok (.getfield 23, 3) := by decide +kernel
theorem dX12_share_4 : decode cX12_share 4 = .ok (.iload 5, 2) := by decide +kernel
theorem dX12_share_6 : decode cX12_share 6 = .ok (.idiv, 1) := by decide +kernel
theorem dX12_share_7 : decode cX12_share 7 = .ok (.istore 6, 2) := by decide +kernel
theorem dX12_share_9 : decode cX12_share 9 = .ok (.iload 6, 2) := by decide +kernel
theorem dX12_share_11 : decode cX12_share 11 = .ok (.aload_n 0, 1) := by decide +kernel
theorem dX12_share_12 : decode cX12_share 12 = .ok (.getfield 13, 3) := by decide +kernel
theorem dX12_share_15 : decode cX12_share 15 = .ok (.iload_n 2, 1) := by decide +kernel
theorem dX12_share_16 : decode cX12_share 16 = .ok (.iaload, 1) := by decide +kernel
theorem dX12_share_17 : decode cX12_share 17 = .ok (.ifCond .le 7, 3) := by decide +kernel
theorem dX12_share_20 : decode cX12_share 20 = .ok (.iconst 1, 1) := by decide +kernel
theorem dX12_share_21 : decode cX12_share 21 = .ok (.goto 4, 3) := by decide +kernel
theorem dX12_share_24 : decode cX12_share 24 = .ok (.iconst (-1), 1) := by decide +kernel
theorem dX12_share_25 : decode cX12_share 25 = .ok (.iadd, 1) := by decide +kernel
theorem dX12_share_26 : decode cX12_share 26 = .ok (.invokestatic 219, 3) := by decide +kernel
theorem dX12_share_29 : decode cX12_share 29 = .ok (.istore 7, 2) := by decide +kernel
theorem dX12_share_31 : decode cX12_share 31 = .ok (.iload 6, 2) := by decide +kernel
theorem dX12_share_33 : decode cX12_share 33 = .ok (.aload_n 0, 1) := by decide +kernel
theorem dX12_share_34 : decode cX12_share 34 = .ok (.getfield 56, 3) := by decide +kernel
theorem dX12_share_37 : decode cX12_share 37 = .ok (.bipush 8, 2) := by decide +kernel
theorem dX12_share_39 : decode cX12_share 39 = .ok (.iload_n 3, 1) := by decide +kernel
theorem dX12_share_40 : decode cX12_share 40 = .ok (.imul, 1) := by decide +kernel
theorem dX12_share_41 : decode cX12_share 41 = .ok (.iload_n 2, 1) := by decide +kernel
theorem dX12_share_42 : decode cX12_share 42 = .ok (.iadd, 1) := by decide +kernel
theorem dX12_share_43 : decode cX12_share 43 = .ok (.iaload, 1) := by decide +kernel
theorem dX12_share_44 : decode cX12_share 44 = .ok (.aload_n 0, 1) := by decide +kernel
theorem dX12_share_45 : decode cX12_share 45 = .ok (.getfield 38, 3) := by decide +kernel
theorem dX12_share_48 : decode cX12_share 48 = .ok (.iload_n 1, 1) := by decide +kernel
theorem dX12_share_49 : decode cX12_share 49 = .ok (.iaload, 1) := by decide +kernel
theorem dX12_share_50 : decode cX12_share 50 = .ok (.if_icmp .ge 7, 3) := by decide +kernel
theorem dX12_share_53 : decode cX12_share 53 = .ok (.iconst 2, 1) := by decide +kernel
theorem dX12_share_54 : decode cX12_share 54 = .ok (.goto 4, 3) := by decide +kernel
theorem dX12_share_57 : decode cX12_share 57 = .ok (.iconst (-1), 1) := by decide +kernel
theorem dX12_share_58 : decode cX12_share 58 = .ok (.iadd, 1) := by decide +kernel
theorem dX12_share_59 : decode cX12_share 59 = .ok (.invokestatic 219, 3) := by decide +kernel
theorem dX12_share_62 : decode cX12_share 62 = .ok (.istore 8, 2) := by decide +kernel
theorem dX12_share_64 : decode cX12_share 64 = .ok (.aload_n 0, 1) := by decide +kernel
theorem dX12_share_65 : decode cX12_share 65 = .ok (.getfield 35, 3) := by decide +kernel
theorem dX12_share_68 : decode cX12_share 68 = .ok (.iload_n 1, 1) := by decide +kernel
theorem dX12_share_69 : decode cX12_share 69 = .ok (.iaload, 1) := by decide +kernel
theorem dX12_share_70 : decode cX12_share 70 = .ok (.tableswitch 101 1 5 #[34, 37, 40, 69, 81], 34) := by decide +kernel
theorem dX12_share_104 : decode cX12_share 104 = .ok (.iload 7, 2) := by decide +kernel
theorem dX12_share_106 : decode cX12_share 106 = .ok (.ireturn, 1) := by decide +kernel
theorem dX12_share_107 : decode cX12_share 107 = .ok (.iload 8, 2) := by decide +kernel
theorem dX12_share_109 : decode cX12_share 109 = .ok (.ireturn, 1) := by decide +kernel
theorem dX12_share_110 : decode cX12_share 110 = .ok (.iload 4, 2) := by decide +kernel
theorem dX12_share_112 : decode cX12_share 112 = .ok (.bipush 7, 2) := by decide +kernel
theorem dX12_share_114 : decode cX12_share 114 = .ok (.iload_n 3, 1) := by decide +kernel
theorem dX12_share_115 : decode cX12_share 115 = .ok (.imul, 1) := by decide +kernel
theorem dX12_share_116 : decode cX12_share 116 = .ok (.aload_n 0, 1) := by decide +kernel
theorem dX12_share_117 : decode cX12_share 117 = .ok (.getfield 38, 3) := by decide +kernel
theorem dX12_share_120 : decode cX12_share 120 = .ok (.iload_n 1, 1) := by decide +kernel
theorem dX12_share_121 : decode cX12_share 121 = .ok (.iaload, 1) := by decide +kernel
theorem dX12_share_122 : decode cX12_share 122 = .ok (.iadd, 1) := by decide +kernel
theorem dX12_share_123 : decode cX12_share 123 = .ok (.iload 5, 2) := by decide +kernel
theorem dX12_share_125 : decode cX12_share 125 = .ok (.irem, 1) := by decide +kernel
theorem dX12_share_126 : decode cX12_share 126 = .ok (.if_icmp .ne 10, 3) := by decide +kernel
theorem dX12_share_129 : decode cX12_share 129 = .ok (.iconst 2, 1) := by decide +kernel
theorem dX12_share_130 : decode cX12_share 130 = .ok (.iload 8, 2) := by decide +kernel
theorem dX12_share_132 : decode cX12_share 132 = .ok (.imul, 1) := by decide +kernel
theorem dX12_share_133 : decode cX12_share 133 = .ok (.goto 5, 3) := by decide +kernel
theorem dX12_share_136 : decode cX12_share 136 = .ok (.iload 8, 2) := by decide +kernel
theorem dX12_share_138 : decode cX12_share 138 = .ok (.ireturn, 1) := by decide +kernel
theorem dX12_share_139 : decode cX12_share 139 = .ok (.aload_n 0, 1) := by decide +kernel
theorem dX12_share_140 : decode cX12_share 140 = .ok (.getfield 41, 3) := by decide +kernel
theorem dX12_share_143 : decode cX12_share 143 = .ok (.bipush 8, 2) := by decide +kernel
theorem dX12_share_145 : decode cX12_share 145 = .ok (.iload_n 1, 1) := by decide +kernel
theorem dX12_share_146 : decode cX12_share 146 = .ok (.imul, 1) := by decide +kernel
theorem dX12_share_147 : decode cX12_share 147 = .ok (.iload_n 2, 1) := by decide +kernel
theorem dX12_share_148 : decode cX12_share 148 = .ok (.iadd, 1) := by decide +kernel
theorem dX12_share_149 : decode cX12_share 149 = .ok (.iaload, 1) := by decide +kernel
theorem dX12_share_150 : decode cX12_share 150 = .ok (.ireturn, 1) := by decide +kernel
theorem dX12_share_151 : decode cX12_share 151 = .ok (.iload_n 3, 1) := by decide +kernel
theorem dX12_share_152 : decode cX12_share 152 = .ok (.aload_n 0, 1) := by decide +kernel
theorem dX12_share_153 : decode cX12_share 153 = .ok (.getfield 38, 3) := by decide +kernel
theorem dX12_share_156 : decode cX12_share 156 = .ok (.iload_n 1, 1) := by decide +kernel
theorem dX12_share_157 : decode cX12_share 157 = .ok (.iaload, 1) := by decide +kernel
theorem dX12_share_158 : decode cX12_share 158 = .ok (.if_icmp .lt 10, 3) := by decide +kernel
theorem dX12_share_161 : decode cX12_share 161 = .ok (.iload 7, 2) := by decide +kernel
theorem dX12_share_163 : decode cX12_share 163 = .ok (.iconst 2, 1) := by decide +kernel
theorem dX12_share_164 : decode cX12_share 164 = .ok (.idiv, 1) := by decide +kernel
theorem dX12_share_165 : decode cX12_share 165 = .ok (.goto 5, 3) := by decide +kernel
theorem dX12_share_168 : decode cX12_share 168 = .ok (.iload 7, 2) := by decide +kernel
theorem dX12_share_170 : decode cX12_share 170 = .ok (.ireturn, 1) := by decide +kernel
theorem dX12_share_171 : decode cX12_share 171 = .ok (.iload 6, 2) := by decide +kernel
theorem dX12_share_173 : decode cX12_share 173 = .ok (.ireturn, 1) := by decide +kernel
theorem dX12_drinkers_0 : decode cX12_drinkers 0 = .ok (.iconst 0, 1) := by decide +kernel
theorem dX12_drinkers_1 : decode cX12_drinkers 1 = .ok (.istore_n 3, 1) := by decide +kernel
theorem dX12_drinkers_2 : decode cX12_drinkers 2 = .ok (.iconst 0, 1) := by decide +kernel
theorem dX12_drinkers_3 : decode cX12_drinkers 3 = .ok (.istore 4, 2) := by decide +kernel
theorem dX12_drinkers_5 : decode cX12_drinkers 5 = .ok (.iload 4, 2) := by decide +kernel
theorem dX12_drinkers_7 : decode cX12_drinkers 7 = .ok (.aload_n 0, 1) := by decide +kernel
theorem dX12_drinkers_8 : decode cX12_drinkers 8 = .ok (.getfield 130, 3) := by decide +kernel
theorem dX12_drinkers_11 : decode cX12_drinkers 11 = .ok (.if_icmp .ge 42, 3) := by decide +kernel
theorem dX12_drinkers_14 : decode cX12_drinkers 14 = .ok (.iload_n 3, 1) := by decide +kernel
theorem dX12_drinkers_15 : decode cX12_drinkers 15 = .ok (.iload_n 2, 1) := by decide +kernel
theorem dX12_drinkers_16 : decode cX12_drinkers 16 = .ok (.iload 4, 2) := by decide +kernel
theorem dX12_drinkers_18 : decode cX12_drinkers 18 = .ok (.ishr, 1) := by decide +kernel
theorem dX12_drinkers_19 : decode cX12_drinkers 19 = .ok (.iconst 1, 1) := by decide +kernel
theorem dX12_drinkers_20 : decode cX12_drinkers 20 = .ok (.iand, 1) := by decide +kernel
theorem dX12_drinkers_21 : decode cX12_drinkers 21 = .ok (.iconst 1, 1) := by decide +kernel
theorem dX12_drinkers_22 : decode cX12_drinkers 22 = .ok (.if_icmp .ne 22, 3) := by decide +kernel
theorem dX12_drinkers_25 : decode cX12_drinkers 25 = .ok (.aload_n 0, 1) := by decide +kernel
theorem dX12_drinkers_26 : decode cX12_drinkers 26 = .ok (.getfield 56, 3) := by decide +kernel
theorem dX12_drinkers_29 : decode cX12_drinkers 29 = .ok (.bipush 8, 2) := by decide +kernel
theorem dX12_drinkers_31 : decode cX12_drinkers 31 = .ok (.iload_n 1, 1) := by decide +kernel
theorem dX12_drinkers_32 : decode cX12_drinkers 32 = .ok (.imul, 1) := by decide +kernel
theorem dX12_drinkers_33 : decode cX12_drinkers 33 = .ok (.iload 4, 2) := by decide +kernel
theorem dX12_drinkers_35 : decode cX12_drinkers 35 = .ok (.iadd, 1) := by decide +kernel
theorem dX12_drinkers_36 : decode cX12_drinkers 36 = .ok (.iaload, 1) := by decide +kernel
theorem dX12_drinkers_37 : decode cX12_drinkers 37 = .ok (.ifCond .le 7, 3) := by decide +kernel
theorem dX12_drinkers_40 : decode cX12_drinkers 40 = .ok (.iconst 1, 1) := by decide +kernel
theorem dX12_drinkers_41 : decode cX12_drinkers 41 = .ok (.goto 4, 3) := by decide +kernel
theorem dX12_drinkers_44 : decode cX12_drinkers 44 = .ok (.iconst 0, 1) := by decide +kernel
theorem dX12_drinkers_45 : decode cX12_drinkers 45 = .ok (.iadd, 1) := by decide +kernel
theorem dX12_drinkers_46 : decode cX12_drinkers 46 = .ok (.istore_n 3, 1) := by decide +kernel
theorem dX12_drinkers_47 : decode cX12_drinkers 47 = .ok (.iinc 4 1, 3) := by decide +kernel
theorem dX12_drinkers_50 : decode cX12_drinkers 50 = .ok (.goto (-45), 3) := by decide +kernel
theorem dX12_drinkers_53 : decode cX12_drinkers 53 = .ok (.iload_n 3, 1) := by decide +kernel
theorem dX12_drinkers_54 : decode cX12_drinkers 54 = .ok (.ireturn, 1) := by decide +kernel
theorem dX12_goes_0 : decode cX12_goes 0 = .ok (.iload 4, 2) := by decide +kernel
theorem dX12_goes_2 : decode cX12_goes 2 = .ok (.istore 5, 2) := by decide +kernel
theorem dX12_goes_4 : decode cX12_goes 4 = .ok (.iconst 0, 1) := by decide +kernel
theorem dX12_goes_5 : decode cX12_goes 5 = .ok (.istore 6, 2) := by decide +kernel
theorem dX12_goes_7 : decode cX12_goes 7 = .ok (.iload 6, 2) := by decide +kernel
theorem dX12_goes_9 : decode cX12_goes 9 = .ok (.bipush 8, 2) := by decide +kernel
theorem dX12_goes_11 : decode cX12_goes 11 = .ok (.if_icmp .ge 36, 3) := by decide +kernel
theorem dX12_goes_14 : decode cX12_goes 14 = .ok (.aload_n 0, 1) := by decide +kernel
theorem dX12_goes_15 : decode cX12_goes 15 = .ok (.getfield 56, 3) := by decide +kernel
theorem dX12_goes_18 : decode cX12_goes 18 = .ok (.iload 6, 2) := by decide +kernel
theorem dX12_goes_20 : decode cX12_goes 20 = .ok (.iload 6, 2) := by decide +kernel
theorem dX12_goes_22 : decode cX12_goes 22 = .ok (.aload_n 0, 1) := by decide +kernel
theorem dX12_goes_23 : decode cX12_goes 23 = .ok (.getfield 130, 3) := by decide +kernel
theorem dX12_goes_26 : decode cX12_goes 26 = .ok (.if_icmp .ge 13, 3) := by decide +kernel
theorem dX12_goes_29 : decode cX12_goes 29 = .ok (.aload_n 0, 1) := by decide +kernel
theorem dX12_goes_30 : decode cX12_goes 30 = .ok (.getfield 7, 3) := by decide +kernel
theorem dX12_goes_33 : decode cX12_goes 33 = .ok (.iload 6, 2) := by decide +kernel
theorem dX12_goes_35 : decode cX12_goes 35 = .ok (.iaload, 1) := by decide +kernel
theorem dX12_goes_36 : decode cX12_goes 36 = .ok (.goto 4, 3) := by decide +kernel
theorem dX12_goes_39 : decode cX12_goes 39 = .ok (.iconst 0, 1) := by decide +kernel
theorem dX12_goes_40 : decode cX12_goes 40 = .ok (.iastore, 1) := by decide +kernel
theorem dX12_goes_41 : decode cX12_goes 41 = .ok (.iinc 6 1, 3) := by decide +kernel
theorem dX12_goes_44 : decode cX12_goes 44 = .ok (.goto (-37), 3) := by decide +kernel
theorem dX12_goes_47 : decode cX12_goes 47 = .ok (.aload_n 0, 1) := by decide +kernel
theorem dX12_goes_48 : decode cX12_goes 48 = .ok (.getfield 62, 3) := by decide +kernel
theorem dX12_goes_51 : decode cX12_goes 51 = .ok (.iconst 0, 1) := by decide +kernel
theorem dX12_goes_52 : decode cX12_goes 52 = .ok (.aload_n 0, 1) := by decide +kernel
theorem dX12_goes_53 : decode cX12_goes 53 = .ok (.getfield 20, 3) := by decide +kernel
theorem dX12_goes_56 : decode cX12_goes 56 = .ok (.iastore, 1) := by decide +kernel
theorem dX12_goes_57 : decode cX12_goes 57 = .ok (.aload_n 0, 1) := by decide +kernel
theorem dX12_goes_58 : decode cX12_goes 58 = .ok (.getfield 65, 3) := by decide +kernel
theorem dX12_goes_61 : decode cX12_goes 61 = .ok (.iconst 0, 1) := by decide +kernel
theorem dX12_goes_62 : decode cX12_goes 62 = .ok (.iconst 0, 1) := by decide +kernel
theorem dX12_goes_63 : decode cX12_goes 63 = .ok (.iastore, 1) := by decide +kernel
theorem dX12_goes_64 : decode cX12_goes 64 = .ok (.aload_n 0, 1) := by decide +kernel
theorem dX12_goes_65 : decode cX12_goes 65 = .ok (.iconst (-1), 1) := by decide +kernel
theorem dX12_goes_66 : decode cX12_goes 66 = .ok (.putfield 222, 3) := by decide +kernel
theorem dX12_goes_69 : decode cX12_goes 69 = .ok (.iconst 0, 1) := by decide +kernel
theorem dX12_goes_70 : decode cX12_goes 70 = .ok (.istore 6, 2) := by decide +kernel
theorem dX12_goes_72 : decode cX12_goes 72 = .ok (.iload 6, 2) := by decide +kernel
theorem dX12_goes_74 : decode cX12_goes 74 = .ok (.aload_n 0, 1) := by decide +kernel
theorem dX12_goes_75 : decode cX12_goes 75 = .ok (.getfield 16, 3) := by decide +kernel
theorem dX12_goes_78 : decode cX12_goes 78 = .ok (.if_icmp .ge 501, 3) := by decide +kernel
theorem dX12_goes_81 : decode cX12_goes 81 = .ok (.aload_n 0, 1) := by decide +kernel
theorem dX12_goes_82 : decode cX12_goes 82 = .ok (.getfield 222, 3) := by decide +kernel
theorem dX12_goes_85 : decode cX12_goes 85 = .ok (.iconst (-1), 1) := by decide +kernel
theorem dX12_goes_86 : decode cX12_goes 86 = .ok (.if_icmp .ne 16, 3) := by decide +kernel
theorem dX12_goes_89 : decode cX12_goes 89 = .ok (.aload_n 0, 1) := by decide +kernel
theorem dX12_goes_90 : decode cX12_goes 90 = .ok (.iload 6, 2) := by decide +kernel
theorem dX12_goes_92 : decode cX12_goes 92 = .ok (.invokevirtual 225, 3) := by decide +kernel
theorem dX12_goes_95 : decode cX12_goes 95 = .ok (.ifCond .le 7, 3) := by decide +kernel
theorem dX12_goes_98 : decode cX12_goes 98 = .ok (.iconst 1, 1) := by decide +kernel
theorem dX12_goes_99 : decode cX12_goes 99 = .ok (.goto 4, 3) := by decide +kernel
theorem dX12_goes_102 : decode cX12_goes 102 = .ok (.iconst 0, 1) := by decide +kernel
theorem dX12_goes_103 : decode cX12_goes 103 = .ok (.istore 7, 2) := by decide +kernel
theorem dX12_goes_105 : decode cX12_goes 105 = .ok (.aload_n 0, 1) := by decide +kernel
theorem dX12_goes_106 : decode cX12_goes 106 = .ok (.getfield 62, 3) := by decide +kernel
theorem dX12_goes_109 : decode cX12_goes 109 = .ok (.iload 6, 2) := by decide +kernel
theorem dX12_goes_111 : decode cX12_goes 111 = .ok (.iaload, 1) := by decide +kernel
theorem dX12_goes_112 : decode cX12_goes 112 = .ok (.iload 7, 2) := by decide +kernel
theorem dX12_goes_114 : decode cX12_goes 114 = .ok (.ifCond .eq 13, 3) := by decide +kernel
theorem dX12_goes_117 : decode cX12_goes 117 = .ok (.aload_n 0, 1) := by decide +kernel
theorem dX12_goes_118 : decode cX12_goes 118 = .ok (.getfield 32, 3) := by decide +kernel
theorem dX12_goes_121 : decode cX12_goes 121 = .ok (.iload 6, 2) := by decide +kernel
theorem dX12_goes_123 : decode cX12_goes 123 = .ok (.iaload, 1) := by decide +kernel
theorem dX12_goes_124 : decode cX12_goes 124 = .ok (.goto 4, 3) := by decide +kernel
theorem dX12_goes_127 : decode cX12_goes 127 = .ok (.iconst 0, 1) := by decide +kernel
theorem dX12_goes_128 : decode cX12_goes 128 = .ok (.iadd, 1) := by decide +kernel
theorem dX12_goes_129 : decode cX12_goes 129 = .ok (.istore 8, 2) := by decide +kernel
theorem dX12_goes_131 : decode cX12_goes 131 = .ok (.iload 8, 2) := by decide +kernel
theorem dX12_goes_133 : decode cX12_goes 133 = .ok (.sipush 9999, 3) := by decide +kernel
theorem dX12_goes_136 : decode cX12_goes 136 = .ok (.if_icmp .le 9, 3) := by decide +kernel
theorem dX12_goes_139 : decode cX12_goes 139 = .ok (.sipush 9999, 3) := by decide +kernel
theorem dX12_goes_142 : decode cX12_goes 142 = .ok (.goto 5, 3) := by decide +kernel
theorem dX12_goes_145 : decode cX12_goes 145 = .ok (.iload 8, 2) := by decide +kernel
theorem dX12_goes_147 : decode cX12_goes 147 = .ok (.istore 8, 2) := by decide +kernel
theorem dX12_goes_149 : decode cX12_goes 149 = .ok (.aload_n 0, 1) := by decide +kernel
theorem dX12_goes_150 : decode cX12_goes 150 = .ok (.getfield 65, 3) := by decide +kernel
theorem dX12_goes_153 : decode cX12_goes 153 = .ok (.iload 6, 2) := by decide +kernel
theorem dX12_goes_155 : decode cX12_goes 155 = .ok (.iaload, 1) := by decide +kernel
theorem dX12_goes_156 : decode cX12_goes 156 = .ok (.istore 9, 2) := by decide +kernel
theorem dX12_goes_158 : decode cX12_goes 158 = .ok (.aload_n 0, 1) := by decide +kernel
theorem dX12_goes_159 : decode cX12_goes 159 = .ok (.getfield 23, 3) := by decide +kernel
theorem dX12_goes_162 : decode cX12_goes 162 = .ok (.istore 10, 2) := by decide +kernel
theorem dX12_goes_164 : decode cX12_goes 164 = .ok (.aload_n 0, 1) := by decide +kernel
theorem dX12_goes_165 : decode cX12_goes 165 = .ok (.iload 6, 2) := by decide +kernel
theorem dX12_goes_167 : decode cX12_goes 167 = .ok (.iload_n 2, 1) := by decide +kernel
theorem dX12_goes_168 : decode cX12_goes 168 = .ok (.invokevirtual 228, 3) := by decide +kernel
theorem dX12_goes_171 : decode cX12_goes 171 = .ok (.istore 11, 2) := by decide +kernel
theorem dX12_goes_173 : decode cX12_goes 173 = .ok (.iconst 0, 1) := by decide +kernel
theorem dX12_goes_174 : decode cX12_goes 174 = .ok (.istore 12, 2) := by decide +kernel
theorem dX12_goes_176 : decode cX12_goes 176 = .ok (.iconst 0, 1) := by decide +kernel
theorem dX12_goes_177 : decode cX12_goes 177 = .ok (.istore 13, 2) := by decide +kernel
theorem dX12_goes_179 : decode cX12_goes 179 = .ok (.iload 13, 2) := by decide +kernel
theorem dX12_goes_181 : decode cX12_goes 181 = .ok (.aload_n 0, 1) := by decide +kernel
theorem dX12_goes_182 : decode cX12_goes 182 = .ok (.getfield 130, 3) := by decide +kernel
theorem dX12_goes_185 : decode cX12_goes 185 = .ok (.if_icmp .ge 320, 3) := by decide +kernel
theorem dX12_goes_188 : decode cX12_goes 188 = .ok (.aload_n 0, 1) := by decide +kernel
theorem dX12_goes_189 : decode cX12_goes 189 = .ok (.getfield 56, 3) := by decide +kernel
theorem dX12_goes_192 : decode cX12_goes 192 = .ok (.bipush 8, 2) := by decide +kernel
theorem dX12_goes_194 : decode cX12_goes 194 = .ok (.iload 6, 2) := by decide +kernel
theorem dX12_goes_196 : decode cX12_goes 196 = .ok (.imul, 1) := by decide +kernel
theorem dX12_goes_197 : decode cX12_goes 197 = .ok (.iload 13, 2) := by decide +kernel
theorem dX12_goes_199 : decode cX12_goes 199 = .ok (.iadd, 1) := by decide +kernel
theorem dX12_goes_200 : decode cX12_goes 200 = .ok (.iaload, 1) := by decide +kernel
theorem dX12_goes_201 : decode cX12_goes 201 = .ok (.istore 14, 2) := by decide +kernel
theorem dX12_goes_203 : decode cX12_goes 203 = .ok (.iload 7, 2) := by decide +kernel
theorem dX12_goes_205 : decode cX12_goes 205 = .ok (.ifCond .eq 22, 3) := by decide +kernel
theorem dX12_goes_208 : decode cX12_goes 208 = .ok (.iload 14, 2) := by decide +kernel
theorem dX12_goes_210 : decode cX12_goes 210 = .ok (.ifCond .le 17, 3) := by decide +kernel
theorem dX12_goes_213 : decode cX12_goes 213 = .ok (.iload_n 2, 1) := by decide +kernel
theorem dX12_goes_214 : decode cX12_goes 214 = .ok (.iload 13, 2) := by decide +kernel
theorem dX12_goes_216 : decode cX12_goes 216 = .ok (.ishr, 1) := by decide +kernel
theorem dX12_goes_217 : decode cX12_goes 217 = .ok (.iconst 1, 1) := by decide +kernel
theorem dX12_goes_218 : decode cX12_goes 218 = .ok (.iand, 1) := by decide +kernel
theorem dX12_goes_219 : decode cX12_goes 219 = .ok (.iconst 1, 1) := by decide +kernel
theorem dX12_goes_220 : decode cX12_goes 220 = .ok (.if_icmp .ne 7, 3) := by decide +kernel
theorem dX12_goes_223 : decode cX12_goes 223 = .ok (.iconst 1, 1) := by decide +kernel
theorem dX12_goes_224 : decode cX12_goes 224 = .ok (.goto 4, 3) := by decide +kernel
theorem dX12_goes_227 : decode cX12_goes 227 = .ok (.iconst 0, 1) := by decide +kernel
theorem dX12_goes_228 : decode cX12_goes 228 = .ok (.istore 15, 2) := by decide +kernel
theorem dX12_goes_230 : decode cX12_goes 230 = .ok (.iload 15, 2) := by decide +kernel
theorem dX12_goes_232 : decode cX12_goes 232 = .ok (.ifCond .eq 19, 3) := by decide +kernel
theorem dX12_goes_235 : decode cX12_goes 235 = .ok (.aload_n 0, 1) := by decide +kernel
theorem dX12_goes_236 : decode cX12_goes 236 = .ok (.iload_n 1, 1) := by decide +kernel
theorem dX12_goes_237 : decode cX12_goes 237 = .ok (.iload 13, 2) := by decide +kernel
theorem dX12_goes_239 : decode cX12_goes 239 = .ok (.iload 6, 2) := by decide +kernel
theorem dX12_goes_241 : decode cX12_goes 241 = .ok (.iload 12, 2) := by decide +kernel
theorem dX12_goes_243 : decode cX12_goes 243 = .ok (.iload 11, 2) := by decide +kernel
theorem dX12_goes_245 : decode cX12_goes 245 = .ok (.invokevirtual 232, 3) := by decide +kernel
theorem dX12_goes_248 : decode cX12_goes 248 = .ok (.goto 4, 3) := by decide +kernel
theorem dX12_goes_251 : decode cX12_goes 251 = .ok (.iconst 0, 1) := by decide +kernel
theorem dX12_goes_252 : decode cX12_goes 252 = .ok (.istore 16, 2) := by decide +kernel
theorem dX12_goes_254 : decode cX12_goes 254 = .ok (.iload 16, 2) := by decide +kernel
theorem dX12_goes_256 : decode cX12_goes 256 = .ok (.iload 10, 2) := by decide +kernel
theorem dX12_goes_258 : decode cX12_goes 258 = .ok (.if_icmp .ge 8, 3) := by decide +kernel
theorem dX12_goes_261 : decode cX12_goes 261 = .ok (.iload 16, 2) := by decide +kernel
theorem dX12_goes_263 : decode cX12_goes 263 = .ok (.goto 5, 3) := by decide +kernel
theorem dX12_goes_266 : decode cX12_goes 266 = .ok (.iload 10, 2) := by decide +kernel
theorem dX12_goes_268 : decode cX12_goes 268 = .ok (.istore 16, 2) := by decide +kernel
theorem dX12_goes_270 : decode cX12_goes 270 = .ok (.iload 16, 2) := by decide +kernel
theorem dX12_goes_272 : decode cX12_goes 272 = .ok (.iload 8, 2) := by decide +kernel
theorem dX12_goes_274 : decode cX12_goes 274 = .ok (.if_icmp .ge 8, 3) := by decide +kernel
theorem dX12_goes_277 : decode cX12_goes 277 = .ok (.iload 16, 2) := by decide +kernel
theorem dX12_goes_279 : decode cX12_goes 279 = .ok (.goto 5, 3) := by decide +kernel
theorem dX12_goes_282 : decode cX12_goes 282 = .ok (.iload 8, 2) := by decide +kernel
theorem dX12_goes_284 : decode cX12_goes 284 = .ok (.istore 16, 2) := by decide +kernel
theorem dX12_goes_286 : decode cX12_goes 286 = .ok (.iload 12, 2) := by decide +kernel
theorem dX12_goes_288 : decode cX12_goes 288 = .ok (.iload 15, 2) := by decide +kernel
theorem dX12_goes_290 : decode cX12_goes 290 = .ok (.ifCond .eq 7, 3) := by decide +kernel
theorem dX12_goes_293 : decode cX12_goes 293 = .ok (.iconst 1, 1) := by decide +kernel
theorem dX12_goes_294 : decode cX12_goes 294 = .ok (.goto 4, 3) := by decide +kernel
theorem dX12_goes_297 : decode cX12_goes 297 = .ok (.iconst 0, 1) := by decide +kernel
theorem dX12_goes_298 : decode cX12_goes 298 = .ok (.iadd, 1) := by decide +kernel
theorem dX12_goes_299 : decode cX12_goes 299 = .ok (.istore 12, 2) := by decide +kernel
theorem dX12_goes_301 : decode cX12_goes 301 = .ok (.iload 10, 2) := by decide +kernel
theorem dX12_goes_303 : decode cX12_goes 303 = .ok (.iload 16, 2) := by decide +kernel
theorem dX12_goes_305 : decode cX12_goes 305 = .ok (.isub, 1) := by decide +kernel
theorem dX12_goes_306 : decode cX12_goes 306 = .ok (.istore 10, 2) := by decide +kernel
theorem dX12_goes_308 : decode cX12_goes 308 = .ok (.iload 8, 2) := by decide +kernel
theorem dX12_goes_310 : decode cX12_goes 310 = .ok (.iload 16, 2) := by decide +kernel
theorem dX12_goes_312 : decode cX12_goes 312 = .ok (.isub, 1) := by decide +kernel
theorem dX12_goes_313 : decode cX12_goes 313 = .ok (.istore 8, 2) := by decide +kernel
theorem dX12_goes_315 : decode cX12_goes 315 = .ok (.aload_n 0, 1) := by decide +kernel
theorem dX12_goes_316 : decode cX12_goes 316 = .ok (.getfield 59, 3) := by decide +kernel
theorem dX12_goes_319 : decode cX12_goes 319 = .ok (.bipush 8, 2) := by decide +kernel
theorem dX12_goes_321 : decode cX12_goes 321 = .ok (.iload 6, 2) := by decide +kernel
theorem dX12_goes_323 : decode cX12_goes 323 = .ok (.imul, 1) := by decide +kernel
theorem dX12_goes_324 : decode cX12_goes 324 = .ok (.iload 13, 2) := by decide +kernel
theorem dX12_goes_326 : decode cX12_goes 326 = .ok (.iadd, 1) := by decide +kernel
theorem dX12_goes_327 : decode cX12_goes 327 = .ok (.iload 16, 2) := by decide +kernel
theorem dX12_goes_329 : decode cX12_goes 329 = .ok (.iastore, 1) := by decide +kernel
theorem dX12_goes_330 : decode cX12_goes 330 = .ok (.iload 14, 2) := by decide +kernel
theorem dX12_goes_332 : decode cX12_goes 332 = .ok (.istore 17, 2) := by decide +kernel
theorem dX12_goes_334 : decode cX12_goes 334 = .ok (.iload 7, 2) := by decide +kernel
theorem dX12_goes_336 : decode cX12_goes 336 = .ok (.ifCond .eq 145, 3) := by decide +kernel
theorem dX12_goes_339 : decode cX12_goes 339 = .ok (.iload 14, 2) := by decide +kernel
theorem dX12_goes_341 : decode cX12_goes 341 = .ok (.ifCond .le 140, 3) := by decide +kernel
theorem dX12_goes_344 : decode cX12_goes 344 = .ok (.aload_n 0, 1) := by decide +kernel
theorem dX12_goes_345 : decode cX12_goes 345 = .ok (.getfield 118, 3) := by decide +kernel
theorem dX12_goes_348 : decode cX12_goes 348 = .ok (.iconst 0, 1) := by decide +kernel
theorem dX12_goes_349 : decode cX12_goes 349 = .ok (.iload 14, 2) := by decide +kernel
theorem dX12_goes_351 : decode cX12_goes 351 = .ok (.iastore, 1) := by decide +kernel
theorem dX12_goes_352 : decode cX12_goes 352 = .ok (.aload_n 0, 1) := by decide +kernel
theorem dX12_goes_353 : decode cX12_goes 353 = .ok (.getfield 118, 3) := by decide +kernel
theorem dX12_goes_356 : decode cX12_goes 356 = .ok (.iconst 1, 1) := by decide +kernel
theorem dX12_goes_357 : decode cX12_goes 357 = .ok (.aload_n 0, 1) := by decide +kernel
theorem dX12_goes_358 : decode cX12_goes 358 = .ok (.getfield 13, 3) := by decide +kernel
theorem dX12_goes_361 : decode cX12_goes 361 = .ok (.iload 13, 2) := by decide +kernel
theorem dX12_goes_363 : decode cX12_goes 363 = .ok (.iaload, 1) := by decide +kernel
theorem dX12_goes_364 : decode cX12_goes 364 = .ok (.iastore, 1) := by decide +kernel
theorem dX12_goes_365 : decode cX12_goes 365 = .ok (.aload_n 0, 1) := by decide +kernel
theorem dX12_goes_366 : decode cX12_goes 366 = .ok (.getfield 118, 3) := by decide +kernel
theorem dX12_goes_369 : decode cX12_goes 369 = .ok (.iconst 2, 1) := by decide +kernel
theorem dX12_goes_370 : decode cX12_goes 370 = .ok (.iload 6, 2) := by decide +kernel
theorem dX12_goes_372 : decode cX12_goes 372 = .ok (.iastore, 1) := by decide +kernel
theorem dX12_goes_373 : decode cX12_goes 373 = .ok (.aload_n 0, 1) := by decide +kernel
theorem dX12_goes_374 : decode cX12_goes 374 = .ok (.getfield 118, 3) := by decide +kernel
theorem dX12_goes_377 : decode cX12_goes 377 = .ok (.iconst 3, 1) := by decide +kernel
theorem dX12_goes_378 : decode cX12_goes 378 = .ok (.iload 16, 2) := by decide +kernel
theorem dX12_goes_380 : decode cX12_goes 380 = .ok (.iastore, 1) := by decide +kernel
theorem dX12_goes_381 : decode cX12_goes 381 = .ok (.aload_n 0, 1) := by decide +kernel
theorem dX12_goes_382 : decode cX12_goes 382 = .ok (.getfield 118, 3) := by decide +kernel
theorem dX12_goes_385 : decode cX12_goes 385 = .ok (.iconst 4, 1) := by decide +kernel
theorem dX12_goes_386 : decode cX12_goes 386 = .ok (.iload 11, 2) := by decide +kernel
theorem dX12_goes_388 : decode cX12_goes 388 = .ok (.iastore, 1) := by decide +kernel
theorem dX12_goes_389 : decode cX12_goes 389 = .ok (.aload_n 0, 1) := by decide +kernel
theorem dX12_goes_390 : decode cX12_goes 390 = .ok (.getfield 118, 3) := by decide +kernel
theorem dX12_goes_393 : decode cX12_goes 393 = .ok (.iconst 5, 1) := by decide +kernel
theorem dX12_goes_394 : decode cX12_goes 394 = .ok (.aload_n 0, 1) := by decide +kernel
theorem dX12_goes_395 : decode cX12_goes 395 = .ok (.getfield 38, 3) := by decide +kernel
theorem dX12_goes_398 : decode cX12_goes 398 = .ok (.iload_n 1, 1) := by decide +kernel
theorem dX12_goes_399 : decode cX12_goes 399 = .ok (.iaload, 1) := by decide +kernel
theorem dX12_goes_400 : decode cX12_goes 400 = .ok (.iastore, 1) := by decide +kernel
theorem dX12_goes_401 : decode cX12_goes 401 = .ok (.iload 9, 2) := by decide +kernel
theorem dX12_goes_403 : decode cX12_goes 403 = .ok (.aload_n 0, 1) := by decide +kernel
theorem dX12_goes_404 : decode cX12_goes 404 = .ok (.iconst 1, 1) := by decide +kernel
theorem dX12_goes_405 : decode cX12_goes 405 = .ok (.bipush 99, 2) := by decide +kernel
theorem dX12_goes_407 : decode cX12_goes 407 = .ok (.invokevirtual 236, 3) := by decide +kernel
theorem dX12_goes_410 : decode cX12_goes 410 = .ok (.iadd, 1) := by decide +kernel
theorem dX12_goes_411 : decode cX12_goes 411 = .ok (.istore 9, 2) := by decide +kernel
theorem dX12_goes_413 : decode cX12_goes 413 = .ok (.iload 13, 2) := by decide +kernel
theorem dX12_goes_415 : decode cX12_goes 415 = .ok (.iload_n 3, 1) := by decide +kernel
theorem dX12_goes_416 : decode cX12_goes 416 = .ok (.if_icmp .ne 12, 3) := by decide +kernel
theorem dX12_goes_419 : decode cX12_goes 419 = .ok (.iload 5, 2) := by decide +kernel
theorem dX12_goes_421 : decode cX12_goes 421 = .ok (.ifCond .le 7, 3) := by decide +kernel
theorem dX12_goes_424 : decode cX12_goes 424 = .ok (.iconst 1, 1) := by decide +kernel
theorem dX12_goes_425 : decode cX12_goes 425 = .ok (.goto 4, 3) := by decide +kernel
theorem dX12_goes_428 : decode cX12_goes 428 = .ok (.iconst 0, 1) := by decide +kernel
theorem dX12_goes_429 : decode cX12_goes 429 = .ok (.istore 18, 2) := by decide +kernel
theorem dX12_goes_431 : decode cX12_goes 431 = .ok (.iload 5, 2) := by decide +kernel
theorem dX12_goes_433 : decode cX12_goes 433 = .ok (.iload 18, 2) := by decide +kernel
theorem dX12_goes_435 : decode cX12_goes 435 = .ok (.isub, 1) := by decide +kernel
theorem dX12_goes_436 : decode cX12_goes 436 = .ok (.istore 5, 2) := by decide +kernel
theorem dX12_goes_438 : decode cX12_goes 438 = .ok (.iload 14, 2) := by decide +kernel
theorem dX12_goes_440 : decode cX12_goes 440 = .ok (.iload 16, 2) := by decide +kernel
theorem dX12_goes_442 : decode cX12_goes 442 = .ok (.iadd, 1) := by decide +kernel
theorem dX12_goes_443 : decode cX12_goes 443 = .ok (.iload 18, 2) := by decide +kernel
theorem dX12_goes_445 : decode cX12_goes 445 = .ok (.iadd, 1) := by decide +kernel
theorem dX12_goes_446 : decode cX12_goes 446 = .ok (.aload_n 0, 1) := by decide +kernel
theorem dX12_goes_447 : decode cX12_goes 447 = .ok (.iconst 0, 1) := by decide +kernel
theorem dX12_goes_448 : decode cX12_goes 448 = .ok (.bipush 20, 2) := by decide +kernel
theorem dX12_goes_450 : decode cX12_goes 450 = .ok (.invokevirtual 236, 3) := by decide +kernel
theorem dX12_goes_453 : decode cX12_goes 453 = .ok (.isub, 1) := by decide +kernel
theorem dX12_goes_454 : decode cX12_goes 454 = .ok (.istore 17, 2) := by decide +kernel
theorem dX12_goes_456 : decode cX12_goes 456 = .ok (.iload 17, 2) := by decide +kernel
theorem dX12_goes_458 : decode cX12_goes 458 = .ok (.ifCond .ge 7, 3) := by decide +kernel
theorem dX12_goes_461 : decode cX12_goes 461 = .ok (.iconst 0, 1) := by decide +kernel
theorem dX12_goes_462 : decode cX12_goes 462 = .ok (.goto 17, 3) := by decide +kernel
theorem dX12_goes_465 : decode cX12_goes 465 = .ok (.iload 17, 2) := by decide +kernel
theorem dX12_goes_467 : decode cX12_goes 467 = .ok (.bipush 99, 2) := by decide +kernel
theorem dX12_goes_469 : decode cX12_goes 469 = .ok (.if_icmp .le 8, 3) := by decide +kernel
theorem dX12_goes_472 : decode cX12_goes 472 = .ok (.bipush 99, 2) := by decide +kernel
theorem dX12_goes_474 : decode cX12_goes 474 = .ok (.goto 5, 3) := by decide +kernel
theorem dX12_goes_477 : decode cX12_goes 477 = .ok (.iload 17, 2) := by decide +kernel
theorem dX12_goes_479 : decode cX12_goes 479 = .ok (.istore 17, 2) := by decide +kernel
theorem dX12_goes_481 : decode cX12_goes 481 = .ok (.aload_n 0, 1) := by decide +kernel
theorem dX12_goes_482 : decode cX12_goes 482 = .ok (.getfield 56, 3) := by decide +kernel
theorem dX12_goes_485 : decode cX12_goes 485 = .ok (.bipush 8, 2) := by decide +kernel
theorem dX12_goes_487 : decode cX12_goes 487 = .ok (.iload 6, 2) := by decide +kernel
theorem dX12_goes_489 : decode cX12_goes 489 = .ok (.imul, 1) := by decide +kernel
theorem dX12_goes_490 : decode cX12_goes 490 = .ok (.bipush 8, 2) := by decide +kernel
theorem dX12_goes_492 : decode cX12_goes 492 = .ok (.iadd, 1) := by decide +kernel
theorem dX12_goes_493 : decode cX12_goes 493 = .ok (.iload 13, 2) := by decide +kernel
theorem dX12_goes_495 : decode cX12_goes 495 = .ok (.iadd, 1) := by decide +kernel
theorem dX12_goes_496 : decode cX12_goes 496 = .ok (.iload 17, 2) := by decide +kernel
theorem dX12_goes_498 : decode cX12_goes 498 = .ok (.iastore, 1) := by decide +kernel
theorem dX12_goes_499 : decode cX12_goes 499 = .ok (.iinc 13 1, 3) := by decide +kernel
theorem dX12_goes_502 : decode cX12_goes 502 = .ok (.goto (-323), 3) := by decide +kernel
theorem dX12_goes_505 : decode cX12_goes 505 = .ok (.aload_n 0, 1) := by decide +kernel
theorem dX12_goes_506 : decode cX12_goes 506 = .ok (.getfield 62, 3) := by decide +kernel
theorem dX12_goes_509 : decode cX12_goes 509 = .ok (.iload 6, 2) := by decide +kernel
theorem dX12_goes_511 : decode cX12_goes 511 = .ok (.iconst 1, 1) := by decide +kernel
theorem dX12_goes_512 : decode cX12_goes 512 = .ok (.iadd, 1) := by decide +kernel
theorem dX12_goes_513 : decode cX12_goes 513 = .ok (.iload 7, 2) := by decide +kernel
theorem dX12_goes_515 : decode cX12_goes 515 = .ok (.ifCond .eq 8, 3) := by decide +kernel
theorem dX12_goes_518 : decode cX12_goes 518 = .ok (.iload 8, 2) := by decide +kernel
theorem dX12_goes_520 : decode cX12_goes 520 = .ok (.goto 10, 3) := by decide +kernel
theorem dX12_goes_523 : decode cX12_goes 523 = .ok (.aload_n 0, 1) := by decide +kernel
theorem dX12_goes_524 : decode cX12_goes 524 = .ok (.getfield 62, 3) := by decide +kernel
theorem dX12_goes_527 : decode cX12_goes 527 = .ok (.iload 6, 2) := by decide +kernel
theorem dX12_goes_529 : decode cX12_goes 529 = .ok (.iaload, 1) := by decide +kernel
theorem dX12_goes_530 : decode cX12_goes 530 = .ok (.iastore, 1) := by decide +kernel
theorem dX12_goes_531 : decode cX12_goes 531 = .ok (.aload_n 0, 1) := by decide +kernel
theorem dX12_goes_532 : decode cX12_goes 532 = .ok (.getfield 65, 3) := by decide +kernel
theorem dX12_goes_535 : decode cX12_goes 535 = .ok (.iload 6, 2) := by decide +kernel
theorem dX12_goes_537 : decode cX12_goes 537 = .ok (.iconst 1, 1) := by decide +kernel
theorem dX12_goes_538 : decode cX12_goes 538 = .ok (.iadd, 1) := by decide +kernel
theorem dX12_goes_539 : decode cX12_goes 539 = .ok (.iload 9, 2) := by decide +kernel
theorem dX12_goes_541 : decode cX12_goes 541 = .ok (.iastore, 1) := by decide +kernel
theorem dX12_goes_542 : decode cX12_goes 542 = .ok (.iload 7, 2) := by decide +kernel
theorem dX12_goes_544 : decode cX12_goes 544 = .ok (.ifCond .eq 29, 3) := by decide +kernel
theorem dX12_goes_547 : decode cX12_goes 547 = .ok (.iload 9, 2) := by decide +kernel
theorem dX12_goes_549 : decode cX12_goes 549 = .ok (.aload_n 0, 1) := by decide +kernel
theorem dX12_goes_550 : decode cX12_goes 550 = .ok (.getfield 26, 3) := by decide +kernel
theorem dX12_goes_553 : decode cX12_goes 553 = .ok (.if_icmp .lt 20, 3) := by decide +kernel
theorem dX12_goes_556 : decode cX12_goes 556 = .ok (.aload_n 0, 1) := by decide +kernel
theorem dX12_goes_557 : decode cX12_goes 557 = .ok (.iload 6, 2) := by decide +kernel
theorem dX12_goes_559 : decode cX12_goes 559 = .ok (.iconst 1, 1) := by decide +kernel
theorem dX12_goes_560 : decode cX12_goes 560 = .ok (.iadd, 1) := by decide +kernel
theorem dX12_goes_561 : decode cX12_goes 561 = .ok (.invokevirtual 225, 3) := by decide +kernel
theorem dX12_goes_564 : decode cX12_goes 564 = .ok (.ifCond .le 9, 3) := by decide +kernel
theorem dX12_goes_567 : decode cX12_goes 567 = .ok (.aload_n 0, 1) := by decide +kernel
theorem dX12_goes_568 : decode cX12_goes 568 = .ok (.iload 6, 2) := by decide +kernel
theorem dX12_goes_570 : decode cX12_goes 570 = .ok (.putfield 222, 3) := by decide +kernel
theorem dX12_goes_573 : decode cX12_goes 573 = .ok (.iinc 6 1, 3) := by decide +kernel
theorem dX12_goes_576 : decode cX12_goes 576 = .ok (.goto (-504), 3) := by decide +kernel
theorem dX12_goes_579 : decode cX12_goes 579 = .ok (.return_, 1) := by decide +kernel
theorem dX12_living_0 : decode cX12_living 0 = .ok (.iconst 0, 1) := by decide +kernel
theorem dX12_living_1 : decode cX12_living 1 = .ok (.istore_n 2, 1) := by decide +kernel
theorem dX12_living_2 : decode cX12_living 2 = .ok (.iconst 0, 1) := by decide +kernel
theorem dX12_living_3 : decode cX12_living 3 = .ok (.istore_n 3, 1) := by decide +kernel
theorem dX12_living_4 : decode cX12_living 4 = .ok (.iload_n 3, 1) := by decide +kernel
theorem dX12_living_5 : decode cX12_living 5 = .ok (.aload_n 0, 1) := by decide +kernel
theorem dX12_living_6 : decode cX12_living 6 = .ok (.getfield 130, 3) := by decide +kernel
theorem dX12_living_9 : decode cX12_living 9 = .ok (.if_icmp .ge 31, 3) := by decide +kernel
theorem dX12_living_12 : decode cX12_living 12 = .ok (.iload_n 2, 1) := by decide +kernel
theorem dX12_living_13 : decode cX12_living 13 = .ok (.aload_n 0, 1) := by decide +kernel
theorem dX12_living_14 : decode cX12_living 14 = .ok (.getfield 56, 3) := by decide +kernel
theorem dX12_living_17 : decode cX12_living 17 = .ok (.bipush 8, 2) := by decide +kernel
theorem dX12_living_19 : decode cX12_living 19 = .ok (.iload_n 1, 1) := by decide +kernel
theorem dX12_living_20 : decode cX12_living 20 = .ok (.imul, 1) := by decide +kernel
theorem dX12_living_21 : decode cX12_living 21 = .ok (.iload_n 3, 1) := by decide +kernel
theorem dX12_living_22 : decode cX12_living 22 = .ok (.iadd, 1) := by decide +kernel
theorem dX12_living_23 : decode cX12_living 23 = .ok (.iaload, 1) := by decide +kernel
theorem dX12_living_24 : decode cX12_living 24 = .ok (.ifCond .le 7, 3) := by decide +kernel
theorem dX12_living_27 : decode cX12_living 27 = .ok (.iconst 1, 1) := by decide +kernel
theorem dX12_living_28 : decode cX12_living 28 = .ok (.goto 4, 3) := by decide +kernel
theorem dX12_living_31 : decode cX12_living 31 = .ok (.iconst 0, 1) := by decide +kernel
theorem dX12_living_32 : decode cX12_living 32 = .ok (.iadd, 1) := by decide +kernel
theorem dX12_living_33 : decode cX12_living 33 = .ok (.istore_n 2, 1) := by decide +kernel
theorem dX12_living_34 : decode cX12_living 34 = .ok (.iinc 3 1, 3) := by decide +kernel
theorem dX12_living_37 : decode cX12_living 37 = .ok (.goto (-33), 3) := by decide +kernel
theorem dX12_living_40 : decode cX12_living 40 = .ok (.iload_n 2, 1) := by decide +kernel
theorem dX12_living_41 : decode cX12_living 41 = .ok (.ireturn, 1) := by decide +kernel
theorem dX12_all_0 : decode cX12_all 0 = .ok (.iconst 1, 1) := by decide +kernel
theorem dX12_all_1 : decode cX12_all 1 = .ok (.aload_n 0, 1) := by decide +kernel
theorem dX12_all_2 : decode cX12_all 2 = .ok (.getfield 130, 3) := by decide +kernel
theorem dX12_all_5 : decode cX12_all 5 = .ok (.ishl, 1) := by decide +kernel
theorem dX12_all_6 : decode cX12_all 6 = .ok (.iconst 1, 1) := by decide +kernel
theorem dX12_all_7 : decode cX12_all 7 = .ok (.isub, 1) := by decide +kernel
theorem dX12_all_8 : decode cX12_all 8 = .ok (.ireturn, 1) := by decide +kernel
theorem dX12_goesPlain_0 : decode cX12_goesPlain 0 = .ok (.aload_n 0, 1) := by decide +kernel
theorem dX12_goesPlain_1 : decode cX12_goesPlain 1 = .ok (.iload_n 1, 1) := by decide +kernel
theorem dX12_goesPlain_2 : decode cX12_goesPlain 2 = .ok (.aload_n 0, 1) := by decide +kernel
theorem dX12_goesPlain_3 : decode cX12_goesPlain 3 = .ok (.invokevirtual 239, 3) := by decide +kernel
theorem dX12_goesPlain_6 : decode cX12_goesPlain 6 = .ok (.iconst (-1), 1) := by decide +kernel
theorem dX12_goesPlain_7 : decode cX12_goesPlain 7 = .ok (.iconst 0, 1) := by decide +kernel
theorem dX12_goesPlain_8 : decode cX12_goesPlain 8 = .ok (.invokevirtual 242, 3) := by decide +kernel
theorem dX12_goesPlain_11 : decode cX12_goesPlain 11 = .ok (.return_, 1) := by decide +kernel
theorem dX12_below_0 : decode cX12_below 0 = .ok (.lconst 1, 1) := by decide +kernel
theorem dX12_below_1 : decode cX12_below 1 = .ok (.lstore_n 1, 1) := by decide +kernel
theorem dX12_below_2 : decode cX12_below 2 = .ok (.iconst 0, 1) := by decide +kernel
theorem dX12_below_3 : decode cX12_below 3 = .ok (.istore_n 3, 1) := by decide +kernel
theorem dX12_below_4 : decode cX12_below 4 = .ok (.iload_n 3, 1) := by decide +kernel
theorem dX12_below_5 : decode cX12_below 5 = .ok (.aload_n 0, 1) := by decide +kernel
theorem dX12_below_6 : decode cX12_below 6 = .ok (.getfield 16, 3) := by decide +kernel
theorem dX12_below_9 : decode cX12_below 9 = .ok (.if_icmp .ge 15, 3) := by decide +kernel
theorem dX12_below_12 : decode cX12_below 12 = .ok (.lload_n 1, 1) := by decide +kernel
theorem dX12_below_13 : decode cX12_below 13 = .ok (.ldc2_w 246, 3) := by decide +kernel
theorem dX12_below_16 : decode cX12_below 16 = .ok (.lmul, 1) := by decide +kernel
theorem dX12_below_17 : decode cX12_below 17 = .ok (.lstore_n 1, 1) := by decide +kernel
theorem dX12_below_18 : decode cX12_below 18 = .ok (.iinc 3 1, 3) := by decide +kernel
theorem dX12_below_21 : decode cX12_below 21 = .ok (.goto (-17), 3) := by decide +kernel
theorem dX12_below_24 : decode cX12_below 24 = .ok (.lload_n 1, 1) := by decide +kernel
theorem dX12_below_25 : decode cX12_below 25 = .ok (.lreturn, 1) := by decide +kernel
theorem dX12_homeOf_0 : decode cX12_homeOf 0 = .ok (.aload_n 0, 1) := by decide +kernel
theorem dX12_homeOf_1 : decode cX12_homeOf 1 = .ok (.invokevirtual 248, 3) := by decide +kernel
theorem dX12_homeOf_4 : decode cX12_homeOf 4 = .ok (.lstore_n 2, 1) := by decide +kernel
theorem dX12_homeOf_5 : decode cX12_homeOf 5 = .ok (.lconst 0, 1) := by decide +kernel
theorem dX12_homeOf_6 : decode cX12_homeOf 6 = .ok (.lstore 4, 2) := by decide +kernel
theorem dX12_homeOf_8 : decode cX12_homeOf 8 = .ok (.aload_n 0, 1) := by decide +kernel
theorem dX12_homeOf_9 : decode cX12_homeOf 9 = .ok (.getfield 222, 3) := by decide +kernel
theorem dX12_homeOf_12 : decode cX12_homeOf 12 = .ok (.iconst (-1), 1) := by decide +kernel
theorem dX12_homeOf_13 : decode cX12_homeOf 13 = .ok (.if_icmp .ne 12, 3) := by decide +kernel
theorem dX12_homeOf_16 : decode cX12_homeOf 16 = .ok (.aload_n 0, 1) := by decide +kernel
theorem dX12_homeOf_17 : decode cX12_homeOf 17 = .ok (.getfield 16, 3) := by decide +kernel
theorem dX12_homeOf_20 : decode cX12_homeOf 20 = .ok (.iconst 1, 1) := by decide +kernel
theorem dX12_homeOf_21 : decode cX12_homeOf 21 = .ok (.isub, 1) := by decide +kernel
theorem dX12_homeOf_22 : decode cX12_homeOf 22 = .ok (.goto 7, 3) := by decide +kernel
theorem dX12_homeOf_25 : decode cX12_homeOf 25 = .ok (.aload_n 0, 1) := by decide +kernel
theorem dX12_homeOf_26 : decode cX12_homeOf 26 = .ok (.getfield 222, 3) := by decide +kernel
theorem dX12_homeOf_29 : decode cX12_homeOf 29 = .ok (.istore 6, 2) := by decide +kernel
theorem dX12_homeOf_31 : decode cX12_homeOf 31 = .ok (.iconst 0, 1) := by decide +kernel
theorem dX12_homeOf_32 : decode cX12_homeOf 32 = .ok (.istore 7, 2) := by decide +kernel
theorem dX12_homeOf_34 : decode cX12_homeOf 34 = .ok (.iload 7, 2) := by decide +kernel
theorem dX12_homeOf_36 : decode cX12_homeOf 36 = .ok (.iload 6, 2) := by decide +kernel
theorem dX12_homeOf_38 : decode cX12_homeOf 38 = .ok (.if_icmp .gt 56, 3) := by decide +kernel
theorem dX12_homeOf_41 : decode cX12_homeOf 41 = .ok (.lload_n 2, 1) := by decide +kernel
theorem dX12_homeOf_42 : decode cX12_homeOf 42 = .ok (.ldc2_w 246, 3) := by decide +kernel
theorem dX12_homeOf_45 : decode cX12_homeOf 45 = .ok (.ldiv, 1) := by decide +kernel
theorem dX12_homeOf_46 : decode cX12_homeOf 46 = .ok (.aload_n 0, 1) := by decide +kernel
theorem dX12_homeOf_47 : decode cX12_homeOf 47 = .ok (.getfield 29, 3) := by decide +kernel
theorem dX12_homeOf_50 : decode cX12_homeOf 50 = .ok (.iload 7, 2) := by decide +kernel
theorem dX12_homeOf_52 : decode cX12_homeOf 52 = .ok (.iaload, 1) := by decide +kernel
theorem dX12_homeOf_53 : decode cX12_homeOf 53 = .ok (.i2l, 1) := by decide +kernel
theorem dX12_homeOf_54 : decode cX12_homeOf 54 = .ok (.lmul, 1) := by decide +kernel
theorem dX12_homeOf_55 : decode cX12_homeOf 55 = .ok (.lstore 8, 2) := by decide +kernel
theorem dX12_homeOf_57 : decode cX12_homeOf 57 = .ok (.lload 4, 2) := by decide +kernel
theorem dX12_homeOf_59 : decode cX12_homeOf 59 = .ok (.aload_n 0, 1) := by decide +kernel
theorem dX12_homeOf_60 : decode cX12_homeOf 60 = .ok (.getfield 56, 3) := by decide +kernel
theorem dX12_homeOf_63 : decode cX12_homeOf 63 = .ok (.bipush 8, 2) := by decide +kernel
theorem dX12_homeOf_65 : decode cX12_homeOf 65 = .ok (.iload 7, 2) := by decide +kernel
theorem dX12_homeOf_67 : decode cX12_homeOf 67 = .ok (.imul, 1) := by decide +kernel
theorem dX12_homeOf_68 : decode cX12_homeOf 68 = .ok (.iload_n 1, 1) := by decide +kernel
theorem dX12_homeOf_69 : decode cX12_homeOf 69 = .ok (.iadd, 1) := by decide +kernel
theorem dX12_homeOf_70 : decode cX12_homeOf 70 = .ok (.iaload, 1) := by decide +kernel
theorem dX12_homeOf_71 : decode cX12_homeOf 71 = .ok (.ifCond .le 8, 3) := by decide +kernel
theorem dX12_homeOf_74 : decode cX12_homeOf 74 = .ok (.lload 8, 2) := by decide +kernel
theorem dX12_homeOf_76 : decode cX12_homeOf 76 = .ok (.goto 4, 3) := by decide +kernel
theorem dX12_homeOf_79 : decode cX12_homeOf 79 = .ok (.lconst 0, 1) := by decide +kernel
theorem dX12_homeOf_80 : decode cX12_homeOf 80 = .ok (.ladd, 1) := by decide +kernel
theorem dX12_homeOf_81 : decode cX12_homeOf 81 = .ok (.lstore 4, 2) := by decide +kernel
theorem dX12_homeOf_83 : decode cX12_homeOf 83 = .ok (.lload_n 2, 1) := by decide +kernel
theorem dX12_homeOf_84 : decode cX12_homeOf 84 = .ok (.lload 8, 2) := by decide +kernel
theorem dX12_homeOf_86 : decode cX12_homeOf 86 = .ok (.lsub, 1) := by decide +kernel
theorem dX12_homeOf_87 : decode cX12_homeOf 87 = .ok (.lstore_n 2, 1) := by decide +kernel
theorem dX12_homeOf_88 : decode cX12_homeOf 88 = .ok (.iinc 7 1, 3) := by decide +kernel
theorem dX12_homeOf_91 : decode cX12_homeOf 91 = .ok (.goto (-57), 3) := by decide +kernel
theorem dX12_homeOf_94 : decode cX12_homeOf 94 = .ok (.aload_n 0, 1) := by decide +kernel
theorem dX12_homeOf_95 : decode cX12_homeOf 95 = .ok (.getfield 222, 3) := by decide +kernel
theorem dX12_homeOf_98 : decode cX12_homeOf 98 = .ok (.iconst (-1), 1) := by decide +kernel
theorem dX12_homeOf_99 : decode cX12_homeOf 99 = .ok (.if_icmp .eq 30, 3) := by decide +kernel
theorem dX12_homeOf_102 : decode cX12_homeOf 102 = .ok (.aload_n 0, 1) := by decide +kernel
theorem dX12_homeOf_103 : decode cX12_homeOf 103 = .ok (.getfield 56, 3) := by decide +kernel
theorem dX12_homeOf_106 : decode cX12_homeOf 106 = .ok (.bipush 8, 2) := by decide +kernel
theorem dX12_homeOf_108 : decode cX12_homeOf 108 = .ok (.aload_n 0, 1) := by decide +kernel
theorem dX12_homeOf_109 : decode cX12_homeOf 109 = .ok (.getfield 222, 3) := by decide +kernel
theorem dX12_homeOf_112 : decode cX12_homeOf 112 = .ok (.imul, 1) := by decide +kernel
theorem dX12_homeOf_113 : decode cX12_homeOf 113 = .ok (.bipush 8, 2) := by decide +kernel
theorem dX12_homeOf_115 : decode cX12_homeOf 115 = .ok (.iadd, 1) := by decide +kernel
theorem dX12_homeOf_116 : decode cX12_homeOf 116 = .ok (.iload_n 1, 1) := by decide +kernel
theorem dX12_homeOf_117 : decode cX12_homeOf 117 = .ok (.iadd, 1) := by decide +kernel
theorem dX12_homeOf_118 : decode cX12_homeOf 118 = .ok (.iaload, 1) := by decide +kernel
theorem dX12_homeOf_119 : decode cX12_homeOf 119 = .ok (.ifCond .le 10, 3) := by decide +kernel
theorem dX12_homeOf_122 : decode cX12_homeOf 122 = .ok (.lload 4, 2) := by decide +kernel
theorem dX12_homeOf_124 : decode cX12_homeOf 124 = .ok (.lload_n 2, 1) := by decide +kernel
theorem dX12_homeOf_125 : decode cX12_homeOf 125 = .ok (.ladd, 1) := by decide +kernel
theorem dX12_homeOf_126 : decode cX12_homeOf 126 = .ok (.goto 5, 3) := by decide +kernel
theorem dX12_homeOf_129 : decode cX12_homeOf 129 = .ok (.lload 4, 2) := by decide +kernel
theorem dX12_homeOf_131 : decode cX12_homeOf 131 = .ok (.lreturn, 1) := by decide +kernel
theorem dX12_lowest_0 : decode cX12_lowest 0 = .ok (.lload_n 0, 1) := by decide +kernel
theorem dX12_lowest_1 : decode cX12_lowest 1 = .ok (.lconst 0, 1) := by decide +kernel
theorem dX12_lowest_2 : decode cX12_lowest 2 = .ok (.lcmp, 1) := by decide +kernel
theorem dX12_lowest_3 : decode cX12_lowest 3 = .ok (.ifCond .ne 7, 3) := by decide +kernel
theorem dX12_lowest_6 : decode cX12_lowest 6 = .ok (.iload 4, 2) := by decide +kernel
theorem dX12_lowest_8 : decode cX12_lowest 8 = .ok (.i2l, 1) := by decide +kernel
theorem dX12_lowest_9 : decode cX12_lowest 9 = .ok (.lreturn, 1) := by decide +kernel
theorem dX12_lowest_10 : decode cX12_lowest 10 = .ok (.lload_n 0, 1) := by decide +kernel
theorem dX12_lowest_11 : decode cX12_lowest 11 = .ok (.lconst 0, 1) := by decide +kernel
theorem dX12_lowest_12 : decode cX12_lowest 12 = .ok (.lcmp, 1) := by decide +kernel
theorem dX12_lowest_13 : decode cX12_lowest 13 = .ok (.ifCond .ge 8, 3) := by decide +kernel
theorem dX12_lowest_16 : decode cX12_lowest 16 = .ok (.lload_n 0, 1) := by decide +kernel
theorem dX12_lowest_17 : decode cX12_lowest 17 = .ok (.lneg, 1) := by decide +kernel
theorem dX12_lowest_18 : decode cX12_lowest 18 = .ok (.goto 4, 3) := by decide +kernel
theorem dX12_lowest_21 : decode cX12_lowest 21 = .ok (.lload_n 0, 1) := by decide +kernel
theorem dX12_lowest_22 : decode cX12_lowest 22 = .ok (.lstore 5, 2) := by decide +kernel
theorem dX12_lowest_24 : decode cX12_lowest 24 = .ok (.lload_n 2, 1) := by decide +kernel
theorem dX12_lowest_25 : decode cX12_lowest 25 = .ok (.lstore 7, 2) := by decide +kernel
theorem dX12_lowest_27 : decode cX12_lowest 27 = .ok (.lload 7, 2) := by decide +kernel
theorem dX12_lowest_29 : decode cX12_lowest 29 = .ok (.lconst 0, 1) := by decide +kernel
theorem dX12_lowest_30 : decode cX12_lowest 30 = .ok (.lcmp, 1) := by decide +kernel
theorem dX12_lowest_31 : decode cX12_lowest 31 = .ok (.ifCond .eq 21, 3) := by decide +kernel
theorem dX12_lowest_34 : decode cX12_lowest 34 = .ok (.lload 5, 2) := by decide +kernel
theorem dX12_lowest_36 : decode cX12_lowest 36 = .ok (.lload 7, 2) := by decide +kernel
theorem dX12_lowest_38 : decode cX12_lowest 38 = .ok (.lrem, 1) := by decide +kernel
theorem dX12_lowest_39 : decode cX12_lowest 39 = .ok (.lstore 9, 2) := by decide +kernel
theorem dX12_lowest_41 : decode cX12_lowest 41 = .ok (.lload 7, 2) := by decide +kernel
theorem dX12_lowest_43 : decode cX12_lowest 43 = .ok (.lstore 5, 2) := by decide +kernel
theorem dX12_lowest_45 : decode cX12_lowest 45 = .ok (.lload 9, 2) := by decide +kernel
theorem dX12_lowest_47 : decode cX12_lowest 47 = .ok (.lstore 7, 2) := by decide +kernel
theorem dX12_lowest_49 : decode cX12_lowest 49 = .ok (.goto (-22), 3) := by decide +kernel
theorem dX12_lowest_52 : decode cX12_lowest 52 = .ok (.iload 4, 2) := by decide +kernel
theorem dX12_lowest_54 : decode cX12_lowest 54 = .ok (.ifCond .ne 7, 3) := by decide +kernel
theorem dX12_lowest_57 : decode cX12_lowest 57 = .ok (.lload_n 0, 1) := by decide +kernel
theorem dX12_lowest_58 : decode cX12_lowest 58 = .ok (.goto 4, 3) := by decide +kernel
theorem dX12_lowest_61 : decode cX12_lowest 61 = .ok (.lload_n 2, 1) := by decide +kernel
theorem dX12_lowest_62 : decode cX12_lowest 62 = .ok (.lload 5, 2) := by decide +kernel
theorem dX12_lowest_64 : decode cX12_lowest 64 = .ok (.ldiv, 1) := by decide +kernel
theorem dX12_lowest_65 : decode cX12_lowest 65 = .ok (.lreturn, 1) := by decide +kernel
theorem dX12_home_0 : decode cX12_home 0 = .ok (.aload_n 0, 1) := by decide +kernel
theorem dX12_home_1 : decode cX12_home 1 = .ok (.iload_n 1, 1) := by decide +kernel
theorem dX12_home_2 : decode cX12_home 2 = .ok (.invokevirtual 154, 3) := by decide +kernel
theorem dX12_home_5 : decode cX12_home 5 = .ok (.ifCond .eq 20, 3) := by decide +kernel
theorem dX12_home_8 : decode cX12_home 8 = .ok (.aload_n 0, 1) := by decide +kernel
theorem dX12_home_9 : decode cX12_home 9 = .ok (.iload_n 2, 1) := by decide +kernel
theorem dX12_home_10 : decode cX12_home 10 = .ok (.invokevirtual 140, 3) := by decide +kernel
theorem dX12_home_13 : decode cX12_home 13 = .ok (.ifCond .eq 12, 3) := by decide +kernel
theorem dX12_home_16 : decode cX12_home 16 = .ok (.iload_n 3, 1) := by decide +kernel
theorem dX12_home_17 : decode cX12_home 17 = .ok (.iconst 0, 1) := by decide +kernel
theorem dX12_home_18 : decode cX12_home 18 = .ok (.iconst 1, 1) := by decide +kernel
theorem dX12_home_19 : decode cX12_home 19 = .ok (.invokestatic 133, 3) := by decide +kernel
theorem dX12_home_22 : decode cX12_home 22 = .ok (.ifCond .ne 7, 3) := by decide +kernel
theorem dX12_home_25 : decode cX12_home 25 = .ok (.ldc2_w 251, 3) := by decide +kernel
theorem dX12_home_28 : decode cX12_home 28 = .ok (.lreturn, 1) := by decide +kernel
theorem dX12_home_29 : decode cX12_home 29 = .ok (.aload_n 0, 1) := by decide +kernel
theorem dX12_home_30 : decode cX12_home 30 = .ok (.iload_n 1, 1) := by decide +kernel
theorem dX12_home_31 : decode cX12_home 31 = .ok (.invokevirtual 253, 3) := by decide +kernel
theorem dX12_home_34 : decode cX12_home 34 = .ok (.aload_n 0, 1) := by decide +kernel
theorem dX12_home_35 : decode cX12_home 35 = .ok (.iload_n 2, 1) := by decide +kernel
theorem dX12_home_36 : decode cX12_home 36 = .ok (.invokevirtual 256, 3) := by decide +kernel
theorem dX12_home_39 : decode cX12_home 39 = .ok (.aload_n 0, 1) := by decide +kernel
theorem dX12_home_40 : decode cX12_home 40 = .ok (.invokevirtual 248, 3) := by decide +kernel
theorem dX12_home_43 : decode cX12_home 43 = .ok (.iload_n 3, 1) := by decide +kernel
theorem dX12_home_44 : decode cX12_home 44 = .ok (.invokestatic 260, 3) := by decide +kernel
theorem dX12_home_47 : decode cX12_home 47 = .ok (.lreturn, 1) := by decide +kernel
theorem dX12_meanOf_0 : decode cX12_meanOf 0 = .ok (.aload_n 0, 1) := by decide +kernel
theorem dX12_meanOf_1 : decode cX12_meanOf 1 = .ok (.iload_n 1, 1) := by decide +kernel
theorem dX12_meanOf_2 : decode cX12_meanOf 2 = .ok (.invokevirtual 253, 3) := by decide +kernel
theorem dX12_meanOf_5 : decode cX12_meanOf 5 = .ok (.lconst 0, 1) := by decide +kernel
theorem dX12_meanOf_6 : decode cX12_meanOf 6 = .ok (.lstore_n 3, 1) := by decide +kernel
theorem dX12_meanOf_7 : decode cX12_meanOf 7 = .ok (.lconst 0, 1) := by decide +kernel
theorem dX12_meanOf_8 : decode cX12_meanOf 8 = .ok (.lstore 5, 2) := by decide +kernel
theorem dX12_meanOf_10 : decode cX12_meanOf 10 = .ok (.iconst 0, 1) := by decide +kernel
theorem dX12_meanOf_11 : decode cX12_meanOf 11 = .ok (.istore 7, 2) := by decide +kernel
theorem dX12_meanOf_13 : decode cX12_meanOf 13 = .ok (.iload 7, 2) := by decide +kernel
theorem dX12_meanOf_15 : decode cX12_meanOf 15 = .ok (.aload_n 0, 1) := by decide +kernel
theorem dX12_meanOf_16 : decode cX12_meanOf 16 = .ok (.getfield 130, 3) := by decide +kernel
theorem dX12_meanOf_19 : decode cX12_meanOf 19 = .ok (.if_icmp .ge 44, 3) := by decide +kernel
theorem dX12_meanOf_22 : decode cX12_meanOf 22 = .ok (.aload_n 0, 1) := by decide +kernel
theorem dX12_meanOf_23 : decode cX12_meanOf 23 = .ok (.iload 7, 2) := by decide +kernel
theorem dX12_meanOf_25 : decode cX12_meanOf 25 = .ok (.invokevirtual 256, 3) := by decide +kernel
theorem dX12_meanOf_28 : decode cX12_meanOf 28 = .ok (.lstore 8, 2) := by decide +kernel
theorem dX12_meanOf_30 : decode cX12_meanOf 30 = .ok (.lload_n 3, 1) := by decide +kernel
theorem dX12_meanOf_31 : decode cX12_meanOf 31 = .ok (.lload 8, 2) := by decide +kernel
theorem dX12_meanOf_33 : decode cX12_meanOf 33 = .ok (.ladd, 1) := by decide +kernel
theorem dX12_meanOf_34 : decode cX12_meanOf 34 = .ok (.lstore_n 3, 1) := by decide +kernel
theorem dX12_meanOf_35 : decode cX12_meanOf 35 = .ok (.iload 7, 2) := by decide +kernel
theorem dX12_meanOf_37 : decode cX12_meanOf 37 = .ok (.ifCond .eq 11, 3) := by decide +kernel
theorem dX12_meanOf_40 : decode cX12_meanOf 40 = .ok (.lload 8, 2) := by decide +kernel
theorem dX12_meanOf_42 : decode cX12_meanOf 42 = .ok (.lload 5, 2) := by decide +kernel
theorem dX12_meanOf_44 : decode cX12_meanOf 44 = .ok (.lcmp, 1) := by decide +kernel
theorem dX12_meanOf_45 : decode cX12_meanOf 45 = .ok (.ifCond .ge 8, 3) := by decide +kernel
theorem dX12_meanOf_48 : decode cX12_meanOf 48 = .ok (.lload 8, 2) := by decide +kernel
theorem dX12_meanOf_50 : decode cX12_meanOf 50 = .ok (.goto 5, 3) := by decide +kernel
theorem dX12_meanOf_53 : decode cX12_meanOf 53 = .ok (.lload 5, 2) := by decide +kernel
theorem dX12_meanOf_55 : decode cX12_meanOf 55 = .ok (.lstore 5, 2) := by decide +kernel
theorem dX12_meanOf_57 : decode cX12_meanOf 57 = .ok (.iinc 7 1, 3) := by decide +kernel
theorem dX12_meanOf_60 : decode cX12_meanOf 60 = .ok (.goto (-47), 3) := by decide +kernel
theorem dX12_meanOf_63 : decode cX12_meanOf 63 = .ok (.iload_n 2, 1) := by decide +kernel
theorem dX12_meanOf_64 : decode cX12_meanOf 64 = .ok (.ifCond .ne 7, 3) := by decide +kernel
theorem dX12_meanOf_67 : decode cX12_meanOf 67 = .ok (.lload_n 3, 1) := by decide +kernel
theorem dX12_meanOf_68 : decode cX12_meanOf 68 = .ok (.goto 5, 3) := by decide +kernel
theorem dX12_meanOf_71 : decode cX12_meanOf 71 = .ok (.lload 5, 2) := by decide +kernel
theorem dX12_meanOf_73 : decode cX12_meanOf 73 = .ok (.lreturn, 1) := by decide +kernel
theorem dX12_mean_0 : decode cX12_mean 0 = .ok (.aload_n 0, 1) := by decide +kernel
theorem dX12_mean_1 : decode cX12_mean 1 = .ok (.iload_n 1, 1) := by decide +kernel
theorem dX12_mean_2 : decode cX12_mean 2 = .ok (.invokevirtual 154, 3) := by decide +kernel
theorem dX12_mean_5 : decode cX12_mean 5 = .ok (.ifCond .eq 38, 3) := by decide +kernel
theorem dX12_mean_8 : decode cX12_mean 8 = .ok (.iload_n 2, 1) := by decide +kernel
theorem dX12_mean_9 : decode cX12_mean 9 = .ok (.iconst 0, 1) := by decide +kernel
theorem dX12_mean_10 : decode cX12_mean 10 = .ok (.iconst 1, 1) := by decide +kernel
theorem dX12_mean_11 : decode cX12_mean 11 = .ok (.invokestatic 133, 3) := by decide +kernel
theorem dX12_mean_14 : decode cX12_mean 14 = .ok (.ifCond .eq 29, 3) := by decide +kernel
theorem dX12_mean_17 : decode cX12_mean 17 = .ok (.iload_n 3, 1) := by decide +kernel
theorem dX12_mean_18 : decode cX12_mean 18 = .ok (.iconst 0, 1) := by decide +kernel
theorem dX12_mean_19 : decode cX12_mean 19 = .ok (.iconst 1, 1) := by decide +kernel
theorem dX12_mean_20 : decode cX12_mean 20 = .ok (.invokestatic 133, 3) := by decide +kernel
theorem dX12_mean_23 : decode cX12_mean 23 = .ok (.ifCond .eq 20, 3) := by decide +kernel
theorem dX12_mean_26 : decode cX12_mean 26 = .ok (.aload_n 0, 1) := by decide +kernel
theorem dX12_mean_27 : decode cX12_mean 27 = .ok (.iload_n 1, 1) := by decide +kernel
theorem dX12_mean_28 : decode cX12_mean 28 = .ok (.iload_n 2, 1) := by decide +kernel
theorem dX12_mean_29 : decode cX12_mean 29 = .ok (.invokevirtual 264, 3) := by decide +kernel
theorem dX12_mean_32 : decode cX12_mean 32 = .ok (.aload_n 0, 1) := by decide +kernel
theorem dX12_mean_33 : decode cX12_mean 33 = .ok (.invokevirtual 248, 3) := by decide +kernel
theorem dX12_mean_36 : decode cX12_mean 36 = .ok (.iload_n 3, 1) := by decide +kernel
theorem dX12_mean_37 : decode cX12_mean 37 = .ok (.invokestatic 260, 3) := by decide +kernel
theorem dX12_mean_40 : decode cX12_mean 40 = .ok (.goto 6, 3) := by decide +kernel
theorem dX12_mean_43 : decode cX12_mean 43 = .ok (.ldc2_w 251, 3) := by decide +kernel
theorem dX12_mean_46 : decode cX12_mean 46 = .ok (.lreturn, 1) := by decide +kernel
theorem dX12_told_0 : decode cX12_told 0 = .ok (.aload_n 0, 1) := by decide +kernel
theorem dX12_told_1 : decode cX12_told 1 = .ok (.iload_n 1, 1) := by decide +kernel
theorem dX12_told_2 : decode cX12_told 2 = .ok (.invokevirtual 154, 3) := by decide +kernel
theorem dX12_told_5 : decode cX12_told 5 = .ok (.ifCond .eq 23, 3) := by decide +kernel
theorem dX12_told_8 : decode cX12_told 8 = .ok (.iload_n 2, 1) := by decide +kernel
theorem dX12_told_9 : decode cX12_told 9 = .ok (.iconst 0, 1) := by decide +kernel
theorem dX12_told_10 : decode cX12_told 10 = .ok (.aload_n 0, 1) := by decide +kernel
theorem dX12_told_11 : decode cX12_told 11 = .ok (.getfield 16, 3) := by decide +kernel
theorem dX12_told_14 : decode cX12_told 14 = .ok (.invokestatic 133, 3) := by decide +kernel
theorem dX12_told_17 : decode cX12_told 17 = .ok (.ifCond .eq 11, 3) := by decide +kernel
theorem dX12_told_20 : decode cX12_told 20 = .ok (.aload_n 0, 1) := by decide +kernel
theorem dX12_told_21 : decode cX12_told 21 = .ok (.iload_n 3, 1) := by decide +kernel
theorem dX12_told_22 : decode cX12_told 22 = .ok (.invokevirtual 140, 3) := by decide +kernel
theorem dX12_told_25 : decode cX12_told 25 = .ok (.ifCond .ne 6, 3) := by decide +kernel
theorem dX12_told_28 : decode cX12_told 28 = .ok (.bipush (-5), 2) := by decide +kernel
theorem dX12_told_30 : decode cX12_told 30 = .ok (.ireturn, 1) := by decide +kernel
theorem dX12_told_31 : decode cX12_told 31 = .ok (.iload 4, 2) := by decide +kernel
theorem dX12_told_33 : decode cX12_told 33 = .ok (.iconst 0, 1) := by decide +kernel
theorem dX12_told_34 : decode cX12_told 34 = .ok (.iconst 3, 1) := by decide +kernel
theorem dX12_told_35 : decode cX12_told 35 = .ok (.invokestatic 133, 3) := by decide +kernel
theorem dX12_told_38 : decode cX12_told 38 = .ok (.ifCond .eq 17, 3) := by decide +kernel
theorem dX12_told_41 : decode cX12_told 41 = .ok (.iload 4, 2) := by decide +kernel
theorem dX12_told_43 : decode cX12_told 43 = .ok (.iconst 1, 1) := by decide +kernel
theorem dX12_told_44 : decode cX12_told 44 = .ok (.if_icmp .ne 14, 3) := by decide +kernel
theorem dX12_told_47 : decode cX12_told 47 = .ok (.iload_n 2, 1) := by decide +kernel
theorem dX12_told_48 : decode cX12_told 48 = .ok (.aload_n 0, 1) := by decide +kernel
theorem dX12_told_49 : decode cX12_told 49 = .ok (.getfield 16, 3) := by decide +kernel
theorem dX12_told_52 : decode cX12_told 52 = .ok (.if_icmp .ne 6, 3) := by decide +kernel
theorem dX12_told_55 : decode cX12_told 55 = .ok (.bipush (-7), 2) := by decide +kernel
theorem dX12_told_57 : decode cX12_told 57 = .ok (.ireturn, 1) := by decide +kernel
theorem dX12_told_58 : decode cX12_told 58 = .ok (.aload_n 0, 1) := by decide +kernel
theorem dX12_told_59 : decode cX12_told 59 = .ok (.iload_n 1, 1) := by decide +kernel
theorem dX12_told_60 : decode cX12_told 60 = .ok (.invokevirtual 253, 3) := by decide +kernel
theorem dX12_told_63 : decode cX12_told 63 = .ok (.iload 4, 2) := by decide +kernel
theorem dX12_told_65 : decode cX12_told 65 = .ok (.ifCond .ne 17, 3) := by decide +kernel
theorem dX12_told_68 : decode cX12_told 68 = .ok (.aload_n 0, 1) := by decide +kernel
theorem dX12_told_69 : decode cX12_told 69 = .ok (.getfield 56, 3) := by decide +kernel
theorem dX12_told_72 : decode cX12_told 72 = .ok (.bipush 8, 2) := by decide +kernel
theorem dX12_told_74 : decode cX12_told 74 = .ok (.iload_n 2, 1) := by decide +kernel
theorem dX12_told_75 : decode cX12_told 75 = .ok (.imul, 1) := by decide +kernel
theorem dX12_told_76 : decode cX12_told 76 = .ok (.iload_n 3, 1) := by decide +kernel
theorem dX12_told_77 : decode cX12_told 77 = .ok (.iadd, 1) := by decide +kernel
theorem dX12_told_78 : decode cX12_told 78 = .ok (.iaload, 1) := by decide +kernel
theorem dX12_told_79 : decode cX12_told 79 = .ok (.goto 44, 3) := by decide +kernel
theorem dX12_told_82 : decode cX12_told 82 = .ok (.iload 4, 2) := by decide +kernel
theorem dX12_told_84 : decode cX12_told 84 = .ok (.iconst 1, 1) := by decide +kernel
theorem dX12_told_85 : decode cX12_told 85 = .ok (.if_icmp .ne 17, 3) := by decide +kernel
theorem dX12_told_88 : decode cX12_told 88 = .ok (.aload_n 0, 1) := by decide +kernel
theorem dX12_told_89 : decode cX12_told 89 = .ok (.getfield 59, 3) := by decide +kernel
theorem dX12_told_92 : decode cX12_told 92 = .ok (.bipush 8, 2) := by decide +kernel
theorem dX12_told_94 : decode cX12_told 94 = .ok (.iload_n 2, 1) := by decide +kernel
theorem dX12_told_95 : decode cX12_told 95 = .ok (.imul, 1) := by decide +kernel
theorem dX12_told_96 : decode cX12_told 96 = .ok (.iload_n 3, 1) := by decide +kernel
theorem dX12_told_97 : decode cX12_told 97 = .ok (.iadd, 1) := by decide +kernel
theorem dX12_told_98 : decode cX12_told 98 = .ok (.iaload, 1) := by decide +kernel
theorem dX12_told_99 : decode cX12_told 99 = .ok (.goto 24, 3) := by decide +kernel
theorem dX12_told_102 : decode cX12_told 102 = .ok (.iload 4, 2) := by decide +kernel
theorem dX12_told_104 : decode cX12_told 104 = .ok (.iconst 2, 1) := by decide +kernel
theorem dX12_told_105 : decode cX12_told 105 = .ok (.if_icmp .ne 12, 3) := by decide +kernel
theorem dX12_told_108 : decode cX12_told 108 = .ok (.aload_n 0, 1) := by decide +kernel
theorem dX12_told_109 : decode cX12_told 109 = .ok (.getfield 62, 3) := by decide +kernel
theorem dX12_told_112 : decode cX12_told 112 = .ok (.iload_n 2, 1) := by decide +kernel
theorem dX12_told_113 : decode cX12_told 113 = .ok (.iaload, 1) := by decide +kernel
theorem dX12_told_114 : decode cX12_told 114 = .ok (.goto 9, 3) := by decide +kernel
theorem dX12_told_117 : decode cX12_told 117 = .ok (.aload_n 0, 1) := by decide +kernel
theorem dX12_told_118 : decode cX12_told 118 = .ok (.getfield 65, 3) := by decide +kernel
theorem dX12_told_121 : decode cX12_told 121 = .ok (.iload_n 2, 1) := by decide +kernel
theorem dX12_told_122 : decode cX12_told 122 = .ok (.iaload, 1) := by decide +kernel
theorem dX12_told_123 : decode cX12_told 123 = .ok (.ireturn, 1) := by decide +kernel
theorem dX12_ends_0 : decode cX12_ends 0 = .ok (.aload_n 0, 1) := by decide +kernel
theorem dX12_ends_1 : decode cX12_ends 1 = .ok (.iload_n 1, 1) := by decide +kernel
theorem dX12_ends_2 : decode cX12_ends 2 = .ok (.invokevirtual 154, 3) := by decide +kernel
theorem dX12_ends_5 : decode cX12_ends 5 = .ok (.ifCond .ne 6, 3) := by decide +kernel
theorem dX12_ends_8 : decode cX12_ends 8 = .ok (.bipush (-5), 2) := by decide +kernel
theorem dX12_ends_10 : decode cX12_ends 10 = .ok (.ireturn, 1) := by decide +kernel
theorem dX12_ends_11 : decode cX12_ends 11 = .ok (.iload_n 2, 1) := by decide +kernel
theorem dX12_ends_12 : decode cX12_ends 12 = .ok (.iconst 0, 1) := by decide +kernel
theorem dX12_ends_13 : decode cX12_ends 13 = .ok (.iconst 2, 1) := by decide +kernel
theorem dX12_ends_14 : decode cX12_ends 14 = .ok (.invokestatic 133, 3) := by decide +kernel
theorem dX12_ends_17 : decode cX12_ends 17 = .ok (.ifCond .ne 6, 3) := by decide +kernel
theorem dX12_ends_20 : decode cX12_ends 20 = .ok (.bipush (-7), 2) := by decide +kernel
theorem dX12_ends_22 : decode cX12_ends 22 = .ok (.ireturn, 1) := by decide +kernel
theorem dX12_ends_23 : decode cX12_ends 23 = .ok (.aload_n 0, 1) := by decide +kernel
theorem dX12_ends_24 : decode cX12_ends 24 = .ok (.iload_n 1, 1) := by decide +kernel
theorem dX12_ends_25 : decode cX12_ends 25 = .ok (.invokevirtual 253, 3) := by decide +kernel
theorem dX12_ends_28 : decode cX12_ends 28 = .ok (.iload_n 2, 1) := by decide +kernel
theorem dX12_ends_29 : decode cX12_ends 29 = .ok (.iconst 2, 1) := by decide +kernel
theorem dX12_ends_30 : decode cX12_ends 30 = .ok (.if_icmp .ge 23, 3) := by decide +kernel
theorem dX12_ends_33 : decode cX12_ends 33 = .ok (.iload_n 2, 1) := by decide +kernel
theorem dX12_ends_34 : decode cX12_ends 34 = .ok (.ifCond .ne 10, 3) := by decide +kernel
theorem dX12_ends_37 : decode cX12_ends 37 = .ok (.aload_n 0, 1) := by decide +kernel
theorem dX12_ends_38 : decode cX12_ends 38 = .ok (.getfield 222, 3) := by decide +kernel
theorem dX12_ends_41 : decode cX12_ends 41 = .ok (.goto 11, 3) := by decide +kernel
theorem dX12_ends_44 : decode cX12_ends 44 = .ok (.aload_n 0, 1) := by decide +kernel
theorem dX12_ends_45 : decode cX12_ends 45 = .ok (.aload_n 0, 1) := by decide +kernel
theorem dX12_ends_46 : decode cX12_ends 46 = .ok (.getfield 16, 3) := by decide +kernel
theorem dX12_ends_49 : decode cX12_ends 49 = .ok (.invokevirtual 225, 3) := by decide +kernel
theorem dX12_ends_52 : decode cX12_ends 52 = .ok (.ireturn, 1) := by decide +kernel
theorem dX12_ends_53 : decode cX12_ends 53 = .ok (.iconst 0, 1) := by decide +kernel
theorem dX12_ends_54 : decode cX12_ends 54 = .ok (.istore_n 3, 1) := by decide +kernel
theorem dX12_ends_55 : decode cX12_ends 55 = .ok (.iload_n 3, 1) := by decide +kernel
theorem dX12_ends_56 : decode cX12_ends 56 = .ok (.aload_n 0, 1) := by decide +kernel
theorem dX12_ends_57 : decode cX12_ends 57 = .ok (.getfield 16, 3) := by decide +kernel
theorem dX12_ends_60 : decode cX12_ends 60 = .ok (.if_icmp .ge 26, 3) := by decide +kernel
theorem dX12_ends_63 : decode cX12_ends 63 = .ok (.aload_n 0, 1) := by decide +kernel
theorem dX12_ends_64 : decode cX12_ends 64 = .ok (.iload_n 3, 1) := by decide +kernel
theorem dX12_ends_65 : decode cX12_ends 65 = .ok (.iconst 1, 1) := by decide +kernel
theorem dX12_ends_66 : decode cX12_ends 66 = .ok (.iadd, 1) := by decide +kernel
theorem dX12_ends_67 : decode cX12_ends 67 = .ok (.invokevirtual 225, 3) := by decide +kernel
theorem dX12_ends_70 : decode cX12_ends 70 = .ok (.aload_n 0, 1) := by decide +kernel
theorem dX12_ends_71 : decode cX12_ends 71 = .ok (.iload_n 3, 1) := by decide +kernel
theorem dX12_ends_72 : decode cX12_ends 72 = .ok (.invokevirtual 225, 3) := by decide +kernel
theorem dX12_ends_75 : decode cX12_ends 75 = .ok (.if_icmp .ge 5, 3) := by decide +kernel
theorem dX12_ends_78 : decode cX12_ends 78 = .ok (.iload_n 3, 1) := by decide +kernel
theorem dX12_ends_79 : decode cX12_ends 79 = .ok (.ireturn, 1) := by decide +kernel
theorem dX12_ends_80 : decode cX12_ends 80 = .ok (.iinc 3 1, 3) := by decide +kernel
theorem dX12_ends_83 : decode cX12_ends 83 = .ok (.goto (-28), 3) := by decide +kernel
theorem dX12_ends_86 : decode cX12_ends 86 = .ok (.iconst (-1), 1) := by decide +kernel
theorem dX12_ends_87 : decode cX12_ends 87 = .ok (.ireturn, 1) := by decide +kernel
theorem dX12_best_0 : decode cX12_best 0 = .ok (.iload_n 1, 1) := by decide +kernel
theorem dX12_best_1 : decode cX12_best 1 = .ok (.iconst 0, 1) := by decide +kernel
theorem dX12_best_2 : decode cX12_best 2 = .ok (.iconst 1, 1) := by decide +kernel
theorem dX12_best_3 : decode cX12_best 3 = .ok (.invokestatic 133, 3) := by decide +kernel
theorem dX12_best_6 : decode cX12_best 6 = .ok (.ifCond .ne 6, 3) := by decide +kernel
theorem dX12_best_9 : decode cX12_best 9 = .ok (.bipush (-2), 2) := by decide +kernel
theorem dX12_best_11 : decode cX12_best 11 = .ok (.ireturn, 1) := by decide +kernel
theorem dX12_best_12 : decode cX12_best 12 = .ok (.iconst (-1), 1) := by decide +kernel
theorem dX12_best_13 : decode cX12_best 13 = .ok (.istore_n 2, 1) := by decide +kernel
theorem dX12_best_14 : decode cX12_best 14 = .ok (.lconst 0, 1) := by decide +kernel
theorem dX12_best_15 : decode cX12_best 15 = .ok (.lstore_n 3, 1) := by decide +kernel
theorem dX12_best_16 : decode cX12_best 16 = .ok (.iconst 0, 1) := by decide +kernel
theorem dX12_best_17 : decode cX12_best 17 = .ok (.istore 5, 2) := by decide +kernel
theorem dX12_best_19 : decode cX12_best 19 = .ok (.iload 5, 2) := by decide +kernel
theorem dX12_best_21 : decode cX12_best 21 = .ok (.aload_n 0, 1) := by decide +kernel
theorem dX12_best_22 : decode cX12_best 22 = .ok (.getfield 137, 3) := by decide +kernel
theorem dX12_best_25 : decode cX12_best 25 = .ok (.if_icmp .ge 36, 3) := by decide +kernel
theorem dX12_best_28 : decode cX12_best 28 = .ok (.aload_n 0, 1) := by decide +kernel
theorem dX12_best_29 : decode cX12_best 29 = .ok (.iload 5, 2) := by decide +kernel
theorem dX12_best_31 : decode cX12_best 31 = .ok (.iload_n 1, 1) := by decide +kernel
theorem dX12_best_32 : decode cX12_best 32 = .ok (.invokevirtual 264, 3) := by decide +kernel
theorem dX12_best_35 : decode cX12_best 35 = .ok (.lstore 6, 2) := by decide +kernel
theorem dX12_best_37 : decode cX12_best 37 = .ok (.iload_n 2, 1) := by decide +kernel
theorem dX12_best_38 : decode cX12_best 38 = .ok (.iconst (-1), 1) := by decide +kernel
theorem dX12_best_39 : decode cX12_best 39 = .ok (.if_icmp .eq 10, 3) := by decide +kernel
theorem dX12_best_42 : decode cX12_best 42 = .ok (.lload 6, 2) := by decide +kernel
theorem dX12_best_44 : decode cX12_best 44 = .ok (.lload_n 3, 1) := by decide +kernel
theorem dX12_best_45 : decode cX12_best 45 = .ok (.lcmp, 1) := by decide +kernel
theorem dX12_best_46 : decode cX12_best 46 = .ok (.ifCond .le 9, 3) := by decide +kernel
theorem dX12_best_49 : decode cX12_best 49 = .ok (.iload 5, 2) := by decide +kernel
theorem dX12_best_51 : decode cX12_best 51 = .ok (.istore_n 2, 1) := by decide +kernel
theorem dX12_best_52 : decode cX12_best 52 = .ok (.lload 6, 2) := by decide +kernel
theorem dX12_best_54 : decode cX12_best 54 = .ok (.lstore_n 3, 1) := by decide +kernel
theorem dX12_best_55 : decode cX12_best 55 = .ok (.iinc 5 1, 3) := by decide +kernel
theorem dX12_best_58 : decode cX12_best 58 = .ok (.goto (-39), 3) := by decide +kernel
theorem dX12_best_61 : decode cX12_best 61 = .ok (.iload_n 2, 1) := by decide +kernel
theorem dX12_best_62 : decode cX12_best 62 = .ok (.ireturn, 1) := by decide +kernel
theorem dX12_rations_0 : decode cX12_rations 0 = .ok (.aload_n 0, 1) := by decide +kernel
theorem dX12_rations_1 : decode cX12_rations 1 = .ok (.iload_n 1, 1) := by decide +kernel
theorem dX12_rations_2 : decode cX12_rations 2 = .ok (.invokevirtual 154, 3) := by decide +kernel
theorem dX12_rations_5 : decode cX12_rations 5 = .ok (.ifCond .ne 6, 3) := by decide +kernel
theorem dX12_rations_8 : decode cX12_rations 8 = .ok (.bipush (-5), 2) := by decide +kernel
theorem dX12_rations_10 : decode cX12_rations 10 = .ok (.ireturn, 1) := by decide +kernel
theorem dX12_rations_11 : decode cX12_rations 11 = .ok (.aload_n 0, 1) := by decide +kernel
theorem dX12_rations_12 : decode cX12_rations 12 = .ok (.getfield 23, 3) := by decide +kernel
theorem dX12_rations_15 : decode cX12_rations 15 = .ok (.istore_n 2, 1) := by decide +kernel
theorem dX12_rations_16 : decode cX12_rations 16 = .ok (.iconst 0, 1) := by decide +kernel
theorem dX12_rations_17 : decode cX12_rations 17 = .ok (.istore_n 3, 1) := by decide +kernel
theorem dX12_rations_18 : decode cX12_rations 18 = .ok (.lconst 0, 1) := by decide +kernel
theorem dX12_rations_19 : decode cX12_rations 19 = .ok (.lstore 4, 2) := by decide +kernel
theorem dX12_rations_21 : decode cX12_rations 21 = .ok (.iconst 0, 1) := by decide +kernel
theorem dX12_rations_22 : decode cX12_rations 22 = .ok (.istore 6, 2) := by decide +kernel
theorem dX12_rations_24 : decode cX12_rations 24 = .ok (.iload 6, 2) := by decide +kernel
theorem dX12_rations_26 : decode cX12_rations 26 = .ok (.bipush 100, 2) := by decide +kernel
theorem dX12_rations_28 : decode cX12_rations 28 = .ok (.if_icmp .ge 43, 3) := by decide +kernel
theorem dX12_rations_31 : decode cX12_rations 31 = .ok (.aload_n 0, 1) := by decide +kernel
theorem dX12_rations_32 : decode cX12_rations 32 = .ok (.iload 6, 2) := by decide +kernel
theorem dX12_rations_34 : decode cX12_rations 34 = .ok (.putfield 23, 3) := by decide +kernel
theorem dX12_rations_37 : decode cX12_rations 37 = .ok (.aload_n 0, 1) := by decide +kernel
theorem dX12_rations_38 : decode cX12_rations 38 = .ok (.iload_n 1, 1) := by decide +kernel
theorem dX12_rations_39 : decode cX12_rations 39 = .ok (.iconst 0, 1) := by decide +kernel
theorem dX12_rations_40 : decode cX12_rations 40 = .ok (.invokevirtual 264, 3) := by decide +kernel
theorem dX12_rations_43 : decode cX12_rations 43 = .ok (.lstore 7, 2) := by decide +kernel
theorem dX12_rations_45 : decode cX12_rations 45 = .ok (.iload 6, 2) := by decide +kernel
theorem dX12_rations_47 : decode cX12_rations 47 = .ok (.ifCond .eq 11, 3) := by decide +kernel
theorem dX12_rations_50 : decode cX12_rations 50 = .ok (.lload 7, 2) := by decide +kernel
theorem dX12_rations_52 : decode cX12_rations 52 = .ok (.lload 4, 2) := by decide +kernel
theorem dX12_rations_54 : decode cX12_rations 54 = .ok (.lcmp, 1) := by decide +kernel
theorem dX12_rations_55 : decode cX12_rations 55 = .ok (.ifCond .le 10, 3) := by decide +kernel
theorem dX12_rations_58 : decode cX12_rations 58 = .ok (.iload 6, 2) := by decide +kernel
theorem dX12_rations_60 : decode cX12_rations 60 = .ok (.istore_n 3, 1) := by decide +kernel
theorem dX12_rations_61 : decode cX12_rations 61 = .ok (.lload 7, 2) := by decide +kernel
theorem dX12_rations_63 : decode cX12_rations 63 = .ok (.lstore 4, 2) := by decide +kernel
theorem dX12_rations_65 : decode cX12_rations 65 = .ok (.iinc 6 1, 3) := by decide +kernel
theorem dX12_rations_68 : decode cX12_rations 68 = .ok (.goto (-44), 3) := by decide +kernel
theorem dX12_rations_71 : decode cX12_rations 71 = .ok (.aload_n 0, 1) := by decide +kernel
theorem dX12_rations_72 : decode cX12_rations 72 = .ok (.iload_n 2, 1) := by decide +kernel
theorem dX12_rations_73 : decode cX12_rations 73 = .ok (.putfield 23, 3) := by decide +kernel
theorem dX12_rations_76 : decode cX12_rations 76 = .ok (.iload_n 3, 1) := by decide +kernel
theorem dX12_rations_77 : decode cX12_rations 77 = .ok (.ireturn, 1) := by decide +kernel
theorem dX12_keeps_0 : decode cX12_keeps 0 = .ok (.aload_n 0, 1) := by decide +kernel
theorem dX12_keeps_1 : decode cX12_keeps 1 = .ok (.iload_n 1, 1) := by decide +kernel
theorem dX12_keeps_2 : decode cX12_keeps 2 = .ok (.invokevirtual 253, 3) := by decide +kernel
theorem dX12_keeps_5 : decode cX12_keeps 5 = .ok (.iconst 0, 1) := by decide +kernel
theorem dX12_keeps_6 : decode cX12_keeps 6 = .ok (.istore_n 2, 1) := by decide +kernel
theorem dX12_keeps_7 : decode cX12_keeps 7 = .ok (.iload_n 2, 1) := by decide +kernel
theorem dX12_keeps_8 : decode cX12_keeps 8 = .ok (.aload_n 0, 1) := by decide +kernel
theorem dX12_keeps_9 : decode cX12_keeps 9 = .ok (.getfield 130, 3) := by decide +kernel
theorem dX12_keeps_12 : decode cX12_keeps 12 = .ok (.if_icmp .ge 20, 3) := by decide +kernel
theorem dX12_keeps_15 : decode cX12_keeps 15 = .ok (.aload_n 0, 1) := by decide +kernel
theorem dX12_keeps_16 : decode cX12_keeps 16 = .ok (.getfield 121, 3) := by decide +kernel
theorem dX12_keeps_19 : decode cX12_keeps 19 = .ok (.iload_n 2, 1) := by decide +kernel
theorem dX12_keeps_20 : decode cX12_keeps 20 = .ok (.aload_n 0, 1) := by decide +kernel
theorem dX12_keeps_21 : decode cX12_keeps 21 = .ok (.iload_n 2, 1) := by decide +kernel
theorem dX12_keeps_22 : decode cX12_keeps 22 = .ok (.invokevirtual 256, 3) := by decide +kernel
theorem dX12_keeps_25 : decode cX12_keeps 25 = .ok (.lastore, 1) := by decide +kernel
theorem dX12_keeps_26 : decode cX12_keeps 26 = .ok (.iinc 2 1, 3) := by decide +kernel
theorem dX12_keeps_29 : decode cX12_keeps 29 = .ok (.goto (-22), 3) := by decide +kernel
theorem dX12_keeps_32 : decode cX12_keeps 32 = .ok (.return_, 1) := by decide +kernel
theorem dX12_would_0 : decode cX12_would 0 = .ok (.aload_n 0, 1) := by decide +kernel
theorem dX12_would_1 : decode cX12_would 1 = .ok (.iload_n 1, 1) := by decide +kernel
theorem dX12_would_2 : decode cX12_would 2 = .ok (.iload_n 2, 1) := by decide +kernel
theorem dX12_would_3 : decode cX12_would 3 = .ok (.iconst (-1), 1) := by decide +kernel
theorem dX12_would_4 : decode cX12_would 4 = .ok (.iconst 0, 1) := by decide +kernel
theorem dX12_would_5 : decode cX12_would 5 = .ok (.invokevirtual 242, 3) := by decide +kernel
theorem dX12_would_8 : decode cX12_would 8 = .ok (.iconst 0, 1) := by decide +kernel
theorem dX12_would_9 : decode cX12_would 9 = .ok (.istore_n 3, 1) := by decide +kernel
theorem dX12_would_10 : decode cX12_would 10 = .ok (.iload_n 3, 1) := by decide +kernel
theorem dX12_would_11 : decode cX12_would 11 = .ok (.aload_n 0, 1) := by decide +kernel
theorem dX12_would_12 : decode cX12_would 12 = .ok (.getfield 130, 3) := by decide +kernel
theorem dX12_would_15 : decode cX12_would 15 = .ok (.if_icmp .ge 35, 3) := by decide +kernel
theorem dX12_would_18 : decode cX12_would 18 = .ok (.iload_n 2, 1) := by decide +kernel
theorem dX12_would_19 : decode cX12_would 19 = .ok (.iload_n 3, 1) := by decide +kernel
theorem dX12_would_20 : decode cX12_would 20 = .ok (.ishr, 1) := by decide +kernel
theorem dX12_would_21 : decode cX12_would 21 = .ok (.iconst 1, 1) := by decide +kernel
theorem dX12_would_22 : decode cX12_would 22 = .ok (.iand, 1) := by decide +kernel
theorem dX12_would_23 : decode cX12_would 23 = .ok (.iconst 1, 1) := by decide +kernel
theorem dX12_would_24 : decode cX12_would 24 = .ok (.if_icmp .ne 20, 3) := by decide +kernel
theorem dX12_would_27 : decode cX12_would 27 = .ok (.aload_n 0, 1) := by decide +kernel
theorem dX12_would_28 : decode cX12_would 28 = .ok (.iload_n 3, 1) := by decide +kernel
theorem dX12_would_29 : decode cX12_would 29 = .ok (.invokevirtual 256, 3) := by decide +kernel
theorem dX12_would_32 : decode cX12_would 32 = .ok (.aload_n 0, 1) := by decide +kernel
theorem dX12_would_33 : decode cX12_would 33 = .ok (.getfield 121, 3) := by decide +kernel
theorem dX12_would_36 : decode cX12_would 36 = .ok (.iload_n 3, 1) := by decide +kernel
theorem dX12_would_37 : decode cX12_would 37 = .ok (.laload, 1) := by decide +kernel
theorem dX12_would_38 : decode cX12_would 38 = .ok (.lcmp, 1) := by decide +kernel
theorem dX12_would_39 : decode cX12_would 39 = .ok (.ifCond .gt 5, 3) := by decide +kernel
theorem dX12_would_42 : decode cX12_would 42 = .ok (.iconst 0, 1) := by decide +kernel
theorem dX12_would_43 : decode cX12_would 43 = .ok (.ireturn, 1) := by decide +kernel
theorem dX12_would_44 : decode cX12_would 44 = .ok (.iinc 3 1, 3) := by decide +kernel
theorem dX12_would_47 : decode cX12_would 47 = .ok (.goto (-37), 3) := by decide +kernel
theorem dX12_would_50 : decode cX12_would 50 = .ok (.iconst 1, 1) := by decide +kernel
theorem dX12_would_51 : decode cX12_would 51 = .ok (.ireturn, 1) := by decide +kernel
theorem dX12_take_0 : decode cX12_take 0 = .ok (.aload_n 0, 1) := by decide +kernel
theorem dX12_take_1 : decode cX12_take 1 = .ok (.iload_n 1, 1) := by decide +kernel
theorem dX12_take_2 : decode cX12_take 2 = .ok (.invokevirtual 154, 3) := by decide +kernel
theorem dX12_take_5 : decode cX12_take 5 = .ok (.ifCond .ne 6, 3) := by decide +kernel
theorem dX12_take_8 : decode cX12_take 8 = .ok (.bipush (-5), 2) := by decide +kernel
theorem dX12_take_10 : decode cX12_take 10 = .ok (.ireturn, 1) := by decide +kernel
theorem dX12_take_11 : decode cX12_take 11 = .ok (.iload_n 2, 1) := by decide +kernel
theorem dX12_take_12 : decode cX12_take 12 = .ok (.iconst 1, 1) := by decide +kernel
theorem dX12_take_13 : decode cX12_take 13 = .ok (.aload_n 0, 1) := by decide +kernel
theorem dX12_take_14 : decode cX12_take 14 = .ok (.invokevirtual 239, 3) := by decide +kernel
theorem dX12_take_17 : decode cX12_take 17 = .ok (.invokestatic 133, 3) := by decide +kernel
theorem dX12_take_20 : decode cX12_take 20 = .ok (.ifCond .ne 6, 3) := by decide +kernel
theorem dX12_take_23 : decode cX12_take 23 = .ok (.bipush (-7), 2) := by decide +kernel
theorem dX12_take_25 : decode cX12_take 25 = .ok (.ireturn, 1) := by decide +kernel
theorem dX12_take_26 : decode cX12_take 26 = .ok (.aload_n 0, 1) := by decide +kernel
theorem dX12_take_27 : decode cX12_take 27 = .ok (.iload_n 1, 1) := by decide +kernel
theorem dX12_take_28 : decode cX12_take 28 = .ok (.invokevirtual 268, 3) := by decide +kernel
theorem dX12_take_31 : decode cX12_take 31 = .ok (.aload_n 0, 1) := by decide +kernel
theorem dX12_take_32 : decode cX12_take 32 = .ok (.iload_n 1, 1) := by decide +kernel
theorem dX12_take_33 : decode cX12_take 33 = .ok (.iload_n 2, 1) := by decide +kernel
theorem dX12_take_34 : decode cX12_take 34 = .ok (.invokevirtual 271, 3) := by decide +kernel
theorem dX12_take_37 : decode cX12_take 37 = .ok (.ifCond .eq 7, 3) := by decide +kernel
theorem dX12_take_40 : decode cX12_take 40 = .ok (.iconst 1, 1) := by decide +kernel
theorem dX12_take_41 : decode cX12_take 41 = .ok (.goto 4, 3) := by decide +kernel
theorem dX12_take_44 : decode cX12_take 44 = .ok (.iconst 0, 1) := by decide +kernel
theorem dX12_take_45 : decode cX12_take 45 = .ok (.ireturn, 1) := by decide +kernel
theorem dX12_ones_0 : decode cX12_ones 0 = .ok (.iconst 0, 1) := by decide +kernel
theorem dX12_ones_1 : decode cX12_ones 1 = .ok (.istore_n 1, 1) := by decide +kernel
theorem dX12_ones_2 : decode cX12_ones 2 = .ok (.iconst 0, 1) := by decide +kernel
theorem dX12_ones_3 : decode cX12_ones 3 = .ok (.istore_n 2, 1) := by decide +kernel
theorem dX12_ones_4 : decode cX12_ones 4 = .ok (.iload_n 2, 1) := by decide +kernel
theorem dX12_ones_5 : decode cX12_ones 5 = .ok (.bipush 8, 2) := by decide +kernel
theorem dX12_ones_7 : decode cX12_ones 7 = .ok (.if_icmp .ge 17, 3) := by decide +kernel
theorem dX12_ones_10 : decode cX12_ones 10 = .ok (.iload_n 1, 1) := by decide +kernel
theorem dX12_ones_11 : decode cX12_ones 11 = .ok (.iload_n 0, 1) := by decide +kernel
theorem dX12_ones_12 : decode cX12_ones 12 = .ok (.iload_n 2, 1) := by decide +kernel
theorem dX12_ones_13 : decode cX12_ones 13 = .ok (.ishr, 1) := by decide +kernel
theorem dX12_ones_14 : decode cX12_ones 14 = .ok (.iconst 1, 1) := by decide +kernel
theorem dX12_ones_15 : decode cX12_ones 15 = .ok (.iand, 1) := by decide +kernel
theorem dX12_ones_16 : decode cX12_ones 16 = .ok (.iadd, 1) := by decide +kernel
theorem dX12_ones_17 : decode cX12_ones 17 = .ok (.istore_n 1, 1) := by decide +kernel
theorem dX12_ones_18 : decode cX12_ones 18 = .ok (.iinc 2 1, 3) := by decide +kernel
theorem dX12_ones_21 : decode cX12_ones 21 = .ok (.goto (-17), 3) := by decide +kernel
theorem dX12_ones_24 : decode cX12_ones 24 = .ok (.iload_n 1, 1) := by decide +kernel
theorem dX12_ones_25 : decode cX12_ones 25 = .ok (.ireturn, 1) := by decide +kernel
theorem dX12_takes_0 : decode cX12_takes 0 = .ok (.aload_n 0, 1) := by decide +kernel
theorem dX12_takes_1 : decode cX12_takes 1 = .ok (.iload_n 1, 1) := by decide +kernel
theorem dX12_takes_2 : decode cX12_takes 2 = .ok (.invokevirtual 154, 3) := by decide +kernel
theorem dX12_takes_5 : decode cX12_takes 5 = .ok (.ifCond .ne 6, 3) := by decide +kernel
theorem dX12_takes_8 : decode cX12_takes 8 = .ok (.bipush (-5), 2) := by decide +kernel
theorem dX12_takes_10 : decode cX12_takes 10 = .ok (.ireturn, 1) := by decide +kernel
theorem dX12_takes_11 : decode cX12_takes 11 = .ok (.aload_n 0, 1) := by decide +kernel
theorem dX12_takes_12 : decode cX12_takes 12 = .ok (.iload_n 1, 1) := by decide +kernel
theorem dX12_takes_13 : decode cX12_takes 13 = .ok (.invokevirtual 268, 3) := by decide +kernel
theorem dX12_takes_16 : decode cX12_takes 16 = .ok (.iconst 1, 1) := by decide +kernel
theorem dX12_takes_17 : decode cX12_takes 17 = .ok (.istore_n 2, 1) := by decide +kernel
theorem dX12_takes_18 : decode cX12_takes 18 = .ok (.iload_n 2, 1) := by decide +kernel
theorem dX12_takes_19 : decode cX12_takes 19 = .ok (.iconst 3, 1) := by decide +kernel
theorem dX12_takes_20 : decode cX12_takes 20 = .ok (.if_icmp .gt 44, 3) := by decide +kernel
theorem dX12_takes_23 : decode cX12_takes 23 = .ok (.iconst 1, 1) := by decide +kernel
theorem dX12_takes_24 : decode cX12_takes 24 = .ok (.istore_n 3, 1) := by decide +kernel
theorem dX12_takes_25 : decode cX12_takes 25 = .ok (.iload_n 3, 1) := by decide +kernel
theorem dX12_takes_26 : decode cX12_takes 26 = .ok (.aload_n 0, 1) := by decide +kernel
theorem dX12_takes_27 : decode cX12_takes 27 = .ok (.invokevirtual 239, 3) := by decide +kernel
theorem dX12_takes_30 : decode cX12_takes 30 = .ok (.if_icmp .gt 28, 3) := by decide +kernel
theorem dX12_takes_33 : decode cX12_takes 33 = .ok (.iload_n 3, 1) := by decide +kernel
theorem dX12_takes_34 : decode cX12_takes 34 = .ok (.invokestatic 275, 3) := by decide +kernel
theorem dX12_takes_37 : decode cX12_takes 37 = .ok (.iload_n 2, 1) := by decide +kernel
theorem dX12_takes_38 : decode cX12_takes 38 = .ok (.if_icmp .ne 14, 3) := by decide +kernel
theorem dX12_takes_41 : decode cX12_takes 41 = .ok (.aload_n 0, 1) := by decide +kernel
theorem dX12_takes_42 : decode cX12_takes 42 = .ok (.iload_n 1, 1) := by decide +kernel
theorem dX12_takes_43 : decode cX12_takes 43 = .ok (.iload_n 3, 1) := by decide +kernel
theorem dX12_takes_44 : decode cX12_takes 44 = .ok (.invokevirtual 271, 3) := by decide +kernel
theorem dX12_takes_47 : decode cX12_takes 47 = .ok (.ifCond .eq 5, 3) := by decide +kernel
theorem dX12_takes_50 : decode cX12_takes 50 = .ok (.iload_n 3, 1) := by decide +kernel
theorem dX12_takes_51 : decode cX12_takes 51 = .ok (.ireturn, 1) := by decide +kernel
theorem dX12_takes_52 : decode cX12_takes 52 = .ok (.iinc 3 1, 3) := by decide +kernel
theorem dX12_takes_55 : decode cX12_takes 55 = .ok (.goto (-30), 3) := by decide +kernel
theorem dX12_takes_58 : decode cX12_takes 58 = .ok (.iinc 2 1, 3) := by decide +kernel
theorem dX12_takes_61 : decode cX12_takes 61 = .ok (.goto (-43), 3) := by decide +kernel
theorem dX12_takes_64 : decode cX12_takes 64 = .ok (.iconst (-1), 1) := by decide +kernel
theorem dX12_takes_65 : decode cX12_takes 65 = .ok (.ireturn, 1) := by decide +kernel
theorem dX12_hid_0 : decode cX12_hid 0 = .ok (.aload_n 0, 1) := by decide +kernel
theorem dX12_hid_1 : decode cX12_hid 1 = .ok (.iload_n 1, 1) := by decide +kernel
theorem dX12_hid_2 : decode cX12_hid 2 = .ok (.invokevirtual 154, 3) := by decide +kernel
theorem dX12_hid_5 : decode cX12_hid 5 = .ok (.ifCond .eq 31, 3) := by decide +kernel
theorem dX12_hid_8 : decode cX12_hid 8 = .ok (.aload_n 0, 1) := by decide +kernel
theorem dX12_hid_9 : decode cX12_hid 9 = .ok (.iload_n 2, 1) := by decide +kernel
theorem dX12_hid_10 : decode cX12_hid 10 = .ok (.invokevirtual 140, 3) := by decide +kernel
theorem dX12_hid_13 : decode cX12_hid 13 = .ok (.ifCond .eq 23, 3) := by decide +kernel
theorem dX12_hid_16 : decode cX12_hid 16 = .ok (.iload_n 3, 1) := by decide +kernel
theorem dX12_hid_17 : decode cX12_hid 17 = .ok (.iconst 0, 1) := by decide +kernel
theorem dX12_hid_18 : decode cX12_hid 18 = .ok (.bipush 50, 2) := by decide +kernel
theorem dX12_hid_20 : decode cX12_hid 20 = .ok (.invokestatic 133, 3) := by decide +kernel
theorem dX12_hid_23 : decode cX12_hid 23 = .ok (.ifCond .eq 13, 3) := by decide +kernel
theorem dX12_hid_26 : decode cX12_hid 26 = .ok (.iload 4, 2) := by decide +kernel
theorem dX12_hid_28 : decode cX12_hid 28 = .ok (.iconst 0, 1) := by decide +kernel
theorem dX12_hid_29 : decode cX12_hid 29 = .ok (.iconst 1, 1) := by decide +kernel
theorem dX12_hid_30 : decode cX12_hid 30 = .ok (.invokestatic 133, 3) := by decide +kernel
theorem dX12_hid_33 : decode cX12_hid 33 = .ok (.ifCond .ne 7, 3) := by decide +kernel
theorem dX12_hid_36 : decode cX12_hid 36 = .ok (.ldc2_w 251, 3) := by decide +kernel
theorem dX12_hid_39 : decode cX12_hid 39 = .ok (.lreturn, 1) := by decide +kernel
theorem dX12_hid_40 : decode cX12_hid 40 = .ok (.aload_n 0, 1) := by decide +kernel
theorem dX12_hid_41 : decode cX12_hid 41 = .ok (.iload_n 1, 1) := by decide +kernel
theorem dX12_hid_42 : decode cX12_hid 42 = .ok (.invokevirtual 253, 3) := by decide +kernel
theorem dX12_hid_45 : decode cX12_hid 45 = .ok (.aload_n 0, 1) := by decide +kernel
theorem dX12_hid_46 : decode cX12_hid 46 = .ok (.iload_n 2, 1) := by decide +kernel
theorem dX12_hid_47 : decode cX12_hid 47 = .ok (.invokevirtual 256, 3) := by decide +kernel
theorem dX12_hid_50 : decode cX12_hid 50 = .ok (.lstore 5, 2) := by decide +kernel
theorem dX12_hid_52 : decode cX12_hid 52 = .ok (.aload_n 0, 1) := by decide +kernel
theorem dX12_hid_53 : decode cX12_hid 53 = .ok (.iload_n 1, 1) := by decide +kernel
theorem dX12_hid_54 : decode cX12_hid 54 = .ok (.aload_n 0, 1) := by decide +kernel
theorem dX12_hid_55 : decode cX12_hid 55 = .ok (.invokevirtual 239, 3) := by decide +kernel
theorem dX12_hid_58 : decode cX12_hid 58 = .ok (.iload_n 2, 1) := by decide +kernel
theorem dX12_hid_59 : decode cX12_hid 59 = .ok (.iload_n 3, 1) := by decide +kernel
theorem dX12_hid_60 : decode cX12_hid 60 = .ok (.invokevirtual 242, 3) := by decide +kernel
theorem dX12_hid_63 : decode cX12_hid 63 = .ok (.aload_n 0, 1) := by decide +kernel
theorem dX12_hid_64 : decode cX12_hid 64 = .ok (.iload_n 2, 1) := by decide +kernel
theorem dX12_hid_65 : decode cX12_hid 65 = .ok (.invokevirtual 256, 3) := by decide +kernel
theorem dX12_hid_68 : decode cX12_hid 68 = .ok (.lload 5, 2) := by decide +kernel
theorem dX12_hid_70 : decode cX12_hid 70 = .ok (.lsub, 1) := by decide +kernel
theorem dX12_hid_71 : decode cX12_hid 71 = .ok (.aload_n 0, 1) := by decide +kernel
theorem dX12_hid_72 : decode cX12_hid 72 = .ok (.invokevirtual 248, 3) := by decide +kernel
theorem dX12_hid_75 : decode cX12_hid 75 = .ok (.iload 4, 2) := by decide +kernel
theorem dX12_hid_77 : decode cX12_hid 77 = .ok (.invokestatic 260, 3) := by decide +kernel
theorem dX12_hid_80 : decode cX12_hid 80 = .ok (.lreturn, 1) := by decide +kernel
theorem dX12_judge_0 : decode cX12_judge 0 = .ok (.aload_n 0, 1) := by decide +kernel
theorem dX12_judge_1 : decode cX12_judge 1 = .ok (.iload_n 1, 1) := by decide +kernel
theorem dX12_judge_2 : decode cX12_judge 2 = .ok (.invokevirtual 154, 3) := by decide +kernel
theorem dX12_judge_5 : decode cX12_judge 5 = .ok (.ifCond .eq 17, 3) := by decide +kernel
theorem dX12_judge_8 : decode cX12_judge 8 = .ok (.iload_n 2, 1) := by decide +kernel
theorem dX12_judge_9 : decode cX12_judge 9 = .ok (.iconst 0, 1) := by decide +kernel
theorem dX12_judge_10 : decode cX12_judge 10 = .ok (.aload_n 0, 1) := by decide +kernel
theorem dX12_judge_11 : decode cX12_judge 11 = .ok (.getfield 16, 3) := by decide +kernel
theorem dX12_judge_14 : decode cX12_judge 14 = .ok (.iconst 1, 1) := by decide +kernel
theorem dX12_judge_15 : decode cX12_judge 15 = .ok (.isub, 1) := by decide +kernel
theorem dX12_judge_16 : decode cX12_judge 16 = .ok (.invokestatic 133, 3) := by decide +kernel
theorem dX12_judge_19 : decode cX12_judge 19 = .ok (.ifCond .ne 6, 3) := by decide +kernel
theorem dX12_judge_22 : decode cX12_judge 22 = .ok (.bipush (-5), 2) := by decide +kernel
theorem dX12_judge_24 : decode cX12_judge 24 = .ok (.ireturn, 1) := by decide +kernel
theorem dX12_judge_25 : decode cX12_judge 25 = .ok (.iload_n 3, 1) := by decide +kernel
theorem dX12_judge_26 : decode cX12_judge 26 = .ok (.iconst 0, 1) := by decide +kernel
theorem dX12_judge_27 : decode cX12_judge 27 = .ok (.iconst 3, 1) := by decide +kernel
theorem dX12_judge_28 : decode cX12_judge 28 = .ok (.invokestatic 133, 3) := by decide +kernel
theorem dX12_judge_31 : decode cX12_judge 31 = .ok (.ifCond .ne 6, 3) := by decide +kernel
theorem dX12_judge_34 : decode cX12_judge 34 = .ok (.bipush (-2), 2) := by decide +kernel
theorem dX12_judge_36 : decode cX12_judge 36 = .ok (.ireturn, 1) := by decide +kernel
theorem dX12_judge_37 : decode cX12_judge 37 = .ok (.aload_n 0, 1) := by decide +kernel
theorem dX12_judge_38 : decode cX12_judge 38 = .ok (.getfield 77, 3) := by decide +kernel
theorem dX12_judge_41 : decode cX12_judge 41 = .ok (.iload_n 3, 1) := by decide +kernel
theorem dX12_judge_42 : decode cX12_judge 42 = .ok (.iaload, 1) := by decide +kernel
theorem dX12_judge_43 : decode cX12_judge 43 = .ok (.iconst (-1), 1) := by decide +kernel
theorem dX12_judge_44 : decode cX12_judge 44 = .ok (.if_icmp .ne 6, 3) := by decide +kernel
theorem dX12_judge_47 : decode cX12_judge 47 = .ok (.bipush (-11), 2) := by decide +kernel
theorem dX12_judge_49 : decode cX12_judge 49 = .ok (.ireturn, 1) := by decide +kernel
theorem dX12_judge_50 : decode cX12_judge 50 = .ok (.aload_n 0, 1) := by decide +kernel
theorem dX12_judge_51 : decode cX12_judge 51 = .ok (.getfield 80, 3) := by decide +kernel
theorem dX12_judge_54 : decode cX12_judge 54 = .ok (.iload_n 3, 1) := by decide +kernel
theorem dX12_judge_55 : decode cX12_judge 55 = .ok (.iaload, 1) := by decide +kernel
theorem dX12_judge_56 : decode cX12_judge 56 = .ok (.aload_n 0, 1) := by decide +kernel
theorem dX12_judge_57 : decode cX12_judge 57 = .ok (.getfield 130, 3) := by decide +kernel
theorem dX12_judge_60 : decode cX12_judge 60 = .ok (.if_icmp .eq 6, 3) := by decide +kernel
theorem dX12_judge_63 : decode cX12_judge 63 = .ok (.bipush (-2), 2) := by decide +kernel
theorem dX12_judge_65 : decode cX12_judge 65 = .ok (.ireturn, 1) := by decide +kernel
theorem dX12_judge_66 : decode cX12_judge 66 = .ok (.aload_n 0, 1) := by decide +kernel
theorem dX12_judge_67 : decode cX12_judge 67 = .ok (.iload_n 1, 1) := by decide +kernel
theorem dX12_judge_68 : decode cX12_judge 68 = .ok (.invokevirtual 253, 3) := by decide +kernel
theorem dX12_judge_71 : decode cX12_judge 71 = .ok (.iconst 0, 1) := by decide +kernel
theorem dX12_judge_72 : decode cX12_judge 72 = .ok (.istore 4, 2) := by decide +kernel
theorem dX12_judge_74 : decode cX12_judge 74 = .ok (.iload 4, 2) := by decide +kernel
theorem dX12_judge_76 : decode cX12_judge 76 = .ok (.aload_n 0, 1) := by decide +kernel
theorem dX12_judge_77 : decode cX12_judge 77 = .ok (.getfield 130, 3) := by decide +kernel
theorem dX12_judge_80 : decode cX12_judge 80 = .ok (.if_icmp .ge 39, 3) := by decide +kernel
theorem dX12_judge_83 : decode cX12_judge 83 = .ok (.aload_n 0, 1) := by decide +kernel
theorem dX12_judge_84 : decode cX12_judge 84 = .ok (.getfield 59, 3) := by decide +kernel
theorem dX12_judge_87 : decode cX12_judge 87 = .ok (.bipush 8, 2) := by decide +kernel
theorem dX12_judge_89 : decode cX12_judge 89 = .ok (.iload_n 2, 1) := by decide +kernel
theorem dX12_judge_90 : decode cX12_judge 90 = .ok (.imul, 1) := by decide +kernel
theorem dX12_judge_91 : decode cX12_judge 91 = .ok (.iload 4, 2) := by decide +kernel
theorem dX12_judge_93 : decode cX12_judge 93 = .ok (.iadd, 1) := by decide +kernel
theorem dX12_judge_94 : decode cX12_judge 94 = .ok (.iaload, 1) := by decide +kernel
theorem dX12_judge_95 : decode cX12_judge 95 = .ok (.aload_n 0, 1) := by decide +kernel
theorem dX12_judge_96 : decode cX12_judge 96 = .ok (.getfield 83, 3) := by decide +kernel
theorem dX12_judge_99 : decode cX12_judge 99 = .ok (.bipush 40, 2) := by decide +kernel
theorem dX12_judge_101 : decode cX12_judge 101 = .ok (.iload_n 3, 1) := by decide +kernel
theorem dX12_judge_102 : decode cX12_judge 102 = .ok (.imul, 1) := by decide +kernel
theorem dX12_judge_103 : decode cX12_judge 103 = .ok (.iload 4, 2) := by decide +kernel
theorem dX12_judge_105 : decode cX12_judge 105 = .ok (.iadd, 1) := by decide +kernel
theorem dX12_judge_106 : decode cX12_judge 106 = .ok (.iaload, 1) := by decide +kernel
theorem dX12_judge_107 : decode cX12_judge 107 = .ok (.if_icmp .eq 6, 3) := by decide +kernel
theorem dX12_judge_110 : decode cX12_judge 110 = .ok (.iload 4, 2) := by decide +kernel
theorem dX12_judge_112 : decode cX12_judge 112 = .ok (.ireturn, 1) := by decide +kernel
theorem dX12_judge_113 : decode cX12_judge 113 = .ok (.iinc 4 1, 3) := by decide +kernel
theorem dX12_judge_116 : decode cX12_judge 116 = .ok (.goto (-42), 3) := by decide +kernel
theorem dX12_judge_119 : decode cX12_judge 119 = .ok (.iconst (-1), 1) := by decide +kernel
theorem dX12_judge_120 : decode cX12_judge 120 = .ok (.ireturn, 1) := by decide +kernel
theorem dX12_until_0 : decode cX12_until 0 = .ok (.aload_n 0, 1) := by decide +kernel
theorem dX12_until_1 : decode cX12_until 1 = .ok (.iload_n 1, 1) := by decide +kernel
theorem dX12_until_2 : decode cX12_until 2 = .ok (.invokevirtual 154, 3) := by decide +kernel
theorem dX12_until_5 : decode cX12_until 5 = .ok (.ifCond .eq 11, 3) := by decide +kernel
theorem dX12_until_8 : decode cX12_until 8 = .ok (.aload_n 0, 1) := by decide +kernel
theorem dX12_until_9 : decode cX12_until 9 = .ok (.iload_n 2, 1) := by decide +kernel
theorem dX12_until_10 : decode cX12_until 10 = .ok (.invokevirtual 140, 3) := by decide +kernel
theorem dX12_until_13 : decode cX12_until 13 = .ok (.ifCond .ne 6, 3) := by decide +kernel
theorem dX12_until_16 : decode cX12_until 16 = .ok (.bipush (-5), 2) := by decide +kernel
theorem dX12_until_18 : decode cX12_until 18 = .ok (.ireturn, 1) := by decide +kernel
theorem dX12_until_19 : decode cX12_until 19 = .ok (.aload_n 0, 1) := by decide +kernel
theorem dX12_until_20 : decode cX12_until 20 = .ok (.iload_n 1, 1) := by decide +kernel
theorem dX12_until_21 : decode cX12_until 21 = .ok (.invokevirtual 253, 3) := by decide +kernel
theorem dX12_until_24 : decode cX12_until 24 = .ok (.aload_n 0, 1) := by decide +kernel
theorem dX12_until_25 : decode cX12_until 25 = .ok (.getfield 222, 3) := by decide +kernel
theorem dX12_until_28 : decode cX12_until 28 = .ok (.iconst (-1), 1) := by decide +kernel
theorem dX12_until_29 : decode cX12_until 29 = .ok (.if_icmp .ne 12, 3) := by decide +kernel
theorem dX12_until_32 : decode cX12_until 32 = .ok (.aload_n 0, 1) := by decide +kernel
theorem dX12_until_33 : decode cX12_until 33 = .ok (.getfield 16, 3) := by decide +kernel
theorem dX12_until_36 : decode cX12_until 36 = .ok (.iconst 1, 1) := by decide +kernel
theorem dX12_until_37 : decode cX12_until 37 = .ok (.isub, 1) := by decide +kernel
theorem dX12_until_38 : decode cX12_until 38 = .ok (.goto 7, 3) := by decide +kernel
theorem dX12_until_41 : decode cX12_until 41 = .ok (.aload_n 0, 1) := by decide +kernel
theorem dX12_until_42 : decode cX12_until 42 = .ok (.getfield 222, 3) := by decide +kernel
theorem dX12_until_45 : decode cX12_until 45 = .ok (.istore_n 3, 1) := by decide +kernel
theorem dX12_until_46 : decode cX12_until 46 = .ok (.iconst (-1), 1) := by decide +kernel
theorem dX12_until_47 : decode cX12_until 47 = .ok (.istore 4, 2) := by decide +kernel
theorem dX12_until_49 : decode cX12_until 49 = .ok (.iconst 0, 1) := by decide +kernel
theorem dX12_until_50 : decode cX12_until 50 = .ok (.istore 5, 2) := by decide +kernel
theorem dX12_until_52 : decode cX12_until 52 = .ok (.iload 5, 2) := by decide +kernel
theorem dX12_until_54 : decode cX12_until 54 = .ok (.iload_n 3, 1) := by decide +kernel
theorem dX12_until_55 : decode cX12_until 55 = .ok (.if_icmp .gt 33, 3) := by decide +kernel
theorem dX12_until_58 : decode cX12_until 58 = .ok (.aload_n 0, 1) := by decide +kernel
theorem dX12_until_59 : decode cX12_until 59 = .ok (.getfield 56, 3) := by decide +kernel
theorem dX12_until_62 : decode cX12_until 62 = .ok (.bipush 8, 2) := by decide +kernel
theorem dX12_until_64 : decode cX12_until 64 = .ok (.iload 5, 2) := by decide +kernel
theorem dX12_until_66 : decode cX12_until 66 = .ok (.imul, 1) := by decide +kernel
theorem dX12_until_67 : decode cX12_until 67 = .ok (.iload_n 2, 1) := by decide +kernel
theorem dX12_until_68 : decode cX12_until 68 = .ok (.iadd, 1) := by decide +kernel
theorem dX12_until_69 : decode cX12_until 69 = .ok (.iaload, 1) := by decide +kernel
theorem dX12_until_70 : decode cX12_until 70 = .ok (.ifCond .le 8, 3) := by decide +kernel
theorem dX12_until_73 : decode cX12_until 73 = .ok (.iload 5, 2) := by decide +kernel
theorem dX12_until_75 : decode cX12_until 75 = .ok (.goto 5, 3) := by decide +kernel
theorem dX12_until_78 : decode cX12_until 78 = .ok (.iload 4, 2) := by decide +kernel
theorem dX12_until_80 : decode cX12_until 80 = .ok (.istore 4, 2) := by decide +kernel
theorem dX12_until_82 : decode cX12_until 82 = .ok (.iinc 5 1, 3) := by decide +kernel
theorem dX12_until_85 : decode cX12_until 85 = .ok (.goto (-33), 3) := by decide +kernel
theorem dX12_until_88 : decode cX12_until 88 = .ok (.iload 4, 2) := by decide +kernel
theorem dX12_until_90 : decode cX12_until 90 = .ok (.ireturn, 1) := by decide +kernel
theorem dX12_image_0 : decode cX12_image 0 = .ok (.aload_n 0, 1) := by decide +kernel
theorem dX12_image_1 : decode cX12_image 1 = .ok (.iconst 1, 1) := by decide +kernel
theorem dX12_image_2 : decode cX12_image 2 = .ok (.putfield 278, 3) := by decide +kernel
theorem dX12_image_5 : decode cX12_image 5 = .ok (.aload_n 0, 1) := by decide +kernel
theorem dX12_image_6 : decode cX12_image 6 = .ok (.aload_n 0, 1) := by decide +kernel
theorem dX12_image_7 : decode cX12_image 7 = .ok (.getfield 130, 3) := by decide +kernel
theorem dX12_image_10 : decode cX12_image 10 = .ok (.putfield 282, 3) := by decide +kernel
theorem dX12_image_13 : decode cX12_image 13 = .ok (.aload_n 0, 1) := by decide +kernel
theorem dX12_image_14 : decode cX12_image 14 = .ok (.aload_n 0, 1) := by decide +kernel
theorem dX12_image_15 : decode cX12_image 15 = .ok (.getfield 16, 3) := by decide +kernel
theorem dX12_image_18 : decode cX12_image 18 = .ok (.putfield 285, 3) := by decide +kernel
theorem dX12_image_21 : decode cX12_image 21 = .ok (.aload_n 0, 1) := by decide +kernel
theorem dX12_image_22 : decode cX12_image 22 = .ok (.aload_n 0, 1) := by decide +kernel
theorem dX12_image_23 : decode cX12_image 23 = .ok (.getfield 20, 3) := by decide +kernel
theorem dX12_image_26 : decode cX12_image 26 = .ok (.putfield 288, 3) := by decide +kernel
theorem dX12_image_29 : decode cX12_image 29 = .ok (.aload_n 0, 1) := by decide +kernel
theorem dX12_image_30 : decode cX12_image 30 = .ok (.aload_n 0, 1) := by decide +kernel
theorem dX12_image_31 : decode cX12_image 31 = .ok (.getfield 23, 3) := by decide +kernel
theorem dX12_image_34 : decode cX12_image 34 = .ok (.putfield 291, 3) := by decide +kernel
theorem dX12_image_37 : decode cX12_image 37 = .ok (.aload_n 0, 1) := by decide +kernel
theorem dX12_image_38 : decode cX12_image 38 = .ok (.aload_n 0, 1) := by decide +kernel
theorem dX12_image_39 : decode cX12_image 39 = .ok (.getfield 26, 3) := by decide +kernel
theorem dX12_image_42 : decode cX12_image 42 = .ok (.putfield 294, 3) := by decide +kernel
theorem dX12_image_45 : decode cX12_image 45 = .ok (.aload_n 0, 1) := by decide +kernel
theorem dX12_image_46 : decode cX12_image 46 = .ok (.aload_n 0, 1) := by decide +kernel
theorem dX12_image_47 : decode cX12_image 47 = .ok (.getfield 148, 3) := by decide +kernel
theorem dX12_image_50 : decode cX12_image 50 = .ok (.putfield 297, 3) := by decide +kernel
theorem dX12_image_53 : decode cX12_image 53 = .ok (.iconst 0, 1) := by decide +kernel
theorem dX12_image_54 : decode cX12_image 54 = .ok (.istore_n 1, 1) := by decide +kernel
theorem dX12_image_55 : decode cX12_image 55 = .ok (.iload_n 1, 1) := by decide +kernel
theorem dX12_image_56 : decode cX12_image 56 = .ok (.bipush 8, 2) := by decide +kernel
theorem dX12_image_58 : decode cX12_image 58 = .ok (.if_icmp .ge 21, 3) := by decide +kernel
theorem dX12_image_61 : decode cX12_image 61 = .ok (.aload_n 0, 1) := by decide +kernel
theorem dX12_image_62 : decode cX12_image 62 = .ok (.getfield 68, 3) := by decide +kernel
theorem dX12_image_65 : decode cX12_image 65 = .ok (.iload_n 1, 1) := by decide +kernel
theorem dX12_image_66 : decode cX12_image 66 = .ok (.aload_n 0, 1) := by decide +kernel
theorem dX12_image_67 : decode cX12_image 67 = .ok (.getfield 7, 3) := by decide +kernel
theorem dX12_image_70 : decode cX12_image 70 = .ok (.iload_n 1, 1) := by decide +kernel
theorem dX12_image_71 : decode cX12_image 71 = .ok (.iaload, 1) := by decide +kernel
theorem dX12_image_72 : decode cX12_image 72 = .ok (.iastore, 1) := by decide +kernel
theorem dX12_image_73 : decode cX12_image 73 = .ok (.iinc 1 1, 3) := by decide +kernel
theorem dX12_image_76 : decode cX12_image 76 = .ok (.goto (-21), 3) := by decide +kernel
theorem dX12_image_79 : decode cX12_image 79 = .ok (.iconst 0, 1) := by decide +kernel
theorem dX12_image_80 : decode cX12_image 80 = .ok (.istore_n 1, 1) := by decide +kernel
theorem dX12_image_81 : decode cX12_image 81 = .ok (.iload_n 1, 1) := by decide +kernel
theorem dX12_image_82 : decode cX12_image 82 = .ok (.bipush 12, 2) := by decide +kernel
theorem dX12_image_84 : decode cX12_image 84 = .ok (.if_icmp .ge 33, 3) := by decide +kernel
theorem dX12_image_87 : decode cX12_image 87 = .ok (.aload_n 0, 1) := by decide +kernel
theorem dX12_image_88 : decode cX12_image 88 = .ok (.getfield 71, 3) := by decide +kernel
theorem dX12_image_91 : decode cX12_image 91 = .ok (.iload_n 1, 1) := by decide +kernel
theorem dX12_image_92 : decode cX12_image 92 = .ok (.aload_n 0, 1) := by decide +kernel
theorem dX12_image_93 : decode cX12_image 93 = .ok (.getfield 29, 3) := by decide +kernel
theorem dX12_image_96 : decode cX12_image 96 = .ok (.iload_n 1, 1) := by decide +kernel
theorem dX12_image_97 : decode cX12_image 97 = .ok (.iaload, 1) := by decide +kernel
theorem dX12_image_98 : decode cX12_image 98 = .ok (.iastore, 1) := by decide +kernel
theorem dX12_image_99 : decode cX12_image 99 = .ok (.aload_n 0, 1) := by decide +kernel
theorem dX12_image_100 : decode cX12_image 100 = .ok (.getfield 74, 3) := by decide +kernel
theorem dX12_image_103 : decode cX12_image 103 = .ok (.iload_n 1, 1) := by decide +kernel
theorem dX12_image_104 : decode cX12_image 104 = .ok (.aload_n 0, 1) := by decide +kernel
theorem dX12_image_105 : decode cX12_image 105 = .ok (.getfield 32, 3) := by decide +kernel
theorem dX12_image_108 : decode cX12_image 108 = .ok (.iload_n 1, 1) := by decide +kernel
theorem dX12_image_109 : decode cX12_image 109 = .ok (.iaload, 1) := by decide +kernel
theorem dX12_image_110 : decode cX12_image 110 = .ok (.iastore, 1) := by decide +kernel
theorem dX12_image_111 : decode cX12_image 111 = .ok (.iinc 1 1, 3) := by decide +kernel
theorem dX12_image_114 : decode cX12_image 114 = .ok (.goto (-33), 3) := by decide +kernel
theorem dX12_image_117 : decode cX12_image 117 = .ok (.aload_n 0, 1) := by decide +kernel
theorem dX12_image_118 : decode cX12_image 118 = .ok (.getfield 130, 3) := by decide +kernel
theorem dX12_image_121 : decode cX12_image 121 = .ok (.ireturn, 1) := by decide +kernel
theorem dX12_back_0 : decode cX12_back 0 = .ok (.aload_n 0, 1) := by decide +kernel
theorem dX12_back_1 : decode cX12_back 1 = .ok (.getfield 278, 3) := by decide +kernel
theorem dX12_back_4 : decode cX12_back 4 = .ok (.ifCond .ne 6, 3) := by decide +kernel
theorem dX12_back_7 : decode cX12_back 7 = .ok (.bipush (-3), 2) := by decide +kernel
theorem dX12_back_9 : decode cX12_back 9 = .ok (.ireturn, 1) := by decide +kernel
theorem dX12_back_10 : decode cX12_back 10 = .ok (.aload_n 0, 1) := by decide +kernel
theorem dX12_back_11 : decode cX12_back 11 = .ok (.aload_n 0, 1) := by decide +kernel
theorem dX12_back_12 : decode cX12_back 12 = .ok (.getfield 285, 3) := by decide +kernel
theorem dX12_back_15 : decode cX12_back 15 = .ok (.putfield 16, 3) := by decide +kernel
theorem dX12_back_18 : decode cX12_back 18 = .ok (.aload_n 0, 1) := by decide +kernel
theorem dX12_back_19 : decode cX12_back 19 = .ok (.aload_n 0, 1) := by decide +kernel
theorem dX12_back_20 : decode cX12_back 20 = .ok (.getfield 288, 3) := by decide +kernel
theorem dX12_back_23 : decode cX12_back 23 = .ok (.putfield 20, 3) := by decide +kernel
theorem dX12_back_26 : decode cX12_back 26 = .ok (.aload_n 0, 1) := by decide +kernel
theorem dX12_back_27 : decode cX12_back 27 = .ok (.aload_n 0, 1) := by decide +kernel
theorem dX12_back_28 : decode cX12_back 28 = .ok (.getfield 291, 3) := by decide +kernel
theorem dX12_back_31 : decode cX12_back 31 = .ok (.putfield 23, 3) := by decide +kernel
theorem dX12_back_34 : decode cX12_back 34 = .ok (.aload_n 0, 1) := by decide +kernel
theorem dX12_back_35 : decode cX12_back 35 = .ok (.aload_n 0, 1) := by decide +kernel
theorem dX12_back_36 : decode cX12_back 36 = .ok (.getfield 294, 3) := by decide +kernel
theorem dX12_back_39 : decode cX12_back 39 = .ok (.putfield 26, 3) := by decide +kernel
theorem dX12_back_42 : decode cX12_back 42 = .ok (.aload_n 0, 1) := by decide +kernel
theorem dX12_back_43 : decode cX12_back 43 = .ok (.aload_n 0, 1) := by decide +kernel
theorem dX12_back_44 : decode cX12_back 44 = .ok (.getfield 297, 3) := by decide +kernel
theorem dX12_back_47 : decode cX12_back 47 = .ok (.putfield 148, 3) := by decide +kernel
theorem dX12_back_50 : decode cX12_back 50 = .ok (.iconst 0, 1) := by decide +kernel
theorem dX12_back_51 : decode cX12_back 51 = .ok (.istore_n 1, 1) := by decide +kernel
theorem dX12_back_52 : decode cX12_back 52 = .ok (.iload_n 1, 1) := by decide +kernel
theorem dX12_back_53 : decode cX12_back 53 = .ok (.aload_n 0, 1) := by decide +kernel
theorem dX12_back_54 : decode cX12_back 54 = .ok (.getfield 282, 3) := by decide +kernel
theorem dX12_back_57 : decode cX12_back 57 = .ok (.if_icmp .ge 21, 3) := by decide +kernel
theorem dX12_back_60 : decode cX12_back 60 = .ok (.aload_n 0, 1) := by decide +kernel
theorem dX12_back_61 : decode cX12_back 61 = .ok (.getfield 7, 3) := by decide +kernel
theorem dX12_back_64 : decode cX12_back 64 = .ok (.iload_n 1, 1) := by decide +kernel
theorem dX12_back_65 : decode cX12_back 65 = .ok (.aload_n 0, 1) := by decide +kernel
theorem dX12_back_66 : decode cX12_back 66 = .ok (.getfield 68, 3) := by decide +kernel
theorem dX12_back_69 : decode cX12_back 69 = .ok (.iload_n 1, 1) := by decide +kernel
theorem dX12_back_70 : decode cX12_back 70 = .ok (.iaload, 1) := by decide +kernel
theorem dX12_back_71 : decode cX12_back 71 = .ok (.iastore, 1) := by decide +kernel
theorem dX12_back_72 : decode cX12_back 72 = .ok (.iinc 1 1, 3) := by decide +kernel
theorem dX12_back_75 : decode cX12_back 75 = .ok (.goto (-23), 3) := by decide +kernel
theorem dX12_back_78 : decode cX12_back 78 = .ok (.iconst 0, 1) := by decide +kernel
theorem dX12_back_79 : decode cX12_back 79 = .ok (.istore_n 1, 1) := by decide +kernel
theorem dX12_back_80 : decode cX12_back 80 = .ok (.iload_n 1, 1) := by decide +kernel
theorem dX12_back_81 : decode cX12_back 81 = .ok (.bipush 12, 2) := by decide +kernel
theorem dX12_back_83 : decode cX12_back 83 = .ok (.if_icmp .ge 33, 3) := by decide +kernel
theorem dX12_back_86 : decode cX12_back 86 = .ok (.aload_n 0, 1) := by decide +kernel
theorem dX12_back_87 : decode cX12_back 87 = .ok (.getfield 29, 3) := by decide +kernel
theorem dX12_back_90 : decode cX12_back 90 = .ok (.iload_n 1, 1) := by decide +kernel
theorem dX12_back_91 : decode cX12_back 91 = .ok (.aload_n 0, 1) := by decide +kernel
theorem dX12_back_92 : decode cX12_back 92 = .ok (.getfield 71, 3) := by decide +kernel
theorem dX12_back_95 : decode cX12_back 95 = .ok (.iload_n 1, 1) := by decide +kernel
theorem dX12_back_96 : decode cX12_back 96 = .ok (.iaload, 1) := by decide +kernel
theorem dX12_back_97 : decode cX12_back 97 = .ok (.iastore, 1) := by decide +kernel
theorem dX12_back_98 : decode cX12_back 98 = .ok (.aload_n 0, 1) := by decide +kernel
theorem dX12_back_99 : decode cX12_back 99 = .ok (.getfield 32, 3) := by decide +kernel
theorem dX12_back_102 : decode cX12_back 102 = .ok (.iload_n 1, 1) := by decide +kernel
theorem dX12_back_103 : decode cX12_back 103 = .ok (.aload_n 0, 1) := by decide +kernel
theorem dX12_back_104 : decode cX12_back 104 = .ok (.getfield 74, 3) := by decide +kernel
theorem dX12_back_107 : decode cX12_back 107 = .ok (.iload_n 1, 1) := by decide +kernel
theorem dX12_back_108 : decode cX12_back 108 = .ok (.iaload, 1) := by decide +kernel
theorem dX12_back_109 : decode cX12_back 109 = .ok (.iastore, 1) := by decide +kernel
theorem dX12_back_110 : decode cX12_back 110 = .ok (.iinc 1 1, 3) := by decide +kernel
theorem dX12_back_113 : decode cX12_back 113 = .ok (.goto (-33), 3) := by decide +kernel
theorem dX12_back_116 : decode cX12_back 116 = .ok (.aload_n 0, 1) := by decide +kernel
theorem dX12_back_117 : decode cX12_back 117 = .ok (.getfield 130, 3) := by decide +kernel
theorem dX12_back_120 : decode cX12_back 120 = .ok (.ireturn, 1) := by decide +kernel
theorem dX12_sheet_0 : decode cX12_sheet 0 = .ok (.iload_n 1, 1) := by decide +kernel
theorem dX12_sheet_1 : decode cX12_sheet 1 = .ok (.iconst 0, 1) := by decide +kernel
theorem dX12_sheet_2 : decode cX12_sheet 2 = .ok (.iconst 3, 1) := by decide +kernel
theorem dX12_sheet_3 : decode cX12_sheet 3 = .ok (.invokestatic 133, 3) := by decide +kernel
theorem dX12_sheet_6 : decode cX12_sheet 6 = .ok (.ifCond .eq 23, 3) := by decide +kernel
theorem dX12_sheet_9 : decode cX12_sheet 9 = .ok (.iload_n 2, 1) := by decide +kernel
theorem dX12_sheet_10 : decode cX12_sheet 10 = .ok (.iconst (-1), 1) := by decide +kernel
theorem dX12_sheet_11 : decode cX12_sheet 11 = .ok (.iconst 2, 1) := by decide +kernel
theorem dX12_sheet_12 : decode cX12_sheet 12 = .ok (.invokestatic 133, 3) := by decide +kernel
theorem dX12_sheet_15 : decode cX12_sheet 15 = .ok (.ifCond .eq 14, 3) := by decide +kernel
theorem dX12_sheet_18 : decode cX12_sheet 18 = .ok (.iload_n 2, 1) := by decide +kernel
theorem dX12_sheet_19 : decode cX12_sheet 19 = .ok (.iconst (-1), 1) := by decide +kernel
theorem dX12_sheet_20 : decode cX12_sheet 20 = .ok (.if_icmp .eq 12, 3) := by decide +kernel
theorem dX12_sheet_23 : decode cX12_sheet 23 = .ok (.iload_n 3, 1) := by decide +kernel
theorem dX12_sheet_24 : decode cX12_sheet 24 = .ok (.bipush 40, 2) := by decide +kernel
theorem dX12_sheet_26 : decode cX12_sheet 26 = .ok (.if_icmp .le 6, 3) := by decide +kernel
theorem dX12_sheet_29 : decode cX12_sheet 29 = .ok (.bipush (-2), 2) := by decide +kernel
theorem dX12_sheet_31 : decode cX12_sheet 31 = .ok (.ireturn, 1) := by decide +kernel
theorem dX12_sheet_32 : decode cX12_sheet 32 = .ok (.iload_n 2, 1) := by decide +kernel
theorem dX12_sheet_33 : decode cX12_sheet 33 = .ok (.iconst (-1), 1) := by decide +kernel
theorem dX12_sheet_34 : decode cX12_sheet 34 = .ok (.if_icmp .eq 10, 3) := by decide +kernel
theorem dX12_sheet_37 : decode cX12_sheet 37 = .ok (.iload_n 3, 1) := by decide +kernel
theorem dX12_sheet_38 : decode cX12_sheet 38 = .ok (.ifCond .ge 6, 3) := by decide +kernel
theorem dX12_sheet_41 : decode cX12_sheet 41 = .ok (.bipush (-14), 2) := by decide +kernel
theorem dX12_sheet_43 : decode cX12_sheet 43 = .ok (.ireturn, 1) := by decide +kernel
theorem dX12_sheet_44 : decode cX12_sheet 44 = .ok (.aload_n 0, 1) := by decide +kernel
theorem dX12_sheet_45 : decode cX12_sheet 45 = .ok (.getfield 77, 3) := by decide +kernel
theorem dX12_sheet_48 : decode cX12_sheet 48 = .ok (.iload_n 1, 1) := by decide +kernel
theorem dX12_sheet_49 : decode cX12_sheet 49 = .ok (.iload_n 2, 1) := by decide +kernel
theorem dX12_sheet_50 : decode cX12_sheet 50 = .ok (.iastore, 1) := by decide +kernel
theorem dX12_sheet_51 : decode cX12_sheet 51 = .ok (.aload_n 0, 1) := by decide +kernel
theorem dX12_sheet_52 : decode cX12_sheet 52 = .ok (.getfield 80, 3) := by decide +kernel
theorem dX12_sheet_55 : decode cX12_sheet 55 = .ok (.iload_n 1, 1) := by decide +kernel
theorem dX12_sheet_56 : decode cX12_sheet 56 = .ok (.iload_n 2, 1) := by decide +kernel
theorem dX12_sheet_57 : decode cX12_sheet 57 = .ok (.iconst (-1), 1) := by decide +kernel
theorem dX12_sheet_58 : decode cX12_sheet 58 = .ok (.if_icmp .ne 7, 3) := by decide +kernel
theorem dX12_sheet_61 : decode cX12_sheet 61 = .ok (.iconst 0, 1) := by decide +kernel
theorem dX12_sheet_62 : decode cX12_sheet 62 = .ok (.goto 4, 3) := by decide +kernel
theorem dX12_sheet_65 : decode cX12_sheet 65 = .ok (.iload_n 3, 1) := by decide +kernel
theorem dX12_sheet_66 : decode cX12_sheet 66 = .ok (.iastore, 1) := by decide +kernel
theorem dX12_sheet_67 : decode cX12_sheet 67 = .ok (.iconst 0, 1) := by decide +kernel
theorem dX12_sheet_68 : decode cX12_sheet 68 = .ok (.istore 4, 2) := by decide +kernel
theorem dX12_sheet_70 : decode cX12_sheet 70 = .ok (.iload 4, 2) := by decide +kernel
theorem dX12_sheet_72 : decode cX12_sheet 72 = .ok (.bipush 40, 2) := by decide +kernel
theorem dX12_sheet_74 : decode cX12_sheet 74 = .ok (.if_icmp .ge 22, 3) := by decide +kernel
theorem dX12_sheet_77 : decode cX12_sheet 77 = .ok (.aload_n 0, 1) := by decide +kernel
theorem dX12_sheet_78 : decode cX12_sheet 78 = .ok (.getfield 83, 3) := by decide +kernel
theorem dX12_sheet_81 : decode cX12_sheet 81 = .ok (.bipush 40, 2) := by decide +kernel
theorem dX12_sheet_83 : decode cX12_sheet 83 = .ok (.iload_n 1, 1) := by decide +kernel
theorem dX12_sheet_84 : decode cX12_sheet 84 = .ok (.imul, 1) := by decide +kernel
theorem dX12_sheet_85 : decode cX12_sheet 85 = .ok (.iload 4, 2) := by decide +kernel
theorem dX12_sheet_87 : decode cX12_sheet 87 = .ok (.iadd, 1) := by decide +kernel
theorem dX12_sheet_88 : decode cX12_sheet 88 = .ok (.iconst 0, 1) := by decide +kernel
theorem dX12_sheet_89 : decode cX12_sheet 89 = .ok (.iastore, 1) := by decide +kernel
theorem dX12_sheet_90 : decode cX12_sheet 90 = .ok (.iinc 4 1, 3) := by decide +kernel
theorem dX12_sheet_93 : decode cX12_sheet 93 = .ok (.goto (-23), 3) := by decide +kernel
theorem dX12_sheet_96 : decode cX12_sheet 96 = .ok (.iconst 1, 1) := by decide +kernel
theorem dX12_sheet_97 : decode cX12_sheet 97 = .ok (.ireturn, 1) := by decide +kernel
theorem dX12_cell_0 : decode cX12_cell 0 = .ok (.iload_n 1, 1) := by decide +kernel
theorem dX12_cell_1 : decode cX12_cell 1 = .ok (.iconst 0, 1) := by decide +kernel
theorem dX12_cell_2 : decode cX12_cell 2 = .ok (.iconst 3, 1) := by decide +kernel
theorem dX12_cell_3 : decode cX12_cell 3 = .ok (.invokestatic 133, 3) := by decide +kernel
theorem dX12_cell_6 : decode cX12_cell 6 = .ok (.ifCond .ne 6, 3) := by decide +kernel
theorem dX12_cell_9 : decode cX12_cell 9 = .ok (.bipush (-2), 2) := by decide +kernel
theorem dX12_cell_11 : decode cX12_cell 11 = .ok (.ireturn, 1) := by decide +kernel
theorem dX12_cell_12 : decode cX12_cell 12 = .ok (.aload_n 0, 1) := by decide +kernel
theorem dX12_cell_13 : decode cX12_cell 13 = .ok (.getfield 77, 3) := by decide +kernel
theorem dX12_cell_16 : decode cX12_cell 16 = .ok (.iload_n 1, 1) := by decide +kernel
theorem dX12_cell_17 : decode cX12_cell 17 = .ok (.iaload, 1) := by decide +kernel
theorem dX12_cell_18 : decode cX12_cell 18 = .ok (.iconst (-1), 1) := by decide +kernel
theorem dX12_cell_19 : decode cX12_cell 19 = .ok (.if_icmp .ne 6, 3) := by decide +kernel
theorem dX12_cell_22 : decode cX12_cell 22 = .ok (.bipush (-11), 2) := by decide +kernel
theorem dX12_cell_24 : decode cX12_cell 24 = .ok (.ireturn, 1) := by decide +kernel
theorem dX12_cell_25 : decode cX12_cell 25 = .ok (.iload_n 2, 1) := by decide +kernel
theorem dX12_cell_26 : decode cX12_cell 26 = .ok (.iconst 0, 1) := by decide +kernel
theorem dX12_cell_27 : decode cX12_cell 27 = .ok (.aload_n 0, 1) := by decide +kernel
theorem dX12_cell_28 : decode cX12_cell 28 = .ok (.getfield 80, 3) := by decide +kernel
theorem dX12_cell_31 : decode cX12_cell 31 = .ok (.iload_n 1, 1) := by decide +kernel
theorem dX12_cell_32 : decode cX12_cell 32 = .ok (.iaload, 1) := by decide +kernel
theorem dX12_cell_33 : decode cX12_cell 33 = .ok (.iconst 1, 1) := by decide +kernel
theorem dX12_cell_34 : decode cX12_cell 34 = .ok (.isub, 1) := by decide +kernel
theorem dX12_cell_35 : decode cX12_cell 35 = .ok (.invokestatic 133, 3) := by decide +kernel
theorem dX12_cell_38 : decode cX12_cell 38 = .ok (.ifCond .ne 6, 3) := by decide +kernel
theorem dX12_cell_41 : decode cX12_cell 41 = .ok (.bipush (-12), 2) := by decide +kernel
theorem dX12_cell_43 : decode cX12_cell 43 = .ok (.ireturn, 1) := by decide +kernel
theorem dX12_cell_44 : decode cX12_cell 44 = .ok (.aload_n 0, 1) := by decide +kernel
theorem dX12_cell_45 : decode cX12_cell 45 = .ok (.getfield 83, 3) := by decide +kernel
theorem dX12_cell_48 : decode cX12_cell 48 = .ok (.bipush 40, 2) := by decide +kernel
theorem dX12_cell_50 : decode cX12_cell 50 = .ok (.iload_n 1, 1) := by decide +kernel
theorem dX12_cell_51 : decode cX12_cell 51 = .ok (.imul, 1) := by decide +kernel
theorem dX12_cell_52 : decode cX12_cell 52 = .ok (.iload_n 2, 1) := by decide +kernel
theorem dX12_cell_53 : decode cX12_cell 53 = .ok (.iadd, 1) := by decide +kernel
theorem dX12_cell_54 : decode cX12_cell 54 = .ok (.aload_n 0, 1) := by decide +kernel
theorem dX12_cell_55 : decode cX12_cell 55 = .ok (.getfield 77, 3) := by decide +kernel
theorem dX12_cell_58 : decode cX12_cell 58 = .ok (.iload_n 1, 1) := by decide +kernel
theorem dX12_cell_59 : decode cX12_cell 59 = .ok (.iaload, 1) := by decide +kernel
theorem dX12_cell_60 : decode cX12_cell 60 = .ok (.ifCond .ne 8, 3) := by decide +kernel
theorem dX12_cell_63 : decode cX12_cell 63 = .ok (.iload_n 3, 1) := by decide +kernel
theorem dX12_cell_64 : decode cX12_cell 64 = .ok (.i2b, 1) := by decide +kernel
theorem dX12_cell_65 : decode cX12_cell 65 = .ok (.goto 19, 3) := by decide +kernel
theorem dX12_cell_68 : decode cX12_cell 68 = .ok (.aload_n 0, 1) := by decide +kernel
theorem dX12_cell_69 : decode cX12_cell 69 = .ok (.getfield 77, 3) := by decide +kernel
theorem dX12_cell_72 : decode cX12_cell 72 = .ok (.iload_n 1, 1) := by decide +kernel
theorem dX12_cell_73 : decode cX12_cell 73 = .ok (.iaload, 1) := by decide +kernel
theorem dX12_cell_74 : decode cX12_cell 74 = .ok (.iconst 1, 1) := by decide +kernel
theorem dX12_cell_75 : decode cX12_cell 75 = .ok (.if_icmp .ne 8, 3) := by decide +kernel
theorem dX12_cell_78 : decode cX12_cell 78 = .ok (.iload_n 3, 1) := by decide +kernel
theorem dX12_cell_79 : decode cX12_cell 79 = .ok (.i2s, 1) := by decide +kernel
theorem dX12_cell_80 : decode cX12_cell 80 = .ok (.goto 4, 3) := by decide +kernel
theorem dX12_cell_83 : decode cX12_cell 83 = .ok (.iload_n 3, 1) := by decide +kernel
theorem dX12_cell_84 : decode cX12_cell 84 = .ok (.iastore, 1) := by decide +kernel
theorem dX12_cell_85 : decode cX12_cell 85 = .ok (.iconst 1, 1) := by decide +kernel
theorem dX12_cell_86 : decode cX12_cell 86 = .ok (.ireturn, 1) := by decide +kernel
theorem dX12_copy_0 : decode cX12_copy 0 = .ok (.iload_n 1, 1) := by decide +kernel
theorem dX12_copy_1 : decode cX12_copy 1 = .ok (.iconst 0, 1) := by decide +kernel
theorem dX12_copy_2 : decode cX12_copy 2 = .ok (.iconst 3, 1) := by decide +kernel
theorem dX12_copy_3 : decode cX12_copy 3 = .ok (.invokestatic 133, 3) := by decide +kernel
theorem dX12_copy_6 : decode cX12_copy 6 = .ok (.ifCond .eq 12, 3) := by decide +kernel
theorem dX12_copy_9 : decode cX12_copy 9 = .ok (.iload_n 3, 1) := by decide +kernel
theorem dX12_copy_10 : decode cX12_copy 10 = .ok (.iconst 0, 1) := by decide +kernel
theorem dX12_copy_11 : decode cX12_copy 11 = .ok (.iconst 3, 1) := by decide +kernel
theorem dX12_copy_12 : decode cX12_copy 12 = .ok (.invokestatic 133, 3) := by decide +kernel
theorem dX12_copy_15 : decode cX12_copy 15 = .ok (.ifCond .ne 6, 3) := by decide +kernel
theorem dX12_copy_18 : decode cX12_copy 18 = .ok (.bipush (-2), 2) := by decide +kernel
theorem dX12_copy_20 : decode cX12_copy 20 = .ok (.ireturn, 1) := by decide +kernel
theorem dX12_copy_21 : decode cX12_copy 21 = .ok (.aload_n 0, 1) := by decide +kernel
theorem dX12_copy_22 : decode cX12_copy 22 = .ok (.getfield 77, 3) := by decide +kernel
theorem dX12_copy_25 : decode cX12_copy 25 = .ok (.iload_n 1, 1) := by decide +kernel
theorem dX12_copy_26 : decode cX12_copy 26 = .ok (.iaload, 1) := by decide +kernel
theorem dX12_copy_27 : decode cX12_copy 27 = .ok (.iconst (-1), 1) := by decide +kernel
theorem dX12_copy_28 : decode cX12_copy 28 = .ok (.if_icmp .eq 13, 3) := by decide +kernel
theorem dX12_copy_31 : decode cX12_copy 31 = .ok (.aload_n 0, 1) := by decide +kernel
theorem dX12_copy_32 : decode cX12_copy 32 = .ok (.getfield 77, 3) := by decide +kernel
theorem dX12_copy_35 : decode cX12_copy 35 = .ok (.iload_n 3, 1) := by decide +kernel
theorem dX12_copy_36 : decode cX12_copy 36 = .ok (.iaload, 1) := by decide +kernel
theorem dX12_copy_37 : decode cX12_copy 37 = .ok (.iconst (-1), 1) := by decide +kernel
theorem dX12_copy_38 : decode cX12_copy 38 = .ok (.if_icmp .ne 6, 3) := by decide +kernel
theorem dX12_copy_41 : decode cX12_copy 41 = .ok (.bipush (-11), 2) := by decide +kernel
theorem dX12_copy_43 : decode cX12_copy 43 = .ok (.ireturn, 1) := by decide +kernel
theorem dX12_copy_44 : decode cX12_copy 44 = .ok (.aload_n 0, 1) := by decide +kernel
theorem dX12_copy_45 : decode cX12_copy 45 = .ok (.getfield 77, 3) := by decide +kernel
theorem dX12_copy_48 : decode cX12_copy 48 = .ok (.iload_n 1, 1) := by decide +kernel
theorem dX12_copy_49 : decode cX12_copy 49 = .ok (.iaload, 1) := by decide +kernel
theorem dX12_copy_50 : decode cX12_copy 50 = .ok (.aload_n 0, 1) := by decide +kernel
theorem dX12_copy_51 : decode cX12_copy 51 = .ok (.getfield 77, 3) := by decide +kernel
theorem dX12_copy_54 : decode cX12_copy 54 = .ok (.iload_n 3, 1) := by decide +kernel
theorem dX12_copy_55 : decode cX12_copy 55 = .ok (.iaload, 1) := by decide +kernel
theorem dX12_copy_56 : decode cX12_copy 56 = .ok (.if_icmp .eq 6, 3) := by decide +kernel
theorem dX12_copy_59 : decode cX12_copy 59 = .ok (.bipush (-13), 2) := by decide +kernel
theorem dX12_copy_61 : decode cX12_copy 61 = .ok (.ireturn, 1) := by decide +kernel
theorem dX12_copy_62 : decode cX12_copy 62 = .ok (.iload 5, 2) := by decide +kernel
theorem dX12_copy_64 : decode cX12_copy 64 = .ok (.ifCond .lt 60, 3) := by decide +kernel
theorem dX12_copy_67 : decode cX12_copy 67 = .ok (.iload_n 2, 1) := by decide +kernel
theorem dX12_copy_68 : decode cX12_copy 68 = .ok (.ifCond .lt 56, 3) := by decide +kernel
theorem dX12_copy_71 : decode cX12_copy 71 = .ok (.iload 4, 2) := by decide +kernel
theorem dX12_copy_73 : decode cX12_copy 73 = .ok (.ifCond .lt 51, 3) := by decide +kernel
theorem dX12_copy_76 : decode cX12_copy 76 = .ok (.iload_n 2, 1) := by decide +kernel
theorem dX12_copy_77 : decode cX12_copy 77 = .ok (.aload_n 0, 1) := by decide +kernel
theorem dX12_copy_78 : decode cX12_copy 78 = .ok (.getfield 80, 3) := by decide +kernel
theorem dX12_copy_81 : decode cX12_copy 81 = .ok (.iload_n 1, 1) := by decide +kernel
theorem dX12_copy_82 : decode cX12_copy 82 = .ok (.iaload, 1) := by decide +kernel
theorem dX12_copy_83 : decode cX12_copy 83 = .ok (.if_icmp .gt 41, 3) := by decide +kernel
theorem dX12_copy_86 : decode cX12_copy 86 = .ok (.iload 4, 2) := by decide +kernel
theorem dX12_copy_88 : decode cX12_copy 88 = .ok (.aload_n 0, 1) := by decide +kernel
theorem dX12_copy_89 : decode cX12_copy 89 = .ok (.getfield 80, 3) := by decide +kernel
theorem dX12_copy_92 : decode cX12_copy 92 = .ok (.iload_n 3, 1) := by decide +kernel
theorem dX12_copy_93 : decode cX12_copy 93 = .ok (.iaload, 1) := by decide +kernel
theorem dX12_copy_94 : decode cX12_copy 94 = .ok (.if_icmp .gt 30, 3) := by decide +kernel
theorem dX12_copy_97 : decode cX12_copy 97 = .ok (.iload 5, 2) := by decide +kernel
theorem dX12_copy_99 : decode cX12_copy 99 = .ok (.aload_n 0, 1) := by decide +kernel
theorem dX12_copy_100 : decode cX12_copy 100 = .ok (.getfield 80, 3) := by decide +kernel
theorem dX12_copy_103 : decode cX12_copy 103 = .ok (.iload_n 1, 1) := by decide +kernel
theorem dX12_copy_104 : decode cX12_copy 104 = .ok (.iaload, 1) := by decide +kernel
theorem dX12_copy_105 : decode cX12_copy 105 = .ok (.iload_n 2, 1) := by decide +kernel
theorem dX12_copy_106 : decode cX12_copy 106 = .ok (.isub, 1) := by decide +kernel
theorem dX12_copy_107 : decode cX12_copy 107 = .ok (.if_icmp .gt 17, 3) := by decide +kernel
theorem dX12_copy_110 : decode cX12_copy 110 = .ok (.iload 5, 2) := by decide +kernel
theorem dX12_copy_112 : decode cX12_copy 112 = .ok (.aload_n 0, 1) := by decide +kernel
theorem dX12_copy_113 : decode cX12_copy 113 = .ok (.getfield 80, 3) := by decide +kernel
theorem dX12_copy_116 : decode cX12_copy 116 = .ok (.iload_n 3, 1) := by decide +kernel
theorem dX12_copy_117 : decode cX12_copy 117 = .ok (.iaload, 1) := by decide +kernel
theorem dX12_copy_118 : decode cX12_copy 118 = .ok (.iload 4, 2) := by decide +kernel
theorem dX12_copy_120 : decode cX12_copy 120 = .ok (.isub, 1) := by decide +kernel
theorem dX12_copy_121 : decode cX12_copy 121 = .ok (.if_icmp .le 6, 3) := by decide +kernel
theorem dX12_copy_124 : decode cX12_copy 124 = .ok (.bipush (-12), 2) := by decide +kernel
theorem dX12_copy_126 : decode cX12_copy 126 = .ok (.ireturn, 1) := by decide +kernel
theorem dX12_copy_127 : decode cX12_copy 127 = .ok (.bipush 40, 2) := by decide +kernel
theorem dX12_copy_129 : decode cX12_copy 129 = .ok (.iload_n 1, 1) := by decide +kernel
theorem dX12_copy_130 : decode cX12_copy 130 = .ok (.imul, 1) := by decide +kernel
theorem dX12_copy_131 : decode cX12_copy 131 = .ok (.iload_n 2, 1) := by decide +kernel
theorem dX12_copy_132 : decode cX12_copy 132 = .ok (.iadd, 1) := by decide +kernel
theorem dX12_copy_133 : decode cX12_copy 133 = .ok (.istore 6, 2) := by decide +kernel
theorem dX12_copy_135 : decode cX12_copy 135 = .ok (.bipush 40, 2) := by decide +kernel
theorem dX12_copy_137 : decode cX12_copy 137 = .ok (.iload_n 3, 1) := by decide +kernel
theorem dX12_copy_138 : decode cX12_copy 138 = .ok (.imul, 1) := by decide +kernel
theorem dX12_copy_139 : decode cX12_copy 139 = .ok (.iload 4, 2) := by decide +kernel
theorem dX12_copy_141 : decode cX12_copy 141 = .ok (.iadd, 1) := by decide +kernel
theorem dX12_copy_142 : decode cX12_copy 142 = .ok (.istore 7, 2) := by decide +kernel
theorem dX12_copy_144 : decode cX12_copy 144 = .ok (.iconst 0, 1) := by decide +kernel
theorem dX12_copy_145 : decode cX12_copy 145 = .ok (.istore 8, 2) := by decide +kernel
theorem dX12_copy_147 : decode cX12_copy 147 = .ok (.iload 8, 2) := by decide +kernel
theorem dX12_copy_149 : decode cX12_copy 149 = .ok (.iload 5, 2) := by decide +kernel
theorem dX12_copy_151 : decode cX12_copy 151 = .ok (.if_icmp .ge 50, 3) := by decide +kernel
theorem dX12_copy_154 : decode cX12_copy 154 = .ok (.iload 6, 2) := by decide +kernel
theorem dX12_copy_156 : decode cX12_copy 156 = .ok (.iload 7, 2) := by decide +kernel
theorem dX12_copy_158 : decode cX12_copy 158 = .ok (.if_icmp .ge 13, 3) := by decide +kernel
theorem dX12_copy_161 : decode cX12_copy 161 = .ok (.iload 5, 2) := by decide +kernel
theorem dX12_copy_163 : decode cX12_copy 163 = .ok (.iconst 1, 1) := by decide +kernel
theorem dX12_copy_164 : decode cX12_copy 164 = .ok (.isub, 1) := by decide +kernel
theorem dX12_copy_165 : decode cX12_copy 165 = .ok (.iload 8, 2) := by decide +kernel
theorem dX12_copy_167 : decode cX12_copy 167 = .ok (.isub, 1) := by decide +kernel
theorem dX12_copy_168 : decode cX12_copy 168 = .ok (.goto 5, 3) := by decide +kernel
theorem dX12_copy_171 : decode cX12_copy 171 = .ok (.iload 8, 2) := by decide +kernel
theorem dX12_copy_173 : decode cX12_copy 173 = .ok (.istore 9, 2) := by decide +kernel
theorem dX12_copy_175 : decode cX12_copy 175 = .ok (.aload_n 0, 1) := by decide +kernel
theorem dX12_copy_176 : decode cX12_copy 176 = .ok (.getfield 83, 3) := by decide +kernel
theorem dX12_copy_179 : decode cX12_copy 179 = .ok (.iload 7, 2) := by decide +kernel
theorem dX12_copy_181 : decode cX12_copy 181 = .ok (.iload 9, 2) := by decide +kernel
theorem dX12_copy_183 : decode cX12_copy 183 = .ok (.iadd, 1) := by decide +kernel
theorem dX12_copy_184 : decode cX12_copy 184 = .ok (.aload_n 0, 1) := by decide +kernel
theorem dX12_copy_185 : decode cX12_copy 185 = .ok (.getfield 83, 3) := by decide +kernel
theorem dX12_copy_188 : decode cX12_copy 188 = .ok (.iload 6, 2) := by decide +kernel
theorem dX12_copy_190 : decode cX12_copy 190 = .ok (.iload 9, 2) := by decide +kernel
theorem dX12_copy_192 : decode cX12_copy 192 = .ok (.iadd, 1) := by decide +kernel
theorem dX12_copy_193 : decode cX12_copy 193 = .ok (.iaload, 1) := by decide +kernel
theorem dX12_copy_194 : decode cX12_copy 194 = .ok (.iastore, 1) := by decide +kernel
theorem dX12_copy_195 : decode cX12_copy 195 = .ok (.iinc 8 1, 3) := by decide +kernel
theorem dX12_copy_198 : decode cX12_copy 198 = .ok (.goto (-51), 3) := by decide +kernel
theorem dX12_copy_201 : decode cX12_copy 201 = .ok (.iload 5, 2) := by decide +kernel
theorem dX12_copy_203 : decode cX12_copy 203 = .ok (.ireturn, 1) := by decide +kernel
theorem dX12_men_0 : decode cX12_men 0 = .ok (.iload_n 1, 1) := by decide +kernel
theorem dX12_men_1 : decode cX12_men 1 = .ok (.iconst 0, 1) := by decide +kernel
theorem dX12_men_2 : decode cX12_men 2 = .ok (.iconst 3, 1) := by decide +kernel
theorem dX12_men_3 : decode cX12_men 3 = .ok (.invokestatic 133, 3) := by decide +kernel
theorem dX12_men_6 : decode cX12_men 6 = .ok (.ifCond .eq 23, 3) := by decide +kernel
theorem dX12_men_9 : decode cX12_men 9 = .ok (.iload_n 2, 1) := by decide +kernel
theorem dX12_men_10 : decode cX12_men 10 = .ok (.iconst 0, 1) := by decide +kernel
theorem dX12_men_11 : decode cX12_men 11 = .ok (.iconst 2, 1) := by decide +kernel
theorem dX12_men_12 : decode cX12_men 12 = .ok (.invokestatic 133, 3) := by decide +kernel
theorem dX12_men_15 : decode cX12_men 15 = .ok (.ifCond .eq 14, 3) := by decide +kernel
theorem dX12_men_18 : decode cX12_men 18 = .ok (.iload 4, 2) := by decide +kernel
theorem dX12_men_20 : decode cX12_men 20 = .ok (.iconst 0, 1) := by decide +kernel
theorem dX12_men_21 : decode cX12_men 21 = .ok (.bipush 8, 2) := by decide +kernel
theorem dX12_men_23 : decode cX12_men 23 = .ok (.invokestatic 133, 3) := by decide +kernel
theorem dX12_men_26 : decode cX12_men 26 = .ok (.ifCond .ne 6, 3) := by decide +kernel
theorem dX12_men_29 : decode cX12_men 29 = .ok (.bipush (-2), 2) := by decide +kernel
theorem dX12_men_31 : decode cX12_men 31 = .ok (.ireturn, 1) := by decide +kernel
theorem dX12_men_32 : decode cX12_men 32 = .ok (.aload_n 0, 1) := by decide +kernel
theorem dX12_men_33 : decode cX12_men 33 = .ok (.getfield 77, 3) := by decide +kernel
theorem dX12_men_36 : decode cX12_men 36 = .ok (.iload_n 1, 1) := by decide +kernel
theorem dX12_men_37 : decode cX12_men 37 = .ok (.iaload, 1) := by decide +kernel
theorem dX12_men_38 : decode cX12_men 38 = .ok (.iconst (-1), 1) := by decide +kernel
theorem dX12_men_39 : decode cX12_men 39 = .ok (.if_icmp .ne 6, 3) := by decide +kernel
theorem dX12_men_42 : decode cX12_men 42 = .ok (.bipush (-11), 2) := by decide +kernel
theorem dX12_men_44 : decode cX12_men 44 = .ok (.ireturn, 1) := by decide +kernel
theorem dX12_men_45 : decode cX12_men 45 = .ok (.aload_n 0, 1) := by decide +kernel
theorem dX12_men_46 : decode cX12_men 46 = .ok (.getfield 77, 3) := by decide +kernel
theorem dX12_men_49 : decode cX12_men 49 = .ok (.iload_n 1, 1) := by decide +kernel
theorem dX12_men_50 : decode cX12_men 50 = .ok (.iaload, 1) := by decide +kernel
theorem dX12_men_51 : decode cX12_men 51 = .ok (.iload_n 2, 1) := by decide +kernel
theorem dX12_men_52 : decode cX12_men 52 = .ok (.if_icmp .eq 6, 3) := by decide +kernel
theorem dX12_men_55 : decode cX12_men 55 = .ok (.bipush (-13), 2) := by decide +kernel
theorem dX12_men_57 : decode cX12_men 57 = .ok (.ireturn, 1) := by decide +kernel
theorem dX12_men_58 : decode cX12_men 58 = .ok (.iconst 0, 1) := by decide +kernel
theorem dX12_men_59 : decode cX12_men 59 = .ok (.istore 5, 2) := by decide +kernel
theorem dX12_men_61 : decode cX12_men 61 = .ok (.iconst 0, 1) := by decide +kernel
theorem dX12_men_62 : decode cX12_men 62 = .ok (.istore 6, 2) := by decide +kernel
theorem dX12_men_64 : decode cX12_men 64 = .ok (.iload 6, 2) := by decide +kernel
theorem dX12_men_66 : decode cX12_men 66 = .ok (.iload 4, 2) := by decide +kernel
theorem dX12_men_68 : decode cX12_men 68 = .ok (.if_icmp .ge 85, 3) := by decide +kernel
theorem dX12_men_71 : decode cX12_men 71 = .ok (.iload_n 3, 1) := by decide +kernel
theorem dX12_men_72 : decode cX12_men 72 = .ok (.iconst 2, 1) := by decide +kernel
theorem dX12_men_73 : decode cX12_men 73 = .ok (.iload 6, 2) := by decide +kernel
theorem dX12_men_75 : decode cX12_men 75 = .ok (.imul, 1) := by decide +kernel
theorem dX12_men_76 : decode cX12_men 76 = .ok (.iadd, 1) := by decide +kernel
theorem dX12_men_77 : decode cX12_men 77 = .ok (.istore 7, 2) := by decide +kernel
theorem dX12_men_79 : decode cX12_men 79 = .ok (.iload_n 3, 1) := by decide +kernel
theorem dX12_men_80 : decode cX12_men 80 = .ok (.ifCond .lt 22, 3) := by decide +kernel
theorem dX12_men_83 : decode cX12_men 83 = .ok (.iload 7, 2) := by decide +kernel
theorem dX12_men_85 : decode cX12_men 85 = .ok (.iload_n 3, 1) := by decide +kernel
theorem dX12_men_86 : decode cX12_men 86 = .ok (.if_icmp .lt 16, 3) := by decide +kernel
theorem dX12_men_89 : decode cX12_men 89 = .ok (.iload 7, 2) := by decide +kernel
theorem dX12_men_91 : decode cX12_men 91 = .ok (.aload_n 0, 1) := by decide +kernel
theorem dX12_men_92 : decode cX12_men 92 = .ok (.getfield 80, 3) := by decide +kernel
theorem dX12_men_95 : decode cX12_men 95 = .ok (.iload_n 1, 1) := by decide +kernel
theorem dX12_men_96 : decode cX12_men 96 = .ok (.iaload, 1) := by decide +kernel
theorem dX12_men_97 : decode cX12_men 97 = .ok (.iconst 2, 1) := by decide +kernel
theorem dX12_men_98 : decode cX12_men 98 = .ok (.isub, 1) := by decide +kernel
theorem dX12_men_99 : decode cX12_men 99 = .ok (.if_icmp .le 6, 3) := by decide +kernel
theorem dX12_men_102 : decode cX12_men 102 = .ok (.bipush (-12), 2) := by decide +kernel
theorem dX12_men_104 : decode cX12_men 104 = .ok (.ireturn, 1) := by decide +kernel
theorem dX12_men_105 : decode cX12_men 105 = .ok (.bipush 40, 2) := by decide +kernel
theorem dX12_men_107 : decode cX12_men 107 = .ok (.iload_n 1, 1) := by decide +kernel
theorem dX12_men_108 : decode cX12_men 108 = .ok (.imul, 1) := by decide +kernel
theorem dX12_men_109 : decode cX12_men 109 = .ok (.iload 7, 2) := by decide +kernel
theorem dX12_men_111 : decode cX12_men 111 = .ok (.iadd, 1) := by decide +kernel
theorem dX12_men_112 : decode cX12_men 112 = .ok (.istore 8, 2) := by decide +kernel
theorem dX12_men_114 : decode cX12_men 114 = .ok (.iload 5, 2) := by decide +kernel
theorem dX12_men_116 : decode cX12_men 116 = .ok (.aload_n 0, 1) := by decide +kernel
theorem dX12_men_117 : decode cX12_men 117 = .ok (.aload_n 0, 1) := by decide +kernel
theorem dX12_men_118 : decode cX12_men 118 = .ok (.getfield 83, 3) := by decide +kernel
theorem dX12_men_121 : decode cX12_men 121 = .ok (.iload 8, 2) := by decide +kernel
theorem dX12_men_123 : decode cX12_men 123 = .ok (.iaload, 1) := by decide +kernel
theorem dX12_men_124 : decode cX12_men 124 = .ok (.aload_n 0, 1) := by decide +kernel
theorem dX12_men_125 : decode cX12_men 125 = .ok (.getfield 83, 3) := by decide +kernel
theorem dX12_men_128 : decode cX12_men 128 = .ok (.iload 8, 2) := by decide +kernel
theorem dX12_men_130 : decode cX12_men 130 = .ok (.iconst 1, 1) := by decide +kernel
theorem dX12_men_131 : decode cX12_men 131 = .ok (.iadd, 1) := by decide +kernel
theorem dX12_men_132 : decode cX12_men 132 = .ok (.iaload, 1) := by decide +kernel
theorem dX12_men_133 : decode cX12_men 133 = .ok (.invokevirtual 300, 3) := by decide +kernel
theorem dX12_men_136 : decode cX12_men 136 = .ok (.ifCond .lt 7, 3) := by decide +kernel
theorem dX12_men_139 : decode cX12_men 139 = .ok (.iconst 1, 1) := by decide +kernel
theorem dX12_men_140 : decode cX12_men 140 = .ok (.goto 4, 3) := by decide +kernel
theorem dX12_men_143 : decode cX12_men 143 = .ok (.iconst 0, 1) := by decide +kernel
theorem dX12_men_144 : decode cX12_men 144 = .ok (.iadd, 1) := by decide +kernel
theorem dX12_men_145 : decode cX12_men 145 = .ok (.istore 5, 2) := by decide +kernel
theorem dX12_men_147 : decode cX12_men 147 = .ok (.iinc 6 1, 3) := by decide +kernel
theorem dX12_men_150 : decode cX12_men 150 = .ok (.goto (-86), 3) := by decide +kernel
theorem dX12_men_153 : decode cX12_men 153 = .ok (.iload 5, 2) := by decide +kernel
theorem dX12_men_155 : decode cX12_men 155 = .ok (.ireturn, 1) := by decide +kernel
theorem dX12_isUnder_0 : decode cX12_isUnder 0 = .ok (.iload_n 1, 1) := by decide +kernel
theorem dX12_isUnder_1 : decode cX12_isUnder 1 = .ok (.ifCond .eq 28, 3) := by decide +kernel
theorem dX12_isUnder_4 : decode cX12_isUnder 4 = .ok (.iload_n 0, 1) := by decide +kernel
theorem dX12_isUnder_5 : decode cX12_isUnder 5 = .ok (.iload_n 1, 1) := by decide +kernel
theorem dX12_isUnder_6 : decode cX12_isUnder 6 = .ok (.if_icmp .eq 23, 3) := by decide +kernel
theorem dX12_isUnder_9 : decode cX12_isUnder 9 = .ok (.iload_n 1, 1) := by decide +kernel
theorem dX12_isUnder_10 : decode cX12_isUnder 10 = .ok (.iconst 1, 1) := by decide +kernel
theorem dX12_isUnder_11 : decode cX12_isUnder 11 = .ok (.if_icmp .ne 8, 3) := by decide +kernel
theorem dX12_isUnder_14 : decode cX12_isUnder 14 = .ok (.iload_n 0, 1) := by decide +kernel
theorem dX12_isUnder_15 : decode cX12_isUnder 15 = .ok (.iconst 5, 1) := by decide +kernel
theorem dX12_isUnder_16 : decode cX12_isUnder 16 = .ok (.if_icmp .eq 13, 3) := by decide +kernel
theorem dX12_isUnder_19 : decode cX12_isUnder 19 = .ok (.iload_n 1, 1) := by decide +kernel
theorem dX12_isUnder_20 : decode cX12_isUnder 20 = .ok (.iconst 2, 1) := by decide +kernel
theorem dX12_isUnder_21 : decode cX12_isUnder 21 = .ok (.if_icmp .ne 12, 3) := by decide +kernel
theorem dX12_isUnder_24 : decode cX12_isUnder 24 = .ok (.iload_n 0, 1) := by decide +kernel
theorem dX12_isUnder_25 : decode cX12_isUnder 25 = .ok (.iconst 3, 1) := by decide +kernel
theorem dX12_isUnder_26 : decode cX12_isUnder 26 = .ok (.if_icmp .ne 7, 3) := by decide +kernel
theorem dX12_isUnder_29 : decode cX12_isUnder 29 = .ok (.iconst 1, 1) := by decide +kernel
theorem dX12_isUnder_30 : decode cX12_isUnder 30 = .ok (.goto 4, 3) := by decide +kernel
theorem dX12_isUnder_33 : decode cX12_isUnder 33 = .ok (.iconst 0, 1) := by decide +kernel
theorem dX12_isUnder_34 : decode cX12_isUnder 34 = .ok (.ireturn, 1) := by decide +kernel
theorem dX12_taken_0 : decode cX12_taken 0 = .ok (.iload_n 2, 1) := by decide +kernel
theorem dX12_taken_1 : decode cX12_taken 1 = .ok (.iconst 0, 1) := by decide +kernel
theorem dX12_taken_2 : decode cX12_taken 2 = .ok (.bipush 6, 2) := by decide +kernel
theorem dX12_taken_4 : decode cX12_taken 4 = .ok (.invokestatic 133, 3) := by decide +kernel
theorem dX12_taken_7 : decode cX12_taken 7 = .ok (.ifCond .ne 6, 3) := by decide +kernel
theorem dX12_taken_10 : decode cX12_taken 10 = .ok (.bipush (-2), 2) := by decide +kernel
theorem dX12_taken_12 : decode cX12_taken 12 = .ok (.ireturn, 1) := by decide +kernel
theorem dX12_taken_13 : decode cX12_taken 13 = .ok (.iload_n 1, 1) := by decide +kernel
theorem dX12_taken_14 : decode cX12_taken 14 = .ok (.iconst 0, 1) := by decide +kernel
theorem dX12_taken_15 : decode cX12_taken 15 = .ok (.bipush 15, 2) := by decide +kernel
theorem dX12_taken_17 : decode cX12_taken 17 = .ok (.invokestatic 133, 3) := by decide +kernel
theorem dX12_taken_20 : decode cX12_taken 20 = .ok (.ifCond .ne 6, 3) := by decide +kernel
theorem dX12_taken_23 : decode cX12_taken 23 = .ok (.bipush (-12), 2) := by decide +kernel
theorem dX12_taken_25 : decode cX12_taken 25 = .ok (.ireturn, 1) := by decide +kernel
theorem dX12_taken_26 : decode cX12_taken 26 = .ok (.iload_n 1, 1) := by decide +kernel
theorem dX12_taken_27 : decode cX12_taken 27 = .ok (.bipush 8, 2) := by decide +kernel
theorem dX12_taken_29 : decode cX12_taken 29 = .ok (.if_icmp .ge 34, 3) := by decide +kernel
theorem dX12_taken_32 : decode cX12_taken 32 = .ok (.iload_n 1, 1) := by decide +kernel
theorem dX12_taken_33 : decode cX12_taken 33 = .ok (.aload_n 0, 1) := by decide +kernel
theorem dX12_taken_34 : decode cX12_taken 34 = .ok (.getfield 130, 3) := by decide +kernel
theorem dX12_taken_37 : decode cX12_taken 37 = .ok (.if_icmp .lt 8, 3) := by decide +kernel
theorem dX12_taken_40 : decode cX12_taken 40 = .ok (.bipush (-11), 2) := by decide +kernel
theorem dX12_taken_42 : decode cX12_taken 42 = .ok (.goto 20, 3) := by decide +kernel
theorem dX12_taken_45 : decode cX12_taken 45 = .ok (.iload_n 2, 1) := by decide +kernel
theorem dX12_taken_46 : decode cX12_taken 46 = .ok (.bipush 6, 2) := by decide +kernel
theorem dX12_taken_48 : decode cX12_taken 48 = .ok (.if_icmp .ne 12, 3) := by decide +kernel
theorem dX12_taken_51 : decode cX12_taken 51 = .ok (.aload_n 0, 1) := by decide +kernel
theorem dX12_taken_52 : decode cX12_taken 52 = .ok (.getfield 7, 3) := by decide +kernel
theorem dX12_taken_55 : decode cX12_taken 55 = .ok (.iload_n 1, 1) := by decide +kernel
theorem dX12_taken_56 : decode cX12_taken 56 = .ok (.iaload, 1) := by decide +kernel
theorem dX12_taken_57 : decode cX12_taken 57 = .ok (.goto 5, 3) := by decide +kernel
theorem dX12_taken_60 : decode cX12_taken 60 = .ok (.bipush (-13), 2) := by decide +kernel
theorem dX12_taken_62 : decode cX12_taken 62 = .ok (.ireturn, 1) := by decide +kernel
theorem dX12_taken_63 : decode cX12_taken 63 = .ok (.iload_n 1, 1) := by decide +kernel
theorem dX12_taken_64 : decode cX12_taken 64 = .ok (.bipush 8, 2) := by decide +kernel
theorem dX12_taken_66 : decode cX12_taken 66 = .ok (.isub, 1) := by decide +kernel
theorem dX12_taken_67 : decode cX12_taken 67 = .ok (.aload_n 0, 1) := by decide +kernel
theorem dX12_taken_68 : decode cX12_taken 68 = .ok (.getfield 137, 3) := by decide +kernel
theorem dX12_taken_71 : decode cX12_taken 71 = .ok (.if_icmp .lt 8, 3) := by decide +kernel
theorem dX12_taken_74 : decode cX12_taken 74 = .ok (.bipush (-11), 2) := by decide +kernel
theorem dX12_taken_76 : decode cX12_taken 76 = .ok (.goto 34, 3) := by decide +kernel
theorem dX12_taken_79 : decode cX12_taken 79 = .ok (.iload_n 2, 1) := by decide +kernel
theorem dX12_taken_80 : decode cX12_taken 80 = .ok (.bipush 6, 2) := by decide +kernel
theorem dX12_taken_82 : decode cX12_taken 82 = .ok (.if_icmp .ge 26, 3) := by decide +kernel
theorem dX12_taken_85 : decode cX12_taken 85 = .ok (.aload_n 0, 1) := by decide +kernel
theorem dX12_taken_86 : decode cX12_taken 86 = .ok (.getfield 35, 3) := by decide +kernel
theorem dX12_taken_89 : decode cX12_taken 89 = .ok (.iload_n 1, 1) := by decide +kernel
theorem dX12_taken_90 : decode cX12_taken 90 = .ok (.bipush 8, 2) := by decide +kernel
theorem dX12_taken_92 : decode cX12_taken 92 = .ok (.isub, 1) := by decide +kernel
theorem dX12_taken_93 : decode cX12_taken 93 = .ok (.iaload, 1) := by decide +kernel
theorem dX12_taken_94 : decode cX12_taken 94 = .ok (.iload_n 2, 1) := by decide +kernel
theorem dX12_taken_95 : decode cX12_taken 95 = .ok (.invokestatic 303, 3) := by decide +kernel
theorem dX12_taken_98 : decode cX12_taken 98 = .ok (.ifCond .eq 10, 3) := by decide +kernel
theorem dX12_taken_101 : decode cX12_taken 101 = .ok (.iload_n 1, 1) := by decide +kernel
theorem dX12_taken_102 : decode cX12_taken 102 = .ok (.bipush 8, 2) := by decide +kernel
theorem dX12_taken_104 : decode cX12_taken 104 = .ok (.isub, 1) := by decide +kernel
theorem dX12_taken_105 : decode cX12_taken 105 = .ok (.goto 5, 3) := by decide +kernel
theorem dX12_taken_108 : decode cX12_taken 108 = .ok (.bipush (-13), 2) := by decide +kernel
theorem dX12_taken_110 : decode cX12_taken 110 = .ok (.ireturn, 1) := by decide +kernel
theorem dJ6_bitCount_0f7a4_0 : decode cJ6_bitCount_0f7a4 0 = .ok (.iload_n 0, 1) := by decide +kernel
theorem dJ6_bitCount_0f7a4_1 : decode cJ6_bitCount_0f7a4 1 = .ok (.iload_n 0, 1) := by decide +kernel
theorem dJ6_bitCount_0f7a4_2 : decode cJ6_bitCount_0f7a4 2 = .ok (.iconst 1, 1) := by decide +kernel
theorem dJ6_bitCount_0f7a4_3 : decode cJ6_bitCount_0f7a4 3 = .ok (.iushr, 1) := by decide +kernel
theorem dJ6_bitCount_0f7a4_4 : decode cJ6_bitCount_0f7a4 4 = .ok (.ldc_w 265, 3) := by decide +kernel
theorem dJ6_bitCount_0f7a4_7 : decode cJ6_bitCount_0f7a4 7 = .ok (.iand, 1) := by decide +kernel
theorem dJ6_bitCount_0f7a4_8 : decode cJ6_bitCount_0f7a4 8 = .ok (.isub, 1) := by decide +kernel
theorem dJ6_bitCount_0f7a4_9 : decode cJ6_bitCount_0f7a4 9 = .ok (.istore_n 0, 1) := by decide +kernel
theorem dJ6_bitCount_0f7a4_10 : decode cJ6_bitCount_0f7a4 10 = .ok (.iload_n 0, 1) := by decide +kernel
theorem dJ6_bitCount_0f7a4_11 : decode cJ6_bitCount_0f7a4 11 = .ok (.ldc_w 266, 3) := by decide +kernel
theorem dJ6_bitCount_0f7a4_14 : decode cJ6_bitCount_0f7a4 14 = .ok (.iand, 1) := by decide +kernel
theorem dJ6_bitCount_0f7a4_15 : decode cJ6_bitCount_0f7a4 15 = .ok (.iload_n 0, 1) := by decide +kernel
theorem dJ6_bitCount_0f7a4_16 : decode cJ6_bitCount_0f7a4 16 = .ok (.iconst 2, 1) := by decide +kernel
theorem dJ6_bitCount_0f7a4_17 : decode cJ6_bitCount_0f7a4 17 = .ok (.iushr, 1) := by decide +kernel
theorem dJ6_bitCount_0f7a4_18 : decode cJ6_bitCount_0f7a4 18 = .ok (.ldc_w 266, 3) := by decide +kernel
theorem dJ6_bitCount_0f7a4_21 : decode cJ6_bitCount_0f7a4 21 = .ok (.iand, 1) := by decide +kernel
theorem dJ6_bitCount_0f7a4_22 : decode cJ6_bitCount_0f7a4 22 = .ok (.iadd, 1) := by decide +kernel
theorem dJ6_bitCount_0f7a4_23 : decode cJ6_bitCount_0f7a4 23 = .ok (.istore_n 0, 1) := by decide +kernel
theorem dJ6_bitCount_0f7a4_24 : decode cJ6_bitCount_0f7a4 24 = .ok (.iload_n 0, 1) := by decide +kernel
theorem dJ6_bitCount_0f7a4_25 : decode cJ6_bitCount_0f7a4 25 = .ok (.iload_n 0, 1) := by decide +kernel
theorem dJ6_bitCount_0f7a4_26 : decode cJ6_bitCount_0f7a4 26 = .ok (.iconst 4, 1) := by decide +kernel
theorem dJ6_bitCount_0f7a4_27 : decode cJ6_bitCount_0f7a4 27 = .ok (.iushr, 1) := by decide +kernel
theorem dJ6_bitCount_0f7a4_28 : decode cJ6_bitCount_0f7a4 28 = .ok (.iadd, 1) := by decide +kernel
theorem dJ6_bitCount_0f7a4_29 : decode cJ6_bitCount_0f7a4 29 = .ok (.ldc_w 267, 3) := by decide +kernel
theorem dJ6_bitCount_0f7a4_32 : decode cJ6_bitCount_0f7a4 32 = .ok (.iand, 1) := by decide +kernel
theorem dJ6_bitCount_0f7a4_33 : decode cJ6_bitCount_0f7a4 33 = .ok (.istore_n 0, 1) := by decide +kernel
theorem dJ6_bitCount_0f7a4_34 : decode cJ6_bitCount_0f7a4 34 = .ok (.iload_n 0, 1) := by decide +kernel
theorem dJ6_bitCount_0f7a4_35 : decode cJ6_bitCount_0f7a4 35 = .ok (.iload_n 0, 1) := by decide +kernel
theorem dJ6_bitCount_0f7a4_36 : decode cJ6_bitCount_0f7a4 36 = .ok (.bipush 8, 2) := by decide +kernel
theorem dJ6_bitCount_0f7a4_38 : decode cJ6_bitCount_0f7a4 38 = .ok (.iushr, 1) := by decide +kernel
theorem dJ6_bitCount_0f7a4_39 : decode cJ6_bitCount_0f7a4 39 = .ok (.iadd, 1) := by decide +kernel
theorem dJ6_bitCount_0f7a4_40 : decode cJ6_bitCount_0f7a4 40 = .ok (.istore_n 0, 1) := by decide +kernel
theorem dJ6_bitCount_0f7a4_41 : decode cJ6_bitCount_0f7a4 41 = .ok (.iload_n 0, 1) := by decide +kernel
theorem dJ6_bitCount_0f7a4_42 : decode cJ6_bitCount_0f7a4 42 = .ok (.iload_n 0, 1) := by decide +kernel
theorem dJ6_bitCount_0f7a4_43 : decode cJ6_bitCount_0f7a4 43 = .ok (.bipush 16, 2) := by decide +kernel
theorem dJ6_bitCount_0f7a4_45 : decode cJ6_bitCount_0f7a4 45 = .ok (.iushr, 1) := by decide +kernel
theorem dJ6_bitCount_0f7a4_46 : decode cJ6_bitCount_0f7a4 46 = .ok (.iadd, 1) := by decide +kernel
theorem dJ6_bitCount_0f7a4_47 : decode cJ6_bitCount_0f7a4 47 = .ok (.istore_n 0, 1) := by decide +kernel
theorem dJ6_bitCount_0f7a4_48 : decode cJ6_bitCount_0f7a4 48 = .ok (.iload_n 0, 1) := by decide +kernel
theorem dJ6_bitCount_0f7a4_49 : decode cJ6_bitCount_0f7a4 49 = .ok (.bipush 63, 2) := by decide +kernel
theorem dJ6_bitCount_0f7a4_51 : decode cJ6_bitCount_0f7a4 51 = .ok (.iand, 1) := by decide +kernel
theorem dJ6_bitCount_0f7a4_52 : decode cJ6_bitCount_0f7a4 52 = .ok (.ireturn, 1) := by decide +kernel
theorem dJ9_abs_067f4_0 : decode cJ9_abs_067f4 0 = .ok (.lload_n 0, 1) := by decide +kernel
theorem dJ9_abs_067f4_1 : decode cJ9_abs_067f4 1 = .ok (.lconst 0, 1) := by decide +kernel
theorem dJ9_abs_067f4_2 : decode cJ9_abs_067f4 2 = .ok (.lcmp, 1) := by decide +kernel
theorem dJ9_abs_067f4_3 : decode cJ9_abs_067f4 3 = .ok (.ifCond .ge 8, 3) := by decide +kernel
theorem dJ9_abs_067f4_6 : decode cJ9_abs_067f4 6 = .ok (.lload_n 0, 1) := by decide +kernel
theorem dJ9_abs_067f4_7 : decode cJ9_abs_067f4 7 = .ok (.lneg, 1) := by decide +kernel
theorem dJ9_abs_067f4_8 : decode cJ9_abs_067f4 8 = .ok (.goto 4, 3) := by decide +kernel
theorem dJ9_abs_067f4_11 : decode cJ9_abs_067f4 11 = .ok (.lload_n 0, 1) := by decide +kernel
theorem dJ9_abs_067f4_12 : decode cJ9_abs_067f4 12 = .ok (.lreturn, 1) := by decide +kernel
theorem dJ9_max_7cf53_0 : decode cJ9_max_7cf53 0 = .ok (.iload_n 0, 1) := by decide +kernel
theorem dJ9_max_7cf53_1 : decode cJ9_max_7cf53 1 = .ok (.iload_n 1, 1) := by decide +kernel
theorem dJ9_max_7cf53_2 : decode cJ9_max_7cf53 2 = .ok (.if_icmp .lt 7, 3) := by decide +kernel
theorem dJ9_max_7cf53_5 : decode cJ9_max_7cf53 5 = .ok (.iload_n 0, 1) := by decide +kernel
theorem dJ9_max_7cf53_6 : decode cJ9_max_7cf53 6 = .ok (.goto 4, 3) := by decide +kernel
theorem dJ9_max_7cf53_9 : decode cJ9_max_7cf53 9 = .ok (.iload_n 1, 1) := by decide +kernel
theorem dJ9_max_7cf53_10 : decode cJ9_max_7cf53 10 = .ok (.ireturn, 1) := by decide +kernel
theorem dJ9_min_7cf53_0 : decode cJ9_min_7cf53 0 = .ok (.iload_n 0, 1) := by decide +kernel
theorem dJ9_min_7cf53_1 : decode cJ9_min_7cf53 1 = .ok (.iload_n 1, 1) := by decide +kernel
theorem dJ9_min_7cf53_2 : decode cJ9_min_7cf53 2 = .ok (.if_icmp .gt 7, 3) := by decide +kernel
theorem dJ9_min_7cf53_5 : decode cJ9_min_7cf53 5 = .ok (.iload_n 0, 1) := by decide +kernel
theorem dJ9_min_7cf53_6 : decode cJ9_min_7cf53 6 = .ok (.goto 4, 3) := by decide +kernel
theorem dJ9_min_7cf53_9 : decode cJ9_min_7cf53 9 = .ok (.iload_n 1, 1) := by decide +kernel
theorem dJ9_min_7cf53_10 : decode cJ9_min_7cf53 10 = .ok (.ireturn, 1) := by decide +kernel
theorem dJ9_min_f86c9_0 : decode cJ9_min_f86c9 0 = .ok (.lload_n 0, 1) := by decide +kernel
theorem dJ9_min_f86c9_1 : decode cJ9_min_f86c9 1 = .ok (.lload_n 2, 1) := by decide +kernel
theorem dJ9_min_f86c9_2 : decode cJ9_min_f86c9 2 = .ok (.lcmp, 1) := by decide +kernel
theorem dJ9_min_f86c9_3 : decode cJ9_min_f86c9 3 = .ok (.ifCond .gt 7, 3) := by decide +kernel
theorem dJ9_min_f86c9_6 : decode cJ9_min_f86c9 6 = .ok (.lload_n 0, 1) := by decide +kernel
theorem dJ9_min_f86c9_7 : decode cJ9_min_f86c9 7 = .ok (.goto 4, 3) := by decide +kernel
theorem dJ9_min_f86c9_10 : decode cJ9_min_f86c9 10 = .ok (.lload_n 2, 1) := by decide +kernel
theorem dJ9_min_f86c9_11 : decode cJ9_min_f86c9 11 = .ok (.lreturn, 1) := by decide +kernel
theorem dJ0_length_8abf5_0 : decode cJ0_length_8abf5 0 = .ok (.aload_n 0, 1) := by decide +kernel
theorem dJ0_length_8abf5_1 : decode cJ0_length_8abf5 1 = .ok (.getfield 9, 3) := by decide +kernel
theorem dJ0_length_8abf5_4 : decode cJ0_length_8abf5 4 = .ok (.arraylength, 1) := by decide +kernel
theorem dJ0_length_8abf5_5 : decode cJ0_length_8abf5 5 = .ok (.aload_n 0, 1) := by decide +kernel
theorem dJ0_length_8abf5_6 : decode cJ0_length_8abf5 6 = .ok (.invokevirtual 335, 3) := by decide +kernel
theorem dJ0_length_8abf5_9 : decode cJ0_length_8abf5 9 = .ok (.ishr, 1) := by decide +kernel
theorem dJ0_length_8abf5_10 : decode cJ0_length_8abf5 10 = .ok (.ireturn, 1) := by decide +kernel
theorem dJ0_charAt_5068e_0 : decode cJ0_charAt_5068e 0 = .ok (.aload_n 0, 1) := by decide +kernel
theorem dJ0_charAt_5068e_1 : decode cJ0_charAt_5068e 1 = .ok (.invokevirtual 492, 3) := by decide +kernel
theorem dJ0_charAt_5068e_4 : decode cJ0_charAt_5068e 4 = .ok (.ifCond .eq 12, 3) := by decide +kernel
theorem dJ0_charAt_5068e_7 : decode cJ0_charAt_5068e 7 = .ok (.aload_n 0, 1) := by decide +kernel
theorem dJ0_charAt_5068e_8 : decode cJ0_charAt_5068e 8 = .ok (.getfield 9, 3) := by decide +kernel
theorem dJ0_charAt_5068e_11 : decode cJ0_charAt_5068e 11 = .ok (.iload_n 1, 1) := by decide +kernel
theorem dJ0_charAt_5068e_12 : decode cJ0_charAt_5068e 12 = .ok (.invokestatic 495, 3) := by decide +kernel
theorem dJ0_charAt_5068e_15 : decode cJ0_charAt_5068e 15 = .ok (.ireturn, 1) := by decide +kernel
theorem dJ0_charAt_5068e_16 : decode cJ0_charAt_5068e 16 = .ok (.aload_n 0, 1) := by decide +kernel
theorem dJ0_charAt_5068e_17 : decode cJ0_charAt_5068e 17 = .ok (.getfield 9, 3) := by decide +kernel
theorem dJ0_charAt_5068e_20 : decode cJ0_charAt_5068e 20 = .ok (.iload_n 1, 1) := by decide +kernel
theorem dJ0_charAt_5068e_21 : decode cJ0_charAt_5068e 21 = .ok (.invokestatic 498, 3) := by decide +kernel
theorem dJ0_charAt_5068e_24 : decode cJ0_charAt_5068e 24 = .ok (.ireturn, 1) := by decide +kernel
theorem dJ0_coder_7d493_0 : decode cJ0_coder_7d493 0 = .ok (.getstatic 38, 3) := by decide +kernel
theorem dJ0_coder_7d493_3 : decode cJ0_coder_7d493 3 = .ok (.ifCond .eq 10, 3) := by decide +kernel
theorem dJ0_coder_7d493_6 : decode cJ0_coder_7d493 6 = .ok (.aload_n 0, 1) := by decide +kernel
theorem dJ0_coder_7d493_7 : decode cJ0_coder_7d493 7 = .ok (.getfield 15, 3) := by decide +kernel
theorem dJ0_coder_7d493_10 : decode cJ0_coder_7d493 10 = .ok (.goto 4, 3) := by decide +kernel
theorem dJ0_coder_7d493_13 : decode cJ0_coder_7d493 13 = .ok (.iconst 1, 1) := by decide +kernel
theorem dJ0_coder_7d493_14 : decode cJ0_coder_7d493 14 = .ok (.ireturn, 1) := by decide +kernel
theorem dJ0_isLatin1_aae02_0 : decode cJ0_isLatin1_aae02 0 = .ok (.getstatic 38, 3) := by decide +kernel
theorem dJ0_isLatin1_aae02_3 : decode cJ0_isLatin1_aae02 3 = .ok (.ifCond .eq 14, 3) := by decide +kernel
theorem dJ0_isLatin1_aae02_6 : decode cJ0_isLatin1_aae02 6 = .ok (.aload_n 0, 1) := by decide +kernel
theorem dJ0_isLatin1_aae02_7 : decode cJ0_isLatin1_aae02 7 = .ok (.getfield 15, 3) := by decide +kernel
theorem dJ0_isLatin1_aae02_10 : decode cJ0_isLatin1_aae02 10 = .ok (.ifCond .ne 7, 3) := by decide +kernel
theorem dJ0_isLatin1_aae02_13 : decode cJ0_isLatin1_aae02 13 = .ok (.iconst 1, 1) := by decide +kernel
theorem dJ0_isLatin1_aae02_14 : decode cJ0_isLatin1_aae02 14 = .ok (.goto 4, 3) := by decide +kernel
theorem dJ0_isLatin1_aae02_17 : decode cJ0_isLatin1_aae02 17 = .ok (.iconst 0, 1) := by decide +kernel
theorem dJ0_isLatin1_aae02_18 : decode cJ0_isLatin1_aae02 18 = .ok (.ireturn, 1) := by decide +kernel
theorem dJ0_checkIndex_df160_0 : decode cJ0_checkIndex_df160 0 = .ok (.iload_n 0, 1) := by decide +kernel
theorem dJ0_checkIndex_df160_1 : decode cJ0_checkIndex_df160 1 = .ok (.iload_n 1, 1) := by decide +kernel
theorem dJ0_checkIndex_df160_2 : decode cJ0_checkIndex_df160 2 = .ok (.getstatic 1053, 3) := by decide +kernel
theorem dJ0_checkIndex_df160_5 : decode cJ0_checkIndex_df160 5 = .ok (.invokestatic 1059, 3) := by decide +kernel
theorem dJ0_checkIndex_df160_8 : decode cJ0_checkIndex_df160 8 = .ok (.pop, 1) := by decide +kernel
theorem dJ0_checkIndex_df160_9 : decode cJ0_checkIndex_df160 9 = .ok (.return_, 1) := by decide +kernel
theorem dJ1_charAt_3b067_0 : decode cJ1_charAt_3b067 0 = .ok (.iload_n 1, 1) := by decide +kernel
theorem dJ1_charAt_3b067_1 : decode cJ1_charAt_3b067 1 = .ok (.aload_n 0, 1) := by decide +kernel
theorem dJ1_charAt_3b067_2 : decode cJ1_charAt_3b067 2 = .ok (.arraylength, 1) := by decide +kernel
theorem dJ1_charAt_3b067_3 : decode cJ1_charAt_3b067 3 = .ok (.invokestatic 9, 3) := by decide +kernel
theorem dJ1_charAt_3b067_6 : decode cJ1_charAt_3b067 6 = .ok (.aload_n 0, 1) := by decide +kernel
theorem dJ1_charAt_3b067_7 : decode cJ1_charAt_3b067 7 = .ok (.iload_n 1, 1) := by decide +kernel
theorem dJ1_charAt_3b067_8 : decode cJ1_charAt_3b067 8 = .ok (.baload, 1) := by decide +kernel
theorem dJ1_charAt_3b067_9 : decode cJ1_charAt_3b067 9 = .ok (.sipush 255, 3) := by decide +kernel
theorem dJ1_charAt_3b067_12 : decode cJ1_charAt_3b067 12 = .ok (.iand, 1) := by decide +kernel
theorem dJ1_charAt_3b067_13 : decode cJ1_charAt_3b067 13 = .ok (.i2c, 1) := by decide +kernel
theorem dJ1_charAt_3b067_14 : decode cJ1_charAt_3b067 14 = .ok (.ireturn, 1) := by decide +kernel
theorem dJ2_getChar_3b067_0 : decode cJ2_getChar_3b067 0 = .ok (.getstatic 44, 3) := by decide +kernel
theorem dJ2_getChar_3b067_3 : decode cJ2_getChar_3b067 3 = .ok (.ifCond .ne 25, 3) := by decide +kernel
theorem dJ2_getChar_3b067_6 : decode cJ2_getChar_3b067 6 = .ok (.iload_n 1, 1) := by decide +kernel
theorem dJ2_getChar_3b067_7 : decode cJ2_getChar_3b067 7 = .ok (.ifCond .lt 11, 3) := by decide +kernel
theorem dJ2_getChar_3b067_10 : decode cJ2_getChar_3b067 10 = .ok (.iload_n 1, 1) := by decide +kernel
theorem dJ2_getChar_3b067_11 : decode cJ2_getChar_3b067 11 = .ok (.aload_n 0, 1) := by decide +kernel
theorem dJ2_getChar_3b067_12 : decode cJ2_getChar_3b067 12 = .ok (.invokestatic 48, 3) := by decide +kernel
theorem dJ2_getChar_3b067_15 : decode cJ2_getChar_3b067 15 = .ok (.if_icmp .lt 13, 3) := by decide +kernel
theorem dJ2_getChar_3b067_18 : decode cJ2_getChar_3b067 18 = .ok (.new 52, 3) := by decide +kernel
theorem dJ2_getChar_3b067_21 : decode cJ2_getChar_3b067 21 = .ok (.dup, 1) := by decide +kernel
theorem dJ2_getChar_3b067_22 : decode cJ2_getChar_3b067 22 = .ok (.ldc 54, 2) := by decide +kernel
theorem dJ2_getChar_3b067_24 : decode cJ2_getChar_3b067 24 = .ok (.invokespecial 56, 3) := by decide +kernel
theorem dJ2_getChar_3b067_27 : decode cJ2_getChar_3b067 27 = .ok (.athrow, 1) := by decide +kernel
theorem dJ2_getChar_3b067_28 : decode cJ2_getChar_3b067 28 = .ok (.iload_n 1, 1) := by decide +kernel
theorem dJ2_getChar_3b067_29 : decode cJ2_getChar_3b067 29 = .ok (.iconst 1, 1) := by decide +kernel
theorem dJ2_getChar_3b067_30 : decode cJ2_getChar_3b067 30 = .ok (.ishl, 1) := by decide +kernel
theorem dJ2_getChar_3b067_31 : decode cJ2_getChar_3b067 31 = .ok (.istore_n 1, 1) := by decide +kernel
theorem dJ2_getChar_3b067_32 : decode cJ2_getChar_3b067 32 = .ok (.aload_n 0, 1) := by decide +kernel
theorem dJ2_getChar_3b067_33 : decode cJ2_getChar_3b067 33 = .ok (.iload_n 1, 1) := by decide +kernel
theorem dJ2_getChar_3b067_34 : decode cJ2_getChar_3b067 34 = .ok (.iinc 1 1, 3) := by decide +kernel
theorem dJ2_getChar_3b067_37 : decode cJ2_getChar_3b067 37 = .ok (.baload, 1) := by decide +kernel
theorem dJ2_getChar_3b067_38 : decode cJ2_getChar_3b067 38 = .ok (.sipush 255, 3) := by decide +kernel
theorem dJ2_getChar_3b067_41 : decode cJ2_getChar_3b067 41 = .ok (.iand, 1) := by decide +kernel
theorem dJ2_getChar_3b067_42 : decode cJ2_getChar_3b067 42 = .ok (.getstatic 59, 3) := by decide +kernel
theorem dJ2_getChar_3b067_45 : decode cJ2_getChar_3b067 45 = .ok (.ishl, 1) := by decide +kernel
theorem dJ2_getChar_3b067_46 : decode cJ2_getChar_3b067 46 = .ok (.aload_n 0, 1) := by decide +kernel
theorem dJ2_getChar_3b067_47 : decode cJ2_getChar_3b067 47 = .ok (.iload_n 1, 1) := by decide +kernel
theorem dJ2_getChar_3b067_48 : decode cJ2_getChar_3b067 48 = .ok (.baload, 1) := by decide +kernel
theorem dJ2_getChar_3b067_49 : decode cJ2_getChar_3b067 49 = .ok (.sipush 255, 3) := by decide +kernel
theorem dJ2_getChar_3b067_52 : decode cJ2_getChar_3b067 52 = .ok (.iand, 1) := by decide +kernel
theorem dJ2_getChar_3b067_53 : decode cJ2_getChar_3b067 53 = .ok (.getstatic 63, 3) := by decide +kernel
theorem dJ2_getChar_3b067_56 : decode cJ2_getChar_3b067 56 = .ok (.ishl, 1) := by decide +kernel
theorem dJ2_getChar_3b067_57 : decode cJ2_getChar_3b067 57 = .ok (.ior, 1) := by decide +kernel
theorem dJ2_getChar_3b067_58 : decode cJ2_getChar_3b067 58 = .ok (.i2c, 1) := by decide +kernel
theorem dJ2_getChar_3b067_59 : decode cJ2_getChar_3b067 59 = .ok (.ireturn, 1) := by decide +kernel
theorem dJ2_length_9d52b_0 : decode cJ2_length_9d52b 0 = .ok (.aload_n 0, 1) := by decide +kernel
theorem dJ2_length_9d52b_1 : decode cJ2_length_9d52b 1 = .ok (.arraylength, 1) := by decide +kernel
theorem dJ2_length_9d52b_2 : decode cJ2_length_9d52b 2 = .ok (.iconst 1, 1) := by decide +kernel
theorem dJ2_length_9d52b_3 : decode cJ2_length_9d52b 3 = .ok (.ishr, 1) := by decide +kernel
theorem dJ2_length_9d52b_4 : decode cJ2_length_9d52b 4 = .ok (.ireturn, 1) := by decide +kernel
theorem dJ2_charAt_3b067_0 : decode cJ2_charAt_3b067 0 = .ok (.iload_n 1, 1) := by decide +kernel
theorem dJ2_charAt_3b067_1 : decode cJ2_charAt_3b067 1 = .ok (.aload_n 0, 1) := by decide +kernel
theorem dJ2_charAt_3b067_2 : decode cJ2_charAt_3b067 2 = .ok (.invokestatic 67, 3) := by decide +kernel
theorem dJ2_charAt_3b067_5 : decode cJ2_charAt_3b067 5 = .ok (.aload_n 0, 1) := by decide +kernel
theorem dJ2_charAt_3b067_6 : decode cJ2_charAt_3b067 6 = .ok (.iload_n 1, 1) := by decide +kernel
theorem dJ2_charAt_3b067_7 : decode cJ2_charAt_3b067 7 = .ok (.invokestatic 71, 3) := by decide +kernel
theorem dJ2_charAt_3b067_10 : decode cJ2_charAt_3b067 10 = .ok (.ireturn, 1) := by decide +kernel
theorem dJ2_checkIndex_2214a_0 : decode cJ2_checkIndex_2214a 0 = .ok (.iload_n 0, 1) := by decide +kernel
theorem dJ2_checkIndex_2214a_1 : decode cJ2_checkIndex_2214a 1 = .ok (.aload_n 1, 1) := by decide +kernel
theorem dJ2_checkIndex_2214a_2 : decode cJ2_checkIndex_2214a 2 = .ok (.invokestatic 48, 3) := by decide +kernel
theorem dJ2_checkIndex_2214a_5 : decode cJ2_checkIndex_2214a 5 = .ok (.invokestatic 414, 3) := by decide +kernel
theorem dJ2_checkIndex_2214a_8 : decode cJ2_checkIndex_2214a 8 = .ok (.return_, 1) := by decide +kernel
theorem dJ7_fill_d0a16_0 : decode cJ7_fill_d0a16 0 = .ok (.iconst 0, 1) := by decide +kernel
theorem dJ7_fill_d0a16_1 : decode cJ7_fill_d0a16 1 = .ok (.istore_n 3, 1) := by decide +kernel
theorem dJ7_fill_d0a16_2 : decode cJ7_fill_d0a16 2 = .ok (.aload_n 0, 1) := by decide +kernel
theorem dJ7_fill_d0a16_3 : decode cJ7_fill_d0a16 3 = .ok (.arraylength, 1) := by decide +kernel
theorem dJ7_fill_d0a16_4 : decode cJ7_fill_d0a16 4 = .ok (.istore 4, 2) := by decide +kernel
theorem dJ7_fill_d0a16_6 : decode cJ7_fill_d0a16 6 = .ok (.iload_n 3, 1) := by decide +kernel
theorem dJ7_fill_d0a16_7 : decode cJ7_fill_d0a16 7 = .ok (.iload 4, 2) := by decide +kernel
theorem dJ7_fill_d0a16_9 : decode cJ7_fill_d0a16 9 = .ok (.if_icmp .ge 13, 3) := by decide +kernel
theorem dJ7_fill_d0a16_12 : decode cJ7_fill_d0a16 12 = .ok (.aload_n 0, 1) := by decide +kernel
theorem dJ7_fill_d0a16_13 : decode cJ7_fill_d0a16 13 = .ok (.iload_n 3, 1) := by decide +kernel
theorem dJ7_fill_d0a16_14 : decode cJ7_fill_d0a16 14 = .ok (.lload_n 1, 1) := by decide +kernel
theorem dJ7_fill_d0a16_15 : decode cJ7_fill_d0a16 15 = .ok (.lastore, 1) := by decide +kernel
theorem dJ7_fill_d0a16_16 : decode cJ7_fill_d0a16 16 = .ok (.iinc 3 1, 3) := by decide +kernel
theorem dJ7_fill_d0a16_19 : decode cJ7_fill_d0a16 19 = .ok (.goto (-13), 3) := by decide +kernel
theorem dJ7_fill_d0a16_22 : decode cJ7_fill_d0a16 22 = .ok (.return_, 1) := by decide +kernel
theorem dJ7_fill_53178_0 : decode cJ7_fill_53178 0 = .ok (.iconst 0, 1) := by decide +kernel
theorem dJ7_fill_53178_1 : decode cJ7_fill_53178 1 = .ok (.istore_n 2, 1) := by decide +kernel
theorem dJ7_fill_53178_2 : decode cJ7_fill_53178 2 = .ok (.aload_n 0, 1) := by decide +kernel
theorem dJ7_fill_53178_3 : decode cJ7_fill_53178 3 = .ok (.arraylength, 1) := by decide +kernel
theorem dJ7_fill_53178_4 : decode cJ7_fill_53178 4 = .ok (.istore_n 3, 1) := by decide +kernel
theorem dJ7_fill_53178_5 : decode cJ7_fill_53178 5 = .ok (.iload_n 2, 1) := by decide +kernel
theorem dJ7_fill_53178_6 : decode cJ7_fill_53178 6 = .ok (.iload_n 3, 1) := by decide +kernel
theorem dJ7_fill_53178_7 : decode cJ7_fill_53178 7 = .ok (.if_icmp .ge 13, 3) := by decide +kernel
theorem dJ7_fill_53178_10 : decode cJ7_fill_53178 10 = .ok (.aload_n 0, 1) := by decide +kernel
theorem dJ7_fill_53178_11 : decode cJ7_fill_53178 11 = .ok (.iload_n 2, 1) := by decide +kernel
theorem dJ7_fill_53178_12 : decode cJ7_fill_53178 12 = .ok (.iload_n 1, 1) := by decide +kernel
theorem dJ7_fill_53178_13 : decode cJ7_fill_53178 13 = .ok (.iastore, 1) := by decide +kernel
theorem dJ7_fill_53178_14 : decode cJ7_fill_53178 14 = .ok (.iinc 2 1, 3) := by decide +kernel
theorem dJ7_fill_53178_17 : decode cJ7_fill_53178 17 = .ok (.goto (-12), 3) := by decide +kernel
theorem dJ7_fill_53178_20 : decode cJ7_fill_53178 20 = .ok (.return_, 1) := by decide +kernel
theorem dJ7_copyOf_59c91_0 : decode cJ7_copyOf_59c91 0 = .ok (.iload_n 1, 1) := by decide +kernel
theorem dJ7_copyOf_59c91_1 : decode cJ7_copyOf_59c91 1 = .ok (.aload_n 0, 1) := by decide +kernel
theorem dJ7_copyOf_59c91_2 : decode cJ7_copyOf_59c91 2 = .ok (.arraylength, 1) := by decide +kernel
theorem dJ7_copyOf_59c91_3 : decode cJ7_copyOf_59c91 3 = .ok (.if_icmp .ne 11, 3) := by decide +kernel
theorem dJ7_copyOf_59c91_6 : decode cJ7_copyOf_59c91 6 = .ok (.aload_n 0, 1) := by decide +kernel
theorem dJ7_copyOf_59c91_7 : decode cJ7_copyOf_59c91 7 = .ok (.invokevirtual 316, 3) := by decide +kernel
theorem dJ7_copyOf_59c91_10 : decode cJ7_copyOf_59c91 10 = .ok (.checkcast 317, 3) := by decide +kernel
theorem dJ7_copyOf_59c91_13 : decode cJ7_copyOf_59c91 13 = .ok (.areturn, 1) := by decide +kernel
theorem dJ7_copyOf_59c91_14 : decode cJ7_copyOf_59c91 14 = .ok (.iload_n 1, 1) := by decide +kernel
theorem dJ7_copyOf_59c91_15 : decode cJ7_copyOf_59c91 15 = .ok (.newarray .int, 2) := by decide +kernel
theorem dJ7_copyOf_59c91_17 : decode cJ7_copyOf_59c91 17 = .ok (.astore_n 2, 1) := by decide +kernel
theorem dJ7_copyOf_59c91_18 : decode cJ7_copyOf_59c91 18 = .ok (.aload_n 0, 1) := by decide +kernel
theorem dJ7_copyOf_59c91_19 : decode cJ7_copyOf_59c91 19 = .ok (.iconst 0, 1) := by decide +kernel
theorem dJ7_copyOf_59c91_20 : decode cJ7_copyOf_59c91 20 = .ok (.aload_n 2, 1) := by decide +kernel
theorem dJ7_copyOf_59c91_21 : decode cJ7_copyOf_59c91 21 = .ok (.iconst 0, 1) := by decide +kernel
theorem dJ7_copyOf_59c91_22 : decode cJ7_copyOf_59c91 22 = .ok (.aload_n 0, 1) := by decide +kernel
theorem dJ7_copyOf_59c91_23 : decode cJ7_copyOf_59c91 23 = .ok (.arraylength, 1) := by decide +kernel
theorem dJ7_copyOf_59c91_24 : decode cJ7_copyOf_59c91 24 = .ok (.iload_n 1, 1) := by decide +kernel
theorem dJ7_copyOf_59c91_25 : decode cJ7_copyOf_59c91 25 = .ok (.invokestatic 304, 3) := by decide +kernel
theorem dJ7_copyOf_59c91_28 : decode cJ7_copyOf_59c91 28 = .ok (.invokestatic 150, 3) := by decide +kernel
theorem dJ7_copyOf_59c91_31 : decode cJ7_copyOf_59c91 31 = .ok (.aload_n 2, 1) := by decide +kernel
theorem dJ7_copyOf_59c91_32 : decode cJ7_copyOf_59c91 32 = .ok (.areturn, 1) := by decide +kernel
theorem dJ3_checkIndex_8e157_0 : decode cJ3_checkIndex_8e157 0 = .ok (.iload_n 0, 1) := by decide +kernel
theorem dJ3_checkIndex_8e157_1 : decode cJ3_checkIndex_8e157 1 = .ok (.ifCond .lt 8, 3) := by decide +kernel
theorem dJ3_checkIndex_8e157_4 : decode cJ3_checkIndex_8e157 4 = .ok (.iload_n 0, 1) := by decide +kernel
theorem dJ3_checkIndex_8e157_5 : decode cJ3_checkIndex_8e157 5 = .ok (.iload_n 1, 1) := by decide +kernel
theorem dJ3_checkIndex_8e157_6 : decode cJ3_checkIndex_8e157 6 = .ok (.if_icmp .lt 10, 3) := by decide +kernel
theorem dJ3_checkIndex_8e157_9 : decode cJ3_checkIndex_8e157 9 = .ok (.aload_n 2, 1) := by decide +kernel
theorem dJ3_checkIndex_8e157_10 : decode cJ3_checkIndex_8e157 10 = .ok (.iload_n 0, 1) := by decide +kernel
theorem dJ3_checkIndex_8e157_11 : decode cJ3_checkIndex_8e157 11 = .ok (.iload_n 1, 1) := by decide +kernel
theorem dJ3_checkIndex_8e157_12 : decode cJ3_checkIndex_8e157 12 = .ok (.invokestatic 95, 3) := by decide +kernel
theorem dJ3_checkIndex_8e157_15 : decode cJ3_checkIndex_8e157 15 = .ok (.athrow, 1) := by decide +kernel
theorem dJ3_checkIndex_8e157_16 : decode cJ3_checkIndex_8e157 16 = .ok (.iload_n 0, 1) := by decide +kernel
theorem dJ3_checkIndex_8e157_17 : decode cJ3_checkIndex_8e157 17 = .ok (.ireturn, 1) := by decide +kernel
theorem dL_law_0 : decode cL_law 0 = .ok (.new 7, 3) := by decide +kernel
theorem dL_law_3 : decode cL_law 3 = .ok (.dup, 1) := by decide +kernel
theorem dL_law_4 : decode cL_law 4 = .ok (.invokespecial 9, 3) := by decide +kernel
theorem dL_law_7 : decode cL_law 7 = .ok (.astore_n 1, 1) := by decide +kernel
theorem dL_law_8 : decode cL_law 8 = .ok (.new 10, 3) := by decide +kernel
theorem dL_law_11 : decode cL_law 11 = .ok (.dup, 1) := by decide +kernel
theorem dL_law_12 : decode cL_law 12 = .ok (.invokespecial 12, 3) := by decide +kernel
theorem dL_law_15 : decode cL_law 15 = .ok (.astore_n 2, 1) := by decide +kernel
theorem dL_law_16 : decode cL_law 16 = .ok (.iconst 0, 1) := by decide +kernel
theorem dL_law_17 : decode cL_law 17 = .ok (.istore_n 3, 1) := by decide +kernel
theorem dL_law_18 : decode cL_law 18 = .ok (.iload_n 3, 1) := by decide +kernel
theorem dL_law_19 : decode cL_law 19 = .ok (.aload_n 0, 1) := by decide +kernel
theorem dL_law_20 : decode cL_law 20 = .ok (.arraylength, 1) := by decide +kernel
theorem dL_law_21 : decode cL_law 21 = .ok (.bipush 6, 2) := by decide +kernel
theorem dL_law_23 : decode cL_law 23 = .ok (.isub, 1) := by decide +kernel
theorem dL_law_24 : decode cL_law 24 = .ok (.if_icmp .gt 1159, 3) := by decide +kernel
theorem dL_law_27 : decode cL_law 27 = .ok (.aload_n 0, 1) := by decide +kernel
theorem dL_law_28 : decode cL_law 28 = .ok (.iload_n 3, 1) := by decide +kernel
theorem dL_law_29 : decode cL_law 29 = .ok (.iaload, 1) := by decide +kernel
theorem dL_law_30 : decode cL_law 30 = .ok (.bipush 31, 2) := by decide +kernel
theorem dL_law_32 : decode cL_law 32 = .ok (.iand, 1) := by decide +kernel
theorem dL_law_33 : decode cL_law 33 = .ok (.tableswitch 1144 0 27 #[127, 160, 203, 236, 279, 302, 345, 378, 441, 454, 477, 521, 565, 618, 651, 674, 697, 730, 753, 807, 850, 883, 896, 909, 952, 995, 1058, 1111], 127) := by decide +kernel
theorem dL_law_160 : decode cL_law 160 = .ok (.aload_n 1, 1) := by decide +kernel
theorem dL_law_161 : decode cL_law 161 = .ok (.aload_n 0, 1) := by decide +kernel
theorem dL_law_162 : decode cL_law 162 = .ok (.iload_n 3, 1) := by decide +kernel
theorem dL_law_163 : decode cL_law 163 = .ok (.iconst 1, 1) := by decide +kernel
theorem dL_law_164 : decode cL_law 164 = .ok (.iadd, 1) := by decide +kernel
theorem dL_law_165 : decode cL_law 165 = .ok (.iaload, 1) := by decide +kernel
theorem dL_law_166 : decode cL_law 166 = .ok (.aload_n 0, 1) := by decide +kernel
theorem dL_law_167 : decode cL_law 167 = .ok (.iload_n 3, 1) := by decide +kernel
theorem dL_law_168 : decode cL_law 168 = .ok (.iconst 2, 1) := by decide +kernel
theorem dL_law_169 : decode cL_law 169 = .ok (.iadd, 1) := by decide +kernel
theorem dL_law_170 : decode cL_law 170 = .ok (.iaload, 1) := by decide +kernel
theorem dL_law_171 : decode cL_law 171 = .ok (.invokevirtual 13, 3) := by decide +kernel
theorem dL_law_174 : decode cL_law 174 = .ok (.aload_n 2, 1) := by decide +kernel
theorem dL_law_175 : decode cL_law 175 = .ok (.aload_n 0, 1) := by decide +kernel
theorem dL_law_176 : decode cL_law 176 = .ok (.iload_n 3, 1) := by decide +kernel
theorem dL_law_177 : decode cL_law 177 = .ok (.iconst 1, 1) := by decide +kernel
theorem dL_law_178 : decode cL_law 178 = .ok (.iadd, 1) := by decide +kernel
theorem dL_law_179 : decode cL_law 179 = .ok (.iaload, 1) := by decide +kernel
theorem dL_law_180 : decode cL_law 180 = .ok (.aload_n 0, 1) := by decide +kernel
theorem dL_law_181 : decode cL_law 181 = .ok (.iload_n 3, 1) := by decide +kernel
theorem dL_law_182 : decode cL_law 182 = .ok (.iconst 2, 1) := by decide +kernel
theorem dL_law_183 : decode cL_law 183 = .ok (.iadd, 1) := by decide +kernel
theorem dL_law_184 : decode cL_law 184 = .ok (.iaload, 1) := by decide +kernel
theorem dL_law_185 : decode cL_law 185 = .ok (.invokevirtual 17, 3) := by decide +kernel
theorem dL_law_188 : decode cL_law 188 = .ok (.if_icmp .eq 989, 3) := by decide +kernel
theorem dL_law_191 : decode cL_law 191 = .ok (.iconst 0, 1) := by decide +kernel
theorem dL_law_192 : decode cL_law 192 = .ok (.ireturn, 1) := by decide +kernel
theorem dL_law_193 : decode cL_law 193 = .ok (.aload_n 1, 1) := by decide +kernel
theorem dL_law_194 : decode cL_law 194 = .ok (.aload_n 0, 1) := by decide +kernel
theorem dL_law_195 : decode cL_law 195 = .ok (.iload_n 3, 1) := by decide +kernel
theorem dL_law_196 : decode cL_law 196 = .ok (.iconst 1, 1) := by decide +kernel
theorem dL_law_197 : decode cL_law 197 = .ok (.iadd, 1) := by decide +kernel
theorem dL_law_198 : decode cL_law 198 = .ok (.iaload, 1) := by decide +kernel
theorem dL_law_199 : decode cL_law 199 = .ok (.aload_n 0, 1) := by decide +kernel
theorem dL_law_200 : decode cL_law 200 = .ok (.iload_n 3, 1) := by decide +kernel
theorem dL_law_201 : decode cL_law 201 = .ok (.iconst 2, 1) := by decide +kernel
theorem dL_law_202 : decode cL_law 202 = .ok (.iadd, 1) := by decide +kernel
theorem dL_law_203 : decode cL_law 203 = .ok (.iaload, 1) := by decide +kernel
theorem dL_law_204 : decode cL_law 204 = .ok (.aload_n 0, 1) := by decide +kernel
theorem dL_law_205 : decode cL_law 205 = .ok (.iload_n 3, 1) := by decide +kernel
theorem dL_law_206 : decode cL_law 206 = .ok (.iconst 3, 1) := by decide +kernel
theorem dL_law_207 : decode cL_law 207 = .ok (.iadd, 1) := by decide +kernel
theorem dL_law_208 : decode cL_law 208 = .ok (.iaload, 1) := by decide +kernel
theorem dL_law_209 : decode cL_law 209 = .ok (.invokevirtual 18, 3) := by decide +kernel
theorem dL_law_212 : decode cL_law 212 = .ok (.aload_n 2, 1) := by decide +kernel
theorem dL_law_213 : decode cL_law 213 = .ok (.aload_n 0, 1) := by decide +kernel
theorem dL_law_214 : decode cL_law 214 = .ok (.iload_n 3, 1) := by decide +kernel
theorem dL_law_215 : decode cL_law 215 = .ok (.iconst 1, 1) := by decide +kernel
theorem dL_law_216 : decode cL_law 216 = .ok (.iadd, 1) := by decide +kernel
theorem dL_law_217 : decode cL_law 217 = .ok (.iaload, 1) := by decide +kernel
theorem dL_law_218 : decode cL_law 218 = .ok (.aload_n 0, 1) := by decide +kernel
theorem dL_law_219 : decode cL_law 219 = .ok (.iload_n 3, 1) := by decide +kernel
theorem dL_law_220 : decode cL_law 220 = .ok (.iconst 2, 1) := by decide +kernel
theorem dL_law_221 : decode cL_law 221 = .ok (.iadd, 1) := by decide +kernel
theorem dL_law_222 : decode cL_law 222 = .ok (.iaload, 1) := by decide +kernel
theorem dL_law_223 : decode cL_law 223 = .ok (.aload_n 0, 1) := by decide +kernel
theorem dL_law_224 : decode cL_law 224 = .ok (.iload_n 3, 1) := by decide +kernel
theorem dL_law_225 : decode cL_law 225 = .ok (.iconst 3, 1) := by decide +kernel
theorem dL_law_226 : decode cL_law 226 = .ok (.iadd, 1) := by decide +kernel
theorem dL_law_227 : decode cL_law 227 = .ok (.iaload, 1) := by decide +kernel
theorem dL_law_228 : decode cL_law 228 = .ok (.invokevirtual 22, 3) := by decide +kernel
theorem dL_law_231 : decode cL_law 231 = .ok (.if_icmp .eq 946, 3) := by decide +kernel
theorem dL_law_234 : decode cL_law 234 = .ok (.iconst 0, 1) := by decide +kernel
theorem dL_law_235 : decode cL_law 235 = .ok (.ireturn, 1) := by decide +kernel
theorem dL_law_236 : decode cL_law 236 = .ok (.aload_n 1, 1) := by decide +kernel
theorem dL_law_237 : decode cL_law 237 = .ok (.aload_n 0, 1) := by decide +kernel
theorem dL_law_238 : decode cL_law 238 = .ok (.iload_n 3, 1) := by decide +kernel
theorem dL_law_239 : decode cL_law 239 = .ok (.iconst 1, 1) := by decide +kernel
theorem dL_law_240 : decode cL_law 240 = .ok (.iadd, 1) := by decide +kernel
theorem dL_law_241 : decode cL_law 241 = .ok (.iaload, 1) := by decide +kernel
theorem dL_law_242 : decode cL_law 242 = .ok (.aload_n 0, 1) := by decide +kernel
theorem dL_law_243 : decode cL_law 243 = .ok (.iload_n 3, 1) := by decide +kernel
theorem dL_law_244 : decode cL_law 244 = .ok (.iconst 2, 1) := by decide +kernel
theorem dL_law_245 : decode cL_law 245 = .ok (.iadd, 1) := by decide +kernel
theorem dL_law_246 : decode cL_law 246 = .ok (.iaload, 1) := by decide +kernel
theorem dL_law_247 : decode cL_law 247 = .ok (.invokevirtual 23, 3) := by decide +kernel
theorem dL_law_250 : decode cL_law 250 = .ok (.aload_n 2, 1) := by decide +kernel
theorem dL_law_251 : decode cL_law 251 = .ok (.aload_n 0, 1) := by decide +kernel
theorem dL_law_252 : decode cL_law 252 = .ok (.iload_n 3, 1) := by decide +kernel
theorem dL_law_253 : decode cL_law 253 = .ok (.iconst 1, 1) := by decide +kernel
theorem dL_law_254 : decode cL_law 254 = .ok (.iadd, 1) := by decide +kernel
theorem dL_law_255 : decode cL_law 255 = .ok (.iaload, 1) := by decide +kernel
theorem dL_law_256 : decode cL_law 256 = .ok (.aload_n 0, 1) := by decide +kernel
theorem dL_law_257 : decode cL_law 257 = .ok (.iload_n 3, 1) := by decide +kernel
theorem dL_law_258 : decode cL_law 258 = .ok (.iconst 2, 1) := by decide +kernel
theorem dL_law_259 : decode cL_law 259 = .ok (.iadd, 1) := by decide +kernel
theorem dL_law_260 : decode cL_law 260 = .ok (.iaload, 1) := by decide +kernel
theorem dL_law_261 : decode cL_law 261 = .ok (.invokevirtual 26, 3) := by decide +kernel
theorem dL_law_264 : decode cL_law 264 = .ok (.if_icmp .eq 913, 3) := by decide +kernel
theorem dL_law_267 : decode cL_law 267 = .ok (.iconst 0, 1) := by decide +kernel
theorem dL_law_268 : decode cL_law 268 = .ok (.ireturn, 1) := by decide +kernel
theorem dL_law_269 : decode cL_law 269 = .ok (.aload_n 1, 1) := by decide +kernel
theorem dL_law_270 : decode cL_law 270 = .ok (.aload_n 0, 1) := by decide +kernel
theorem dL_law_271 : decode cL_law 271 = .ok (.iload_n 3, 1) := by decide +kernel
theorem dL_law_272 : decode cL_law 272 = .ok (.iconst 1, 1) := by decide +kernel
theorem dL_law_273 : decode cL_law 273 = .ok (.iadd, 1) := by decide +kernel
theorem dL_law_274 : decode cL_law 274 = .ok (.iaload, 1) := by decide +kernel
theorem dL_law_275 : decode cL_law 275 = .ok (.aload_n 0, 1) := by decide +kernel
theorem dL_law_276 : decode cL_law 276 = .ok (.iload_n 3, 1) := by decide +kernel
theorem dL_law_277 : decode cL_law 277 = .ok (.iconst 2, 1) := by decide +kernel
theorem dL_law_278 : decode cL_law 278 = .ok (.iadd, 1) := by decide +kernel
theorem dL_law_279 : decode cL_law 279 = .ok (.iaload, 1) := by decide +kernel
theorem dL_law_280 : decode cL_law 280 = .ok (.aload_n 0, 1) := by decide +kernel
theorem dL_law_281 : decode cL_law 281 = .ok (.iload_n 3, 1) := by decide +kernel
theorem dL_law_282 : decode cL_law 282 = .ok (.iconst 3, 1) := by decide +kernel
theorem dL_law_283 : decode cL_law 283 = .ok (.iadd, 1) := by decide +kernel
theorem dL_law_284 : decode cL_law 284 = .ok (.iaload, 1) := by decide +kernel
theorem dL_law_285 : decode cL_law 285 = .ok (.invokevirtual 27, 3) := by decide +kernel
theorem dL_law_288 : decode cL_law 288 = .ok (.aload_n 2, 1) := by decide +kernel
theorem dL_law_289 : decode cL_law 289 = .ok (.aload_n 0, 1) := by decide +kernel
theorem dL_law_290 : decode cL_law 290 = .ok (.iload_n 3, 1) := by decide +kernel
theorem dL_law_291 : decode cL_law 291 = .ok (.iconst 1, 1) := by decide +kernel
theorem dL_law_292 : decode cL_law 292 = .ok (.iadd, 1) := by decide +kernel
theorem dL_law_293 : decode cL_law 293 = .ok (.iaload, 1) := by decide +kernel
theorem dL_law_294 : decode cL_law 294 = .ok (.aload_n 0, 1) := by decide +kernel
theorem dL_law_295 : decode cL_law 295 = .ok (.iload_n 3, 1) := by decide +kernel
theorem dL_law_296 : decode cL_law 296 = .ok (.iconst 2, 1) := by decide +kernel
theorem dL_law_297 : decode cL_law 297 = .ok (.iadd, 1) := by decide +kernel
theorem dL_law_298 : decode cL_law 298 = .ok (.iaload, 1) := by decide +kernel
theorem dL_law_299 : decode cL_law 299 = .ok (.aload_n 0, 1) := by decide +kernel
theorem dL_law_300 : decode cL_law 300 = .ok (.iload_n 3, 1) := by decide +kernel
theorem dL_law_301 : decode cL_law 301 = .ok (.iconst 3, 1) := by decide +kernel
theorem dL_law_302 : decode cL_law 302 = .ok (.iadd, 1) := by decide +kernel
theorem dL_law_303 : decode cL_law 303 = .ok (.iaload, 1) := by decide +kernel
theorem dL_law_304 : decode cL_law 304 = .ok (.invokevirtual 30, 3) := by decide +kernel
theorem dL_law_307 : decode cL_law 307 = .ok (.if_icmp .eq 870, 3) := by decide +kernel
theorem dL_law_310 : decode cL_law 310 = .ok (.iconst 0, 1) := by decide +kernel
theorem dL_law_311 : decode cL_law 311 = .ok (.ireturn, 1) := by decide +kernel
theorem dL_law_312 : decode cL_law 312 = .ok (.aload_n 1, 1) := by decide +kernel
theorem dL_law_313 : decode cL_law 313 = .ok (.aload_n 0, 1) := by decide +kernel
theorem dL_law_314 : decode cL_law 314 = .ok (.iload_n 3, 1) := by decide +kernel
theorem dL_law_315 : decode cL_law 315 = .ok (.iconst 1, 1) := by decide +kernel
theorem dL_law_316 : decode cL_law 316 = .ok (.iadd, 1) := by decide +kernel
theorem dL_law_317 : decode cL_law 317 = .ok (.iaload, 1) := by decide +kernel
theorem dL_law_318 : decode cL_law 318 = .ok (.invokevirtual 31, 3) := by decide +kernel
theorem dL_law_321 : decode cL_law 321 = .ok (.aload_n 2, 1) := by decide +kernel
theorem dL_law_322 : decode cL_law 322 = .ok (.aload_n 0, 1) := by decide +kernel
theorem dL_law_323 : decode cL_law 323 = .ok (.iload_n 3, 1) := by decide +kernel
theorem dL_law_324 : decode cL_law 324 = .ok (.iconst 1, 1) := by decide +kernel
theorem dL_law_325 : decode cL_law 325 = .ok (.iadd, 1) := by decide +kernel
theorem dL_law_326 : decode cL_law 326 = .ok (.iaload, 1) := by decide +kernel
theorem dL_law_327 : decode cL_law 327 = .ok (.invokevirtual 35, 3) := by decide +kernel
theorem dL_law_330 : decode cL_law 330 = .ok (.if_icmp .eq 847, 3) := by decide +kernel
theorem dL_law_333 : decode cL_law 333 = .ok (.iconst 0, 1) := by decide +kernel
theorem dL_law_334 : decode cL_law 334 = .ok (.ireturn, 1) := by decide +kernel
theorem dL_law_335 : decode cL_law 335 = .ok (.aload_n 1, 1) := by decide +kernel
theorem dL_law_336 : decode cL_law 336 = .ok (.aload_n 0, 1) := by decide +kernel
theorem dL_law_337 : decode cL_law 337 = .ok (.iload_n 3, 1) := by decide +kernel
theorem dL_law_338 : decode cL_law 338 = .ok (.iconst 1, 1) := by decide +kernel
theorem dL_law_339 : decode cL_law 339 = .ok (.iadd, 1) := by decide +kernel
theorem dL_law_340 : decode cL_law 340 = .ok (.iaload, 1) := by decide +kernel
theorem dL_law_341 : decode cL_law 341 = .ok (.aload_n 0, 1) := by decide +kernel
theorem dL_law_342 : decode cL_law 342 = .ok (.iload_n 3, 1) := by decide +kernel
theorem dL_law_343 : decode cL_law 343 = .ok (.iconst 2, 1) := by decide +kernel
theorem dL_law_344 : decode cL_law 344 = .ok (.iadd, 1) := by decide +kernel
theorem dL_law_345 : decode cL_law 345 = .ok (.iaload, 1) := by decide +kernel
theorem dL_law_346 : decode cL_law 346 = .ok (.aload_n 0, 1) := by decide +kernel
theorem dL_law_347 : decode cL_law 347 = .ok (.iload_n 3, 1) := by decide +kernel
theorem dL_law_348 : decode cL_law 348 = .ok (.iconst 3, 1) := by decide +kernel
theorem dL_law_349 : decode cL_law 349 = .ok (.iadd, 1) := by decide +kernel
theorem dL_law_350 : decode cL_law 350 = .ok (.iaload, 1) := by decide +kernel
theorem dL_law_351 : decode cL_law 351 = .ok (.invokevirtual 36, 3) := by decide +kernel
theorem dL_law_354 : decode cL_law 354 = .ok (.aload_n 2, 1) := by decide +kernel
theorem dL_law_355 : decode cL_law 355 = .ok (.aload_n 0, 1) := by decide +kernel
theorem dL_law_356 : decode cL_law 356 = .ok (.iload_n 3, 1) := by decide +kernel
theorem dL_law_357 : decode cL_law 357 = .ok (.iconst 1, 1) := by decide +kernel
theorem dL_law_358 : decode cL_law 358 = .ok (.iadd, 1) := by decide +kernel
theorem dL_law_359 : decode cL_law 359 = .ok (.iaload, 1) := by decide +kernel
theorem dL_law_360 : decode cL_law 360 = .ok (.aload_n 0, 1) := by decide +kernel
theorem dL_law_361 : decode cL_law 361 = .ok (.iload_n 3, 1) := by decide +kernel
theorem dL_law_362 : decode cL_law 362 = .ok (.iconst 2, 1) := by decide +kernel
theorem dL_law_363 : decode cL_law 363 = .ok (.iadd, 1) := by decide +kernel
theorem dL_law_364 : decode cL_law 364 = .ok (.iaload, 1) := by decide +kernel
theorem dL_law_365 : decode cL_law 365 = .ok (.aload_n 0, 1) := by decide +kernel
theorem dL_law_366 : decode cL_law 366 = .ok (.iload_n 3, 1) := by decide +kernel
theorem dL_law_367 : decode cL_law 367 = .ok (.iconst 3, 1) := by decide +kernel
theorem dL_law_368 : decode cL_law 368 = .ok (.iadd, 1) := by decide +kernel
theorem dL_law_369 : decode cL_law 369 = .ok (.iaload, 1) := by decide +kernel
theorem dL_law_370 : decode cL_law 370 = .ok (.invokevirtual 39, 3) := by decide +kernel
theorem dL_law_373 : decode cL_law 373 = .ok (.if_icmp .eq 804, 3) := by decide +kernel
theorem dL_law_376 : decode cL_law 376 = .ok (.iconst 0, 1) := by decide +kernel
theorem dL_law_377 : decode cL_law 377 = .ok (.ireturn, 1) := by decide +kernel
theorem dL_law_378 : decode cL_law 378 = .ok (.aload_n 1, 1) := by decide +kernel
theorem dL_law_379 : decode cL_law 379 = .ok (.aload_n 0, 1) := by decide +kernel
theorem dL_law_380 : decode cL_law 380 = .ok (.iload_n 3, 1) := by decide +kernel
theorem dL_law_381 : decode cL_law 381 = .ok (.iconst 1, 1) := by decide +kernel
theorem dL_law_382 : decode cL_law 382 = .ok (.iadd, 1) := by decide +kernel
theorem dL_law_383 : decode cL_law 383 = .ok (.iaload, 1) := by decide +kernel
theorem dL_law_384 : decode cL_law 384 = .ok (.aload_n 0, 1) := by decide +kernel
theorem dL_law_385 : decode cL_law 385 = .ok (.iload_n 3, 1) := by decide +kernel
theorem dL_law_386 : decode cL_law 386 = .ok (.iconst 2, 1) := by decide +kernel
theorem dL_law_387 : decode cL_law 387 = .ok (.iadd, 1) := by decide +kernel
theorem dL_law_388 : decode cL_law 388 = .ok (.iaload, 1) := by decide +kernel
theorem dL_law_389 : decode cL_law 389 = .ok (.invokevirtual 40, 3) := by decide +kernel
theorem dL_law_392 : decode cL_law 392 = .ok (.aload_n 2, 1) := by decide +kernel
theorem dL_law_393 : decode cL_law 393 = .ok (.aload_n 0, 1) := by decide +kernel
theorem dL_law_394 : decode cL_law 394 = .ok (.iload_n 3, 1) := by decide +kernel
theorem dL_law_395 : decode cL_law 395 = .ok (.iconst 1, 1) := by decide +kernel
theorem dL_law_396 : decode cL_law 396 = .ok (.iadd, 1) := by decide +kernel
theorem dL_law_397 : decode cL_law 397 = .ok (.iaload, 1) := by decide +kernel
theorem dL_law_398 : decode cL_law 398 = .ok (.aload_n 0, 1) := by decide +kernel
theorem dL_law_399 : decode cL_law 399 = .ok (.iload_n 3, 1) := by decide +kernel
theorem dL_law_400 : decode cL_law 400 = .ok (.iconst 2, 1) := by decide +kernel
theorem dL_law_401 : decode cL_law 401 = .ok (.iadd, 1) := by decide +kernel
theorem dL_law_402 : decode cL_law 402 = .ok (.iaload, 1) := by decide +kernel
theorem dL_law_403 : decode cL_law 403 = .ok (.invokevirtual 43, 3) := by decide +kernel
theorem dL_law_406 : decode cL_law 406 = .ok (.if_icmp .eq 771, 3) := by decide +kernel
theorem dL_law_409 : decode cL_law 409 = .ok (.iconst 0, 1) := by decide +kernel
theorem dL_law_410 : decode cL_law 410 = .ok (.ireturn, 1) := by decide +kernel
theorem dL_law_411 : decode cL_law 411 = .ok (.aload_n 1, 1) := by decide +kernel
theorem dL_law_412 : decode cL_law 412 = .ok (.aload_n 0, 1) := by decide +kernel
theorem dL_law_413 : decode cL_law 413 = .ok (.iload_n 3, 1) := by decide +kernel
theorem dL_law_414 : decode cL_law 414 = .ok (.iconst 1, 1) := by decide +kernel
theorem dL_law_415 : decode cL_law 415 = .ok (.iadd, 1) := by decide +kernel
theorem dL_law_416 : decode cL_law 416 = .ok (.iaload, 1) := by decide +kernel
theorem dL_law_417 : decode cL_law 417 = .ok (.i2l, 1) := by decide +kernel
theorem dL_law_418 : decode cL_law 418 = .ok (.bipush 32, 2) := by decide +kernel
theorem dL_law_420 : decode cL_law 420 = .ok (.lshl, 1) := by decide +kernel
theorem dL_law_421 : decode cL_law 421 = .ok (.aload_n 0, 1) := by decide +kernel
theorem dL_law_422 : decode cL_law 422 = .ok (.iload_n 3, 1) := by decide +kernel
theorem dL_law_423 : decode cL_law 423 = .ok (.iconst 2, 1) := by decide +kernel
theorem dL_law_424 : decode cL_law 424 = .ok (.iadd, 1) := by decide +kernel
theorem dL_law_425 : decode cL_law 425 = .ok (.iaload, 1) := by decide +kernel
theorem dL_law_426 : decode cL_law 426 = .ok (.i2l, 1) := by decide +kernel
theorem dL_law_427 : decode cL_law 427 = .ok (.ldc2_w 44, 3) := by decide +kernel
theorem dL_law_430 : decode cL_law 430 = .ok (.land, 1) := by decide +kernel
theorem dL_law_431 : decode cL_law 431 = .ok (.lor, 1) := by decide +kernel
theorem dL_law_432 : decode cL_law 432 = .ok (.aload_n 0, 1) := by decide +kernel
theorem dL_law_433 : decode cL_law 433 = .ok (.iload_n 3, 1) := by decide +kernel
theorem dL_law_434 : decode cL_law 434 = .ok (.iconst 3, 1) := by decide +kernel
theorem dL_law_435 : decode cL_law 435 = .ok (.iadd, 1) := by decide +kernel
theorem dL_law_436 : decode cL_law 436 = .ok (.iaload, 1) := by decide +kernel
theorem dL_law_437 : decode cL_law 437 = .ok (.invokevirtual 46, 3) := by decide +kernel
theorem dL_law_440 : decode cL_law 440 = .ok (.aload_n 2, 1) := by decide +kernel
theorem dL_law_441 : decode cL_law 441 = .ok (.aload_n 0, 1) := by decide +kernel
theorem dL_law_442 : decode cL_law 442 = .ok (.iload_n 3, 1) := by decide +kernel
theorem dL_law_443 : decode cL_law 443 = .ok (.iconst 1, 1) := by decide +kernel
theorem dL_law_444 : decode cL_law 444 = .ok (.iadd, 1) := by decide +kernel
theorem dL_law_445 : decode cL_law 445 = .ok (.iaload, 1) := by decide +kernel
theorem dL_law_446 : decode cL_law 446 = .ok (.i2l, 1) := by decide +kernel
theorem dL_law_447 : decode cL_law 447 = .ok (.bipush 32, 2) := by decide +kernel
theorem dL_law_449 : decode cL_law 449 = .ok (.lshl, 1) := by decide +kernel
theorem dL_law_450 : decode cL_law 450 = .ok (.aload_n 0, 1) := by decide +kernel
theorem dL_law_451 : decode cL_law 451 = .ok (.iload_n 3, 1) := by decide +kernel
theorem dL_law_452 : decode cL_law 452 = .ok (.iconst 2, 1) := by decide +kernel
theorem dL_law_453 : decode cL_law 453 = .ok (.iadd, 1) := by decide +kernel
theorem dL_law_454 : decode cL_law 454 = .ok (.iaload, 1) := by decide +kernel
theorem dL_law_455 : decode cL_law 455 = .ok (.i2l, 1) := by decide +kernel
theorem dL_law_456 : decode cL_law 456 = .ok (.ldc2_w 44, 3) := by decide +kernel
theorem dL_law_459 : decode cL_law 459 = .ok (.land, 1) := by decide +kernel
theorem dL_law_460 : decode cL_law 460 = .ok (.lor, 1) := by decide +kernel
theorem dL_law_461 : decode cL_law 461 = .ok (.aload_n 0, 1) := by decide +kernel
theorem dL_law_462 : decode cL_law 462 = .ok (.iload_n 3, 1) := by decide +kernel
theorem dL_law_463 : decode cL_law 463 = .ok (.iconst 3, 1) := by decide +kernel
theorem dL_law_464 : decode cL_law 464 = .ok (.iadd, 1) := by decide +kernel
theorem dL_law_465 : decode cL_law 465 = .ok (.iaload, 1) := by decide +kernel
theorem dL_law_466 : decode cL_law 466 = .ok (.invokevirtual 50, 3) := by decide +kernel
theorem dL_law_469 : decode cL_law 469 = .ok (.if_icmp .eq 708, 3) := by decide +kernel
theorem dL_law_472 : decode cL_law 472 = .ok (.iconst 0, 1) := by decide +kernel
theorem dL_law_473 : decode cL_law 473 = .ok (.ireturn, 1) := by decide +kernel
theorem dL_law_474 : decode cL_law 474 = .ok (.aload_n 1, 1) := by decide +kernel
theorem dL_law_475 : decode cL_law 475 = .ok (.invokevirtual 51, 3) := by decide +kernel
theorem dL_law_478 : decode cL_law 478 = .ok (.aload_n 2, 1) := by decide +kernel
theorem dL_law_479 : decode cL_law 479 = .ok (.invokevirtual 55, 3) := by decide +kernel
theorem dL_law_482 : decode cL_law 482 = .ok (.if_icmp .eq 695, 3) := by decide +kernel
theorem dL_law_485 : decode cL_law 485 = .ok (.iconst 0, 1) := by decide +kernel
theorem dL_law_486 : decode cL_law 486 = .ok (.ireturn, 1) := by decide +kernel
theorem dL_law_487 : decode cL_law 487 = .ok (.aload_n 1, 1) := by decide +kernel
theorem dL_law_488 : decode cL_law 488 = .ok (.aload_n 0, 1) := by decide +kernel
theorem dL_law_489 : decode cL_law 489 = .ok (.iload_n 3, 1) := by decide +kernel
theorem dL_law_490 : decode cL_law 490 = .ok (.iconst 1, 1) := by decide +kernel
theorem dL_law_491 : decode cL_law 491 = .ok (.iadd, 1) := by decide +kernel
theorem dL_law_492 : decode cL_law 492 = .ok (.iaload, 1) := by decide +kernel
theorem dL_law_493 : decode cL_law 493 = .ok (.invokevirtual 56, 3) := by decide +kernel
theorem dL_law_496 : decode cL_law 496 = .ok (.aload_n 2, 1) := by decide +kernel
theorem dL_law_497 : decode cL_law 497 = .ok (.aload_n 0, 1) := by decide +kernel
theorem dL_law_498 : decode cL_law 498 = .ok (.iload_n 3, 1) := by decide +kernel
theorem dL_law_499 : decode cL_law 499 = .ok (.iconst 1, 1) := by decide +kernel
theorem dL_law_500 : decode cL_law 500 = .ok (.iadd, 1) := by decide +kernel
theorem dL_law_501 : decode cL_law 501 = .ok (.iaload, 1) := by decide +kernel
theorem dL_law_502 : decode cL_law 502 = .ok (.invokevirtual 59, 3) := by decide +kernel
theorem dL_law_505 : decode cL_law 505 = .ok (.if_icmp .eq 672, 3) := by decide +kernel
theorem dL_law_508 : decode cL_law 508 = .ok (.iconst 0, 1) := by decide +kernel
theorem dL_law_509 : decode cL_law 509 = .ok (.ireturn, 1) := by decide +kernel
theorem dL_law_510 : decode cL_law 510 = .ok (.aload_n 1, 1) := by decide +kernel
theorem dL_law_511 : decode cL_law 511 = .ok (.aload_n 0, 1) := by decide +kernel
theorem dL_law_512 : decode cL_law 512 = .ok (.iload_n 3, 1) := by decide +kernel
theorem dL_law_513 : decode cL_law 513 = .ok (.iconst 1, 1) := by decide +kernel
theorem dL_law_514 : decode cL_law 514 = .ok (.iadd, 1) := by decide +kernel
theorem dL_law_515 : decode cL_law 515 = .ok (.iaload, 1) := by decide +kernel
theorem dL_law_516 : decode cL_law 516 = .ok (.aload_n 0, 1) := by decide +kernel
theorem dL_law_517 : decode cL_law 517 = .ok (.iload_n 3, 1) := by decide +kernel
theorem dL_law_518 : decode cL_law 518 = .ok (.iconst 2, 1) := by decide +kernel
theorem dL_law_519 : decode cL_law 519 = .ok (.iadd, 1) := by decide +kernel
theorem dL_law_520 : decode cL_law 520 = .ok (.iaload, 1) := by decide +kernel
theorem dL_law_521 : decode cL_law 521 = .ok (.aload_n 0, 1) := by decide +kernel
theorem dL_law_522 : decode cL_law 522 = .ok (.iload_n 3, 1) := by decide +kernel
theorem dL_law_523 : decode cL_law 523 = .ok (.iconst 3, 1) := by decide +kernel
theorem dL_law_524 : decode cL_law 524 = .ok (.iadd, 1) := by decide +kernel
theorem dL_law_525 : decode cL_law 525 = .ok (.iaload, 1) := by decide +kernel
theorem dL_law_526 : decode cL_law 526 = .ok (.invokevirtual 60, 3) := by decide +kernel
theorem dL_law_529 : decode cL_law 529 = .ok (.aload_n 2, 1) := by decide +kernel
theorem dL_law_530 : decode cL_law 530 = .ok (.aload_n 0, 1) := by decide +kernel
theorem dL_law_531 : decode cL_law 531 = .ok (.iload_n 3, 1) := by decide +kernel
theorem dL_law_532 : decode cL_law 532 = .ok (.iconst 1, 1) := by decide +kernel
theorem dL_law_533 : decode cL_law 533 = .ok (.iadd, 1) := by decide +kernel
theorem dL_law_534 : decode cL_law 534 = .ok (.iaload, 1) := by decide +kernel
theorem dL_law_535 : decode cL_law 535 = .ok (.aload_n 0, 1) := by decide +kernel
theorem dL_law_536 : decode cL_law 536 = .ok (.iload_n 3, 1) := by decide +kernel
theorem dL_law_537 : decode cL_law 537 = .ok (.iconst 2, 1) := by decide +kernel
theorem dL_law_538 : decode cL_law 538 = .ok (.iadd, 1) := by decide +kernel
theorem dL_law_539 : decode cL_law 539 = .ok (.iaload, 1) := by decide +kernel
theorem dL_law_540 : decode cL_law 540 = .ok (.aload_n 0, 1) := by decide +kernel
theorem dL_law_541 : decode cL_law 541 = .ok (.iload_n 3, 1) := by decide +kernel
theorem dL_law_542 : decode cL_law 542 = .ok (.iconst 3, 1) := by decide +kernel
theorem dL_law_543 : decode cL_law 543 = .ok (.iadd, 1) := by decide +kernel
theorem dL_law_544 : decode cL_law 544 = .ok (.iaload, 1) := by decide +kernel
theorem dL_law_545 : decode cL_law 545 = .ok (.invokevirtual 64, 3) := by decide +kernel
theorem dL_law_548 : decode cL_law 548 = .ok (.lcmp, 1) := by decide +kernel
theorem dL_law_549 : decode cL_law 549 = .ok (.ifCond .eq 628, 3) := by decide +kernel
theorem dL_law_552 : decode cL_law 552 = .ok (.iconst 0, 1) := by decide +kernel
theorem dL_law_553 : decode cL_law 553 = .ok (.ireturn, 1) := by decide +kernel
theorem dL_law_554 : decode cL_law 554 = .ok (.aload_n 1, 1) := by decide +kernel
theorem dL_law_555 : decode cL_law 555 = .ok (.aload_n 0, 1) := by decide +kernel
theorem dL_law_556 : decode cL_law 556 = .ok (.iload_n 3, 1) := by decide +kernel
theorem dL_law_557 : decode cL_law 557 = .ok (.iconst 1, 1) := by decide +kernel
theorem dL_law_558 : decode cL_law 558 = .ok (.iadd, 1) := by decide +kernel
theorem dL_law_559 : decode cL_law 559 = .ok (.iaload, 1) := by decide +kernel
theorem dL_law_560 : decode cL_law 560 = .ok (.aload_n 0, 1) := by decide +kernel
theorem dL_law_561 : decode cL_law 561 = .ok (.iload_n 3, 1) := by decide +kernel
theorem dL_law_562 : decode cL_law 562 = .ok (.iconst 2, 1) := by decide +kernel
theorem dL_law_563 : decode cL_law 563 = .ok (.iadd, 1) := by decide +kernel
theorem dL_law_564 : decode cL_law 564 = .ok (.iaload, 1) := by decide +kernel
theorem dL_law_565 : decode cL_law 565 = .ok (.aload_n 0, 1) := by decide +kernel
theorem dL_law_566 : decode cL_law 566 = .ok (.iload_n 3, 1) := by decide +kernel
theorem dL_law_567 : decode cL_law 567 = .ok (.iconst 3, 1) := by decide +kernel
theorem dL_law_568 : decode cL_law 568 = .ok (.iadd, 1) := by decide +kernel
theorem dL_law_569 : decode cL_law 569 = .ok (.iaload, 1) := by decide +kernel
theorem dL_law_570 : decode cL_law 570 = .ok (.invokevirtual 65, 3) := by decide +kernel
theorem dL_law_573 : decode cL_law 573 = .ok (.aload_n 2, 1) := by decide +kernel
theorem dL_law_574 : decode cL_law 574 = .ok (.aload_n 0, 1) := by decide +kernel
theorem dL_law_575 : decode cL_law 575 = .ok (.iload_n 3, 1) := by decide +kernel
theorem dL_law_576 : decode cL_law 576 = .ok (.iconst 1, 1) := by decide +kernel
theorem dL_law_577 : decode cL_law 577 = .ok (.iadd, 1) := by decide +kernel
theorem dL_law_578 : decode cL_law 578 = .ok (.iaload, 1) := by decide +kernel
theorem dL_law_579 : decode cL_law 579 = .ok (.aload_n 0, 1) := by decide +kernel
theorem dL_law_580 : decode cL_law 580 = .ok (.iload_n 3, 1) := by decide +kernel
theorem dL_law_581 : decode cL_law 581 = .ok (.iconst 2, 1) := by decide +kernel
theorem dL_law_582 : decode cL_law 582 = .ok (.iadd, 1) := by decide +kernel
theorem dL_law_583 : decode cL_law 583 = .ok (.iaload, 1) := by decide +kernel
theorem dL_law_584 : decode cL_law 584 = .ok (.aload_n 0, 1) := by decide +kernel
theorem dL_law_585 : decode cL_law 585 = .ok (.iload_n 3, 1) := by decide +kernel
theorem dL_law_586 : decode cL_law 586 = .ok (.iconst 3, 1) := by decide +kernel
theorem dL_law_587 : decode cL_law 587 = .ok (.iadd, 1) := by decide +kernel
theorem dL_law_588 : decode cL_law 588 = .ok (.iaload, 1) := by decide +kernel
theorem dL_law_589 : decode cL_law 589 = .ok (.invokevirtual 68, 3) := by decide +kernel
theorem dL_law_592 : decode cL_law 592 = .ok (.lcmp, 1) := by decide +kernel
theorem dL_law_593 : decode cL_law 593 = .ok (.ifCond .eq 584, 3) := by decide +kernel
theorem dL_law_596 : decode cL_law 596 = .ok (.iconst 0, 1) := by decide +kernel
theorem dL_law_597 : decode cL_law 597 = .ok (.ireturn, 1) := by decide +kernel
theorem dL_law_598 : decode cL_law 598 = .ok (.aload_n 1, 1) := by decide +kernel
theorem dL_law_599 : decode cL_law 599 = .ok (.aload_n 0, 1) := by decide +kernel
theorem dL_law_600 : decode cL_law 600 = .ok (.iload_n 3, 1) := by decide +kernel
theorem dL_law_601 : decode cL_law 601 = .ok (.iconst 1, 1) := by decide +kernel
theorem dL_law_602 : decode cL_law 602 = .ok (.iadd, 1) := by decide +kernel
theorem dL_law_603 : decode cL_law 603 = .ok (.iaload, 1) := by decide +kernel
theorem dL_law_604 : decode cL_law 604 = .ok (.aload_n 0, 1) := by decide +kernel
theorem dL_law_605 : decode cL_law 605 = .ok (.iload_n 3, 1) := by decide +kernel
theorem dL_law_606 : decode cL_law 606 = .ok (.iconst 2, 1) := by decide +kernel
theorem dL_law_607 : decode cL_law 607 = .ok (.iadd, 1) := by decide +kernel
theorem dL_law_608 : decode cL_law 608 = .ok (.iaload, 1) := by decide +kernel
theorem dL_law_609 : decode cL_law 609 = .ok (.aload_n 0, 1) := by decide +kernel
theorem dL_law_610 : decode cL_law 610 = .ok (.iload_n 3, 1) := by decide +kernel
theorem dL_law_611 : decode cL_law 611 = .ok (.iconst 3, 1) := by decide +kernel
theorem dL_law_612 : decode cL_law 612 = .ok (.iadd, 1) := by decide +kernel
theorem dL_law_613 : decode cL_law 613 = .ok (.iaload, 1) := by decide +kernel
theorem dL_law_614 : decode cL_law 614 = .ok (.aload_n 0, 1) := by decide +kernel
theorem dL_law_615 : decode cL_law 615 = .ok (.iload_n 3, 1) := by decide +kernel
theorem dL_law_616 : decode cL_law 616 = .ok (.iconst 4, 1) := by decide +kernel
theorem dL_law_617 : decode cL_law 617 = .ok (.iadd, 1) := by decide +kernel
theorem dL_law_618 : decode cL_law 618 = .ok (.iaload, 1) := by decide +kernel
theorem dL_law_619 : decode cL_law 619 = .ok (.invokevirtual 69, 3) := by decide +kernel
theorem dL_law_622 : decode cL_law 622 = .ok (.aload_n 2, 1) := by decide +kernel
theorem dL_law_623 : decode cL_law 623 = .ok (.aload_n 0, 1) := by decide +kernel
theorem dL_law_624 : decode cL_law 624 = .ok (.iload_n 3, 1) := by decide +kernel
theorem dL_law_625 : decode cL_law 625 = .ok (.iconst 1, 1) := by decide +kernel
theorem dL_law_626 : decode cL_law 626 = .ok (.iadd, 1) := by decide +kernel
theorem dL_law_627 : decode cL_law 627 = .ok (.iaload, 1) := by decide +kernel
theorem dL_law_628 : decode cL_law 628 = .ok (.aload_n 0, 1) := by decide +kernel
theorem dL_law_629 : decode cL_law 629 = .ok (.iload_n 3, 1) := by decide +kernel
theorem dL_law_630 : decode cL_law 630 = .ok (.iconst 2, 1) := by decide +kernel
theorem dL_law_631 : decode cL_law 631 = .ok (.iadd, 1) := by decide +kernel
theorem dL_law_632 : decode cL_law 632 = .ok (.iaload, 1) := by decide +kernel
theorem dL_law_633 : decode cL_law 633 = .ok (.aload_n 0, 1) := by decide +kernel
theorem dL_law_634 : decode cL_law 634 = .ok (.iload_n 3, 1) := by decide +kernel
theorem dL_law_635 : decode cL_law 635 = .ok (.iconst 3, 1) := by decide +kernel
theorem dL_law_636 : decode cL_law 636 = .ok (.iadd, 1) := by decide +kernel
theorem dL_law_637 : decode cL_law 637 = .ok (.iaload, 1) := by decide +kernel
theorem dL_law_638 : decode cL_law 638 = .ok (.aload_n 0, 1) := by decide +kernel
theorem dL_law_639 : decode cL_law 639 = .ok (.iload_n 3, 1) := by decide +kernel
theorem dL_law_640 : decode cL_law 640 = .ok (.iconst 4, 1) := by decide +kernel
theorem dL_law_641 : decode cL_law 641 = .ok (.iadd, 1) := by decide +kernel
theorem dL_law_642 : decode cL_law 642 = .ok (.iaload, 1) := by decide +kernel
theorem dL_law_643 : decode cL_law 643 = .ok (.invokevirtual 73, 3) := by decide +kernel
theorem dL_law_646 : decode cL_law 646 = .ok (.if_icmp .eq 531, 3) := by decide +kernel
theorem dL_law_649 : decode cL_law 649 = .ok (.iconst 0, 1) := by decide +kernel
theorem dL_law_650 : decode cL_law 650 = .ok (.ireturn, 1) := by decide +kernel
theorem dL_law_651 : decode cL_law 651 = .ok (.aload_n 1, 1) := by decide +kernel
theorem dL_law_652 : decode cL_law 652 = .ok (.aload_n 0, 1) := by decide +kernel
theorem dL_law_653 : decode cL_law 653 = .ok (.iload_n 3, 1) := by decide +kernel
theorem dL_law_654 : decode cL_law 654 = .ok (.iconst 1, 1) := by decide +kernel
theorem dL_law_655 : decode cL_law 655 = .ok (.iadd, 1) := by decide +kernel
theorem dL_law_656 : decode cL_law 656 = .ok (.iaload, 1) := by decide +kernel
theorem dL_law_657 : decode cL_law 657 = .ok (.aload_n 0, 1) := by decide +kernel
theorem dL_law_658 : decode cL_law 658 = .ok (.iload_n 3, 1) := by decide +kernel
theorem dL_law_659 : decode cL_law 659 = .ok (.iconst 2, 1) := by decide +kernel
theorem dL_law_660 : decode cL_law 660 = .ok (.iadd, 1) := by decide +kernel
theorem dL_law_661 : decode cL_law 661 = .ok (.iaload, 1) := by decide +kernel
theorem dL_law_662 : decode cL_law 662 = .ok (.invokevirtual 74, 3) := by decide +kernel
theorem dL_law_665 : decode cL_law 665 = .ok (.aload_n 2, 1) := by decide +kernel
theorem dL_law_666 : decode cL_law 666 = .ok (.aload_n 0, 1) := by decide +kernel
theorem dL_law_667 : decode cL_law 667 = .ok (.iload_n 3, 1) := by decide +kernel
theorem dL_law_668 : decode cL_law 668 = .ok (.iconst 1, 1) := by decide +kernel
theorem dL_law_669 : decode cL_law 669 = .ok (.iadd, 1) := by decide +kernel
theorem dL_law_670 : decode cL_law 670 = .ok (.iaload, 1) := by decide +kernel
theorem dL_law_671 : decode cL_law 671 = .ok (.aload_n 0, 1) := by decide +kernel
theorem dL_law_672 : decode cL_law 672 = .ok (.iload_n 3, 1) := by decide +kernel
theorem dL_law_673 : decode cL_law 673 = .ok (.iconst 2, 1) := by decide +kernel
theorem dL_law_674 : decode cL_law 674 = .ok (.iadd, 1) := by decide +kernel
theorem dL_law_675 : decode cL_law 675 = .ok (.iaload, 1) := by decide +kernel
theorem dL_law_676 : decode cL_law 676 = .ok (.invokevirtual 77, 3) := by decide +kernel
theorem dL_law_679 : decode cL_law 679 = .ok (.if_icmp .eq 498, 3) := by decide +kernel
theorem dL_law_682 : decode cL_law 682 = .ok (.iconst 0, 1) := by decide +kernel
theorem dL_law_683 : decode cL_law 683 = .ok (.ireturn, 1) := by decide +kernel
theorem dL_law_684 : decode cL_law 684 = .ok (.aload_n 1, 1) := by decide +kernel
theorem dL_law_685 : decode cL_law 685 = .ok (.aload_n 0, 1) := by decide +kernel
theorem dL_law_686 : decode cL_law 686 = .ok (.iload_n 3, 1) := by decide +kernel
theorem dL_law_687 : decode cL_law 687 = .ok (.iconst 1, 1) := by decide +kernel
theorem dL_law_688 : decode cL_law 688 = .ok (.iadd, 1) := by decide +kernel
theorem dL_law_689 : decode cL_law 689 = .ok (.iaload, 1) := by decide +kernel
theorem dL_law_690 : decode cL_law 690 = .ok (.invokevirtual 78, 3) := by decide +kernel
theorem dL_law_693 : decode cL_law 693 = .ok (.aload_n 2, 1) := by decide +kernel
theorem dL_law_694 : decode cL_law 694 = .ok (.aload_n 0, 1) := by decide +kernel
theorem dL_law_695 : decode cL_law 695 = .ok (.iload_n 3, 1) := by decide +kernel
theorem dL_law_696 : decode cL_law 696 = .ok (.iconst 1, 1) := by decide +kernel
theorem dL_law_697 : decode cL_law 697 = .ok (.iadd, 1) := by decide +kernel
theorem dL_law_698 : decode cL_law 698 = .ok (.iaload, 1) := by decide +kernel
theorem dL_law_699 : decode cL_law 699 = .ok (.invokevirtual 81, 3) := by decide +kernel
theorem dL_law_702 : decode cL_law 702 = .ok (.if_icmp .eq 475, 3) := by decide +kernel
theorem dL_law_705 : decode cL_law 705 = .ok (.iconst 0, 1) := by decide +kernel
theorem dL_law_706 : decode cL_law 706 = .ok (.ireturn, 1) := by decide +kernel
theorem dL_law_707 : decode cL_law 707 = .ok (.aload_n 1, 1) := by decide +kernel
theorem dL_law_708 : decode cL_law 708 = .ok (.aload_n 0, 1) := by decide +kernel
theorem dL_law_709 : decode cL_law 709 = .ok (.iload_n 3, 1) := by decide +kernel
theorem dL_law_710 : decode cL_law 710 = .ok (.iconst 1, 1) := by decide +kernel
theorem dL_law_711 : decode cL_law 711 = .ok (.iadd, 1) := by decide +kernel
theorem dL_law_712 : decode cL_law 712 = .ok (.iaload, 1) := by decide +kernel
theorem dL_law_713 : decode cL_law 713 = .ok (.invokevirtual 82, 3) := by decide +kernel
theorem dL_law_716 : decode cL_law 716 = .ok (.aload_n 2, 1) := by decide +kernel
theorem dL_law_717 : decode cL_law 717 = .ok (.aload_n 0, 1) := by decide +kernel
theorem dL_law_718 : decode cL_law 718 = .ok (.iload_n 3, 1) := by decide +kernel
theorem dL_law_719 : decode cL_law 719 = .ok (.iconst 1, 1) := by decide +kernel
theorem dL_law_720 : decode cL_law 720 = .ok (.iadd, 1) := by decide +kernel
theorem dL_law_721 : decode cL_law 721 = .ok (.iaload, 1) := by decide +kernel
theorem dL_law_722 : decode cL_law 722 = .ok (.invokevirtual 85, 3) := by decide +kernel
theorem dL_law_725 : decode cL_law 725 = .ok (.if_icmp .eq 452, 3) := by decide +kernel
theorem dL_law_728 : decode cL_law 728 = .ok (.iconst 0, 1) := by decide +kernel
theorem dL_law_729 : decode cL_law 729 = .ok (.ireturn, 1) := by decide +kernel
theorem dL_law_730 : decode cL_law 730 = .ok (.aload_n 1, 1) := by decide +kernel
theorem dL_law_731 : decode cL_law 731 = .ok (.aload_n 0, 1) := by decide +kernel
theorem dL_law_732 : decode cL_law 732 = .ok (.iload_n 3, 1) := by decide +kernel
theorem dL_law_733 : decode cL_law 733 = .ok (.iconst 1, 1) := by decide +kernel
theorem dL_law_734 : decode cL_law 734 = .ok (.iadd, 1) := by decide +kernel
theorem dL_law_735 : decode cL_law 735 = .ok (.iaload, 1) := by decide +kernel
theorem dL_law_736 : decode cL_law 736 = .ok (.aload_n 0, 1) := by decide +kernel
theorem dL_law_737 : decode cL_law 737 = .ok (.iload_n 3, 1) := by decide +kernel
theorem dL_law_738 : decode cL_law 738 = .ok (.iconst 2, 1) := by decide +kernel
theorem dL_law_739 : decode cL_law 739 = .ok (.iadd, 1) := by decide +kernel
theorem dL_law_740 : decode cL_law 740 = .ok (.iaload, 1) := by decide +kernel
theorem dL_law_741 : decode cL_law 741 = .ok (.invokevirtual 86, 3) := by decide +kernel
theorem dL_law_744 : decode cL_law 744 = .ok (.aload_n 2, 1) := by decide +kernel
theorem dL_law_745 : decode cL_law 745 = .ok (.aload_n 0, 1) := by decide +kernel
theorem dL_law_746 : decode cL_law 746 = .ok (.iload_n 3, 1) := by decide +kernel
theorem dL_law_747 : decode cL_law 747 = .ok (.iconst 1, 1) := by decide +kernel
theorem dL_law_748 : decode cL_law 748 = .ok (.iadd, 1) := by decide +kernel
theorem dL_law_749 : decode cL_law 749 = .ok (.iaload, 1) := by decide +kernel
theorem dL_law_750 : decode cL_law 750 = .ok (.aload_n 0, 1) := by decide +kernel
theorem dL_law_751 : decode cL_law 751 = .ok (.iload_n 3, 1) := by decide +kernel
theorem dL_law_752 : decode cL_law 752 = .ok (.iconst 2, 1) := by decide +kernel
theorem dL_law_753 : decode cL_law 753 = .ok (.iadd, 1) := by decide +kernel
theorem dL_law_754 : decode cL_law 754 = .ok (.iaload, 1) := by decide +kernel
theorem dL_law_755 : decode cL_law 755 = .ok (.invokevirtual 89, 3) := by decide +kernel
theorem dL_law_758 : decode cL_law 758 = .ok (.if_icmp .eq 419, 3) := by decide +kernel
theorem dL_law_761 : decode cL_law 761 = .ok (.iconst 0, 1) := by decide +kernel
theorem dL_law_762 : decode cL_law 762 = .ok (.ireturn, 1) := by decide +kernel
theorem dL_law_763 : decode cL_law 763 = .ok (.aload_n 1, 1) := by decide +kernel
theorem dL_law_764 : decode cL_law 764 = .ok (.aload_n 0, 1) := by decide +kernel
theorem dL_law_765 : decode cL_law 765 = .ok (.iload_n 3, 1) := by decide +kernel
theorem dL_law_766 : decode cL_law 766 = .ok (.iconst 1, 1) := by decide +kernel
theorem dL_law_767 : decode cL_law 767 = .ok (.iadd, 1) := by decide +kernel
theorem dL_law_768 : decode cL_law 768 = .ok (.iaload, 1) := by decide +kernel
theorem dL_law_769 : decode cL_law 769 = .ok (.invokevirtual 90, 3) := by decide +kernel
theorem dL_law_772 : decode cL_law 772 = .ok (.aload_n 2, 1) := by decide +kernel
theorem dL_law_773 : decode cL_law 773 = .ok (.aload_n 0, 1) := by decide +kernel
theorem dL_law_774 : decode cL_law 774 = .ok (.iload_n 3, 1) := by decide +kernel
theorem dL_law_775 : decode cL_law 775 = .ok (.iconst 1, 1) := by decide +kernel
theorem dL_law_776 : decode cL_law 776 = .ok (.iadd, 1) := by decide +kernel
theorem dL_law_777 : decode cL_law 777 = .ok (.iaload, 1) := by decide +kernel
theorem dL_law_778 : decode cL_law 778 = .ok (.invokevirtual 93, 3) := by decide +kernel
theorem dL_law_781 : decode cL_law 781 = .ok (.if_icmp .eq 396, 3) := by decide +kernel
theorem dL_law_784 : decode cL_law 784 = .ok (.iconst 0, 1) := by decide +kernel
theorem dL_law_785 : decode cL_law 785 = .ok (.ireturn, 1) := by decide +kernel
theorem dL_law_786 : decode cL_law 786 = .ok (.aload_n 1, 1) := by decide +kernel
theorem dL_law_787 : decode cL_law 787 = .ok (.aload_n 0, 1) := by decide +kernel
theorem dL_law_788 : decode cL_law 788 = .ok (.iload_n 3, 1) := by decide +kernel
theorem dL_law_789 : decode cL_law 789 = .ok (.iconst 1, 1) := by decide +kernel
theorem dL_law_790 : decode cL_law 790 = .ok (.iadd, 1) := by decide +kernel
theorem dL_law_791 : decode cL_law 791 = .ok (.iaload, 1) := by decide +kernel
theorem dL_law_792 : decode cL_law 792 = .ok (.aload_n 0, 1) := by decide +kernel
theorem dL_law_793 : decode cL_law 793 = .ok (.iload_n 3, 1) := by decide +kernel
theorem dL_law_794 : decode cL_law 794 = .ok (.iconst 2, 1) := by decide +kernel
theorem dL_law_795 : decode cL_law 795 = .ok (.iadd, 1) := by decide +kernel
theorem dL_law_796 : decode cL_law 796 = .ok (.iaload, 1) := by decide +kernel
theorem dL_law_797 : decode cL_law 797 = .ok (.aload_n 0, 1) := by decide +kernel
theorem dL_law_798 : decode cL_law 798 = .ok (.iload_n 3, 1) := by decide +kernel
theorem dL_law_799 : decode cL_law 799 = .ok (.iconst 3, 1) := by decide +kernel
theorem dL_law_800 : decode cL_law 800 = .ok (.iadd, 1) := by decide +kernel
theorem dL_law_801 : decode cL_law 801 = .ok (.iaload, 1) := by decide +kernel
theorem dL_law_802 : decode cL_law 802 = .ok (.aload_n 0, 1) := by decide +kernel
theorem dL_law_803 : decode cL_law 803 = .ok (.iload_n 3, 1) := by decide +kernel
theorem dL_law_804 : decode cL_law 804 = .ok (.iconst 4, 1) := by decide +kernel
theorem dL_law_805 : decode cL_law 805 = .ok (.iadd, 1) := by decide +kernel
theorem dL_law_806 : decode cL_law 806 = .ok (.iaload, 1) := by decide +kernel
theorem dL_law_807 : decode cL_law 807 = .ok (.invokevirtual 94, 3) := by decide +kernel
theorem dL_law_810 : decode cL_law 810 = .ok (.aload_n 2, 1) := by decide +kernel
theorem dL_law_811 : decode cL_law 811 = .ok (.aload_n 0, 1) := by decide +kernel
theorem dL_law_812 : decode cL_law 812 = .ok (.iload_n 3, 1) := by decide +kernel
theorem dL_law_813 : decode cL_law 813 = .ok (.iconst 1, 1) := by decide +kernel
theorem dL_law_814 : decode cL_law 814 = .ok (.iadd, 1) := by decide +kernel
theorem dL_law_815 : decode cL_law 815 = .ok (.iaload, 1) := by decide +kernel
theorem dL_law_816 : decode cL_law 816 = .ok (.aload_n 0, 1) := by decide +kernel
theorem dL_law_817 : decode cL_law 817 = .ok (.iload_n 3, 1) := by decide +kernel
theorem dL_law_818 : decode cL_law 818 = .ok (.iconst 2, 1) := by decide +kernel
theorem dL_law_819 : decode cL_law 819 = .ok (.iadd, 1) := by decide +kernel
theorem dL_law_820 : decode cL_law 820 = .ok (.iaload, 1) := by decide +kernel
theorem dL_law_821 : decode cL_law 821 = .ok (.aload_n 0, 1) := by decide +kernel
theorem dL_law_822 : decode cL_law 822 = .ok (.iload_n 3, 1) := by decide +kernel
theorem dL_law_823 : decode cL_law 823 = .ok (.iconst 3, 1) := by decide +kernel
theorem dL_law_824 : decode cL_law 824 = .ok (.iadd, 1) := by decide +kernel
theorem dL_law_825 : decode cL_law 825 = .ok (.iaload, 1) := by decide +kernel
theorem dL_law_826 : decode cL_law 826 = .ok (.aload_n 0, 1) := by decide +kernel
theorem dL_law_827 : decode cL_law 827 = .ok (.iload_n 3, 1) := by decide +kernel
theorem dL_law_828 : decode cL_law 828 = .ok (.iconst 4, 1) := by decide +kernel
theorem dL_law_829 : decode cL_law 829 = .ok (.iadd, 1) := by decide +kernel
theorem dL_law_830 : decode cL_law 830 = .ok (.iaload, 1) := by decide +kernel
theorem dL_law_831 : decode cL_law 831 = .ok (.invokevirtual 98, 3) := by decide +kernel
theorem dL_law_834 : decode cL_law 834 = .ok (.lcmp, 1) := by decide +kernel
theorem dL_law_835 : decode cL_law 835 = .ok (.ifCond .eq 342, 3) := by decide +kernel
theorem dL_law_838 : decode cL_law 838 = .ok (.iconst 0, 1) := by decide +kernel
theorem dL_law_839 : decode cL_law 839 = .ok (.ireturn, 1) := by decide +kernel
theorem dL_law_840 : decode cL_law 840 = .ok (.aload_n 1, 1) := by decide +kernel
theorem dL_law_841 : decode cL_law 841 = .ok (.aload_n 0, 1) := by decide +kernel
theorem dL_law_842 : decode cL_law 842 = .ok (.iload_n 3, 1) := by decide +kernel
theorem dL_law_843 : decode cL_law 843 = .ok (.iconst 1, 1) := by decide +kernel
theorem dL_law_844 : decode cL_law 844 = .ok (.iadd, 1) := by decide +kernel
theorem dL_law_845 : decode cL_law 845 = .ok (.iaload, 1) := by decide +kernel
theorem dL_law_846 : decode cL_law 846 = .ok (.aload_n 0, 1) := by decide +kernel
theorem dL_law_847 : decode cL_law 847 = .ok (.iload_n 3, 1) := by decide +kernel
theorem dL_law_848 : decode cL_law 848 = .ok (.iconst 2, 1) := by decide +kernel
theorem dL_law_849 : decode cL_law 849 = .ok (.iadd, 1) := by decide +kernel
theorem dL_law_850 : decode cL_law 850 = .ok (.iaload, 1) := by decide +kernel
theorem dL_law_851 : decode cL_law 851 = .ok (.aload_n 0, 1) := by decide +kernel
theorem dL_law_852 : decode cL_law 852 = .ok (.iload_n 3, 1) := by decide +kernel
theorem dL_law_853 : decode cL_law 853 = .ok (.iconst 3, 1) := by decide +kernel
theorem dL_law_854 : decode cL_law 854 = .ok (.iadd, 1) := by decide +kernel
theorem dL_law_855 : decode cL_law 855 = .ok (.iaload, 1) := by decide +kernel
theorem dL_law_856 : decode cL_law 856 = .ok (.invokevirtual 99, 3) := by decide +kernel
theorem dL_law_859 : decode cL_law 859 = .ok (.aload_n 2, 1) := by decide +kernel
theorem dL_law_860 : decode cL_law 860 = .ok (.aload_n 0, 1) := by decide +kernel
theorem dL_law_861 : decode cL_law 861 = .ok (.iload_n 3, 1) := by decide +kernel
theorem dL_law_862 : decode cL_law 862 = .ok (.iconst 1, 1) := by decide +kernel
theorem dL_law_863 : decode cL_law 863 = .ok (.iadd, 1) := by decide +kernel
theorem dL_law_864 : decode cL_law 864 = .ok (.iaload, 1) := by decide +kernel
theorem dL_law_865 : decode cL_law 865 = .ok (.aload_n 0, 1) := by decide +kernel
theorem dL_law_866 : decode cL_law 866 = .ok (.iload_n 3, 1) := by decide +kernel
theorem dL_law_867 : decode cL_law 867 = .ok (.iconst 2, 1) := by decide +kernel
theorem dL_law_868 : decode cL_law 868 = .ok (.iadd, 1) := by decide +kernel
theorem dL_law_869 : decode cL_law 869 = .ok (.iaload, 1) := by decide +kernel
theorem dL_law_870 : decode cL_law 870 = .ok (.aload_n 0, 1) := by decide +kernel
theorem dL_law_871 : decode cL_law 871 = .ok (.iload_n 3, 1) := by decide +kernel
theorem dL_law_872 : decode cL_law 872 = .ok (.iconst 3, 1) := by decide +kernel
theorem dL_law_873 : decode cL_law 873 = .ok (.iadd, 1) := by decide +kernel
theorem dL_law_874 : decode cL_law 874 = .ok (.iaload, 1) := by decide +kernel
theorem dL_law_875 : decode cL_law 875 = .ok (.invokevirtual 102, 3) := by decide +kernel
theorem dL_law_878 : decode cL_law 878 = .ok (.if_icmp .eq 299, 3) := by decide +kernel
theorem dL_law_881 : decode cL_law 881 = .ok (.iconst 0, 1) := by decide +kernel
theorem dL_law_882 : decode cL_law 882 = .ok (.ireturn, 1) := by decide +kernel
theorem dL_law_883 : decode cL_law 883 = .ok (.aload_n 1, 1) := by decide +kernel
theorem dL_law_884 : decode cL_law 884 = .ok (.aload_n 0, 1) := by decide +kernel
theorem dL_law_885 : decode cL_law 885 = .ok (.iload_n 3, 1) := by decide +kernel
theorem dL_law_886 : decode cL_law 886 = .ok (.iconst 1, 1) := by decide +kernel
theorem dL_law_887 : decode cL_law 887 = .ok (.iadd, 1) := by decide +kernel
theorem dL_law_888 : decode cL_law 888 = .ok (.iaload, 1) := by decide +kernel
theorem dL_law_889 : decode cL_law 889 = .ok (.aload_n 0, 1) := by decide +kernel
theorem dL_law_890 : decode cL_law 890 = .ok (.iload_n 3, 1) := by decide +kernel
theorem dL_law_891 : decode cL_law 891 = .ok (.iconst 2, 1) := by decide +kernel
theorem dL_law_892 : decode cL_law 892 = .ok (.iadd, 1) := by decide +kernel
theorem dL_law_893 : decode cL_law 893 = .ok (.iaload, 1) := by decide +kernel
theorem dL_law_894 : decode cL_law 894 = .ok (.invokevirtual 103, 3) := by decide +kernel
theorem dL_law_897 : decode cL_law 897 = .ok (.aload_n 2, 1) := by decide +kernel
theorem dL_law_898 : decode cL_law 898 = .ok (.aload_n 0, 1) := by decide +kernel
theorem dL_law_899 : decode cL_law 899 = .ok (.iload_n 3, 1) := by decide +kernel
theorem dL_law_900 : decode cL_law 900 = .ok (.iconst 1, 1) := by decide +kernel
theorem dL_law_901 : decode cL_law 901 = .ok (.iadd, 1) := by decide +kernel
theorem dL_law_902 : decode cL_law 902 = .ok (.iaload, 1) := by decide +kernel
theorem dL_law_903 : decode cL_law 903 = .ok (.aload_n 0, 1) := by decide +kernel
theorem dL_law_904 : decode cL_law 904 = .ok (.iload_n 3, 1) := by decide +kernel
theorem dL_law_905 : decode cL_law 905 = .ok (.iconst 2, 1) := by decide +kernel
theorem dL_law_906 : decode cL_law 906 = .ok (.iadd, 1) := by decide +kernel
theorem dL_law_907 : decode cL_law 907 = .ok (.iaload, 1) := by decide +kernel
theorem dL_law_908 : decode cL_law 908 = .ok (.invokevirtual 106, 3) := by decide +kernel
theorem dL_law_911 : decode cL_law 911 = .ok (.if_icmp .eq 266, 3) := by decide +kernel
theorem dL_law_914 : decode cL_law 914 = .ok (.iconst 0, 1) := by decide +kernel
theorem dL_law_915 : decode cL_law 915 = .ok (.ireturn, 1) := by decide +kernel
theorem dL_law_916 : decode cL_law 916 = .ok (.aload_n 1, 1) := by decide +kernel
theorem dL_law_917 : decode cL_law 917 = .ok (.invokevirtual 107, 3) := by decide +kernel
theorem dL_law_920 : decode cL_law 920 = .ok (.aload_n 2, 1) := by decide +kernel
theorem dL_law_921 : decode cL_law 921 = .ok (.invokevirtual 110, 3) := by decide +kernel
theorem dL_law_924 : decode cL_law 924 = .ok (.if_icmp .eq 253, 3) := by decide +kernel
theorem dL_law_927 : decode cL_law 927 = .ok (.iconst 0, 1) := by decide +kernel
theorem dL_law_928 : decode cL_law 928 = .ok (.ireturn, 1) := by decide +kernel
theorem dL_law_929 : decode cL_law 929 = .ok (.aload_n 1, 1) := by decide +kernel
theorem dL_law_930 : decode cL_law 930 = .ok (.invokevirtual 111, 3) := by decide +kernel
theorem dL_law_933 : decode cL_law 933 = .ok (.aload_n 2, 1) := by decide +kernel
theorem dL_law_934 : decode cL_law 934 = .ok (.invokevirtual 114, 3) := by decide +kernel
theorem dL_law_937 : decode cL_law 937 = .ok (.if_icmp .eq 240, 3) := by decide +kernel
theorem dL_law_940 : decode cL_law 940 = .ok (.iconst 0, 1) := by decide +kernel
theorem dL_law_941 : decode cL_law 941 = .ok (.ireturn, 1) := by decide +kernel
theorem dL_law_942 : decode cL_law 942 = .ok (.aload_n 1, 1) := by decide +kernel
theorem dL_law_943 : decode cL_law 943 = .ok (.aload_n 0, 1) := by decide +kernel
theorem dL_law_944 : decode cL_law 944 = .ok (.iload_n 3, 1) := by decide +kernel
theorem dL_law_945 : decode cL_law 945 = .ok (.iconst 1, 1) := by decide +kernel
theorem dL_law_946 : decode cL_law 946 = .ok (.iadd, 1) := by decide +kernel
theorem dL_law_947 : decode cL_law 947 = .ok (.iaload, 1) := by decide +kernel
theorem dL_law_948 : decode cL_law 948 = .ok (.aload_n 0, 1) := by decide +kernel
theorem dL_law_949 : decode cL_law 949 = .ok (.iload_n 3, 1) := by decide +kernel
theorem dL_law_950 : decode cL_law 950 = .ok (.iconst 2, 1) := by decide +kernel
theorem dL_law_951 : decode cL_law 951 = .ok (.iadd, 1) := by decide +kernel
theorem dL_law_952 : decode cL_law 952 = .ok (.iaload, 1) := by decide +kernel
theorem dL_law_953 : decode cL_law 953 = .ok (.aload_n 0, 1) := by decide +kernel
theorem dL_law_954 : decode cL_law 954 = .ok (.iload_n 3, 1) := by decide +kernel
theorem dL_law_955 : decode cL_law 955 = .ok (.iconst 3, 1) := by decide +kernel
theorem dL_law_956 : decode cL_law 956 = .ok (.iadd, 1) := by decide +kernel
theorem dL_law_957 : decode cL_law 957 = .ok (.iaload, 1) := by decide +kernel
theorem dL_law_958 : decode cL_law 958 = .ok (.invokevirtual 115, 3) := by decide +kernel
theorem dL_law_961 : decode cL_law 961 = .ok (.aload_n 2, 1) := by decide +kernel
theorem dL_law_962 : decode cL_law 962 = .ok (.aload_n 0, 1) := by decide +kernel
theorem dL_law_963 : decode cL_law 963 = .ok (.iload_n 3, 1) := by decide +kernel
theorem dL_law_964 : decode cL_law 964 = .ok (.iconst 1, 1) := by decide +kernel
theorem dL_law_965 : decode cL_law 965 = .ok (.iadd, 1) := by decide +kernel
theorem dL_law_966 : decode cL_law 966 = .ok (.iaload, 1) := by decide +kernel
theorem dL_law_967 : decode cL_law 967 = .ok (.aload_n 0, 1) := by decide +kernel
theorem dL_law_968 : decode cL_law 968 = .ok (.iload_n 3, 1) := by decide +kernel
theorem dL_law_969 : decode cL_law 969 = .ok (.iconst 2, 1) := by decide +kernel
theorem dL_law_970 : decode cL_law 970 = .ok (.iadd, 1) := by decide +kernel
theorem dL_law_971 : decode cL_law 971 = .ok (.iaload, 1) := by decide +kernel
theorem dL_law_972 : decode cL_law 972 = .ok (.aload_n 0, 1) := by decide +kernel
theorem dL_law_973 : decode cL_law 973 = .ok (.iload_n 3, 1) := by decide +kernel
theorem dL_law_974 : decode cL_law 974 = .ok (.iconst 3, 1) := by decide +kernel
theorem dL_law_975 : decode cL_law 975 = .ok (.iadd, 1) := by decide +kernel
theorem dL_law_976 : decode cL_law 976 = .ok (.iaload, 1) := by decide +kernel
theorem dL_law_977 : decode cL_law 977 = .ok (.invokevirtual 118, 3) := by decide +kernel
theorem dL_law_980 : decode cL_law 980 = .ok (.if_icmp .eq 197, 3) := by decide +kernel
theorem dL_law_983 : decode cL_law 983 = .ok (.iconst 0, 1) := by decide +kernel
theorem dL_law_984 : decode cL_law 984 = .ok (.ireturn, 1) := by decide +kernel
theorem dL_law_985 : decode cL_law 985 = .ok (.aload_n 1, 1) := by decide +kernel
theorem dL_law_986 : decode cL_law 986 = .ok (.aload_n 0, 1) := by decide +kernel
theorem dL_law_987 : decode cL_law 987 = .ok (.iload_n 3, 1) := by decide +kernel
theorem dL_law_988 : decode cL_law 988 = .ok (.iconst 1, 1) := by decide +kernel
theorem dL_law_989 : decode cL_law 989 = .ok (.iadd, 1) := by decide +kernel
theorem dL_law_990 : decode cL_law 990 = .ok (.iaload, 1) := by decide +kernel
theorem dL_law_991 : decode cL_law 991 = .ok (.aload_n 0, 1) := by decide +kernel
theorem dL_law_992 : decode cL_law 992 = .ok (.iload_n 3, 1) := by decide +kernel
theorem dL_law_993 : decode cL_law 993 = .ok (.iconst 2, 1) := by decide +kernel
theorem dL_law_994 : decode cL_law 994 = .ok (.iadd, 1) := by decide +kernel
theorem dL_law_995 : decode cL_law 995 = .ok (.iaload, 1) := by decide +kernel
theorem dL_law_996 : decode cL_law 996 = .ok (.aload_n 0, 1) := by decide +kernel
theorem dL_law_997 : decode cL_law 997 = .ok (.iload_n 3, 1) := by decide +kernel
theorem dL_law_998 : decode cL_law 998 = .ok (.iconst 3, 1) := by decide +kernel
theorem dL_law_999 : decode cL_law 999 = .ok (.iadd, 1) := by decide +kernel
theorem dL_law_1000 : decode cL_law 1000 = .ok (.iaload, 1) := by decide +kernel
theorem dL_law_1001 : decode cL_law 1001 = .ok (.invokevirtual 119, 3) := by decide +kernel
theorem dL_law_1004 : decode cL_law 1004 = .ok (.aload_n 2, 1) := by decide +kernel
theorem dL_law_1005 : decode cL_law 1005 = .ok (.aload_n 0, 1) := by decide +kernel
theorem dL_law_1006 : decode cL_law 1006 = .ok (.iload_n 3, 1) := by decide +kernel
theorem dL_law_1007 : decode cL_law 1007 = .ok (.iconst 1, 1) := by decide +kernel
theorem dL_law_1008 : decode cL_law 1008 = .ok (.iadd, 1) := by decide +kernel
theorem dL_law_1009 : decode cL_law 1009 = .ok (.iaload, 1) := by decide +kernel
theorem dL_law_1010 : decode cL_law 1010 = .ok (.aload_n 0, 1) := by decide +kernel
theorem dL_law_1011 : decode cL_law 1011 = .ok (.iload_n 3, 1) := by decide +kernel
theorem dL_law_1012 : decode cL_law 1012 = .ok (.iconst 2, 1) := by decide +kernel
theorem dL_law_1013 : decode cL_law 1013 = .ok (.iadd, 1) := by decide +kernel
theorem dL_law_1014 : decode cL_law 1014 = .ok (.iaload, 1) := by decide +kernel
theorem dL_law_1015 : decode cL_law 1015 = .ok (.aload_n 0, 1) := by decide +kernel
theorem dL_law_1016 : decode cL_law 1016 = .ok (.iload_n 3, 1) := by decide +kernel
theorem dL_law_1017 : decode cL_law 1017 = .ok (.iconst 3, 1) := by decide +kernel
theorem dL_law_1018 : decode cL_law 1018 = .ok (.iadd, 1) := by decide +kernel
theorem dL_law_1019 : decode cL_law 1019 = .ok (.iaload, 1) := by decide +kernel
theorem dL_law_1020 : decode cL_law 1020 = .ok (.invokevirtual 122, 3) := by decide +kernel
theorem dL_law_1023 : decode cL_law 1023 = .ok (.if_icmp .eq 154, 3) := by decide +kernel
theorem dL_law_1026 : decode cL_law 1026 = .ok (.iconst 0, 1) := by decide +kernel
theorem dL_law_1027 : decode cL_law 1027 = .ok (.ireturn, 1) := by decide +kernel
theorem dL_law_1028 : decode cL_law 1028 = .ok (.aload_n 1, 1) := by decide +kernel
theorem dL_law_1029 : decode cL_law 1029 = .ok (.aload_n 0, 1) := by decide +kernel
theorem dL_law_1030 : decode cL_law 1030 = .ok (.iload_n 3, 1) := by decide +kernel
theorem dL_law_1031 : decode cL_law 1031 = .ok (.iconst 1, 1) := by decide +kernel
theorem dL_law_1032 : decode cL_law 1032 = .ok (.iadd, 1) := by decide +kernel
theorem dL_law_1033 : decode cL_law 1033 = .ok (.iaload, 1) := by decide +kernel
theorem dL_law_1034 : decode cL_law 1034 = .ok (.aload_n 0, 1) := by decide +kernel
theorem dL_law_1035 : decode cL_law 1035 = .ok (.iload_n 3, 1) := by decide +kernel
theorem dL_law_1036 : decode cL_law 1036 = .ok (.iconst 2, 1) := by decide +kernel
theorem dL_law_1037 : decode cL_law 1037 = .ok (.iadd, 1) := by decide +kernel
theorem dL_law_1038 : decode cL_law 1038 = .ok (.iaload, 1) := by decide +kernel
theorem dL_law_1039 : decode cL_law 1039 = .ok (.aload_n 0, 1) := by decide +kernel
theorem dL_law_1040 : decode cL_law 1040 = .ok (.iload_n 3, 1) := by decide +kernel
theorem dL_law_1041 : decode cL_law 1041 = .ok (.iconst 3, 1) := by decide +kernel
theorem dL_law_1042 : decode cL_law 1042 = .ok (.iadd, 1) := by decide +kernel
theorem dL_law_1043 : decode cL_law 1043 = .ok (.iaload, 1) := by decide +kernel
theorem dL_law_1044 : decode cL_law 1044 = .ok (.aload_n 0, 1) := by decide +kernel
theorem dL_law_1045 : decode cL_law 1045 = .ok (.iload_n 3, 1) := by decide +kernel
theorem dL_law_1046 : decode cL_law 1046 = .ok (.iconst 4, 1) := by decide +kernel
theorem dL_law_1047 : decode cL_law 1047 = .ok (.iadd, 1) := by decide +kernel
theorem dL_law_1048 : decode cL_law 1048 = .ok (.iaload, 1) := by decide +kernel
theorem dL_law_1049 : decode cL_law 1049 = .ok (.aload_n 0, 1) := by decide +kernel
theorem dL_law_1050 : decode cL_law 1050 = .ok (.iload_n 3, 1) := by decide +kernel
theorem dL_law_1051 : decode cL_law 1051 = .ok (.iconst 5, 1) := by decide +kernel
theorem dL_law_1052 : decode cL_law 1052 = .ok (.iadd, 1) := by decide +kernel
theorem dL_law_1053 : decode cL_law 1053 = .ok (.iaload, 1) := by decide +kernel
theorem dL_law_1054 : decode cL_law 1054 = .ok (.invokevirtual 123, 3) := by decide +kernel
theorem dL_law_1057 : decode cL_law 1057 = .ok (.aload_n 2, 1) := by decide +kernel
theorem dL_law_1058 : decode cL_law 1058 = .ok (.aload_n 0, 1) := by decide +kernel
theorem dL_law_1059 : decode cL_law 1059 = .ok (.iload_n 3, 1) := by decide +kernel
theorem dL_law_1060 : decode cL_law 1060 = .ok (.iconst 1, 1) := by decide +kernel
theorem dL_law_1061 : decode cL_law 1061 = .ok (.iadd, 1) := by decide +kernel
theorem dL_law_1062 : decode cL_law 1062 = .ok (.iaload, 1) := by decide +kernel
theorem dL_law_1063 : decode cL_law 1063 = .ok (.aload_n 0, 1) := by decide +kernel
theorem dL_law_1064 : decode cL_law 1064 = .ok (.iload_n 3, 1) := by decide +kernel
theorem dL_law_1065 : decode cL_law 1065 = .ok (.iconst 2, 1) := by decide +kernel
theorem dL_law_1066 : decode cL_law 1066 = .ok (.iadd, 1) := by decide +kernel
theorem dL_law_1067 : decode cL_law 1067 = .ok (.iaload, 1) := by decide +kernel
theorem dL_law_1068 : decode cL_law 1068 = .ok (.aload_n 0, 1) := by decide +kernel
theorem dL_law_1069 : decode cL_law 1069 = .ok (.iload_n 3, 1) := by decide +kernel
theorem dL_law_1070 : decode cL_law 1070 = .ok (.iconst 3, 1) := by decide +kernel
theorem dL_law_1071 : decode cL_law 1071 = .ok (.iadd, 1) := by decide +kernel
theorem dL_law_1072 : decode cL_law 1072 = .ok (.iaload, 1) := by decide +kernel
theorem dL_law_1073 : decode cL_law 1073 = .ok (.aload_n 0, 1) := by decide +kernel
theorem dL_law_1074 : decode cL_law 1074 = .ok (.iload_n 3, 1) := by decide +kernel
theorem dL_law_1075 : decode cL_law 1075 = .ok (.iconst 4, 1) := by decide +kernel
theorem dL_law_1076 : decode cL_law 1076 = .ok (.iadd, 1) := by decide +kernel
theorem dL_law_1077 : decode cL_law 1077 = .ok (.iaload, 1) := by decide +kernel
theorem dL_law_1078 : decode cL_law 1078 = .ok (.aload_n 0, 1) := by decide +kernel
theorem dL_law_1079 : decode cL_law 1079 = .ok (.iload_n 3, 1) := by decide +kernel
theorem dL_law_1080 : decode cL_law 1080 = .ok (.iconst 5, 1) := by decide +kernel
theorem dL_law_1081 : decode cL_law 1081 = .ok (.iadd, 1) := by decide +kernel
theorem dL_law_1082 : decode cL_law 1082 = .ok (.iaload, 1) := by decide +kernel
theorem dL_law_1083 : decode cL_law 1083 = .ok (.invokevirtual 127, 3) := by decide +kernel
theorem dL_law_1086 : decode cL_law 1086 = .ok (.if_icmp .eq 91, 3) := by decide +kernel
theorem dL_law_1089 : decode cL_law 1089 = .ok (.iconst 0, 1) := by decide +kernel
theorem dL_law_1090 : decode cL_law 1090 = .ok (.ireturn, 1) := by decide +kernel
theorem dL_law_1091 : decode cL_law 1091 = .ok (.aload_n 1, 1) := by decide +kernel
theorem dL_law_1092 : decode cL_law 1092 = .ok (.aload_n 0, 1) := by decide +kernel
theorem dL_law_1093 : decode cL_law 1093 = .ok (.iload_n 3, 1) := by decide +kernel
theorem dL_law_1094 : decode cL_law 1094 = .ok (.iconst 1, 1) := by decide +kernel
theorem dL_law_1095 : decode cL_law 1095 = .ok (.iadd, 1) := by decide +kernel
theorem dL_law_1096 : decode cL_law 1096 = .ok (.iaload, 1) := by decide +kernel
theorem dL_law_1097 : decode cL_law 1097 = .ok (.aload_n 0, 1) := by decide +kernel
theorem dL_law_1098 : decode cL_law 1098 = .ok (.iload_n 3, 1) := by decide +kernel
theorem dL_law_1099 : decode cL_law 1099 = .ok (.iconst 2, 1) := by decide +kernel
theorem dL_law_1100 : decode cL_law 1100 = .ok (.iadd, 1) := by decide +kernel
theorem dL_law_1101 : decode cL_law 1101 = .ok (.iaload, 1) := by decide +kernel
theorem dL_law_1102 : decode cL_law 1102 = .ok (.aload_n 0, 1) := by decide +kernel
theorem dL_law_1103 : decode cL_law 1103 = .ok (.iload_n 3, 1) := by decide +kernel
theorem dL_law_1104 : decode cL_law 1104 = .ok (.iconst 3, 1) := by decide +kernel
theorem dL_law_1105 : decode cL_law 1105 = .ok (.iadd, 1) := by decide +kernel
theorem dL_law_1106 : decode cL_law 1106 = .ok (.iaload, 1) := by decide +kernel
theorem dL_law_1107 : decode cL_law 1107 = .ok (.aload_n 0, 1) := by decide +kernel
theorem dL_law_1108 : decode cL_law 1108 = .ok (.iload_n 3, 1) := by decide +kernel
theorem dL_law_1109 : decode cL_law 1109 = .ok (.iconst 4, 1) := by decide +kernel
theorem dL_law_1110 : decode cL_law 1110 = .ok (.iadd, 1) := by decide +kernel
theorem dL_law_1111 : decode cL_law 1111 = .ok (.iaload, 1) := by decide +kernel
theorem dL_law_1112 : decode cL_law 1112 = .ok (.invokevirtual 128, 3) := by decide +kernel
theorem dL_law_1115 : decode cL_law 1115 = .ok (.aload_n 2, 1) := by decide +kernel
theorem dL_law_1116 : decode cL_law 1116 = .ok (.aload_n 0, 1) := by decide +kernel
theorem dL_law_1117 : decode cL_law 1117 = .ok (.iload_n 3, 1) := by decide +kernel
theorem dL_law_1118 : decode cL_law 1118 = .ok (.iconst 1, 1) := by decide +kernel
theorem dL_law_1119 : decode cL_law 1119 = .ok (.iadd, 1) := by decide +kernel
theorem dL_law_1120 : decode cL_law 1120 = .ok (.iaload, 1) := by decide +kernel
theorem dL_law_1121 : decode cL_law 1121 = .ok (.aload_n 0, 1) := by decide +kernel
theorem dL_law_1122 : decode cL_law 1122 = .ok (.iload_n 3, 1) := by decide +kernel
theorem dL_law_1123 : decode cL_law 1123 = .ok (.iconst 2, 1) := by decide +kernel
theorem dL_law_1124 : decode cL_law 1124 = .ok (.iadd, 1) := by decide +kernel
theorem dL_law_1125 : decode cL_law 1125 = .ok (.iaload, 1) := by decide +kernel
theorem dL_law_1126 : decode cL_law 1126 = .ok (.aload_n 0, 1) := by decide +kernel
theorem dL_law_1127 : decode cL_law 1127 = .ok (.iload_n 3, 1) := by decide +kernel
theorem dL_law_1128 : decode cL_law 1128 = .ok (.iconst 3, 1) := by decide +kernel
theorem dL_law_1129 : decode cL_law 1129 = .ok (.iadd, 1) := by decide +kernel
theorem dL_law_1130 : decode cL_law 1130 = .ok (.iaload, 1) := by decide +kernel
theorem dL_law_1131 : decode cL_law 1131 = .ok (.aload_n 0, 1) := by decide +kernel
theorem dL_law_1132 : decode cL_law 1132 = .ok (.iload_n 3, 1) := by decide +kernel
theorem dL_law_1133 : decode cL_law 1133 = .ok (.iconst 4, 1) := by decide +kernel
theorem dL_law_1134 : decode cL_law 1134 = .ok (.iadd, 1) := by decide +kernel
theorem dL_law_1135 : decode cL_law 1135 = .ok (.iaload, 1) := by decide +kernel
theorem dL_law_1136 : decode cL_law 1136 = .ok (.invokevirtual 131, 3) := by decide +kernel
theorem dL_law_1139 : decode cL_law 1139 = .ok (.if_icmp .eq 38, 3) := by decide +kernel
theorem dL_law_1142 : decode cL_law 1142 = .ok (.iconst 0, 1) := by decide +kernel
theorem dL_law_1143 : decode cL_law 1143 = .ok (.ireturn, 1) := by decide +kernel
theorem dL_law_1144 : decode cL_law 1144 = .ok (.aload_n 1, 1) := by decide +kernel
theorem dL_law_1145 : decode cL_law 1145 = .ok (.aload_n 0, 1) := by decide +kernel
theorem dL_law_1146 : decode cL_law 1146 = .ok (.iload_n 3, 1) := by decide +kernel
theorem dL_law_1147 : decode cL_law 1147 = .ok (.iconst 1, 1) := by decide +kernel
theorem dL_law_1148 : decode cL_law 1148 = .ok (.iadd, 1) := by decide +kernel
theorem dL_law_1149 : decode cL_law 1149 = .ok (.iaload, 1) := by decide +kernel
theorem dL_law_1150 : decode cL_law 1150 = .ok (.aload_n 0, 1) := by decide +kernel
theorem dL_law_1151 : decode cL_law 1151 = .ok (.iload_n 3, 1) := by decide +kernel
theorem dL_law_1152 : decode cL_law 1152 = .ok (.iconst 2, 1) := by decide +kernel
theorem dL_law_1153 : decode cL_law 1153 = .ok (.iadd, 1) := by decide +kernel
theorem dL_law_1154 : decode cL_law 1154 = .ok (.iaload, 1) := by decide +kernel
theorem dL_law_1155 : decode cL_law 1155 = .ok (.invokevirtual 132, 3) := by decide +kernel
theorem dL_law_1158 : decode cL_law 1158 = .ok (.aload_n 2, 1) := by decide +kernel
theorem dL_law_1159 : decode cL_law 1159 = .ok (.aload_n 0, 1) := by decide +kernel
theorem dL_law_1160 : decode cL_law 1160 = .ok (.iload_n 3, 1) := by decide +kernel
theorem dL_law_1161 : decode cL_law 1161 = .ok (.iconst 1, 1) := by decide +kernel
theorem dL_law_1162 : decode cL_law 1162 = .ok (.iadd, 1) := by decide +kernel
theorem dL_law_1163 : decode cL_law 1163 = .ok (.iaload, 1) := by decide +kernel
theorem dL_law_1164 : decode cL_law 1164 = .ok (.aload_n 0, 1) := by decide +kernel
theorem dL_law_1165 : decode cL_law 1165 = .ok (.iload_n 3, 1) := by decide +kernel
theorem dL_law_1166 : decode cL_law 1166 = .ok (.iconst 2, 1) := by decide +kernel
theorem dL_law_1167 : decode cL_law 1167 = .ok (.iadd, 1) := by decide +kernel
theorem dL_law_1168 : decode cL_law 1168 = .ok (.iaload, 1) := by decide +kernel
theorem dL_law_1169 : decode cL_law 1169 = .ok (.invokevirtual 135, 3) := by decide +kernel
theorem dL_law_1172 : decode cL_law 1172 = .ok (.if_icmp .eq 5, 3) := by decide +kernel
theorem dL_law_1175 : decode cL_law 1175 = .ok (.iconst 0, 1) := by decide +kernel
theorem dL_law_1176 : decode cL_law 1176 = .ok (.ireturn, 1) := by decide +kernel
theorem dL_law_1177 : decode cL_law 1177 = .ok (.iinc 3 6, 3) := by decide +kernel
theorem dL_law_1180 : decode cL_law 1180 = .ok (.goto (-1162), 3) := by decide +kernel
theorem dL_law_1183 : decode cL_law 1183 = .ok (.iconst 1, 1) := by decide +kernel
theorem dL_law_1184 : decode cL_law 1184 = .ok (.ireturn, 1) := by decide +kernel
end
section
/-! ===== the abstract heap: ints, longs, references by address and place; what kind each cell is; how many were made ===== -/
abbrev Ah : Type := (Nat → Nat → Int32) × (Nat → Nat → Int64) × (Nat → Nat → Option Nat) × (Nat → Nat × Nat) × Nat
def gI (h : Ah) (a : Nat) : Nat → Int32 := h.1 a
def gL (h : Ah) (a : Nat) : Nat → Int64 := h.2.1 a
def gR (h : Ah) (a : Nat) : Nat → Option Nat := h.2.2.1 a
def kd (h : Ah) (a : Nat) : Nat × Nat := h.2.2.2.1 a
def nc (h : Ah) : Nat := h.2.2.2.2
def up {α : Type} (f : Nat → α) (k : Nat) (x : α) : Nat → α := fun j => if j = k then x else f j
theorem up_self {α : Type} (f : Nat → α) (k : Nat) (x : α) : up f k x k = x := if_pos rfl
theorem up_ne {α : Type} (f : Nat → α) {k j : Nat} (x : α) (h : j ≠ k) : up f k x j = f j := if_neg h
theorem up_ap {α : Type} (f : Nat → α) (k j : Nat) (x : α) : up f k x j = if j = k then x else f j := rfl
def rI (h : Ah) (a : Nat) (f : Nat → Int32) : Ah := (up h.1 a f, h.2)
def rL (h : Ah) (a : Nat) (f : Nat → Int64) : Ah := (h.1, up h.2.1 a f, h.2.2)
def rR (h : Ah) (a : Nat) (f : Nat → Option Nat) : Ah := (h.1, h.2.1, up h.2.2.1 a f, h.2.2.2)
/-- a cell more, of a kind, all 0 -/
def al (h : Ah) (k : Nat × Nat) : Ah := (up h.1 (32 + h.2.2.2.2) (fun _ => 0), up h.2.1 (32 + h.2.2.2.2) (fun _ => 0), up h.2.2.1 (32 + h.2.2.2.2) (fun _ => none), up h.2.2.2.1 (32 + h.2.2.2.2) k, h.2.2.2.2 + 1)
theorem gI_rI (h : Ah) (a b : Nat) (f : Nat → Int32) : gI (rI h a f) b = if b = a then f else gI h b := rfl
theorem gI_rL (h : Ah) (a b : Nat) (f : Nat → Int64) : gI (rL h a f) b = gI h b := rfl
theorem gI_rR (h : Ah) (a b : Nat) (f : Nat → Option Nat) : gI (rR h a f) b = gI h b := rfl
theorem gL_rI (h : Ah) (a b : Nat) (f : Nat → Int32) : gL (rI h a f) b = gL h b := rfl
theorem gL_rL (h : Ah) (a b : Nat) (f : Nat → Int64) : gL (rL h a f) b = if b = a then f else gL h b := rfl
theorem gL_rR (h : Ah) (a b : Nat) (f : Nat → Option Nat) : gL (rR h a f) b = gL h b := rfl
theorem gR_rI (h : Ah) (a b : Nat) (f : Nat → Int32) : gR (rI h a f) b = gR h b := rfl
theorem gR_rL (h : Ah) (a b : Nat) (f : Nat → Int64) : gR (rL h a f) b = gR h b := rfl
theorem gR_rR (h : Ah) (a b : Nat) (f : Nat → Option Nat) : gR (rR h a f) b = if b = a then f else gR h b := rfl
theorem kd_rI (h : Ah) (a b : Nat) (f : Nat → Int32) : kd (rI h a f) b = kd h b := rfl
theorem kd_rL (h : Ah) (a b : Nat) (f : Nat → Int64) : kd (rL h a f) b = kd h b := rfl
theorem kd_rR (h : Ah) (a b : Nat) (f : Nat → Option Nat) : kd (rR h a f) b = kd h b := rfl
theorem nc_rI (h : Ah) (a : Nat) (f : Nat → Int32) : nc (rI h a f) = nc h := rfl
theorem nc_rL (h : Ah) (a : Nat) (f : Nat → Int64) : nc (rL h a f) = nc h := rfl
theorem nc_rR (h : Ah) (a : Nat) (f : Nat → Option Nat) : nc (rR h a f) = nc h := rfl
theorem gI_al (h : Ah) (k : Nat × Nat) (b : Nat) : gI (al h k) b = if b = 32 + nc h then (fun _ => 0) else gI h b := rfl
theorem gL_al (h : Ah) (k : Nat × Nat) (b : Nat) : gL (al h k) b = if b = 32 + nc h then (fun _ => 0) else gL h b := rfl
theorem gR_al (h : Ah) (k : Nat × Nat) (b : Nat) : gR (al h k) b = if b = 32 + nc h then (fun _ => none) else gR h b := rfl
theorem kd_al (h : Ah) (k : Nat × Nat) (b : Nat) : kd (al h k) b = if b = 32 + nc h then k else kd h b := rfl
theorem nc_al (h : Ah) (k : Nat × Nat) : nc (al h k) = nc h + 1 := rfl
/-- the launch's part: how many cells were there; classes and slots; array classes by their tag; the cells of old that are used; the script -/
abbrev Gd : Type := Nat × va_G × (Nat → ClassId) × (Nat → Nat) × Nat × (Nat → Int32)
def ad (G : Gd) (a : Nat) : Nat := if a < 32 then G.2.2.2.1 a else G.1 + (a - 32)
def cv (G : Gd) (v : Value) : Value := match v with
  | .ref a => .ref (ad G a)
  | w => w
def cr (G : Gd) (o : Option Nat) : Value := va_rf (o.map (ad G))
theorem cv_rf (G : Gd) (o : Option Nat) : cv G (va_rf o) = cr G o := by cases o <;> rfl
theorem cv_cat (G : Gd) (v : Value) : (cv G v).category = v.category := by cases v <;> rfl
theorem cv_cats (G : Gd) (l : List Value) : ((l.map (cv G)).map fun v => v.category) = l.map fun v => v.category := by
  rw [List.map_map]
  exact List.map_congr_left fun v _ => cv_cat G v
abbrev cls : List vw_C := [(RX0, TX0, 7), (RX1, TX1, 2), (RX2, TX2, 3), (RX3, TX3, 2), (RX4, TX4, 2), (RX5, TX5, 2), (RX6, TX6, 2), (RX7, TX7, 3), (RX8, TX8, 8), (RX9, TX9, 3), (RX10, TX10, 17), (RX11, TX11, 10), (RX12, TX12, 49)]
/-- which fields of a class are references: 1 -/
def fty (c : Nat) : List Nat := match c with
  | 0 => [0, 1, 1, 1, 1, 1, 1]
  | 2 => [0, 1, 0]
  | 7 => [0, 0, 1]
  | 8 => [1, 0, 1, 0, 0, 0, 0, 0]
  | 9 => [0, 0, 1]
  | 10 => [1, 1, 1, 1, 1, 1, 1, 1, 1, 0, 0, 0, 0, 0, 0, 0, 0]
  | 11 => [1, 1, 1, 0, 1, 0, 1, 1, 1, 1]
  | 12 => (List.range 49).map fun k => match parseFieldDescriptor (TX12 k).2.2.1 with
    | some (.array _) => 1
    | _ => 0
  | _ => [0, 0]
def fv (G : Gd) (h : Ah) (a : Nat) (ts : List Nat) : List Value := (List.range ts.length).map fun k => if ts.getD k 0 = 0 then Value.int (gI h a k) else cr G (gR h a k)
def ent (G : Gd) (h : Ah) (a : Nat) : va_E := match (kd h a).1 with
  | 0 => .inr ((kd h a).2, fv G h a (fty (kd h a).2))
  | 1 => .inl (G.2.2.1 1, (kd h a).2, .inl (gI h a))
  | 2 => .inl (G.2.2.1 2, (kd h a).2, .inr (.inl (gL h a)))
  | 3 => .inl (G.2.2.1 3, (kd h a).2, .inl (gI h a))
  | t => .inl (G.2.2.1 t, (kd h a).2, .inr (.inr (.inr (.inr (fun j => (gR h a j).map (ad G))))))
def tysL (G : Gd) : List (ClassId × FieldType) := [(G.2.2.1 1, .int), (G.2.2.1 1, .int), (G.2.2.1 2, .long), (G.2.2.1 3, .byte), (G.2.2.1 4, .object RX6), (G.2.2.1 5, .object RX2), (G.2.2.1 6, .object RX7), (G.2.2.1 7, .array .int)]
def wl (G : Gd) (h : Ah) : va_W := (List.range (nc h)).map fun k => (G.1 + k, ent G h (32 + k))
def Hp (G : Gd) (h : Ah) (H : Heap) : Prop := H.size = G.1 + nc h ∧ (∀ a, (kd h a).1 ≠ 9 → 32 ≤ a ∧ a < 32 + nc h) ∧ va_P G.2.1 cls (wl G h) H
def zA (G : Gd) : Nat → Prop := fun q => G.1 ≤ q
theorem wl_at (G : Gd) (h : Ah) {k : Nat} (hk : k < nc h) : (wl G h)[k]? = some (G.1 + k, ent G h (32 + k)) := by
  unfold wl
  rw [List.getElem?_map, List.getElem?_range hk]
  rfl
theorem wl_of {G : Gd} {h : Ah} {k : Nat} {q : Nat × va_E} (hk : (wl G h)[k]? = some q) : k < nc h ∧ q = (G.1 + k, ent G h (32 + k)) := by
  have h1 : k < (wl G h).length := (List.getElem?_eq_some_iff.mp hk).1
  have h2 : k < nc h := by simpa [wl] using h1
  rw [wl_at G h h2] at hk
  exact ⟨h2, (Option.some.inj hk).symm⟩
theorem wl_len (G : Gd) (h : Ah) : (wl G h).length = nc h := by simp [wl]
theorem ad_big (G : Gd) {a : Nat} (h : 32 ≤ a) : ad G a = G.1 + (a - 32) := if_neg (by omega)
theorem ad_new (G : Gd) (k : Nat) : ad G (32 + k) = G.1 + k := by rw [ad_big G (by omega)]; congr 1; omega
theorem Hp.get {G : Gd} {h : Ah} {H : Heap} (hH : Hp G h H) {a : Nat} (ha : (kd h a).1 ≠ 9) : (wl G h)[a - 32]? = some (ad G a, ent G h a) := by
  obtain ⟨h1, h2⟩ := hH.2.1 a ha
  rw [wl_at G h (by omega), ad_big G h1]
  congr 3
  omega
theorem wl_D (G : Gd) (h : Ah) : va_D (zA G) (wl G h) := by
  refine ⟨fun i j p q hi hj e => ?_, fun k q hk => ?_⟩
  · rw [(wl_of hi).2, (wl_of hj).2] at e
    have e' : G.1 + i = G.1 + j := e
    omega
  · rw [(wl_of hk).2]
    exact Nat.le_add_right _ _
/-- one cell is another -/
theorem wl_set {G : Gd} {h h' : Ah} {a : Nat} {x : Nat} {e : va_E} (ha : 32 ≤ a) (ha2 : a < 32 + nc h) (hx : x = ad G a) (he : ent G h' a = e) (hn : nc h' = nc h) (ho : ∀ b, b ≠ a → ent G h' b = ent G h b) : (wl G h).set (a - 32) (x, e) = wl G h' := by
  subst hx
  apply List.ext_getElem?
  intro k
  by_cases hk : k < nc h
  · rw [wl_at G h' (by omega)]
    by_cases hka : k = a - 32
    · subst hka
      rw [List.getElem?_set_self (by rw [wl_len]; exact hk), ad_big G ha, ← he]
      congr 3
      omega
    · rw [List.getElem?_set_ne (Ne.symm hka), wl_at G h hk, ho (32 + k) (by omega)]
  · rw [List.getElem?_eq_none (by rw [List.length_set, wl_len]; omega), List.getElem?_eq_none (by rw [wl_len]; omega)]
theorem Hp.put {G : Gd} {h h' : Ah} {H H' : Heap} {a : Nat} {e : va_E} (hH : Hp G h H) (ha : (kd h a).1 ≠ 9) (hP : va_P G.2.1 cls ((wl G h).set (a - 32) (ad G a, e)) H') (hz : H'.size = H.size) (he : ent G h' a = e) (hn : nc h' = nc h) (hk : ∀ b, kd h' b = kd h b) (ho : ∀ b, b ≠ a → ent G h' b = ent G h b) : Hp G h' H' := by
  obtain ⟨h1, h2⟩ := hH.2.1 a ha
  refine ⟨by rw [hz, hn]; exact hH.1, fun b hb => ?_, ?_⟩
  · rw [hk b] at hb
    rw [hn]
    exact hH.2.1 b hb
  · rw [wl_set h1 h2 rfl he hn ho] at hP
    exact hP
theorem ent_cong (G : Gd) {h h' : Ah} {b : Nat} (h1 : kd h' b = kd h b) (h2 : gI h' b = gI h b) (h3 : gL h' b = gL h b) (h4 : gR h' b = gR h b) : ent G h' b = ent G h b := by
  unfold ent fv
  rw [h1, h2, h3, h4]
theorem ent_rI (G : Gd) (h : Ah) (a b : Nat) (f : Nat → Int32) (hb : b ≠ a) : ent G (rI h a f) b = ent G h b := ent_cong G rfl (if_neg hb) rfl rfl
theorem ent_rL (G : Gd) (h : Ah) (a b : Nat) (f : Nat → Int64) (hb : b ≠ a) : ent G (rL h a f) b = ent G h b := ent_cong G rfl rfl (if_neg hb) rfl
theorem ent_rR (G : Gd) (h : Ah) (a b : Nat) (f : Nat → Option Nat) (hb : b ≠ a) : ent G (rR h a f) b = ent G h b := ent_cong G rfl rfl rfl (if_neg hb)
theorem ent_al (G : Gd) (h : Ah) (k : Nat × Nat) (b : Nat) (hb : b ≠ 32 + nc h) : ent G (al h k) b = ent G h b := ent_cong G (if_neg hb) (if_neg hb) (if_neg hb) (if_neg hb)
theorem wl_al (G : Gd) (h : Ah) (k : Nat × Nat) : wl G (al h k) = wl G h ++ [(G.1 + nc h, ent G (al h k) (32 + nc h))] := by
  apply List.ext_getElem?
  intro j
  by_cases hj : j < nc h
  · rw [wl_at G _ (by rw [nc_al]; omega), List.getElem?_append_left (by rw [wl_len]; exact hj), wl_at G h hj, ent_al G h k _ (by omega)]
  · by_cases hj2 : j = nc h
    · subst hj2
      rw [wl_at G _ (by rw [nc_al]; omega), List.getElem?_append_right (by rw [wl_len]; omega), wl_len, Nat.sub_self]
      rfl
    · rw [List.getElem?_eq_none (by rw [wl_len, nc_al]; omega), List.getElem?_eq_none (by rw [List.length_append, wl_len]; simp; omega)]
/-- a cell more -/
theorem Hp.new {G : Gd} {h : Ah} {H H' : Heap} {k : Nat × Nat} (hH : Hp G h H) (hz : H'.size = H.size + 1) (ho : ∀ q : Nat, q < H.size → H'[q]? = H[q]?) (he : va_at G.2.1 cls (G.1 + nc h, ent G (al h k) (32 + nc h)) H') : Hp G (al h k) H' := by
  refine ⟨by rw [hz, hH.1, nc_al]; omega, fun b hb => ?_, ?_⟩
  · rw [kd_al] at hb
    rw [nc_al]
    by_cases hbn : b = 32 + nc h
    · omega
    · rw [if_neg hbn] at hb
      have := hH.2.1 b hb
      omega
  · rw [wl_al]
    refine va_P.app (hH.2.2.kept fun j q hq => ho q.1 ((hH.2.2 j q hq).lt)) fun j q hq => ?_
    have h0 : j < 1 := (List.getElem?_eq_some_iff.mp hq).1
    rw [show j = 0 by omega] at hq
    cases hq
    exact he
theorem va_S.new {A : Nat → Prop} {H0 H H1 : Heap} {locs : List Loc} (h : va_S A H0 H locs) (hz : H1.size = H.size + 1) (ho : ∀ q : Nat, q < H.size → H1[q]? = H[q]?) : va_S A H0 H1 locs :=
  ⟨Nat.le_trans h.1 (by omega), fun x h1 h2 => (ho x (Nat.lt_of_lt_of_le h1 h.1)).trans (h.2.1 x h1 h2), h.2.2⟩
end
section
/-! ===== the words that every method may use; what lies outside the made cells; the frame of a method ===== -/
def WS : List Cond := lw_tbl.filter goodWord
theorem ws_mem {w : Cond} (i : Nat) (h : lw_tbl[i]? = some w) (hg : goodWord w = true) : w ∈ WS := List.mem_filter.mpr ⟨List.mem_of_getElem? h, hg⟩
theorem ws_tbl {w : Cond} (h : w ∈ WS) : w ∈ lw_tbl := (List.mem_filter.mp h).1
theorem ws_good {ws : List Cond} (h : ∀ w ∈ ws, w ∈ WS) : GoodIn WS ws := fun w hw => ⟨h w hw, good_of_word (List.mem_filter.mp (h w hw)).2⟩
def xl0 (j : Nat) : Int32 := [1, 0, 0, 0].getD j 0
def xl1 (j : Nat) : Int32 := [12, 999, 99, 9999].getD j 0
def sLen : List Nat := [4, 3, 2, 3, 3, 5, 4, 3, 5, 5, 4]
def sByt : List (List Int32) := [[110, 101, 101, 100], [114, 111, 119], [111, 114], [97, 110, 100], [110, 111, 116], [115, 116, 111, 114, 101], [114, 111, 119, 115], [100, 97, 121], [115, 104, 97, 114, 101], [97, 108, 105, 118, 101], [109, 111, 114, 101]]
def sIx (i : Nat) : Nat := [75, 81, 83, 85, 87, 89, 91, 93, 95, 97, 99].getD i 0
def sTx (i : Nat) : String := ["need", "row", "or", "and", "not", "store", "rows", "day", "share", "alive", "more"].getD i ""
def nwL : List Cond := [.castable RX1 RX5, .castable RX3 RX4, .castable RX5 RX6, .castable RX4 RX6, .castable RX3 RX6, .castable RX9 RX6, .castable RX1 RX6, .methodLinkNest RX11 23 yX8_init RX11, .methodLinkNest RX11 63 yX7_init RX11]
def ncL : List (String × String) := [(RX6, RX5), (RX4, RX5), (RX3, RX5), (RX9, RX5), (RX6, RX4), (RX5, RX4), (RX9, RX4), (RX1, RX4), (RX6, RX3), (RX5, RX3), (RX4, RX3), (RX9, RX3), (RX1, RX3), (RX6, RX9), (RX5, RX9), (RX4, RX9), (RX3, RX9), (RX1, RX9), (RX6, RX1), (RX5, RX1), (RX4, RX1), (RX3, RX1), (RX9, RX1)]
def zAO (U : State) : Prop := (Cond.arrayOver (.array .int)).before #[] U = true
theorem zAO.moved {u U : State} (hvm : u.vm.Alike U.vm) (h : zAO u) : zAO U := by
  have e := Cond.arrayOver_setVmC (args := #[]) (s := u) hvm (.array .int)
  have h2 : (Cond.arrayOver (.array .int)).before #[] (u.setVm U.vm) = true := e.trans h
  exact h2
/-- what is outside: the two tables, the texts, the words that are no good words -/
def Ex (G : Gd) (U : State) (H : Heap) : Prop :=
  (va_Z RX11 "BOAT_LEAST" "[I" (.ref (ad G 0)) (zA G) U H ∧ va_T .int (ad G 0) 4 (fun j => .int (xl0 j)) (zA G) U H) ∧
  (va_Z RX11 "BOAT_MOST" "[I" (.ref (ad G 1)) (zA G) U H ∧ va_T .int (ad G 1) 4 (fun j => .int (xl1 j)) (zA G) U H) ∧
  va_Z RJ0 "COMPACT_STRINGS" "Z" (.int 1) (zA G) U H ∧
  (va_Z RJ3 "SIOOBE_FORMATTER" "Ljava/util/function/BiFunction;" .null (zA G) U H ∨ va_Z RJ3 "SIOOBE_FORMATTER" "Ljava/util/function/BiFunction;" (.ref (ad G 24)) (zA G) U H) ∧
  vk_S 11 sLen sByt (fun i => ad G (2 + i)) (fun i => ad G (13 + i)) (zA G) U H ∧
  (∀ i, i < 11 → vk_R RX8 (sIx i) (sTx i) (ad G (2 + i)) U) ∧
  (∀ w ∈ nwL, va_Nw w U) ∧ (∀ q ∈ ncL, va_Nc q.1 q.2 U) ∧ va_AO RX6 U ∧ va_AO RX2 U ∧ va_AO RX7 U ∧ zAO U ∧ va_T .int (ad G 25) G.2.2.2.2.1 (fun j => .int (G.2.2.2.2.2 j)) (zA G) U H
theorem Ex.gen {G : Gd} {u U : State} {H H1 : Heap} (hvm : u.vm.Alike U.vm) (hq : ∀ a : Nat, a < H.size → ¬ zA G a → H1[a]? = H[a]?) (hR : ∀ i, i < 11 → vk_R RX8 (sIx i) (sTx i) (ad G (2 + i)) u → vk_R RX8 (sIx i) (sTx i) (ad G (2 + i)) U) (hN : ∀ w ∈ nwL, va_Nw w u → va_Nw w U) (h : Ex G u H) : Ex G U H1 := by
  obtain ⟨⟨a1, a2⟩, ⟨b1, b2⟩, c, d, e, f, g, i, j1, j2, j3, k, x⟩ := h
  refine ⟨⟨(a1.moved hvm).kept hq, (a2.moved hvm).kept hq⟩, ⟨(b1.moved hvm).kept hq, (b2.moved hvm).kept hq⟩, (c.moved hvm).kept hq, ?_, (e.moved hvm).kept hq, fun x hx => hR x hx (f x hx), fun w hw => hN w hw (g w hw), fun q hq => (i q hq).moved hvm, j1.moved hvm, j2.moved hvm, j3.moved hvm, k.moved hvm, (x.moved hvm).kept hq⟩
  rcases d with d | d
  · exact Or.inl ((d.moved hvm).kept hq)
  · exact Or.inr ((d.moved hvm).kept hq)
theorem Ex.warm {G : Gd} {s U : State} {H H1 : Heap} (hW : s.WarmedH U.vm) (hq : ∀ a : Nat, a < H.size → ¬ zA G a → H1[a]? = H[a]?) (h : Ex G s H) : Ex G U H1 := by
  refine Ex.gen hW.alike hq (fun i _ q => q.warm hW) (fun w hw q => ?_) h
  simp only [nwL, List.mem_cons, List.not_mem_nil, or_false] at hw
  rcases hw with rfl | rfl | rfl | rfl | rfl | rfl | rfl | rfl | rfl
  · exact va_Nw.warmC hW q
  · exact va_Nw.warmC hW q
  · exact va_Nw.warmC hW q
  · exact va_Nw.warmC hW q
  · exact va_Nw.warmC hW q
  · exact va_Nw.warmC hW q
  · exact va_Nw.warmC hW q
  · exact va_Nw.warmM hW q
  · exact va_Nw.warmM hW q
theorem Ex.same {G : Gd} {u U : State} {H : Heap} (hv : U.vm = u.vm) (h : Ex G u H) : Ex G U H := by
  refine Ex.gen (by rw [hv]; exact Vm.Alike.refl _) (fun _ _ _ => rfl) (fun i _ q => q.same hv) (fun w hw q => ?_) h
  simp only [nwL, List.mem_cons, List.not_mem_nil, or_false] at hw
  rcases hw with rfl | rfl | rfl | rfl | rfl | rfl | rfl | rfl | rfl <;> exact va_Nw.same rfl hv.symm q
/-- a method: its name, bytes, locals, answer -/
abbrev Mi : Type := MethodName × ByteArray × Nat × Option FieldType
/-- what a method's end may be -/
def RetI (M : Mi) (pc : Nat) (v : Option Value) : Prop :=
  (v = none ∧ decode M.2.1 pc = .ok (.return_, 1) ∧ M.2.2.2 = none) ∨ (∃ (x : Int32) (ty : FieldType), v = some (.int x) ∧ decode M.2.1 pc = .ok (.ireturn, 1) ∧ M.2.2.2 = some ty ∧ narrow ty (.int x) = .int x) ∨
  (∃ x : Int64, v = some (.long x) ∧ decode M.2.1 pc = .ok (.lreturn, 1) ∧ M.2.2.2 = some .long) ∨ (∃ o : Option Nat, v = some (va_rf o) ∧ decode M.2.1 pc = .ok (.areturn, 1) ∧ ((∃ n, M.2.2.2 = some (.object n)) ∨ ∃ t, M.2.2.2 = some (.array t)))
def Fr (G : Gd) (M : Mi) (d : Nat) (K : Ah → Option Value → Prop) (p : Program) (l : Launch) (e : Env) (R : Room) (s : State) (m : MethodId) (args : Array Value) (below : List Frame) (meth : Method) (c : Code) (Q : State → Prop) : Prop :=
  p.tables.exec = Jvm.exec ∧ c.code = M.2.1 ∧ c.maxLocals = M.2.2.1 ∧ s.vm.findClass M.1.cls = some m.cls ∧ (∀ w ∈ WS, w.before args s = true) ∧ meth.name = M.1.name ∧ (d ≤ R.frames ∧ 64 * d ≤ R.locals) ∧ va_K G.2.1 cls (tysL G) s ∧ Ex G s s.heap ∧ G.1 ≤ s.heap.size ∧
  (∀ (v : Option Value) (h' : Ah) (H : Heap) (locs : List Loc) (pc : Nat) (L : Array Slot), RetI M pc v → K h' v → Hp G h' H → va_S (zA G) s.heap H locs → W p l e R s m args below meth c H locs R.cells R.slots Q (F0 m pc L (v.map (cv G)).toList))
def Lc (G : Gd) (n : Nat) (ls : List (Option Value)) (L : Array Slot) : Prop := L.size = n ∧ lv_wf L ∧ ∀ (i : Nat) (v : Value), ls[i]? = some (some v) → L[i]? = some (.val (cv G v))
/-- FROM HERE THE METHOD ENDS AS K SAYS: at pc, with locals, stack and heap; c cells and n slots may still be made -/
def AW (G : Gd) (M : Mi) (d c n : Nat) (K : Ah → Option Value → Prop) (pc : Nat) (ls : List (Option Value)) (st : List Value) (h : Ah) : Prop :=
  ∀ (p : Program) (l : Launch) (e : Env) (R : Room) (s : State) (m : MethodId) (args : Array Value) (below : List Frame) (meth : Method) (cd : Code) (Q : State → Prop) (H : Heap) (locs : List Loc) (cells slots : Nat) (L : Array Slot),
    Fr G M d K p l e R s m args below meth cd Q → cells + c ≤ R.cells → slots + n ≤ R.slots → Hp G h H → va_S (zA G) s.heap H locs → Lc G M.2.2.1 ls L →
    W p l e R s m args below meth cd H locs cells slots Q (F0 m pc L (st.map (cv G)))
def PcA (G : Gd) (as : List Value) (h : Ah) : Array Value → State → Prop := va_Pc (as.map (cv G)) (fun U => Hp G h U.heap ∧ va_K G.2.1 cls (tysL G) U ∧ Ex G U U.heap)
def QcA (G : Gd) (K : Ah → Option Value → Prop) : Array Value → State → Outcome → State → Prop := fun _ st o t => (∃ (v : Option Value) (h' : Ah), o = .returned (v.map (cv G)) ∧ K h' v ∧ Hp G h' t.heap) ∧ va_F (zA G) st t
/-- THE METHOD Y, CALLED SO, ENDS AS K SAYS -/
def AM (G : Gd) (d c n : Nat) (Y : Mi) (as : List Value) (h : Ah) (K : Ah → Option Value → Prop) : Prop :=
  ∀ l : Launch, Met l Y.1 (Cond.code Y.1 Y.2.1 Y.2.2.1 Y.2.2.2 :: WS) { frames := d, cells := c, slots := n, locals := 64 * d } (PcA G as h) (QcA G K) c n (zA G)
theorem Hp.le {G : Gd} {h : Ah} {H : Heap} (hH : Hp G h H) : G.1 ≤ H.size := by rw [hH.1]; exact Nat.le_add_right _ _
theorem AW.mono {G : Gd} {M : Mi} {d c n : Nat} {K K' : Ah → Option Value → Prop} {pc : Nat} {ls : List (Option Value)} {st : List Value} {h : Ah} (hK : ∀ h' v, K h' v → K' h' v) (k : AW G M d c n K pc ls st h) : AW G M d c n K' pc ls st h := by
  intro p l e R s m args below meth cd Q H locs cells slots L F h1 h2 hH hS hL
  obtain ⟨f1, f2, f3, f4, f5, f6, f7, f8, f9, f10, f11⟩ := F
  exact k p l e R s m args below meth cd Q H locs cells slots L ⟨f1, f2, f3, f4, f5, f6, f7, f8, f9, f10, fun v h' H locs pc L a b => f11 v h' H locs pc L a (hK h' v b)⟩ h1 h2 hH hS hL
def argL : List Value → List (Option Value)
  | [] => []
  | v :: r => match v with
    | .long x => some (.long x) :: none :: argL r
    | .double x => some (.double x) :: none :: argL r
    | w => some w :: argL r
theorem argL_at (G : Gd) : ∀ (as : List Value) (k i : Nat) (v : Value), (argL as)[i]? = some (some v) → (k + i, cv G v) ∈ lv_args k (as.map (cv G)) := by
  intro as
  induction as with
  | nil => intro k i v h; simp [argL] at h
  | cons a r ih =>
    intro k i v h
    have one : ∀ w : Value, w.category = 1 → (some w :: argL r)[i]? = some (some v) → (k + i, cv G v) ∈ lv_args k ((w :: r).map (cv G)) := by
      intro w hw hi
      rw [List.map_cons]
      show _ ∈ (k, cv G w) :: lv_args (if (cv G w).category = 2 then k + 2 else k + 1) (r.map (cv G))
      rw [cv_cat, if_neg (by omega)]
      cases i with
      | zero => rw [List.getElem?_cons_zero] at hi; cases hi; exact List.mem_cons_self
      | succ i =>
        rw [List.getElem?_cons_succ] at hi
        have := ih (k + 1) i v hi
        rw [show k + 1 + i = k + (i + 1) by omega] at this
        exact List.mem_cons_of_mem _ this
    have two : ∀ w : Value, w.category = 2 → (some w :: none :: argL r)[i]? = some (some v) → (k + i, cv G v) ∈ lv_args k ((w :: r).map (cv G)) := by
      intro w hw hi
      rw [List.map_cons]
      show _ ∈ (k, cv G w) :: lv_args (if (cv G w).category = 2 then k + 2 else k + 1) (r.map (cv G))
      rw [cv_cat, if_pos hw]
      match i, hi with
      | 0, hi => rw [List.getElem?_cons_zero] at hi; cases hi; exact List.mem_cons_self
      | 1, hi => rw [List.getElem?_cons_succ, List.getElem?_cons_zero] at hi; cases hi
      | i + 2, hi =>
        rw [List.getElem?_cons_succ, List.getElem?_cons_succ] at hi
        have := ih (k + 2) i v hi
        rw [show k + 2 + i = k + (i + 2) by omega] at this
        exact List.mem_cons_of_mem _ this
    cases a with
    | long x => exact two _ rfl h
    | double x => exact two _ rfl h
    | int x => exact one _ rfl h
    | float x => exact one _ rfl h
    | null => exact one _ rfl h
    | ref x => exact one _ rfl h
    | retAddr x => exact one _ rfl h
/-- a method by its body -/
theorem AM.intro {G : Gd} {d c n : Nat} {Y : Mi} {as : List Value} {h : Ah} {K : Ah → Option Value → Prop} (hy : plainName Y.1.cls = true) (hlen : (lg_sl as).length ≤ Y.2.2.1) (ls : List (Option Value)) (hls : argL as ++ List.replicate (Y.2.2.1 - (lg_sl as).length) none = ls) (k : AW G Y d c n K 0 ls [] h) : AM G d c n Y as h K := by
  intro l
  refine Met.ofW (cc := Y.2.1) (maxL := Y.2.2.1) (ret := Y.2.2.2) hy rfl ?_
  intro p e s m args below meth cd s₁ B hml hv
  obtain ⟨rfl, hH, hK, hE⟩ := hv
  have hts := atoms_spec (ws := Cond.code Y.1 Y.2.1 Y.2.2.1 Y.2.2.2 :: WS) B.pre
  have hlen2 : (lg_sl (as.map (cv G))).length = (lg_sl as).length := by
    clear B hts hml hK hE hls k hH hlen
    induction as with
    | nil => rfl
    | cons a r ih =>
      unfold lg_sl at ih ⊢
      rw [List.map_cons, List.flatMap_cons, List.flatMap_cons, List.length_append, List.length_append, ih]
      congr 1
      rw [cv_cat]
      split <;> rfl
  have hl := lv_entry (as.map (cv G)) (n := Y.2.2.1) (by rw [hlen2]; exact hlen)
  rw [lg_entry_eq]
  generalize (lg_sl (as.map (cv G)) ++ List.replicate (Y.2.2.1 - (lg_sl (as.map (cv G))).length) Slot.unset).toArray = L at hl ⊢
  refine k p l e _ s m _ below meth cd _ s.heap [] 0 0 L ⟨B.exec, B.bytes, hml, findClass_of_methodNamed B.named, fun w hw => hts w (List.mem_cons_of_mem _ hw), (name_of_methodNamed B.named B.method).1, ⟨Nat.le_refl _, Nat.le_refl _⟩, hK, hE, hH.le, ?_⟩ (by show 0 + c ≤ c; omega) (by show 0 + n ≤ n; omega) hH va_S.rf ⟨hl.1, hl.2.1, fun i v hi => ?_⟩
  · intro v h' H locs pc L hR hk hH' hS
    have hend : ∀ t : State, t.heap = H → QcA G K ((as.map (cv G)).toArray) s (.returned (v.map (cv G))) t := fun t ht => ⟨⟨v, h', rfl, hk, by rw [ht]; exact hH'⟩, hS.F ht⟩
    have hlocks := B.notSynchronized
    rcases hR with ⟨rfl, hd, hr⟩ | ⟨x, ty, rfl, hd, hr, hn⟩ | ⟨x, rfl, hd, hr⟩ | ⟨o, rfl, hd, hr⟩
    · exact W.vret B.exec B.bytes (B.returns.trans hr) (fun t ht _ => hend t ht) hS.2.2 hd hlocks
    · exact W.zret B.exec B.bytes (B.returns.trans hr) hn (fun t ht _ => hend t ht) hS.2.2 hd hlocks
    · exact W.lret B.exec B.bytes (B.returns.trans hr) (fun t ht _ => hend t ht) hS.2.2 hd hlocks
    · have hv' : cv G (va_rf o) = .null ∨ ∃ a, cv G (va_rf o) = .ref a := by
        cases o with
        | none => exact Or.inl rfl
        | some a => exact Or.inr ⟨_, rfl⟩
      rcases hr with ⟨nn, hr⟩ | ⟨t, hr⟩
      · exact W.aret B.exec B.bytes (B.returns.trans hr) (Or.inl ⟨nn, rfl⟩) hv' (fun t ht _ => hend t ht) hS.2.2 hd hlocks
      · exact W.aret B.exec B.bytes (B.returns.trans hr) (Or.inr ⟨t, rfl⟩) hv' (fun t ht _ => hend t ht) hS.2.2 hd hlocks
  · have hi2 : (argL as)[i]? = some (some v) := by
      rw [← hls] at hi
      by_cases hil : i < (argL as).length
      · rwa [List.getElem?_append_left hil] at hi
      · rw [List.getElem?_append_right (by omega)] at hi
        exact absurd (List.mem_of_getElem? hi) (fun q => by have := (List.mem_replicate.mp q).2; cases this)
    have := argL_at G as 0 i v hi2
    rw [Nat.zero_add] at this
    exact hl.2.2 _ this
end
section
/-! ===== locals written ===== -/
def cl1 (x : Option Value) : Option Value := match x with
  | some (.long _) => none
  | some (.double _) => none
  | y => y
theorem cl1_of {x : Option Value} {w : Value} (h : cl1 x = some w) : x = some w ∧ w.category ≠ 2 := by
  cases x with
  | none => cases h
  | some v => cases v <;> first | (cases h; done) | (cases h; exact ⟨rfl, by decide⟩) | (cases h; exact ⟨rfl, fun q => by cases q⟩)
def st1 : List (Option Value) → Nat → Value → List (Option Value)
  | [], _, _ => []
  | _ :: r, 0, v => some v :: r
  | x :: r, i + 1, v => (match i with | 0 => cl1 x | _ => x) :: st1 r i v
def st2 : List (Option Value) → Nat → Value → List (Option Value)
  | [], _, _ => []
  | _ :: r, 0, v => some v :: (match r with | [] => [] | _ :: r2 => none :: r2)
  | x :: r, i + 1, v => (match i with | 0 => cl1 x | _ => x) :: st2 r i v
theorem st1_c (x : Option Value) (r : List (Option Value)) (i : Nat) (v : Value) : st1 (x :: r) (i + 1) v = (if i = 0 then cl1 x else x) :: st1 r i v := by cases i <;> rfl
theorem st2_c (x : Option Value) (r : List (Option Value)) (i : Nat) (v : Value) : st2 (x :: r) (i + 1) v = (if i = 0 then cl1 x else x) :: st2 r i v := by cases i <;> rfl
theorem st1_z (x : Option Value) (r : List (Option Value)) (v : Value) : st1 (x :: r) 0 v = some v :: r := rfl
theorem st2_z (x : Option Value) (r : List (Option Value)) (v : Value) : st2 (x :: r) 0 v = some v :: (match r with | [] => [] | _ :: r2 => none :: r2) := rfl
theorem st1_of : ∀ (ls : List (Option Value)) (i j : Nat) (v w : Value), (st1 ls i v)[j]? = some (some w) → (j = i ∧ w = v) ∨ (j ≠ i ∧ ls[j]? = some (some w) ∧ (j + 1 = i → w.category ≠ 2)) := by
  intro ls
  induction ls with
  | nil => intro i j v w h; simp [st1] at h
  | cons x r ih =>
    intro i j v w h
    cases i with
    | zero =>
      cases j with
      | zero => rw [st1_z, List.getElem?_cons_zero] at h; cases h; exact Or.inl ⟨rfl, rfl⟩
      | succ j => rw [st1_z, List.getElem?_cons_succ] at h; exact Or.inr ⟨by omega, by rw [List.getElem?_cons_succ]; exact h, by omega⟩
    | succ i =>
      cases j with
      | zero =>
        rw [st1_c, List.getElem?_cons_zero] at h
        refine Or.inr ⟨by omega, ?_⟩
        rw [List.getElem?_cons_zero]
        cases i with
        | zero => rw [if_pos rfl] at h; obtain ⟨h1, h2⟩ := cl1_of (Option.some.inj h); exact ⟨by rw [h1], fun _ => h2⟩
        | succ i => rw [if_neg (Nat.succ_ne_zero i)] at h; exact ⟨h, by omega⟩
      | succ j =>
        rw [st1_c, List.getElem?_cons_succ] at h
        rw [List.getElem?_cons_succ]
        rcases ih i j v w h with ⟨h1, h2⟩ | ⟨h1, h2, h3⟩
        · exact Or.inl ⟨by omega, h2⟩
        · exact Or.inr ⟨by omega, h2, fun q => h3 (by omega)⟩
theorem st2_of : ∀ (ls : List (Option Value)) (i j : Nat) (v w : Value), (st2 ls i v)[j]? = some (some w) → (j = i ∧ w = v) ∨ (j ≠ i ∧ j ≠ i + 1 ∧ ls[j]? = some (some w) ∧ (j + 1 = i → w.category ≠ 2)) := by
  intro ls
  induction ls with
  | nil => intro i j v w h; simp [st2] at h
  | cons x r ih =>
    intro i j v w h
    cases i with
    | zero =>
      cases j with
      | zero => rw [st2_z, List.getElem?_cons_zero] at h; cases h; exact Or.inl ⟨rfl, rfl⟩
      | succ j =>
        rw [st2_z, List.getElem?_cons_succ] at h
        rw [List.getElem?_cons_succ]
        cases r with
        | nil => simp at h
        | cons y r2 =>
          cases j with
          | zero => rw [List.getElem?_cons_zero] at h; cases h
          | succ j =>
            rw [List.getElem?_cons_succ] at h
            exact Or.inr ⟨by omega, by omega, by rw [List.getElem?_cons_succ]; exact h, by omega⟩
    | succ i =>
      cases j with
      | zero =>
        rw [st2_c, List.getElem?_cons_zero] at h
        refine Or.inr ⟨by omega, by omega, ?_⟩
        rw [List.getElem?_cons_zero]
        cases i with
        | zero => rw [if_pos rfl] at h; obtain ⟨h1, h2⟩ := cl1_of (Option.some.inj h); exact ⟨by rw [h1], fun _ => h2⟩
        | succ i => rw [if_neg (Nat.succ_ne_zero i)] at h; exact ⟨h, by omega⟩
      | succ j =>
        rw [st2_c, List.getElem?_cons_succ] at h
        rw [List.getElem?_cons_succ]
        rcases ih i j v w h with ⟨h1, h2⟩ | ⟨h1, h4, h2, h3⟩
        · exact Or.inl ⟨by omega, h2⟩
        · exact Or.inr ⟨by omega, by omega, h2, fun q => h3 (by omega)⟩
theorem Lc.has {G : Gd} {n : Nat} {ls : List (Option Value)} {L : Array Slot} (h : Lc G n ls L) {j : Nat} {w : Value} (hj : ls[j]? = some (some w)) : lv_has L n [(j, cv G w)] :=
  ⟨h.1, h.2.1, fun q hq => by rw [List.mem_singleton.mp hq]; exact h.2.2 j w hj⟩
theorem Lc.set1 {G : Gd} {n : Nat} {ls ls' : List (Option Value)} {L : Array Slot} (h : Lc G n ls L) {i : Nat} {v : Value} (hi : i < n) (hc : v.category = 1) (hs : st1 ls i v = ls') : ∃ L', storeLocals L i (cv G v) = some L' ∧ Lc G n ls' L' := by
  subst hs
  obtain ⟨L', e, h1⟩ := lv_store1 (v := cv G v) (l := []) ⟨h.1, h.2.1, fun q hq => by cases hq⟩ hi ((cv_cat G v).trans hc)
  refine ⟨L', e, h1.1, h1.2.1, fun j w hj => ?_⟩
  rcases st1_of ls i j v w hj with ⟨rfl, rfl⟩ | ⟨h2, h3, h4⟩
  · exact h1.2.2 _ List.mem_cons_self
  · obtain ⟨L2, e2, h5⟩ := lv_store1 (v := cv G v) (h.has h3) hi ((cv_cat G v).trans hc)
    cases e.symm.trans e2
    refine h5.2.2 (j, cv G w) (List.mem_cons_of_mem _ (List.mem_filter.mpr ⟨List.mem_singleton.mpr rfl, ?_⟩))
    have e3 : (j == i) = false := beq_eq_false_iff_ne.mpr h2
    by_cases e4 : j + 1 = i
    · have e5 : (w.category == 2) = false := beq_eq_false_iff_ne.mpr (h4 e4)
      simp [e3, cv_cat, e5]
    · have e5 : (j + 1 == i) = false := beq_eq_false_iff_ne.mpr e4
      simp [e3, e5]
theorem Lc.set2 {G : Gd} {n : Nat} {ls ls' : List (Option Value)} {L : Array Slot} (h : Lc G n ls L) {i : Nat} {v : Value} (hi : i + 1 < n) (hc : v.category = 2) (hs : st2 ls i v = ls') : ∃ L', storeLocals L i (cv G v) = some L' ∧ Lc G n ls' L' := by
  subst hs
  obtain ⟨L', e, h1⟩ := lv_store2 (v := cv G v) (l := []) ⟨h.1, h.2.1, fun q hq => by cases hq⟩ hi ((cv_cat G v).trans hc)
  refine ⟨L', e, h1.1, h1.2.1, fun j w hj => ?_⟩
  rcases st2_of ls i j v w hj with ⟨rfl, rfl⟩ | ⟨h2, h6, h3, h4⟩
  · exact h1.2.2 _ List.mem_cons_self
  · obtain ⟨L2, e2, h5⟩ := lv_store2 (v := cv G v) (h.has h3) hi ((cv_cat G v).trans hc)
    cases e.symm.trans e2
    refine h5.2.2 (j, cv G w) (List.mem_cons_of_mem _ (List.mem_filter.mpr ⟨List.mem_singleton.mpr rfl, ?_⟩))
    have e3 : (j == i) = false := beq_eq_false_iff_ne.mpr h2
    have e6 : (j == i + 1) = false := beq_eq_false_iff_ne.mpr h6
    by_cases e4 : j + 1 = i
    · have e5 : (w.category == 2) = false := beq_eq_false_iff_ne.mpr (h4 e4)
      simp [e3, e6, cv_cat, e5]
    · have e5 : (j + 1 == i) = false := beq_eq_false_iff_ne.mpr e4
      simp [e3, e5, e6]
/-! ===== rows that only move values ===== -/
theorem AW.iconst {G : Gd} {M : Mi} {d c n : Nat} {K : Ah → Option Value → Prop} {pc : Nat} {ls : List (Option Value)} {st : List Value} {h : Ah} {z : Int} {v : Int32} (hd : decode M.2.1 pc = .ok (.iconst z, 1)) (hv : Int32.ofInt z = v) (k : AW G M d c n K (pc + 1) ls (.int v :: st) h) : AW G M d c n K (pc) ls (st) h := by
  intro p l e R s m args below meth cd Q H locs cells slots L F h1 h2 hH hS hL
  exact lv_iconst F.1 F.2.1 hd hv (k p l e R s m args below meth cd Q H locs cells slots L F h1 h2 hH hS hL)
theorem AW.bipush {G : Gd} {M : Mi} {d c n : Nat} {K : Ah → Option Value → Prop} {pc : Nat} {ls : List (Option Value)} {st : List Value} {h : Ah} {z : Int} {v : Int32} (hd : decode M.2.1 pc = .ok (.bipush z, 2)) (hv : (Int8.ofInt z).toInt32 = v) (k : AW G M d c n K (pc + 2) ls (.int v :: st) h) : AW G M d c n K (pc) ls (st) h := by
  intro p l e R s m args below meth cd Q H locs cells slots L F h1 h2 hH hS hL
  exact lv_bipush F.1 F.2.1 hd hv (k p l e R s m args below meth cd Q H locs cells slots L F h1 h2 hH hS hL)
theorem AW.sipush {G : Gd} {M : Mi} {d c n : Nat} {K : Ah → Option Value → Prop} {pc : Nat} {ls : List (Option Value)} {st : List Value} {h : Ah} {z : Int} {v : Int32} (hd : decode M.2.1 pc = .ok (.sipush z, 3)) (hv : (Int16.ofInt z).toInt32 = v) (k : AW G M d c n K (pc + 3) ls (.int v :: st) h) : AW G M d c n K (pc) ls (st) h := by
  intro p l e R s m args below meth cd Q H locs cells slots L F h1 h2 hH hS hL
  exact lv_sipush F.1 F.2.1 hd hv (k p l e R s m args below meth cd Q H locs cells slots L F h1 h2 hH hS hL)
theorem AW.lconst {G : Gd} {M : Mi} {d c n : Nat} {K : Ah → Option Value → Prop} {pc : Nat} {ls : List (Option Value)} {st : List Value} {h : Ah} {z : Fin 2} {v : Int64} (hd : decode M.2.1 pc = .ok (.lconst z, 1)) (hv : Int64.ofNat (z : Nat) = v) (k : AW G M d c n K (pc + 1) ls (.long v :: st) h) : AW G M d c n K (pc) ls (st) h := by
  intro p l e R s m args below meth cd Q H locs cells slots L F h1 h2 hH hS hL
  exact lv_lconst F.1 F.2.1 hd hv (k p l e R s m args below meth cd Q H locs cells slots L F h1 h2 hH hS hL)
theorem AW.null {G : Gd} {M : Mi} {d c n : Nat} {K : Ah → Option Value → Prop} {pc : Nat} {ls : List (Option Value)} {st : List Value} {h : Ah} (hd : decode M.2.1 pc = .ok (.aconst_null, 1)) (k : AW G M d c n K (pc + 1) ls (.null :: st) h) : AW G M d c n K (pc) ls (st) h := by
  intro p l e R s m args below meth cd Q H locs cells slots L F h1 h2 hH hS hL
  exact lv_null F.1 F.2.1 hd (k p l e R s m args below meth cd Q H locs cells slots L F h1 h2 hH hS hL)
theorem AW.ldc {G : Gd} {M : Mi} {d c n : Nat} {K : Ah → Option Value → Prop} {pc : Nat} {ls : List (Option Value)} {st : List Value} {h : Ah} {ix : Nat} {v : Int32} (hd : decode M.2.1 pc = .ok (.ldc ix, 2)) (hw : Cond.constant M.1.cls ix v ∈ WS) (k : AW G M d c n K (pc + 2) ls (.int v :: st) h) : AW G M d c n K (pc) ls (st) h := by
  intro p l e R s m args below meth cd Q H locs cells slots L F h1 h2 hH hS hL
  exact lv_ldc F.1 F.2.1 F.2.2.2.1 (F.2.2.2.2.1 _ hw) hd (k p l e R s m args below meth cd Q H locs cells slots L F h1 h2 hH hS hL)
theorem AW.ldcw {G : Gd} {M : Mi} {d c n : Nat} {K : Ah → Option Value → Prop} {pc : Nat} {ls : List (Option Value)} {st : List Value} {h : Ah} {ix : Nat} {v : Int32} (hd : decode M.2.1 pc = .ok (.ldc_w ix, 3)) (hw : Cond.constant M.1.cls ix v ∈ WS) (k : AW G M d c n K (pc + 3) ls (.int v :: st) h) : AW G M d c n K (pc) ls (st) h := by
  intro p l e R s m args below meth cd Q H locs cells slots L F h1 h2 hH hS hL
  exact lv_ldcw F.1 F.2.1 F.2.2.2.1 (F.2.2.2.2.1 _ hw) hd (k p l e R s m args below meth cd Q H locs cells slots L F h1 h2 hH hS hL)
theorem AW.ldc2 {G : Gd} {M : Mi} {d c n : Nat} {K : Ah → Option Value → Prop} {pc : Nat} {ls : List (Option Value)} {st : List Value} {h : Ah} {ix : Nat} {v : Int64} (hd : decode M.2.1 pc = .ok (.ldc2_w ix, 3)) (hw : Cond.constantLong M.1.cls ix v ∈ WS) (k : AW G M d c n K (pc + 3) ls (.long v :: st) h) : AW G M d c n K (pc) ls (st) h := by
  intro p l e R s m args below meth cd Q H locs cells slots L F h1 h2 hH hS hL
  exact lv_ldc2 F.1 F.2.1 F.2.2.2.1 (F.2.2.2.2.1 _ hw) hd (k p l e R s m args below meth cd Q H locs cells slots L F h1 h2 hH hS hL)
theorem AW.iload_n {G : Gd} {M : Mi} {d c n : Nat} {K : Ah → Option Value → Prop} {pc : Nat} {ls : List (Option Value)} {st : List Value} {h : Ah} {q : Fin 4} {x : Int32} (hd : decode M.2.1 pc = .ok (.iload_n q, 1)) (hl : ls[(q : Nat)]? = some (some (.int x))) (k : AW G M d c n K (pc + 1) ls (.int x :: st) h) : AW G M d c n K (pc) ls (st) h := by
  intro p l e R s m args below meth cd Q H locs cells slots L F h1 h2 hH hS hL
  exact lv_iload_n F.1 F.2.1 hd rfl (hL.2.2 _ _ hl) (k p l e R s m args below meth cd Q H locs cells slots L F h1 h2 hH hS hL)
theorem AW.iload {G : Gd} {M : Mi} {d c n : Nat} {K : Ah → Option Value → Prop} {pc : Nat} {ls : List (Option Value)} {st : List Value} {h : Ah} {i : Nat} {x : Int32} (hd : decode M.2.1 pc = .ok (.iload i, 2)) (hl : ls[i]? = some (some (.int x))) (k : AW G M d c n K (pc + 2) ls (.int x :: st) h) : AW G M d c n K (pc) ls (st) h := by
  intro p l e R s m args below meth cd Q H locs cells slots L F h1 h2 hH hS hL
  exact lv_iload F.1 F.2.1 hd (hL.2.2 _ _ hl) (k p l e R s m args below meth cd Q H locs cells slots L F h1 h2 hH hS hL)
theorem AW.lload_n {G : Gd} {M : Mi} {d c n : Nat} {K : Ah → Option Value → Prop} {pc : Nat} {ls : List (Option Value)} {st : List Value} {h : Ah} {q : Fin 4} {x : Int64} (hd : decode M.2.1 pc = .ok (.lload_n q, 1)) (hl : ls[(q : Nat)]? = some (some (.long x))) (k : AW G M d c n K (pc + 1) ls (.long x :: st) h) : AW G M d c n K (pc) ls (st) h := by
  intro p l e R s m args below meth cd Q H locs cells slots L F h1 h2 hH hS hL
  exact lv_lload_n F.1 F.2.1 hd rfl (hL.2.2 _ _ hl) (k p l e R s m args below meth cd Q H locs cells slots L F h1 h2 hH hS hL)
theorem AW.lload {G : Gd} {M : Mi} {d c n : Nat} {K : Ah → Option Value → Prop} {pc : Nat} {ls : List (Option Value)} {st : List Value} {h : Ah} {i : Nat} {x : Int64} (hd : decode M.2.1 pc = .ok (.lload i, 2)) (hl : ls[i]? = some (some (.long x))) (k : AW G M d c n K (pc + 2) ls (.long x :: st) h) : AW G M d c n K (pc) ls (st) h := by
  intro p l e R s m args below meth cd Q H locs cells slots L F h1 h2 hH hS hL
  exact lv_lload F.1 F.2.1 hd (hL.2.2 _ _ hl) (k p l e R s m args below meth cd Q H locs cells slots L F h1 h2 hH hS hL)
theorem AW.aload_n {G : Gd} {M : Mi} {d c n : Nat} {K : Ah → Option Value → Prop} {pc : Nat} {ls : List (Option Value)} {st : List Value} {h : Ah} {q : Fin 4} {x : Nat} (hd : decode M.2.1 pc = .ok (.aload_n q, 1)) (hl : ls[(q : Nat)]? = some (some (.ref x))) (k : AW G M d c n K (pc + 1) ls (.ref x :: st) h) : AW G M d c n K (pc) ls (st) h := by
  intro p l e R s m args below meth cd Q H locs cells slots L F h1 h2 hH hS hL
  exact lv_aload_n F.1 F.2.1 hd rfl (hL.2.2 _ _ hl) (k p l e R s m args below meth cd Q H locs cells slots L F h1 h2 hH hS hL)
theorem AW.aload {G : Gd} {M : Mi} {d c n : Nat} {K : Ah → Option Value → Prop} {pc : Nat} {ls : List (Option Value)} {st : List Value} {h : Ah} {i : Nat} {x : Nat} (hd : decode M.2.1 pc = .ok (.aload i, 2)) (hl : ls[i]? = some (some (.ref x))) (k : AW G M d c n K (pc + 2) ls (.ref x :: st) h) : AW G M d c n K (pc) ls (st) h := by
  intro p l e R s m args below meth cd Q H locs cells slots L F h1 h2 hH hS hL
  exact lv_aload F.1 F.2.1 hd (hL.2.2 _ _ hl) (k p l e R s m args below meth cd Q H locs cells slots L F h1 h2 hH hS hL)
theorem AW.aload_nN {G : Gd} {M : Mi} {d c n : Nat} {K : Ah → Option Value → Prop} {pc : Nat} {ls : List (Option Value)} {st : List Value} {h : Ah} {q : Fin 4} (hd : decode M.2.1 pc = .ok (.aload_n q, 1)) (hl : ls[(q : Nat)]? = some (some .null)) (k : AW G M d c n K (pc + 1) ls (.null :: st) h) : AW G M d c n K (pc) ls (st) h := by
  intro p l e R s m args below meth cd Q H locs cells slots L F h1 h2 hH hS hL
  exact lv_aload_nN F.1 F.2.1 hd rfl (hL.2.2 _ _ hl) (k p l e R s m args below meth cd Q H locs cells slots L F h1 h2 hH hS hL)
theorem AW.aloadN {G : Gd} {M : Mi} {d c n : Nat} {K : Ah → Option Value → Prop} {pc : Nat} {ls : List (Option Value)} {st : List Value} {h : Ah} {i : Nat} (hd : decode M.2.1 pc = .ok (.aload i, 2)) (hl : ls[i]? = some (some .null)) (k : AW G M d c n K (pc + 2) ls (.null :: st) h) : AW G M d c n K (pc) ls (st) h := by
  intro p l e R s m args below meth cd Q H locs cells slots L F h1 h2 hH hS hL
  exact lv_aloadN F.1 F.2.1 hd (hL.2.2 _ _ hl) (k p l e R s m args below meth cd Q H locs cells slots L F h1 h2 hH hS hL)
theorem AW.aload_nq {G : Gd} {M : Mi} {d c n : Nat} {K : Ah → Option Value → Prop} {pc : Nat} {ls : List (Option Value)} {st : List Value} {h : Ah} {q : Fin 4} {o : Option Nat} (hd : decode M.2.1 pc = .ok (.aload_n q, 1)) (hl : ls[(q : Nat)]? = some (some (va_rf o))) (k : AW G M d c n K (pc + 1) ls (va_rf o :: st) h) : AW G M d c n K (pc) ls (st) h := by
  intro p l e R s m args below meth cd Q H locs cells slots L F h1 h2 hH hS hL
  cases o with
  | none => exact lv_aload_nN F.1 F.2.1 hd rfl (hL.2.2 _ _ hl) (k p l e R s m args below meth cd Q H locs cells slots L F h1 h2 hH hS hL)
  | some a => exact lv_aload_n F.1 F.2.1 hd rfl (hL.2.2 _ _ hl) (k p l e R s m args below meth cd Q H locs cells slots L F h1 h2 hH hS hL)
theorem AW.aloadq {G : Gd} {M : Mi} {d c n : Nat} {K : Ah → Option Value → Prop} {pc : Nat} {ls : List (Option Value)} {st : List Value} {h : Ah} {i : Nat} {o : Option Nat} (hd : decode M.2.1 pc = .ok (.aload i, 2)) (hl : ls[i]? = some (some (va_rf o))) (k : AW G M d c n K (pc + 2) ls (va_rf o :: st) h) : AW G M d c n K (pc) ls (st) h := by
  intro p l e R s m args below meth cd Q H locs cells slots L F h1 h2 hH hS hL
  cases o with
  | none => exact lv_aloadN F.1 F.2.1 hd (hL.2.2 _ _ hl) (k p l e R s m args below meth cd Q H locs cells slots L F h1 h2 hH hS hL)
  | some a => exact lv_aload F.1 F.2.1 hd (hL.2.2 _ _ hl) (k p l e R s m args below meth cd Q H locs cells slots L F h1 h2 hH hS hL)
theorem AW.istore_n {G : Gd} {M : Mi} {d c n : Nat} {K : Ah → Option Value → Prop} {pc : Nat} {ls : List (Option Value)} {st : List Value} {h : Ah} {q : Fin 4} {x : Int32} {ls' : List (Option Value)} (hd : decode M.2.1 pc = .ok (.istore_n q, 1)) (hn : (q : Nat) < M.2.2.1) (hs : st1 ls (q : Nat) (.int x) = ls') (k : AW G M d c n K (pc + 1) ls' (st) h) : AW G M d c n K (pc) ls (.int x :: st) h := by
  intro p l e R s m args below meth cd Q H locs cells slots L F h1 h2 hH hS hL
  obtain ⟨L', e', hL'⟩ := hL.set1 hn rfl hs
  replace e' : storeLocals L _ (.int x) = some L' := e'
  show W p l e R s m args below meth cd H locs cells slots Q (F0 m pc L (.int x :: st.map (cv G)))
  intro T hT X
  obtain ⟨t, a, b⟩ := k p l e R s m args below meth cd Q H locs cells slots L' F h1 h2 hH hS hL' T hT X
  refine ⟨t, ?_, b⟩
  jvm_step X.here [X.here.top, ↓top_set X.here.top, F.1, F.2.1, hd, e']
  exact a
theorem AW.istore {G : Gd} {M : Mi} {d c n : Nat} {K : Ah → Option Value → Prop} {pc : Nat} {ls : List (Option Value)} {st : List Value} {h : Ah} {i : Nat} {x : Int32} {ls' : List (Option Value)} (hd : decode M.2.1 pc = .ok (.istore i, 2)) (hn : i < M.2.2.1) (hs : st1 ls i (.int x) = ls') (k : AW G M d c n K (pc + 2) ls' (st) h) : AW G M d c n K (pc) ls (.int x :: st) h := by
  intro p l e R s m args below meth cd Q H locs cells slots L F h1 h2 hH hS hL
  obtain ⟨L', e', hL'⟩ := hL.set1 hn rfl hs
  replace e' : storeLocals L _ (.int x) = some L' := e'
  show W p l e R s m args below meth cd H locs cells slots Q (F0 m pc L (.int x :: st.map (cv G)))
  intro T hT X
  obtain ⟨t, a, b⟩ := k p l e R s m args below meth cd Q H locs cells slots L' F h1 h2 hH hS hL' T hT X
  refine ⟨t, ?_, b⟩
  jvm_step X.here [X.here.top, ↓top_set X.here.top, F.1, F.2.1, hd, e']
  exact a
theorem AW.lstore_n {G : Gd} {M : Mi} {d c n : Nat} {K : Ah → Option Value → Prop} {pc : Nat} {ls : List (Option Value)} {st : List Value} {h : Ah} {q : Fin 4} {x : Int64} {ls' : List (Option Value)} (hd : decode M.2.1 pc = .ok (.lstore_n q, 1)) (hn : (q : Nat) + 1 < M.2.2.1) (hs : st2 ls (q : Nat) (.long x) = ls') (k : AW G M d c n K (pc + 1) ls' (st) h) : AW G M d c n K (pc) ls (.long x :: st) h := by
  intro p l e R s m args below meth cd Q H locs cells slots L F h1 h2 hH hS hL
  obtain ⟨L', e', hL'⟩ := hL.set2 hn rfl hs
  replace e' : storeLocals L _ (.long x) = some L' := e'
  show W p l e R s m args below meth cd H locs cells slots Q (F0 m pc L (.long x :: st.map (cv G)))
  intro T hT X
  obtain ⟨t, a, b⟩ := k p l e R s m args below meth cd Q H locs cells slots L' F h1 h2 hH hS hL' T hT X
  refine ⟨t, ?_, b⟩
  jvm_step X.here [X.here.top, ↓top_set X.here.top, F.1, F.2.1, hd, e']
  exact a
theorem AW.lstore {G : Gd} {M : Mi} {d c n : Nat} {K : Ah → Option Value → Prop} {pc : Nat} {ls : List (Option Value)} {st : List Value} {h : Ah} {i : Nat} {x : Int64} {ls' : List (Option Value)} (hd : decode M.2.1 pc = .ok (.lstore i, 2)) (hn : i + 1 < M.2.2.1) (hs : st2 ls i (.long x) = ls') (k : AW G M d c n K (pc + 2) ls' (st) h) : AW G M d c n K (pc) ls (.long x :: st) h := by
  intro p l e R s m args below meth cd Q H locs cells slots L F h1 h2 hH hS hL
  obtain ⟨L', e', hL'⟩ := hL.set2 hn rfl hs
  replace e' : storeLocals L _ (.long x) = some L' := e'
  show W p l e R s m args below meth cd H locs cells slots Q (F0 m pc L (.long x :: st.map (cv G)))
  intro T hT X
  obtain ⟨t, a, b⟩ := k p l e R s m args below meth cd Q H locs cells slots L' F h1 h2 hH hS hL' T hT X
  refine ⟨t, ?_, b⟩
  jvm_step X.here [X.here.top, ↓top_set X.here.top, F.1, F.2.1, hd, e']
  exact a
theorem AW.astore_n {G : Gd} {M : Mi} {d c n : Nat} {K : Ah → Option Value → Prop} {pc : Nat} {ls : List (Option Value)} {st : List Value} {h : Ah} {q : Fin 4} {x : Nat} {ls' : List (Option Value)} (hd : decode M.2.1 pc = .ok (.astore_n q, 1)) (hn : (q : Nat) < M.2.2.1) (hs : st1 ls (q : Nat) (.ref x) = ls') (k : AW G M d c n K (pc + 1) ls' (st) h) : AW G M d c n K (pc) ls (.ref x :: st) h := by
  intro p l e R s m args below meth cd Q H locs cells slots L F h1 h2 hH hS hL
  obtain ⟨L', e', hL'⟩ := hL.set1 hn rfl hs
  replace e' : storeLocals L _ (.ref (ad G x)) = some L' := e'
  show W p l e R s m args below meth cd H locs cells slots Q (F0 m pc L (.ref (ad G x) :: st.map (cv G)))
  intro T hT X
  obtain ⟨t, a, b⟩ := k p l e R s m args below meth cd Q H locs cells slots L' F h1 h2 hH hS hL' T hT X
  refine ⟨t, ?_, b⟩
  jvm_step X.here [X.here.top, ↓top_set X.here.top, F.1, F.2.1, hd, e', Value.isRef]
  exact a
theorem AW.astore {G : Gd} {M : Mi} {d c n : Nat} {K : Ah → Option Value → Prop} {pc : Nat} {ls : List (Option Value)} {st : List Value} {h : Ah} {i : Nat} {x : Nat} {ls' : List (Option Value)} (hd : decode M.2.1 pc = .ok (.astore i, 2)) (hn : i < M.2.2.1) (hs : st1 ls i (.ref x) = ls') (k : AW G M d c n K (pc + 2) ls' (st) h) : AW G M d c n K (pc) ls (.ref x :: st) h := by
  intro p l e R s m args below meth cd Q H locs cells slots L F h1 h2 hH hS hL
  obtain ⟨L', e', hL'⟩ := hL.set1 hn rfl hs
  replace e' : storeLocals L _ (.ref (ad G x)) = some L' := e'
  show W p l e R s m args below meth cd H locs cells slots Q (F0 m pc L (.ref (ad G x) :: st.map (cv G)))
  intro T hT X
  obtain ⟨t, a, b⟩ := k p l e R s m args below meth cd Q H locs cells slots L' F h1 h2 hH hS hL' T hT X
  refine ⟨t, ?_, b⟩
  jvm_step X.here [X.here.top, ↓top_set X.here.top, F.1, F.2.1, hd, e', Value.isRef]
  exact a
theorem AW.astore_nN {G : Gd} {M : Mi} {d c n : Nat} {K : Ah → Option Value → Prop} {pc : Nat} {ls : List (Option Value)} {st : List Value} {h : Ah} {q : Fin 4} {ls' : List (Option Value)} (hd : decode M.2.1 pc = .ok (.astore_n q, 1)) (hn : (q : Nat) < M.2.2.1) (hs : st1 ls (q : Nat) (.null) = ls') (k : AW G M d c n K (pc + 1) ls' (st) h) : AW G M d c n K (pc) ls (.null :: st) h := by
  intro p l e R s m args below meth cd Q H locs cells slots L F h1 h2 hH hS hL
  obtain ⟨L', e', hL'⟩ := hL.set1 hn rfl hs
  replace e' : storeLocals L _ (.null) = some L' := e'
  show W p l e R s m args below meth cd H locs cells slots Q (F0 m pc L (.null :: st.map (cv G)))
  intro T hT X
  obtain ⟨t, a, b⟩ := k p l e R s m args below meth cd Q H locs cells slots L' F h1 h2 hH hS hL' T hT X
  refine ⟨t, ?_, b⟩
  jvm_step X.here [X.here.top, ↓top_set X.here.top, F.1, F.2.1, hd, e', Value.isRef]
  exact a
theorem AW.astoreN {G : Gd} {M : Mi} {d c n : Nat} {K : Ah → Option Value → Prop} {pc : Nat} {ls : List (Option Value)} {st : List Value} {h : Ah} {i : Nat} {ls' : List (Option Value)} (hd : decode M.2.1 pc = .ok (.astore i, 2)) (hn : i < M.2.2.1) (hs : st1 ls i (.null) = ls') (k : AW G M d c n K (pc + 2) ls' (st) h) : AW G M d c n K (pc) ls (.null :: st) h := by
  intro p l e R s m args below meth cd Q H locs cells slots L F h1 h2 hH hS hL
  obtain ⟨L', e', hL'⟩ := hL.set1 hn rfl hs
  replace e' : storeLocals L _ (.null) = some L' := e'
  show W p l e R s m args below meth cd H locs cells slots Q (F0 m pc L (.null :: st.map (cv G)))
  intro T hT X
  obtain ⟨t, a, b⟩ := k p l e R s m args below meth cd Q H locs cells slots L' F h1 h2 hH hS hL' T hT X
  refine ⟨t, ?_, b⟩
  jvm_step X.here [X.here.top, ↓top_set X.here.top, F.1, F.2.1, hd, e', Value.isRef]
  exact a
theorem AW.astore_nq {G : Gd} {M : Mi} {d c n : Nat} {K : Ah → Option Value → Prop} {pc : Nat} {ls : List (Option Value)} {st : List Value} {h : Ah} {q : Fin 4} {o : Option Nat} {ls' : List (Option Value)} (hd : decode M.2.1 pc = .ok (.astore_n q, 1)) (hn : (q : Nat) < M.2.2.1) (hs : st1 ls (q : Nat) (va_rf o) = ls') (k : AW G M d c n K (pc + 1) ls' (st) h) : AW G M d c n K (pc) ls (va_rf o :: st) h := by
  cases o with
  | none => exact AW.astore_nN hd hn hs k
  | some a => exact AW.astore_n hd hn hs k
theorem AW.astoreq {G : Gd} {M : Mi} {d c n : Nat} {K : Ah → Option Value → Prop} {pc : Nat} {ls : List (Option Value)} {st : List Value} {h : Ah} {i : Nat} {o : Option Nat} {ls' : List (Option Value)} (hd : decode M.2.1 pc = .ok (.astore i, 2)) (hn : i < M.2.2.1) (hs : st1 ls i (va_rf o) = ls') (k : AW G M d c n K (pc + 2) ls' (st) h) : AW G M d c n K (pc) ls (va_rf o :: st) h := by
  cases o with
  | none => exact AW.astoreN hd hn hs k
  | some a => exact AW.astore hd hn hs k
theorem AW.iinc {G : Gd} {M : Mi} {d c n : Nat} {K : Ah → Option Value → Prop} {pc : Nat} {ls : List (Option Value)} {st : List Value} {h : Ah} {i : Nat} {z : Int} {x v : Int32} {ls' : List (Option Value)} (hd : decode M.2.1 pc = .ok (.iinc i z, 3)) (hl : ls[i]? = some (some (.int x))) (hv : x + Int32.ofInt z = v) (hn : i < M.2.2.1) (hs : st1 ls i (.int v) = ls') (k : AW G M d c n K (pc + 3) ls' (st) h) : AW G M d c n K (pc) ls (st) h := by
  intro p l e R s m args below meth cd Q H locs cells slots L F h1 h2 hH hS hL
  subst hv
  have hg : L[i]? = some (.val (.int x)) := hL.2.2 _ _ hl
  obtain ⟨L', e', hL'⟩ := hL.set1 hn rfl hs
  replace e' : storeLocals L _ (.int (x + Int32.ofInt z)) = some L' := e'
  intro T hT X
  obtain ⟨t, a, b⟩ := k p l e R s m args below meth cd Q H locs cells slots L' F h1 h2 hH hS hL' T hT X
  refine ⟨t, ?_, b⟩
  jvm_step X.here [X.here.top, ↓top_set X.here.top, F.1, F.2.1, hd, hg, e']
  exact a
theorem AW.iadd {G : Gd} {M : Mi} {d c n : Nat} {K : Ah → Option Value → Prop} {pc : Nat} {ls : List (Option Value)} {st : List Value} {h : Ah} {x y : Int32} (hd : decode M.2.1 pc = .ok (.iadd, 1)) (k : AW G M d c n K (pc + 1) ls (.int (x + y) :: st) h) : AW G M d c n K (pc) ls (.int y :: .int x :: st) h := by
  intro p l e R s m args below meth cd Q H locs cells slots L F h1 h2 hH hS hL
  exact lv_iadd F.1 F.2.1 hd (k p l e R s m args below meth cd Q H locs cells slots L F h1 h2 hH hS hL)
theorem AW.isub {G : Gd} {M : Mi} {d c n : Nat} {K : Ah → Option Value → Prop} {pc : Nat} {ls : List (Option Value)} {st : List Value} {h : Ah} {x y : Int32} (hd : decode M.2.1 pc = .ok (.isub, 1)) (k : AW G M d c n K (pc + 1) ls (.int (x - y) :: st) h) : AW G M d c n K (pc) ls (.int y :: .int x :: st) h := by
  intro p l e R s m args below meth cd Q H locs cells slots L F h1 h2 hH hS hL
  exact lv_isub F.1 F.2.1 hd (k p l e R s m args below meth cd Q H locs cells slots L F h1 h2 hH hS hL)
theorem AW.imul {G : Gd} {M : Mi} {d c n : Nat} {K : Ah → Option Value → Prop} {pc : Nat} {ls : List (Option Value)} {st : List Value} {h : Ah} {x y : Int32} (hd : decode M.2.1 pc = .ok (.imul, 1)) (k : AW G M d c n K (pc + 1) ls (.int (x * y) :: st) h) : AW G M d c n K (pc) ls (.int y :: .int x :: st) h := by
  intro p l e R s m args below meth cd Q H locs cells slots L F h1 h2 hH hS hL
  exact lv_imul F.1 F.2.1 hd (k p l e R s m args below meth cd Q H locs cells slots L F h1 h2 hH hS hL)
theorem AW.iand {G : Gd} {M : Mi} {d c n : Nat} {K : Ah → Option Value → Prop} {pc : Nat} {ls : List (Option Value)} {st : List Value} {h : Ah} {x y : Int32} (hd : decode M.2.1 pc = .ok (.iand, 1)) (k : AW G M d c n K (pc + 1) ls (.int (x &&& y) :: st) h) : AW G M d c n K (pc) ls (.int y :: .int x :: st) h := by
  intro p l e R s m args below meth cd Q H locs cells slots L F h1 h2 hH hS hL
  exact lv_iand F.1 F.2.1 hd (k p l e R s m args below meth cd Q H locs cells slots L F h1 h2 hH hS hL)
theorem AW.ior {G : Gd} {M : Mi} {d c n : Nat} {K : Ah → Option Value → Prop} {pc : Nat} {ls : List (Option Value)} {st : List Value} {h : Ah} {x y : Int32} (hd : decode M.2.1 pc = .ok (.ior, 1)) (k : AW G M d c n K (pc + 1) ls (.int (x ||| y) :: st) h) : AW G M d c n K (pc) ls (.int y :: .int x :: st) h := by
  intro p l e R s m args below meth cd Q H locs cells slots L F h1 h2 hH hS hL
  exact lv_ior F.1 F.2.1 hd (k p l e R s m args below meth cd Q H locs cells slots L F h1 h2 hH hS hL)
theorem AW.ixor {G : Gd} {M : Mi} {d c n : Nat} {K : Ah → Option Value → Prop} {pc : Nat} {ls : List (Option Value)} {st : List Value} {h : Ah} {x y : Int32} (hd : decode M.2.1 pc = .ok (.ixor, 1)) (k : AW G M d c n K (pc + 1) ls (.int (x ^^^ y) :: st) h) : AW G M d c n K (pc) ls (.int y :: .int x :: st) h := by
  intro p l e R s m args below meth cd Q H locs cells slots L F h1 h2 hH hS hL
  exact lv_ixor F.1 F.2.1 hd (k p l e R s m args below meth cd Q H locs cells slots L F h1 h2 hH hS hL)
theorem AW.ishl {G : Gd} {M : Mi} {d c n : Nat} {K : Ah → Option Value → Prop} {pc : Nat} {ls : List (Option Value)} {st : List Value} {h : Ah} {x y : Int32} (hd : decode M.2.1 pc = .ok (.ishl, 1)) (k : AW G M d c n K (pc + 1) ls (.int (x <<< (y &&& 31)) :: st) h) : AW G M d c n K (pc) ls (.int y :: .int x :: st) h := by
  intro p l e R s m args below meth cd Q H locs cells slots L F h1 h2 hH hS hL
  exact lv_ishl F.1 F.2.1 hd (k p l e R s m args below meth cd Q H locs cells slots L F h1 h2 hH hS hL)
theorem AW.ishr {G : Gd} {M : Mi} {d c n : Nat} {K : Ah → Option Value → Prop} {pc : Nat} {ls : List (Option Value)} {st : List Value} {h : Ah} {x y : Int32} (hd : decode M.2.1 pc = .ok (.ishr, 1)) (k : AW G M d c n K (pc + 1) ls (.int (x >>> (y &&& 31)) :: st) h) : AW G M d c n K (pc) ls (.int y :: .int x :: st) h := by
  intro p l e R s m args below meth cd Q H locs cells slots L F h1 h2 hH hS hL
  exact lv_ishr F.1 F.2.1 hd (k p l e R s m args below meth cd Q H locs cells slots L F h1 h2 hH hS hL)
theorem AW.iushr {G : Gd} {M : Mi} {d c n : Nat} {K : Ah → Option Value → Prop} {pc : Nat} {ls : List (Option Value)} {st : List Value} {h : Ah} {x y : Int32} (hd : decode M.2.1 pc = .ok (.iushr, 1)) (k : AW G M d c n K (pc + 1) ls (.int ((x.toUInt32 >>> (y.toUInt32 &&& Int32.toUInt32 31)).toInt32) :: st) h) : AW G M d c n K (pc) ls (.int y :: .int x :: st) h := by
  intro p l e R s m args below meth cd Q H locs cells slots L F h1 h2 hH hS hL
  exact lv_iushr F.1 F.2.1 hd rfl (k p l e R s m args below meth cd Q H locs cells slots L F h1 h2 hH hS hL)
theorem AW.idiv {G : Gd} {M : Mi} {d c n : Nat} {K : Ah → Option Value → Prop} {pc : Nat} {ls : List (Option Value)} {st : List Value} {h : Ah} {x y : Int32} (hd : decode M.2.1 pc = .ok (.idiv, 1)) (hne : ¬ y = 0) (k : AW G M d c n K (pc + 1) ls (.int (x / y) :: st) h) : AW G M d c n K (pc) ls (.int y :: .int x :: st) h := by
  intro p l e R s m args below meth cd Q H locs cells slots L F h1 h2 hH hS hL
  exact lv_idiv F.1 F.2.1 hd hne (k p l e R s m args below meth cd Q H locs cells slots L F h1 h2 hH hS hL)
theorem AW.irem {G : Gd} {M : Mi} {d c n : Nat} {K : Ah → Option Value → Prop} {pc : Nat} {ls : List (Option Value)} {st : List Value} {h : Ah} {x y : Int32} (hd : decode M.2.1 pc = .ok (.irem, 1)) (hne : ¬ y = 0) (k : AW G M d c n K (pc + 1) ls (.int (x - x / y * y) :: st) h) : AW G M d c n K (pc) ls (.int y :: .int x :: st) h := by
  intro p l e R s m args below meth cd Q H locs cells slots L F h1 h2 hH hS hL
  exact lv_irem F.1 F.2.1 hd hne (k p l e R s m args below meth cd Q H locs cells slots L F h1 h2 hH hS hL)
theorem AW.ineg {G : Gd} {M : Mi} {d c n : Nat} {K : Ah → Option Value → Prop} {pc : Nat} {ls : List (Option Value)} {st : List Value} {h : Ah} {x : Int32} (hd : decode M.2.1 pc = .ok (.ineg, 1)) (k : AW G M d c n K (pc + 1) ls (.int (-x) :: st) h) : AW G M d c n K (pc) ls (.int x :: st) h := by
  intro p l e R s m args below meth cd Q H locs cells slots L F h1 h2 hH hS hL
  exact lv_ineg F.1 F.2.1 hd (k p l e R s m args below meth cd Q H locs cells slots L F h1 h2 hH hS hL)
theorem AW.ladd {G : Gd} {M : Mi} {d c n : Nat} {K : Ah → Option Value → Prop} {pc : Nat} {ls : List (Option Value)} {st : List Value} {h : Ah} {x y : Int64} (hd : decode M.2.1 pc = .ok (.ladd, 1)) (k : AW G M d c n K (pc + 1) ls (.long (x + y) :: st) h) : AW G M d c n K (pc) ls (.long y :: .long x :: st) h := by
  intro p l e R s m args below meth cd Q H locs cells slots L F h1 h2 hH hS hL
  exact lv_ladd F.1 F.2.1 hd (k p l e R s m args below meth cd Q H locs cells slots L F h1 h2 hH hS hL)
theorem AW.lsub {G : Gd} {M : Mi} {d c n : Nat} {K : Ah → Option Value → Prop} {pc : Nat} {ls : List (Option Value)} {st : List Value} {h : Ah} {x y : Int64} (hd : decode M.2.1 pc = .ok (.lsub, 1)) (k : AW G M d c n K (pc + 1) ls (.long (x - y) :: st) h) : AW G M d c n K (pc) ls (.long y :: .long x :: st) h := by
  intro p l e R s m args below meth cd Q H locs cells slots L F h1 h2 hH hS hL
  exact lv_lsub F.1 F.2.1 hd (k p l e R s m args below meth cd Q H locs cells slots L F h1 h2 hH hS hL)
theorem AW.lmul {G : Gd} {M : Mi} {d c n : Nat} {K : Ah → Option Value → Prop} {pc : Nat} {ls : List (Option Value)} {st : List Value} {h : Ah} {x y : Int64} (hd : decode M.2.1 pc = .ok (.lmul, 1)) (k : AW G M d c n K (pc + 1) ls (.long (x * y) :: st) h) : AW G M d c n K (pc) ls (.long y :: .long x :: st) h := by
  intro p l e R s m args below meth cd Q H locs cells slots L F h1 h2 hH hS hL
  exact lv_lmul F.1 F.2.1 hd (k p l e R s m args below meth cd Q H locs cells slots L F h1 h2 hH hS hL)
theorem AW.land {G : Gd} {M : Mi} {d c n : Nat} {K : Ah → Option Value → Prop} {pc : Nat} {ls : List (Option Value)} {st : List Value} {h : Ah} {x y : Int64} (hd : decode M.2.1 pc = .ok (.land, 1)) (k : AW G M d c n K (pc + 1) ls (.long (x &&& y) :: st) h) : AW G M d c n K (pc) ls (.long y :: .long x :: st) h := by
  intro p l e R s m args below meth cd Q H locs cells slots L F h1 h2 hH hS hL
  exact lv_land F.1 F.2.1 hd (k p l e R s m args below meth cd Q H locs cells slots L F h1 h2 hH hS hL)
theorem AW.lor {G : Gd} {M : Mi} {d c n : Nat} {K : Ah → Option Value → Prop} {pc : Nat} {ls : List (Option Value)} {st : List Value} {h : Ah} {x y : Int64} (hd : decode M.2.1 pc = .ok (.lor, 1)) (k : AW G M d c n K (pc + 1) ls (.long (x ||| y) :: st) h) : AW G M d c n K (pc) ls (.long y :: .long x :: st) h := by
  intro p l e R s m args below meth cd Q H locs cells slots L F h1 h2 hH hS hL
  exact lv_lor F.1 F.2.1 hd (k p l e R s m args below meth cd Q H locs cells slots L F h1 h2 hH hS hL)
theorem AW.lxor {G : Gd} {M : Mi} {d c n : Nat} {K : Ah → Option Value → Prop} {pc : Nat} {ls : List (Option Value)} {st : List Value} {h : Ah} {x y : Int64} (hd : decode M.2.1 pc = .ok (.lxor, 1)) (k : AW G M d c n K (pc + 1) ls (.long (x ^^^ y) :: st) h) : AW G M d c n K (pc) ls (.long y :: .long x :: st) h := by
  intro p l e R s m args below meth cd Q H locs cells slots L F h1 h2 hH hS hL
  exact lv_lxor F.1 F.2.1 hd (k p l e R s m args below meth cd Q H locs cells slots L F h1 h2 hH hS hL)
theorem AW.ldiv {G : Gd} {M : Mi} {d c n : Nat} {K : Ah → Option Value → Prop} {pc : Nat} {ls : List (Option Value)} {st : List Value} {h : Ah} {x y : Int64} (hd : decode M.2.1 pc = .ok (.ldiv, 1)) (hne : ¬ y = 0) (k : AW G M d c n K (pc + 1) ls (.long (x / y) :: st) h) : AW G M d c n K (pc) ls (.long y :: .long x :: st) h := by
  intro p l e R s m args below meth cd Q H locs cells slots L F h1 h2 hH hS hL
  exact lv_ldiv F.1 F.2.1 hd hne (k p l e R s m args below meth cd Q H locs cells slots L F h1 h2 hH hS hL)
theorem AW.lrem {G : Gd} {M : Mi} {d c n : Nat} {K : Ah → Option Value → Prop} {pc : Nat} {ls : List (Option Value)} {st : List Value} {h : Ah} {x y : Int64} (hd : decode M.2.1 pc = .ok (.lrem, 1)) (hne : ¬ y = 0) (k : AW G M d c n K (pc + 1) ls (.long (x - x / y * y) :: st) h) : AW G M d c n K (pc) ls (.long y :: .long x :: st) h := by
  intro p l e R s m args below meth cd Q H locs cells slots L F h1 h2 hH hS hL
  exact lv_lrem F.1 F.2.1 hd hne (k p l e R s m args below meth cd Q H locs cells slots L F h1 h2 hH hS hL)
theorem AW.lneg {G : Gd} {M : Mi} {d c n : Nat} {K : Ah → Option Value → Prop} {pc : Nat} {ls : List (Option Value)} {st : List Value} {h : Ah} {x : Int64} (hd : decode M.2.1 pc = .ok (.lneg, 1)) (k : AW G M d c n K (pc + 1) ls (.long (-x) :: st) h) : AW G M d c n K (pc) ls (.long x :: st) h := by
  intro p l e R s m args below meth cd Q H locs cells slots L F h1 h2 hH hS hL
  exact lv_lneg F.1 F.2.1 hd (k p l e R s m args below meth cd Q H locs cells slots L F h1 h2 hH hS hL)
theorem AW.lshl {G : Gd} {M : Mi} {d c n : Nat} {K : Ah → Option Value → Prop} {pc : Nat} {ls : List (Option Value)} {st : List Value} {h : Ah} {x : Int64} {y : Int32} (hd : decode M.2.1 pc = .ok (.lshl, 1)) (k : AW G M d c n K (pc + 1) ls (.long (x <<< (y.toInt64 &&& 63)) :: st) h) : AW G M d c n K (pc) ls (.int y :: .long x :: st) h := by
  intro p l e R s m args below meth cd Q H locs cells slots L F h1 h2 hH hS hL
  exact lv_lshl F.1 F.2.1 hd rfl (k p l e R s m args below meth cd Q H locs cells slots L F h1 h2 hH hS hL)
theorem AW.lshr {G : Gd} {M : Mi} {d c n : Nat} {K : Ah → Option Value → Prop} {pc : Nat} {ls : List (Option Value)} {st : List Value} {h : Ah} {x : Int64} {y : Int32} (hd : decode M.2.1 pc = .ok (.lshr, 1)) (k : AW G M d c n K (pc + 1) ls (.long (x >>> (y.toInt64 &&& 63)) :: st) h) : AW G M d c n K (pc) ls (.int y :: .long x :: st) h := by
  intro p l e R s m args below meth cd Q H locs cells slots L F h1 h2 hH hS hL
  exact lv_lshr F.1 F.2.1 hd rfl (k p l e R s m args below meth cd Q H locs cells slots L F h1 h2 hH hS hL)
theorem AW.lcmp {G : Gd} {M : Mi} {d c n : Nat} {K : Ah → Option Value → Prop} {pc : Nat} {ls : List (Option Value)} {st : List Value} {h : Ah} {x y : Int64} (hd : decode M.2.1 pc = .ok (.lcmp, 1)) (k : AW G M d c n K (pc + 1) ls (.int (lg_cmp x y) :: st) h) : AW G M d c n K (pc) ls (.long y :: .long x :: st) h := by
  intro p l e R s m args below meth cd Q H locs cells slots L F h1 h2 hH hS hL
  exact W.lcmp F.1 F.2.1 hd (k p l e R s m args below meth cd Q H locs cells slots L F h1 h2 hH hS hL)
theorem AW.i2l {G : Gd} {M : Mi} {d c n : Nat} {K : Ah → Option Value → Prop} {pc : Nat} {ls : List (Option Value)} {st : List Value} {h : Ah} {x : Int32} (hd : decode M.2.1 pc = .ok (.i2l, 1)) (k : AW G M d c n K (pc + 1) ls (.long x.toInt64 :: st) h) : AW G M d c n K (pc) ls (.int x :: st) h := by
  intro p l e R s m args below meth cd Q H locs cells slots L F h1 h2 hH hS hL
  exact lv_i2l F.1 F.2.1 hd rfl (k p l e R s m args below meth cd Q H locs cells slots L F h1 h2 hH hS hL)
theorem AW.l2i {G : Gd} {M : Mi} {d c n : Nat} {K : Ah → Option Value → Prop} {pc : Nat} {ls : List (Option Value)} {st : List Value} {h : Ah} {x : Int64} (hd : decode M.2.1 pc = .ok (.l2i, 1)) (k : AW G M d c n K (pc + 1) ls (.int x.toInt32 :: st) h) : AW G M d c n K (pc) ls (.long x :: st) h := by
  intro p l e R s m args below meth cd Q H locs cells slots L F h1 h2 hH hS hL
  exact lv_l2i F.1 F.2.1 hd rfl (k p l e R s m args below meth cd Q H locs cells slots L F h1 h2 hH hS hL)
theorem AW.i2b {G : Gd} {M : Mi} {d c n : Nat} {K : Ah → Option Value → Prop} {pc : Nat} {ls : List (Option Value)} {st : List Value} {h : Ah} {x : Int32} (hd : decode M.2.1 pc = .ok (.i2b, 1)) (k : AW G M d c n K (pc + 1) ls (.int x.toInt8.toInt32 :: st) h) : AW G M d c n K (pc) ls (.int x :: st) h := by
  intro p l e R s m args below meth cd Q H locs cells slots L F h1 h2 hH hS hL
  exact lv_i2b F.1 F.2.1 hd rfl (k p l e R s m args below meth cd Q H locs cells slots L F h1 h2 hH hS hL)
theorem AW.i2s {G : Gd} {M : Mi} {d c n : Nat} {K : Ah → Option Value → Prop} {pc : Nat} {ls : List (Option Value)} {st : List Value} {h : Ah} {x : Int32} (hd : decode M.2.1 pc = .ok (.i2s, 1)) (k : AW G M d c n K (pc + 1) ls (.int x.toInt16.toInt32 :: st) h) : AW G M d c n K (pc) ls (.int x :: st) h := by
  intro p l e R s m args below meth cd Q H locs cells slots L F h1 h2 hH hS hL
  exact lv_i2s F.1 F.2.1 hd rfl (k p l e R s m args below meth cd Q H locs cells slots L F h1 h2 hH hS hL)
theorem AW.i2c {G : Gd} {M : Mi} {d c n : Nat} {K : Ah → Option Value → Prop} {pc : Nat} {ls : List (Option Value)} {st : List Value} {h : Ah} {x : Int32} (hd : decode M.2.1 pc = .ok (.i2c, 1)) (k : AW G M d c n K (pc + 1) ls (.int (x.toUInt32 % 65536).toInt32 :: st) h) : AW G M d c n K (pc) ls (.int x :: st) h := by
  intro p l e R s m args below meth cd Q H locs cells slots L F h1 h2 hH hS hL
  exact lv_i2c F.1 F.2.1 hd rfl (k p l e R s m args below meth cd Q H locs cells slots L F h1 h2 hH hS hL)
theorem AW.dup {G : Gd} {M : Mi} {d c n : Nat} {K : Ah → Option Value → Prop} {pc : Nat} {ls : List (Option Value)} {st : List Value} {h : Ah} {a : Value} (hd : decode M.2.1 pc = .ok (.dup, 1)) (ha : a.category = 1) (k : AW G M d c n K (pc + 1) ls (a :: a :: st) h) : AW G M d c n K (pc) ls (a :: st) h := by
  intro p l e R s m args below meth cd Q H locs cells slots L F h1 h2 hH hS hL
  exact lv_dup F.1 F.2.1 hd ((cv_cat G a).trans ha) (k p l e R s m args below meth cd Q H locs cells slots L F h1 h2 hH hS hL)
theorem AW.pop {G : Gd} {M : Mi} {d c n : Nat} {K : Ah → Option Value → Prop} {pc : Nat} {ls : List (Option Value)} {st : List Value} {h : Ah} {a : Value} (hd : decode M.2.1 pc = .ok (.pop, 1)) (ha : a.category = 1) (k : AW G M d c n K (pc + 1) ls (st) h) : AW G M d c n K (pc) ls (a :: st) h := by
  intro p l e R s m args below meth cd Q H locs cells slots L F h1 h2 hH hS hL
  exact lv_pop F.1 F.2.1 hd ((cv_cat G a).trans ha) (k p l e R s m args below meth cd Q H locs cells slots L F h1 h2 hH hS hL)
theorem AW.dup_x1 {G : Gd} {M : Mi} {d c n : Nat} {K : Ah → Option Value → Prop} {pc : Nat} {ls : List (Option Value)} {st : List Value} {h : Ah} {a b : Value} (hd : decode M.2.1 pc = .ok (.dup_x1, 1)) (ha : a.category = 1) (hb : b.category = 1) (k : AW G M d c n K (pc + 1) ls (a :: b :: a :: st) h) : AW G M d c n K (pc) ls (a :: b :: st) h := by
  intro p l e R s m args below meth cd Q H locs cells slots L F h1 h2 hH hS hL
  exact lv_dup_x1 F.1 F.2.1 hd ((cv_cat G a).trans ha) ((cv_cat G b).trans hb) (k p l e R s m args below meth cd Q H locs cells slots L F h1 h2 hH hS hL)
theorem AW.dup2 {G : Gd} {M : Mi} {d c n : Nat} {K : Ah → Option Value → Prop} {pc : Nat} {ls : List (Option Value)} {st : List Value} {h : Ah} {a b : Value} (hd : decode M.2.1 pc = .ok (.dup2, 1)) (ha : a.category = 1) (hb : b.category = 1) (k : AW G M d c n K (pc + 1) ls (a :: b :: a :: b :: st) h) : AW G M d c n K (pc) ls (a :: b :: st) h := by
  intro p l e R s m args below meth cd Q H locs cells slots L F h1 h2 hH hS hL
  exact lv_dup2_11 F.1 F.2.1 hd ((cv_cat G a).trans ha) ((cv_cat G b).trans hb) (k p l e R s m args below meth cd Q H locs cells slots L F h1 h2 hH hS hL)
theorem AW.if_eq {G : Gd} {M : Mi} {d c n : Nat} {K : Ah → Option Value → Prop} {pc : Nat} {ls : List (Option Value)} {st : List Value} {h : Ah} {x : Int32} {off : Int} {tgt : Nat} (hd : decode M.2.1 pc = .ok (.ifCond .eq off, 3)) (ht : (pc : Int) + off = (tgt : Int)) (kt : x = 0 → AW G M d c n K (tgt) ls (st) h) (kf : ¬ x = 0 → AW G M d c n K (pc + 3) ls (st) h) : AW G M d c n K (pc) ls (.int x :: st) h := by
  intro p l e R s m args below meth cd Q H locs cells slots L F h1 h2 hH hS hL
  exact lv_if_eq F.1 F.2.1 hd ht (fun q => kt q p l e R s m args below meth cd Q H locs cells slots L F h1 h2 hH hS hL) (fun q => kf q p l e R s m args below meth cd Q H locs cells slots L F h1 h2 hH hS hL)
theorem AW.icmp_eq {G : Gd} {M : Mi} {d c n : Nat} {K : Ah → Option Value → Prop} {pc : Nat} {ls : List (Option Value)} {st : List Value} {h : Ah} {x y : Int32} {off : Int} {tgt : Nat} (hd : decode M.2.1 pc = .ok (.if_icmp .eq off, 3)) (ht : (pc : Int) + off = (tgt : Int)) (kt : x = y → AW G M d c n K (tgt) ls (st) h) (kf : ¬ x = y → AW G M d c n K (pc + 3) ls (st) h) : AW G M d c n K (pc) ls (.int y :: .int x :: st) h := by
  intro p l e R s m args below meth cd Q H locs cells slots L F h1 h2 hH hS hL
  exact lv_icmp_eq F.1 F.2.1 hd ht (fun q => kt q p l e R s m args below meth cd Q H locs cells slots L F h1 h2 hH hS hL) (fun q => kf q p l e R s m args below meth cd Q H locs cells slots L F h1 h2 hH hS hL)
theorem AW.if_ne {G : Gd} {M : Mi} {d c n : Nat} {K : Ah → Option Value → Prop} {pc : Nat} {ls : List (Option Value)} {st : List Value} {h : Ah} {x : Int32} {off : Int} {tgt : Nat} (hd : decode M.2.1 pc = .ok (.ifCond .ne off, 3)) (ht : (pc : Int) + off = (tgt : Int)) (kt : ¬ x = 0 → AW G M d c n K (tgt) ls (st) h) (kf : x = 0 → AW G M d c n K (pc + 3) ls (st) h) : AW G M d c n K (pc) ls (.int x :: st) h := by
  intro p l e R s m args below meth cd Q H locs cells slots L F h1 h2 hH hS hL
  exact lv_if_ne F.1 F.2.1 hd ht (fun q => kt q p l e R s m args below meth cd Q H locs cells slots L F h1 h2 hH hS hL) (fun q => kf q p l e R s m args below meth cd Q H locs cells slots L F h1 h2 hH hS hL)
theorem AW.icmp_ne {G : Gd} {M : Mi} {d c n : Nat} {K : Ah → Option Value → Prop} {pc : Nat} {ls : List (Option Value)} {st : List Value} {h : Ah} {x y : Int32} {off : Int} {tgt : Nat} (hd : decode M.2.1 pc = .ok (.if_icmp .ne off, 3)) (ht : (pc : Int) + off = (tgt : Int)) (kt : ¬ x = y → AW G M d c n K (tgt) ls (st) h) (kf : x = y → AW G M d c n K (pc + 3) ls (st) h) : AW G M d c n K (pc) ls (.int y :: .int x :: st) h := by
  intro p l e R s m args below meth cd Q H locs cells slots L F h1 h2 hH hS hL
  exact lv_icmp_ne F.1 F.2.1 hd ht (fun q => kt q p l e R s m args below meth cd Q H locs cells slots L F h1 h2 hH hS hL) (fun q => kf q p l e R s m args below meth cd Q H locs cells slots L F h1 h2 hH hS hL)
theorem AW.if_lt {G : Gd} {M : Mi} {d c n : Nat} {K : Ah → Option Value → Prop} {pc : Nat} {ls : List (Option Value)} {st : List Value} {h : Ah} {x : Int32} {off : Int} {tgt : Nat} (hd : decode M.2.1 pc = .ok (.ifCond .lt off, 3)) (ht : (pc : Int) + off = (tgt : Int)) (kt : x < 0 → AW G M d c n K (tgt) ls (st) h) (kf : ¬ x < 0 → AW G M d c n K (pc + 3) ls (st) h) : AW G M d c n K (pc) ls (.int x :: st) h := by
  intro p l e R s m args below meth cd Q H locs cells slots L F h1 h2 hH hS hL
  exact lv_if_lt F.1 F.2.1 hd ht (fun q => kt q p l e R s m args below meth cd Q H locs cells slots L F h1 h2 hH hS hL) (fun q => kf q p l e R s m args below meth cd Q H locs cells slots L F h1 h2 hH hS hL)
theorem AW.icmp_lt {G : Gd} {M : Mi} {d c n : Nat} {K : Ah → Option Value → Prop} {pc : Nat} {ls : List (Option Value)} {st : List Value} {h : Ah} {x y : Int32} {off : Int} {tgt : Nat} (hd : decode M.2.1 pc = .ok (.if_icmp .lt off, 3)) (ht : (pc : Int) + off = (tgt : Int)) (kt : x < y → AW G M d c n K (tgt) ls (st) h) (kf : ¬ x < y → AW G M d c n K (pc + 3) ls (st) h) : AW G M d c n K (pc) ls (.int y :: .int x :: st) h := by
  intro p l e R s m args below meth cd Q H locs cells slots L F h1 h2 hH hS hL
  exact lv_icmp_lt F.1 F.2.1 hd ht (fun q => kt q p l e R s m args below meth cd Q H locs cells slots L F h1 h2 hH hS hL) (fun q => kf q p l e R s m args below meth cd Q H locs cells slots L F h1 h2 hH hS hL)
theorem AW.if_ge {G : Gd} {M : Mi} {d c n : Nat} {K : Ah → Option Value → Prop} {pc : Nat} {ls : List (Option Value)} {st : List Value} {h : Ah} {x : Int32} {off : Int} {tgt : Nat} (hd : decode M.2.1 pc = .ok (.ifCond .ge off, 3)) (ht : (pc : Int) + off = (tgt : Int)) (kt : 0 ≤ x → AW G M d c n K (tgt) ls (st) h) (kf : ¬ 0 ≤ x → AW G M d c n K (pc + 3) ls (st) h) : AW G M d c n K (pc) ls (.int x :: st) h := by
  intro p l e R s m args below meth cd Q H locs cells slots L F h1 h2 hH hS hL
  exact lv_if_ge F.1 F.2.1 hd ht (fun q => kt q p l e R s m args below meth cd Q H locs cells slots L F h1 h2 hH hS hL) (fun q => kf q p l e R s m args below meth cd Q H locs cells slots L F h1 h2 hH hS hL)
theorem AW.icmp_ge {G : Gd} {M : Mi} {d c n : Nat} {K : Ah → Option Value → Prop} {pc : Nat} {ls : List (Option Value)} {st : List Value} {h : Ah} {x y : Int32} {off : Int} {tgt : Nat} (hd : decode M.2.1 pc = .ok (.if_icmp .ge off, 3)) (ht : (pc : Int) + off = (tgt : Int)) (kt : y ≤ x → AW G M d c n K (tgt) ls (st) h) (kf : ¬ y ≤ x → AW G M d c n K (pc + 3) ls (st) h) : AW G M d c n K (pc) ls (.int y :: .int x :: st) h := by
  intro p l e R s m args below meth cd Q H locs cells slots L F h1 h2 hH hS hL
  exact lv_icmp_ge F.1 F.2.1 hd ht (fun q => kt q p l e R s m args below meth cd Q H locs cells slots L F h1 h2 hH hS hL) (fun q => kf q p l e R s m args below meth cd Q H locs cells slots L F h1 h2 hH hS hL)
theorem AW.if_gt {G : Gd} {M : Mi} {d c n : Nat} {K : Ah → Option Value → Prop} {pc : Nat} {ls : List (Option Value)} {st : List Value} {h : Ah} {x : Int32} {off : Int} {tgt : Nat} (hd : decode M.2.1 pc = .ok (.ifCond .gt off, 3)) (ht : (pc : Int) + off = (tgt : Int)) (kt : 0 < x → AW G M d c n K (tgt) ls (st) h) (kf : ¬ 0 < x → AW G M d c n K (pc + 3) ls (st) h) : AW G M d c n K (pc) ls (.int x :: st) h := by
  intro p l e R s m args below meth cd Q H locs cells slots L F h1 h2 hH hS hL
  exact lv_if_gt F.1 F.2.1 hd ht (fun q => kt q p l e R s m args below meth cd Q H locs cells slots L F h1 h2 hH hS hL) (fun q => kf q p l e R s m args below meth cd Q H locs cells slots L F h1 h2 hH hS hL)
theorem AW.icmp_gt {G : Gd} {M : Mi} {d c n : Nat} {K : Ah → Option Value → Prop} {pc : Nat} {ls : List (Option Value)} {st : List Value} {h : Ah} {x y : Int32} {off : Int} {tgt : Nat} (hd : decode M.2.1 pc = .ok (.if_icmp .gt off, 3)) (ht : (pc : Int) + off = (tgt : Int)) (kt : y < x → AW G M d c n K (tgt) ls (st) h) (kf : ¬ y < x → AW G M d c n K (pc + 3) ls (st) h) : AW G M d c n K (pc) ls (.int y :: .int x :: st) h := by
  intro p l e R s m args below meth cd Q H locs cells slots L F h1 h2 hH hS hL
  exact lv_icmp_gt F.1 F.2.1 hd ht (fun q => kt q p l e R s m args below meth cd Q H locs cells slots L F h1 h2 hH hS hL) (fun q => kf q p l e R s m args below meth cd Q H locs cells slots L F h1 h2 hH hS hL)
theorem AW.if_le {G : Gd} {M : Mi} {d c n : Nat} {K : Ah → Option Value → Prop} {pc : Nat} {ls : List (Option Value)} {st : List Value} {h : Ah} {x : Int32} {off : Int} {tgt : Nat} (hd : decode M.2.1 pc = .ok (.ifCond .le off, 3)) (ht : (pc : Int) + off = (tgt : Int)) (kt : x ≤ 0 → AW G M d c n K (tgt) ls (st) h) (kf : ¬ x ≤ 0 → AW G M d c n K (pc + 3) ls (st) h) : AW G M d c n K (pc) ls (.int x :: st) h := by
  intro p l e R s m args below meth cd Q H locs cells slots L F h1 h2 hH hS hL
  exact lv_if_le F.1 F.2.1 hd ht (fun q => kt q p l e R s m args below meth cd Q H locs cells slots L F h1 h2 hH hS hL) (fun q => kf q p l e R s m args below meth cd Q H locs cells slots L F h1 h2 hH hS hL)
theorem AW.icmp_le {G : Gd} {M : Mi} {d c n : Nat} {K : Ah → Option Value → Prop} {pc : Nat} {ls : List (Option Value)} {st : List Value} {h : Ah} {x y : Int32} {off : Int} {tgt : Nat} (hd : decode M.2.1 pc = .ok (.if_icmp .le off, 3)) (ht : (pc : Int) + off = (tgt : Int)) (kt : x ≤ y → AW G M d c n K (tgt) ls (st) h) (kf : ¬ x ≤ y → AW G M d c n K (pc + 3) ls (st) h) : AW G M d c n K (pc) ls (.int y :: .int x :: st) h := by
  intro p l e R s m args below meth cd Q H locs cells slots L F h1 h2 hH hS hL
  exact lv_icmp_le F.1 F.2.1 hd ht (fun q => kt q p l e R s m args below meth cd Q H locs cells slots L F h1 h2 hH hS hL) (fun q => kf q p l e R s m args below meth cd Q H locs cells slots L F h1 h2 hH hS hL)
theorem AW.goto {G : Gd} {M : Mi} {d c n : Nat} {K : Ah → Option Value → Prop} {pc : Nat} {ls : List (Option Value)} {st : List Value} {h : Ah} {off : Int} {tgt : Nat} (hd : decode M.2.1 pc = .ok (.goto off, 3)) (ht : (pc : Int) + off = (tgt : Int)) (k : AW G M d c n K (tgt) ls (st) h) : AW G M d c n K (pc) ls (st) h := by
  intro p l e R s m args below meth cd Q H locs cells slots L F h1 h2 hH hS hL
  exact lv_goto F.1 F.2.1 hd ht (k p l e R s m args below meth cd Q H locs cells slots L F h1 h2 hH hS hL)
theorem AW.ifnull {G : Gd} {M : Mi} {d c n : Nat} {K : Ah → Option Value → Prop} {pc : Nat} {ls : List (Option Value)} {st : List Value} {h : Ah} {o : Option Nat} {off : Int} {tgt : Nat} (hd : decode M.2.1 pc = .ok (.ifnull off, 3)) (ht : (pc : Int) + off = (tgt : Int)) (kt : o = none → AW G M d c n K (tgt) ls (st) h) (kf : ∀ a, o = some a → AW G M d c n K (pc + 3) ls (st) h) : AW G M d c n K (pc) ls (va_rf o :: st) h := by
  intro p l e R s m args below meth cd Q H locs cells slots L F h1 h2 hH hS hL
  cases o with
  | none => exact lv_ifnullN F.1 F.2.1 hd ht (kt rfl p l e R s m args below meth cd Q H locs cells slots L F h1 h2 hH hS hL)
  | some a => exact lv_ifnull F.1 F.2.1 hd (kf a rfl p l e R s m args below meth cd Q H locs cells slots L F h1 h2 hH hS hL)
theorem AW.ifnonnull {G : Gd} {M : Mi} {d c n : Nat} {K : Ah → Option Value → Prop} {pc : Nat} {ls : List (Option Value)} {st : List Value} {h : Ah} {o : Option Nat} {off : Int} {tgt : Nat} (hd : decode M.2.1 pc = .ok (.ifnonnull off, 3)) (ht : (pc : Int) + off = (tgt : Int)) (kt : ∀ a, o = some a → AW G M d c n K (tgt) ls (st) h) (kf : o = none → AW G M d c n K (pc + 3) ls (st) h) : AW G M d c n K (pc) ls (va_rf o :: st) h := by
  intro p l e R s m args below meth cd Q H locs cells slots L F h1 h2 hH hS hL
  cases o with
  | none => exact lv_ifnonnullN F.1 F.2.1 hd (kf rfl p l e R s m args below meth cd Q H locs cells slots L F h1 h2 hH hS hL)
  | some a => exact lv_ifnonnull F.1 F.2.1 hd ht (kt a rfl p l e R s m args below meth cd Q H locs cells slots L F h1 h2 hH hS hL)
theorem AW.swOut {G : Gd} {M : Mi} {d c n : Nat} {K : Ah → Option Value → Prop} {pc : Nat} {ls : List (Option Value)} {st : List Value} {h : Ah} {x : Int32} {df lo hi : Int} {offs : Array Int} {len tgt : Nat} (hd : decode M.2.1 pc = .ok (.tableswitch df lo hi offs, len)) (hx : x.toInt < lo ∨ hi < x.toInt) (ht : (pc : Int) + df = (tgt : Int)) (k : AW G M d c n K (tgt) ls (st) h) : AW G M d c n K (pc) ls (.int x :: st) h := by
  intro p l e R s m args below meth cd Q H locs cells slots L F h1 h2 hH hS hL
  exact lv_tableOut F.1 F.2.1 hd hx ht (k p l e R s m args below meth cd Q H locs cells slots L F h1 h2 hH hS hL)
theorem AW.swIn {G : Gd} {M : Mi} {d c n : Nat} {K : Ah → Option Value → Prop} {pc : Nat} {ls : List (Option Value)} {st : List Value} {h : Ah} {x : Int32} {df lo hi : Int} {offs : Array Int} {len tgt : Nat} {off : Int} (hd : decode M.2.1 pc = .ok (.tableswitch df lo hi offs, len)) (ha : ¬ x.toInt < lo) (hb : ¬ hi < x.toInt) (ho : offs[(x.toInt - lo).toNat]? = some off) (ht : (pc : Int) + off = (tgt : Int)) (k : AW G M d c n K (tgt) ls (st) h) : AW G M d c n K (pc) ls (.int x :: st) h := by
  intro p l e R s m args below meth cd Q H locs cells slots L F h1 h2 hH hS hL
  exact lv_tableIn F.1 F.2.1 hd ha hb ho ht (k p l e R s m args below meth cd Q H locs cells slots L F h1 h2 hH hS hL)
theorem AW.vret {G : Gd} {M : Mi} {d c n : Nat} {K : Ah → Option Value → Prop} {pc : Nat} {ls : List (Option Value)} {st : List Value} {h : Ah} (hd : decode M.2.1 pc = .ok (.return_, 1)) (hr : M.2.2.2 = none) (k : K h (none)) : AW G M d c n K (pc) ls ([]) h := by
  intro p l e R s m args below meth cd Q H locs cells slots L F h1 h2 hH hS hL
  refine W.widen (Nat.le_trans (Nat.le_add_right _ _) h1) (Nat.le_trans (Nat.le_add_right _ _) h2) ?_
  exact F.2.2.2.2.2.2.2.2.2.2 _ h H locs pc L (Or.inl ⟨rfl, hd, hr⟩) k hH hS
theorem AW.iret {G : Gd} {M : Mi} {d c n : Nat} {K : Ah → Option Value → Prop} {pc : Nat} {ls : List (Option Value)} {st : List Value} {h : Ah} {x : Int32} (hd : decode M.2.1 pc = .ok (.ireturn, 1)) (hr : M.2.2.2 = some .int) (k : K h (some (.int x))) : AW G M d c n K (pc) ls ([.int x]) h := by
  intro p l e R s m args below meth cd Q H locs cells slots L F h1 h2 hH hS hL
  refine W.widen (Nat.le_trans (Nat.le_add_right _ _) h1) (Nat.le_trans (Nat.le_add_right _ _) h2) ?_
  exact F.2.2.2.2.2.2.2.2.2.2 _ h H locs pc L (Or.inr (Or.inl ⟨x, .int, rfl, hd, hr, rfl⟩)) k hH hS
theorem AW.zret {G : Gd} {M : Mi} {d c n : Nat} {K : Ah → Option Value → Prop} {pc : Nat} {ls : List (Option Value)} {st : List Value} {h : Ah} {x : Int32} (hd : decode M.2.1 pc = .ok (.ireturn, 1)) (hr : M.2.2.2 = some .boolean) (hx : x = 0 ∨ x = 1) (k : K h (some (.int x))) : AW G M d c n K (pc) ls ([.int x]) h := by
  intro p l e R s m args below meth cd Q H locs cells slots L F h1 h2 hH hS hL
  refine W.widen (Nat.le_trans (Nat.le_add_right _ _) h1) (Nat.le_trans (Nat.le_add_right _ _) h2) ?_
  exact F.2.2.2.2.2.2.2.2.2.2 _ h H locs pc L (Or.inr (Or.inl ⟨x, .boolean, rfl, hd, hr, by rcases hx with rfl | rfl <;> rfl⟩)) k hH hS
theorem AW.cret {G : Gd} {M : Mi} {d c n : Nat} {K : Ah → Option Value → Prop} {pc : Nat} {ls : List (Option Value)} {st : List Value} {h : Ah} {x : Int32} (hd : decode M.2.1 pc = .ok (.ireturn, 1)) (hr : M.2.2.2 = some .char) (hx : narrow .char (.int x) = .int x) (k : K h (some (.int x))) : AW G M d c n K (pc) ls ([.int x]) h := by
  intro p l e R s m args below meth cd Q H locs cells slots L F h1 h2 hH hS hL
  refine W.widen (Nat.le_trans (Nat.le_add_right _ _) h1) (Nat.le_trans (Nat.le_add_right _ _) h2) ?_
  exact F.2.2.2.2.2.2.2.2.2.2 _ h H locs pc L (Or.inr (Or.inl ⟨x, .char, rfl, hd, hr, hx⟩)) k hH hS
theorem AW.bret {G : Gd} {M : Mi} {d c n : Nat} {K : Ah → Option Value → Prop} {pc : Nat} {ls : List (Option Value)} {st : List Value} {h : Ah} {x : Int32} (hd : decode M.2.1 pc = .ok (.ireturn, 1)) (hr : M.2.2.2 = some .byte) (hx : narrow .byte (.int x) = .int x) (k : K h (some (.int x))) : AW G M d c n K (pc) ls ([.int x]) h := by
  intro p l e R s m args below meth cd Q H locs cells slots L F h1 h2 hH hS hL
  refine W.widen (Nat.le_trans (Nat.le_add_right _ _) h1) (Nat.le_trans (Nat.le_add_right _ _) h2) ?_
  exact F.2.2.2.2.2.2.2.2.2.2 _ h H locs pc L (Or.inr (Or.inl ⟨x, .byte, rfl, hd, hr, hx⟩)) k hH hS
theorem AW.lret {G : Gd} {M : Mi} {d c n : Nat} {K : Ah → Option Value → Prop} {pc : Nat} {ls : List (Option Value)} {st : List Value} {h : Ah} {x : Int64} (hd : decode M.2.1 pc = .ok (.lreturn, 1)) (hr : M.2.2.2 = some .long) (k : K h (some (.long x))) : AW G M d c n K (pc) ls ([.long x]) h := by
  intro p l e R s m args below meth cd Q H locs cells slots L F h1 h2 hH hS hL
  refine W.widen (Nat.le_trans (Nat.le_add_right _ _) h1) (Nat.le_trans (Nat.le_add_right _ _) h2) ?_
  exact F.2.2.2.2.2.2.2.2.2.2 _ h H locs pc L (Or.inr (Or.inr (Or.inl ⟨x, rfl, hd, hr⟩))) k hH hS
theorem AW.aret {G : Gd} {M : Mi} {d c n : Nat} {K : Ah → Option Value → Prop} {pc : Nat} {ls : List (Option Value)} {st : List Value} {h : Ah} {o : Option Nat} (hd : decode M.2.1 pc = .ok (.areturn, 1)) (hr : (∃ n, M.2.2.2 = some (.object n)) ∨ ∃ t, M.2.2.2 = some (.array t)) (k : K h (some (va_rf o))) : AW G M d c n K (pc) ls ([va_rf o]) h := by
  intro p l e R s m args below meth cd Q H locs cells slots L F h1 h2 hH hS hL
  refine W.widen (Nat.le_trans (Nat.le_add_right _ _) h1) (Nat.le_trans (Nat.le_add_right _ _) h2) ?_
  exact F.2.2.2.2.2.2.2.2.2.2 _ h H locs pc L (Or.inr (Or.inr (Or.inr ⟨o, rfl, hd, hr⟩))) k hH hS
end
section
/-! ===== fields and arrays ===== -/
def sI (h : Ah) (a k : Nat) (x : Int32) : Ah := rI h a (up (gI h a) k x)
def sL (h : Ah) (a k : Nat) (x : Int64) : Ah := rL h a (up (gL h a) k x)
def sR (h : Ah) (a k : Nat) (x : Option Nat) : Ah := rR h a (up (gR h a) k x)
theorem gI_sI (h : Ah) (a k b : Nat) (x : Int32) : gI (sI h a k x) b = if b = a then up (gI h a) k x else gI h b := rfl
theorem gI_sL (h : Ah) (a k b : Nat) (x : Int64) : gI (sL h a k x) b = gI h b := rfl
theorem gI_sR (h : Ah) (a k b : Nat) (x : Option Nat) : gI (sR h a k x) b = gI h b := rfl
theorem gL_sI (h : Ah) (a k b : Nat) (x : Int32) : gL (sI h a k x) b = gL h b := rfl
theorem gL_sL (h : Ah) (a k b : Nat) (x : Int64) : gL (sL h a k x) b = if b = a then up (gL h a) k x else gL h b := rfl
theorem gL_sR (h : Ah) (a k b : Nat) (x : Option Nat) : gL (sR h a k x) b = gL h b := rfl
theorem gR_sI (h : Ah) (a k b : Nat) (x : Int32) : gR (sI h a k x) b = gR h b := rfl
theorem gR_sL (h : Ah) (a k b : Nat) (x : Int64) : gR (sL h a k x) b = gR h b := rfl
theorem gR_sR (h : Ah) (a k b : Nat) (x : Option Nat) : gR (sR h a k x) b = if b = a then up (gR h a) k x else gR h b := rfl
theorem kd_sI (h : Ah) (a k b : Nat) (x : Int32) : kd (sI h a k x) b = kd h b := rfl
theorem kd_sL (h : Ah) (a k b : Nat) (x : Int64) : kd (sL h a k x) b = kd h b := rfl
theorem kd_sR (h : Ah) (a k b : Nat) (x : Option Nat) : kd (sR h a k x) b = kd h b := rfl
theorem nc_sI (h : Ah) (a k : Nat) (x : Int32) : nc (sI h a k x) = nc h := rfl
theorem nc_sL (h : Ah) (a k : Nat) (x : Int64) : nc (sL h a k x) = nc h := rfl
theorem nc_sR (h : Ah) (a k : Nat) (x : Option Nat) : nc (sR h a k x) = nc h := rfl
/-- a class: its number among cls, its fields -/
def ClOk (ci : Nat) (C : String) (T : u_T) (N : Nat) (ty : Nat → FieldType) : Prop := cls[ci]? = some (C, T, N) ∧ (∀ w ∈ u_ws C T N, w ∈ WS) ∧ (∀ k, k < N → parseFieldDescriptor (T k).2.2.1 = some (ty k)) ∧ (∀ a, a < N → ∀ b, b < N → a ≠ b → (T a).2.1 ≠ (T b).2.1) ∧ (fty ci).length = N ∧
  (∀ k, k < N → ((fty ci).getD k 0 = 0 ∧ (ty k = .int ∨ ty k = .boolean)) ∨ ((fty ci).getD k 0 = 1 ∧ (ty k).isReference = true))
/-- what a field's entry names: field k of class ci, of kind t, of type y, final or not -/
def FRef (own : String) (ix ci k t : Nat) (y : FieldType) (fin : Bool) : Prop := ∃ (C : String) (T : u_T) (N : Nat) (ty : Nat → FieldType) (ref : String), ClOk ci C T N ty ∧ k < N ∧ (fty ci).getD k 0 = t ∧ ty k = y ∧ (T k).2.2.2 = fin ∧ Cond.fieldLink own ix ref (T k).2.1 (T k).2.2.1 ∈ WS ∧ (ref = (T k).1 ∨ Cond.sameField ref (T k).1 (T k).2.1 (T k).2.2.1 ∈ WS) ∧ (fin = true → (T k).1 = own ∨ True)
/-- the same of a final field, in its own class -/
def FOwn (own : String) (ci k : Nat) : Prop := ∃ r : vw_C, cls[ci]? = some r ∧ (r.2.1 k).1 = own
theorem fv_at (G : Gd) (h : Ah) (a : Nat) (ts : List Nat) {k : Nat} (hk : k < ts.length) : (fv G h a ts)[k]? = some (if ts.getD k 0 = 0 then Value.int (gI h a k) else cr G (gR h a k)) := by
  unfold fv
  rw [List.getElem?_map, List.getElem?_range hk]
  rfl
theorem fv_len (G : Gd) (h : Ah) (a : Nat) (ts : List Nat) : (fv G h a ts).length = ts.length := by simp [fv]
theorem fv_set {G : Gd} {h h' : Ah} {a : Nat} {ts : List Nat} {k : Nat} {v : Value} (hv : (if ts.getD k 0 = 0 then Value.int (gI h' a k) else cr G (gR h' a k)) = v) (ho : ∀ j, j ≠ k → (if ts.getD j 0 = 0 then Value.int (gI h' a j) else cr G (gR h' a j)) = (if ts.getD j 0 = 0 then Value.int (gI h a j) else cr G (gR h a j))) : (fv G h a ts).set k v = fv G h' a ts := by
  apply List.ext_getElem?
  intro j
  by_cases hj : j < ts.length
  · rw [fv_at G h' a ts hj]
    by_cases hjk : j = k
    · subst hjk
      rw [List.getElem?_set_self (by rw [fv_len]; exact hj), hv]
    · rw [List.getElem?_set_ne (Ne.symm hjk), fv_at G h a ts hj, ho j hjk]
  · rw [List.getElem?_eq_none (by rw [List.length_set, fv_len]; omega), List.getElem?_eq_none (by rw [fv_len]; omega)]
theorem ent_o {G : Gd} {h : Ah} {a ci : Nat} (hk : kd h a = (0, ci)) : ent G h a = .inr (ci, fv G h a (fty ci)) := by unfold ent; rw [hk]; rfl
theorem ent_1 {G : Gd} {h : Ah} {a N : Nat} (hk : kd h a = (1, N)) : ent G h a = .inl (G.2.2.1 1, N, .inl (gI h a)) := by unfold ent; rw [hk]; rfl
theorem ent_2 {G : Gd} {h : Ah} {a N : Nat} (hk : kd h a = (2, N)) : ent G h a = .inl (G.2.2.1 2, N, .inr (.inl (gL h a))) := by unfold ent; rw [hk]; rfl
theorem ent_3 {G : Gd} {h : Ah} {a N : Nat} (hk : kd h a = (3, N)) : ent G h a = .inl (G.2.2.1 3, N, .inl (gI h a)) := by unfold ent; rw [hk]; rfl
theorem ent_q {G : Gd} {h : Ah} {a t N : Nat} (hk : kd h a = (t + 4, N)) : ent G h a = .inl (G.2.2.1 (t + 4), N, .inr (.inr (.inr (.inr (fun j => (gR h a j).map (ad G)))))) := by unfold ent; rw [hk]; rfl
theorem Hp.at {G : Gd} {h : Ah} {H : Heap} (hH : Hp G h H) {a : Nat} {e : va_E} (he : ent G h a = e) (ha : (kd h a).1 ≠ 9) : (wl G h)[a - 32]? = some (ad G a, e) := by rw [← he]; exact hH.get ha
theorem kd_ne {h : Ah} {a t N : Nat} (hk : kd h a = (t, N)) (ht : t ≠ 9) : (kd h a).1 ≠ 9 := by rw [hk]; exact ht
section HEAP
variable {G : Gd} {M : Mi} {d c n : Nat} {K : Ah → Option Value → Prop} {pc : Nat} {ls : List (Option Value)} {st : List Value} {h : Ah}
theorem AW.getI {a ix ci k : Nat} {y : FieldType} {fin : Bool} {x : Int32} (hf : FRef M.1.cls ix ci k 0 y fin) (hk : kd h a = (0, ci)) (hv : gI h a k = x) (hd : decode M.2.1 pc = .ok (.getfield ix, 3)) (kk : AW G M d c n K (pc + 3) ls (.int x :: st) h) : AW G M d c n K pc ls (.ref a :: st) h := by
  intro p l e R s m args below meth cd Q H locs cells slots L F h1 h2 hH hS hL
  obtain ⟨C, T, N, ty, ref, ⟨hc, hin, hty, hnm, hfl, hft⟩, hkN, ht, hy, hfin, hl, hsm, -⟩ := hf
  refine va_get (D := G.2.1) (cl := cls) (tys := tysL G) (ws := wl G h) (v := .int x) F.1 F.2.1 F.2.2.2.2.1 hin F.2.2.2.1 F.2.2.2.2.2.2.2.1 hH.2.2 (a - 32) (hH.at (ent_o hk) (kd_ne hk (by decide))) hc k hkN (F.2.2.2.2.1 _ hl) (fun x0 h0 => ?_) ?_ hd (kk p l e R s m args below meth cd Q H locs cells slots L F h1 h2 hH hS hL)
  · rcases hsm with rfl | hsm
    · exact h0
    · exact u_same (F.2.2.2.2.1 _ hsm) x0 h0
  · rw [fv_at G h a _ (by rw [hfl]; exact hkN), if_pos ht, hv]
theorem AW.getR {a ix ci k : Nat} {y : FieldType} {fin : Bool} {v : Value} (hf : FRef M.1.cls ix ci k 1 y fin) (hk : kd h a = (0, ci)) (hv : va_rf (gR h a k) = v) (hd : decode M.2.1 pc = .ok (.getfield ix, 3)) (kk : AW G M d c n K (pc + 3) ls (v :: st) h) : AW G M d c n K pc ls (.ref a :: st) h := by
  intro p l e R s m args below meth cd Q H locs cells slots L F h1 h2 hH hS hL
  obtain ⟨C, T, N, ty, ref, ⟨hc, hin, hty, hnm, hfl, hft⟩, hkN, ht, hy, hfin, hl, hsm, -⟩ := hf
  refine va_get (D := G.2.1) (cl := cls) (tys := tysL G) (ws := wl G h) (v := cv G v) F.1 F.2.1 F.2.2.2.2.1 hin F.2.2.2.1 F.2.2.2.2.2.2.2.1 hH.2.2 (a - 32) (hH.at (ent_o hk) (kd_ne hk (by decide))) hc k hkN (F.2.2.2.2.1 _ hl) (fun x0 h0 => ?_) ?_ hd (kk p l e R s m args below meth cd Q H locs cells slots L F h1 h2 hH hS hL)
  · rcases hsm with rfl | hsm
    · exact h0
    · exact u_same (F.2.2.2.2.1 _ hsm) x0 h0
  · rw [fv_at G h a _ (by rw [hfl]; exact hkN), if_neg (by rw [ht]; decide), ← hv, cv_rf]
theorem AW.putAny {a ix ci k t : Nat} {y : FieldType} {fin : Bool} {v : Value} {h' : Ah} (hf : FRef M.1.cls ix ci k t y fin) (hk : kd h a = (0, ci)) (hfin : fin = false ∨ (M.1.name = "<init>" ∧ FOwn M.1.cls ci k)) (hn : narrow y (cv G v) = cv G v) (hfit : fits y (cv G v) = true)
    (hs : (fv G h a (fty ci)).set k (cv G v) = fv G h' a (fty ci)) (hkd : ∀ b, kd h' b = kd h b) (hnc : nc h' = nc h) (ho : ∀ b, b ≠ a → ent G h' b = ent G h b) (hd : decode M.2.1 pc = .ok (.putfield ix, 3)) (kk : AW G M d c n K (pc + 3) ls st h') : AW G M d c n K pc ls (v :: .ref a :: st) h := by
  intro p l e R s m args below meth cd Q H locs cells slots L F h1 h2 hH hS hL
  obtain ⟨C, T, N, ty, ref, ⟨hc, hin, hty, hnm, hfl, hft⟩, hkN, ht, hy, hfi, hl, hsm, -⟩ := hf
  have hne := kd_ne hk (by decide)
  have hsame : ∀ x, s.fieldFound? (T k).1 (T k).2.1 (T k).2.2.1 = some x → s.fieldFound? ref (T k).2.1 (T k).2.2.1 = some x := fun x0 h0 => by
    rcases hsm with rfl | hsm
    · exact h0
    · exact u_same (F.2.2.2.2.1 _ hsm) x0 h0
  have hat := hH.at (ent_o (G := G) hk) hne
  have hlen : k < (fv G h a (fty ci)).length := by rw [fv_len, hfl]; exact hkN
  have hend : ∀ (H1 : Heap) (locs1 : List Loc), va_P G.2.1 cls ((wl G h).set (a - 32) (ad G a, .inr (ci, (fv G h a (fty ci)).set k (cv G v)))) H1 → va_D (zA G) ((wl G h).set (a - 32) (ad G a, .inr (ci, (fv G h a (fty ci)).set k (cv G v)))) → va_S (zA G) s.heap H1 locs1 → H1.size = H.size → W p l e R s m args below meth cd H1 locs1 cells slots Q (F0 m (pc + 3) L (st.map (cv G))) := by
    intro H1 locs1 hP1 hD1 hS1 hz
    rw [hs] at hP1
    exact kk p l e R s m args below meth cd Q H1 locs1 cells slots L F h1 h2 (hH.put hne hP1 hz (ent_o (by rw [hkd]; exact hk)) hnc hkd ho) hS1 hL
  have hsz : ∀ (H1 : Heap) (locs1 : List Loc), True := fun _ _ => trivial
  have hap := va_apart (own := M.1.cls) (D := G.2.1) (cl := cls) (tys := tysL G) (s := s) (args := args) F.2.2.2.2.1 hin ty hty hnm F.2.2.2.2.2.2.2.1 hc
  obtain ⟨r, q0, cell, q1, q2, q3, q4⟩ := hH.2.2 (a - 32) _ hat
  have hr : r = (C, T, N) := Option.some.inj (q0.symm.trans hc)
  subst hr
  obtain ⟨hSl, hfc, kC, hkC, hkind⟩ := F.2.2.2.2.2.2.2.1.1 ci _ hc
  obtain ⟨cf, kf, fi, f, hi, hsl⟩ := hSl k hkN
  have hst := (u_facts hfc hkC (u_lays F.2.2.2.2.1 hin hkN) hi).1
  have hD := wl_D G h
  have hdesc : parseFieldDescriptor (T k).2.2.1 = some y := by rw [hty k hkN, hy]
  have fin2 : ∀ H1 : Heap, H1[ad G a]? = some (cell.setSlot (G.2.1.2 ci k) (cv G v)) → H1.size = H.size → (∀ q : Nat, q ≠ ad G a → H1[q]? = H[q]?) → W p l e R s m args below meth cd H1 (locs ++ [⟨ad G a, G.2.1.2 ci k⟩]) cells slots Q (F0 m (pc + 3) L (st.map (cv G))) := by
    intro H1 e1 e2 e3
    exact hend H1 _ (hH.2.2.set hD hat ⟨_, hc, t_OB.to (V := updV (vp_V (fv G h a (fty ci))) k (cv G v)) ⟨_, e1, q2, q3, t_set q4 hap hkN (cv G v)⟩ (fun j _ => vp_updV_set hlen (cv G v) j)⟩ e3) (hD.set hat) (hS.put e2 e3 (hD.2 (a - 32) _ hat)) e2
  have hlay := F.2.2.2.2.1 _ (hin _ (u_in_lay hkN))
  unfold u_lay at hlay
  cases hfv : (T k).2.2.2 with
  | false =>
    rw [if_neg (by rw [hfv]; decide)] at hlay
    have h6 := u_store hfc hkC hkind hlay hi hdesc hn hfit
    refine W.putK F.1 F.2.1 (f := f) ⟨F.2.2.2.1, F.2.2.2.2.1 _ hl, ⟨_, _, _, hsame _ hi⟩, hst⟩ (by rw [q2]; exact h6) q1 q3 (by rw [hsl]; exact k2_hasslot (q4 k hkN)) rfl rfl hd fun H' e1 e2 e3 => ?_
    rw [hsl] at e1 ⊢
    exact fin2 H' e1 e2 e3
  | true =>
    rw [if_pos hfv] at hlay
    have hf2 : M.1.name = "<init>" ∧ FOwn M.1.cls ci k := by
      rcases hfin with q | q
      · rw [← hfi, hfv] at q; cases q
      · exact q
    have hdecl : (T k).1 = M.1.cls := by
      obtain ⟨-, r, hr1, hr2⟩ := hf2
      cases hr1.symm.trans hc
      exact hr2
    have hcf : m.cls = cf := by
      obtain ⟨_, _, c', _, _, _, -, -, hf', -, -, -, hown2, -⟩ := Cond.laysFinal_spec hlay
      have e1 : c' = cf := by have := hi.symm.trans hf'; simp at this; exact this.1.symm
      rw [hdecl] at hown2
      rw [← e1]; exact Option.some.inj (F.2.2.2.1.symm.trans hown2)
    have h6 := u_fits hfc hkC hkind (Or.inr hlay) hi hdesc hn hfit
    refine W.putFinK F.1 F.2.1 F.2.2.2.1 (F.2.2.2.2.1 _ hl) (hsame _ hi) hst hcf (F.2.2.2.2.2.1.trans hf2.1) (by rw [q2]; exact h6) q1 q3 (by rw [hsl]; exact k2_hasslot (q4 k hkN)) rfl rfl hd fun H' e1 e2 e3 => ?_
    rw [hsl] at e1 ⊢
    exact fin2 H' e1 e2 e3
theorem fv_sI {G : Gd} {h : Ah} {a k : Nat} {x : Int32} {ts : List Nat} (ht : ts.getD k 0 = 0) : (fv G h a ts).set k (.int x) = fv G (sI h a k x) a ts := by
  refine fv_set (by rw [if_pos ht, gI_sI, if_pos rfl, up_self]) fun j hj => ?_
  rw [gI_sI, if_pos rfl, up_ne _ _ hj, gR_sI]
theorem fv_sR {G : Gd} {h : Ah} {a k : Nat} {o : Option Nat} {ts : List Nat} (ht : ts.getD k 0 = 1) : (fv G h a ts).set k (cr G o) = fv G (sR h a k o) a ts := by
  refine fv_set (by rw [if_neg (by rw [ht]; decide), gR_sR, if_pos rfl, up_self]) fun j hj => ?_
  rw [gR_sR, if_pos rfl, up_ne _ _ hj, gI_sR]
theorem AW.putI {a ix ci k : Nat} {fin : Bool} {x : Int32} (hf : FRef M.1.cls ix ci k 0 .int fin) (hk : kd h a = (0, ci)) (hfin : fin = false ∨ (M.1.name = "<init>" ∧ FOwn M.1.cls ci k)) (hd : decode M.2.1 pc = .ok (.putfield ix, 3)) (kk : AW G M d c n K (pc + 3) ls st (sI h a k x)) : AW G M d c n K pc ls (.int x :: .ref a :: st) h := by
  have ht : (fty ci).getD k 0 = 0 := by obtain ⟨_, _, _, _, _, -, -, q, -⟩ := id hf; exact q
  exact AW.putAny (v := .int x) hf hk hfin rfl rfl (fv_sI ht) (fun b => rfl) rfl (fun b hb => ent_rI G h a b _ hb) hd kk
theorem AW.putZ {a ix ci k : Nat} {fin : Bool} {x : Int32} (hf : FRef M.1.cls ix ci k 0 .boolean fin) (hk : kd h a = (0, ci)) (hx : x = 0 ∨ x = 1) (hfin : fin = false ∨ (M.1.name = "<init>" ∧ FOwn M.1.cls ci k)) (hd : decode M.2.1 pc = .ok (.putfield ix, 3)) (kk : AW G M d c n K (pc + 3) ls st (sI h a k x)) : AW G M d c n K pc ls (.int x :: .ref a :: st) h := by
  have ht : (fty ci).getD k 0 = 0 := by obtain ⟨_, _, _, _, _, -, -, q, -⟩ := id hf; exact q
  exact AW.putAny (v := .int x) hf hk hfin (by rcases hx with rfl | rfl <;> rfl) (by rcases hx with rfl | rfl <;> rfl) (fv_sI ht) (fun b => rfl) rfl (fun b hb => ent_rI G h a b _ hb) hd kk
theorem AW.putR {a ix ci k : Nat} {y : FieldType} {fin : Bool} {o : Option Nat} {v : Value} (hf : FRef M.1.cls ix ci k 1 y fin) (hk : kd h a = (0, ci)) (hv : va_rf o = v) (hfin : fin = false ∨ (M.1.name = "<init>" ∧ FOwn M.1.cls ci k)) (hd : decode M.2.1 pc = .ok (.putfield ix, 3)) (kk : AW G M d c n K (pc + 3) ls st (sR h a k o)) : AW G M d c n K pc ls (v :: .ref a :: st) h := by
  subst hv
  obtain ⟨C, T, N, ty, ref, hcl, hkN, ht, hy, -⟩ := id hf
  have hr : y.isReference = true := by
    rcases hcl.2.2.2.2.2 k hkN with ⟨q, -⟩ | ⟨-, q⟩
    · rw [ht] at q; cases q
    · rw [← hy]; exact q
  have hnf : narrow y (cr G o) = cr G o ∧ fits y (cr G o) = true := by
    cases y <;> first | (exact absurd hr (by decide)) | (cases o <;> exact ⟨rfl, rfl⟩)
  refine AW.putAny (v := va_rf o) (h' := sR h a k o) hf hk hfin (by rw [cv_rf]; exact hnf.1) (by rw [cv_rf]; exact hnf.2) (by rw [cv_rf]; exact fv_sR ht) (fun b => rfl) rfl (fun b hb => ent_rR G h a b _ hb) hd kk
end HEAP
end
section
/-! ===== arrays, new cells ===== -/
/-- the type of the places of an array of tag t -/
def aty (t : Nat) : FieldType := match t with
  | 2 => .long
  | 3 => .byte
  | 4 => .object RX6
  | 5 => .object RX2
  | 6 => .object RX7
  | 7 => .array .int
  | _ => .int
theorem tys_at {G : Gd} {t : Nat} (h1 : 1 ≤ t) (h7 : t ≤ 7) : (tysL G)[t]? = some (G.2.2.1 t, aty t) := by
  rcases (show t = 1 ∨ t = 2 ∨ t = 3 ∨ t = 4 ∨ t = 5 ∨ t = 6 ∨ t = 7 by omega) with rfl | rfl | rfl | rfl | rfl | rfl | rfl <;> rfl
theorem ent_sI1 {G : Gd} {h : Ah} {a N k : Nat} {x : Int32} (hk : kd h a = (1, N)) : ent G (sI h a k x) a = .inl (G.2.2.1 1, N, .inl (up (gI h a) k x)) := by
  rw [ent_1 (G := G) (show kd (sI h a k x) a = (1, N) from hk), gI_sI, if_pos rfl]
theorem ent_sI3 {G : Gd} {h : Ah} {a N k : Nat} {x : Int32} (hk : kd h a = (3, N)) : ent G (sI h a k x) a = .inl (G.2.2.1 3, N, .inl (up (gI h a) k x)) := by
  rw [ent_3 (G := G) (show kd (sI h a k x) a = (3, N) from hk), gI_sI, if_pos rfl]
theorem ent_sL2 {G : Gd} {h : Ah} {a N k : Nat} {x : Int64} (hk : kd h a = (2, N)) : ent G (sL h a k x) a = .inl (G.2.2.1 2, N, .inr (.inl (up (gL h a) k x))) := by
  rw [ent_2 (G := G) (show kd (sL h a k x) a = (2, N) from hk), gL_sL, if_pos rfl]
theorem ent_sRq {G : Gd} {h : Ah} {a t N k : Nat} {x : Option Nat} (hk : kd h a = (t + 4, N)) : ent G (sR h a k x) a = .inl (G.2.2.1 (t + 4), N, .inr (.inr (.inr (.inr (fun j => (up (gR h a) k x j).map (ad G)))))) := by
  rw [ent_q (G := G) (show kd (sR h a k x) a = (t + 4, N) from hk), gR_sR, if_pos rfl]
section ARR
variable {G : Gd} {M : Mi} {d c n : Nat} {K : Ah → Option Value → Prop} {pc : Nat} {ls : List (Option Value)} {st : List Value} {h : Ah}
theorem AW.iald {a N : Nat} {i x : Int32} (hk : kd h a = (1, N)) (hin : vp_in i N) (hv : gI h a i.toNatClampNeg = x) (hd : decode M.2.1 pc = .ok (.iaload, 1)) (kk : AW G M d c n K (pc + 1) ls (.int x :: st) h) : AW G M d c n K pc ls (.int i :: .ref a :: st) h := by
  intro p l e R s m args below meth cd Q H locs cells slots L F h1 h2 hH hS hL
  subst hv
  exact va_iald F.1 F.2.1 F.2.2.2.2.2.2.2.1 hH.2.2 (a - 32) 1 (hH.at (ent_1 hk) (kd_ne hk (by decide))) rfl hin hd (kk p l e R s m args below meth cd Q H locs cells slots L F h1 h2 hH hS hL)
theorem AW.bald {a N : Nat} {i x : Int32} (hk : kd h a = (3, N)) (hin : vp_in i N) (hv : gI h a i.toNatClampNeg = x) (hd : decode M.2.1 pc = .ok (.baload, 1)) (kk : AW G M d c n K (pc + 1) ls (.int x :: st) h) : AW G M d c n K pc ls (.int i :: .ref a :: st) h := by
  intro p l e R s m args below meth cd Q H locs cells slots L F h1 h2 hH hS hL
  subst hv
  exact va_bald F.1 F.2.1 F.2.2.2.2.2.2.2.1 hH.2.2 (a - 32) 3 (hH.at (ent_3 hk) (kd_ne hk (by decide))) rfl hin hd (kk p l e R s m args below meth cd Q H locs cells slots L F h1 h2 hH hS hL)
theorem AW.lald {a N : Nat} {i : Int32} {x : Int64} (hk : kd h a = (2, N)) (hin : vp_in i N) (hv : gL h a i.toNatClampNeg = x) (hd : decode M.2.1 pc = .ok (.laload, 1)) (kk : AW G M d c n K (pc + 1) ls (.long x :: st) h) : AW G M d c n K pc ls (.int i :: .ref a :: st) h := by
  intro p l e R s m args below meth cd Q H locs cells slots L F h1 h2 hH hS hL
  subst hv
  exact va_lald F.1 F.2.1 F.2.2.2.2.2.2.2.1 hH.2.2 (a - 32) 2 (hH.at (ent_2 hk) (kd_ne hk (by decide))) rfl hin hd (kk p l e R s m args below meth cd Q H locs cells slots L F h1 h2 hH hS hL)
theorem AW.aald {a t N : Nat} {i : Int32} {v : Value} (hk : kd h a = (t + 4, N)) (ht : t ≤ 3) (hin : vp_in i N) (hv : va_rf (gR h a i.toNatClampNeg) = v) (hd : decode M.2.1 pc = .ok (.aaload, 1)) (kk : AW G M d c n K (pc + 1) ls (v :: st) h) : AW G M d c n K pc ls (.int i :: .ref a :: st) h := by
  intro p l e R s m args below meth cd Q H locs cells slots L F h1 h2 hH hS hL
  subst hv
  have hlt : i.toNatClampNeg < N := Nat.not_le.mp fun q => hin (Or.inr q)
  have hat := hH.at (ent_q (G := G) hk) (kd_ne hk (by omega))
  have hT := tys_at (G := G) (t := t + 4) (by omega) (by omega)
  have hr : (aty (t + 4)).isReference = true := by
    rcases (show t = 0 ∨ t = 1 ∨ t = 2 ∨ t = 3 by omega) with rfl | rfl | rfl | rfl <;> rfl
  have hk2 := kk p l e R s m args below meth cd Q H locs cells slots L F h1 h2 hH hS hL
  refine W.aald (v := cr G (gR h a i.toNatClampNeg)) (ty := aty (t + 4)) F.1 F.2.1 (hH.2.2 (a - 32) _ hat) ((F.2.2.2.2.2.2.2.1.2 (t + 4) _ hT).1 N (fun j => va_rf ((gR h a j).map (ad G)))) hr (fun q => by cases q) (by show ¬ (i < 0 ∨ (arrV _ _ _).slots.size ≤ _); rw [arrV_size]; exact hin) (by show (arrV _ _ _).slots[_]? = _; rw [arrV_read _ _ hlt]; rfl) rfl rfl hd ?_
  rw [List.map_cons, cv_rf] at hk2
  exact hk2
theorem AW.iast {a N : Nat} {i x : Int32} (hk : kd h a = (1, N)) (hin : vp_in i N) (hd : decode M.2.1 pc = .ok (.iastore, 1)) (kk : AW G M d c n K (pc + 1) ls st (sI h a i.toNatClampNeg x)) : AW G M d c n K pc ls (.int x :: .int i :: .ref a :: st) h := by
  intro p l e R s m args below meth cd Q H locs cells slots L F h1 h2 hH hS hL
  have hne := kd_ne hk (by decide)
  have hat := hH.at (ent_1 (G := G) hk) hne
  have hD := wl_D G h
  refine W.iast F.1 F.2.1 (hH.2.2 (a - 32) _ hat) ((F.2.2.2.2.2.2.2.1.2 1 _ rfl).1 N (fun j => .int (gI h a j))) (fun q => by cases q) (by show ¬ (i < 0 ∨ (arrV _ _ _).slots.size ≤ _); rw [arrV_size]; exact hin) rfl rfl hd fun H1 e1 e2 e3 => ?_
  have hP1 : va_P G.2.1 cls ((wl G h).set (a - 32) (ad G a, .inl (G.2.2.1 1, N, .inl (up (gI h a) i.toNatClampNeg x)))) H1 := hH.2.2.set hD hat (by
    show H1[ad G a]? = some (vp_cell _ _)
    rw [e1, vp_cell_i, vp_cell_i, arrV_store]
    congr 2
    funext q
    by_cases hq : q = i.toNatClampNeg
    · subst hq; simp [updV, up]
    · simp [updV, up, hq]) e3
  exact kk p l e R s m args below meth cd Q H1 _ cells slots L F h1 h2 (hH.put (h' := sI h a i.toNatClampNeg x) hne hP1 e2 (ent_sI1 hk) rfl (fun _ => rfl) (fun b hb => ent_rI G h a b _ hb)) (hS.put e2 e3 (hD.2 (a - 32) _ hat)) hL
theorem AW.bast {a N : Nat} {i x : Int32} (hk : kd h a = (3, N)) (hin : vp_in i N) (hd : decode M.2.1 pc = .ok (.bastore, 1)) (kk : AW G M d c n K (pc + 1) ls st (sI h a i.toNatClampNeg x.toInt8.toInt32)) : AW G M d c n K pc ls (.int x :: .int i :: .ref a :: st) h := by
  intro p l e R s m args below meth cd Q H locs cells slots L F h1 h2 hH hS hL
  have hne := kd_ne hk (by decide)
  have hat := hH.at (ent_3 (G := G) hk) hne
  have hD := wl_D G h
  refine W.bast F.1 F.2.1 (hH.2.2 (a - 32) _ hat) ((F.2.2.2.2.2.2.2.1.2 3 _ rfl).1 N (fun j => .int (gI h a j))) (fun q => by cases q) (by show ¬ (i < 0 ∨ (arrV _ _ _).slots.size ≤ _); rw [arrV_size]; exact hin) rfl rfl hd fun H1 e1 e2 e3 => ?_
  have hP1 : va_P G.2.1 cls ((wl G h).set (a - 32) (ad G a, .inl (G.2.2.1 3, N, .inl (up (gI h a) i.toNatClampNeg x.toInt8.toInt32)))) H1 := hH.2.2.set hD hat (by
    show H1[ad G a]? = some (vp_cell _ _)
    rw [e1, vp_cell_i, vp_cell_i, arrV_store]
    congr 2
    funext q
    by_cases hq : q = i.toNatClampNeg
    · subst hq; simp [updV, up, narrow]
    · simp [updV, up, hq]) e3
  exact kk p l e R s m args below meth cd Q H1 _ cells slots L F h1 h2 (hH.put (h' := sI h a i.toNatClampNeg x.toInt8.toInt32) hne hP1 e2 (ent_sI3 hk) rfl (fun _ => rfl) (fun b hb => ent_rI G h a b _ hb)) (hS.put e2 e3 (hD.2 (a - 32) _ hat)) hL
theorem AW.last {a N : Nat} {i : Int32} {x : Int64} (hk : kd h a = (2, N)) (hin : vp_in i N) (hd : decode M.2.1 pc = .ok (.lastore, 1)) (kk : AW G M d c n K (pc + 1) ls st (sL h a i.toNatClampNeg x)) : AW G M d c n K pc ls (.long x :: .int i :: .ref a :: st) h := by
  intro p l e R s m args below meth cd Q H locs cells slots L F h1 h2 hH hS hL
  have hne := kd_ne hk (by decide)
  have hat := hH.at (ent_2 (G := G) hk) hne
  have hD := wl_D G h
  refine W.last F.1 F.2.1 (hH.2.2 (a - 32) _ hat) ((F.2.2.2.2.2.2.2.1.2 2 _ rfl).1 N (fun j => .long (gL h a j))) (fun q => by cases q) (by show ¬ (i < 0 ∨ (arrV _ _ _).slots.size ≤ _); rw [arrV_size]; exact hin) rfl rfl hd fun H1 e1 e2 e3 => ?_
  have hP1 : va_P G.2.1 cls ((wl G h).set (a - 32) (ad G a, .inl (G.2.2.1 2, N, .inr (.inl (up (gL h a) i.toNatClampNeg x))))) H1 := hH.2.2.set hD hat (by
    show H1[ad G a]? = some (vp_cell _ _)
    rw [e1, vp_cell_l, vp_cell_l, arrV_store]
    congr 2
    funext q
    by_cases hq : q = i.toNatClampNeg
    · subst hq; simp [updV, up]
    · simp [updV, up, hq]) e3
  exact kk p l e R s m args below meth cd Q H1 _ cells slots L F h1 h2 (hH.put (h' := sL h a i.toNatClampNeg x) hne hP1 e2 (ent_sL2 hk) rfl (fun _ => rfl) (fun b hb => ent_rL G h a b _ hb)) (hS.put e2 e3 (hD.2 (a - 32) _ hat)) hL
/-- a reference to an object into an array: its class is the places', or is under it -/
theorem AW.aast {a t N ci v : Nat} {i : Int32} (hk : kd h a = (t + 4, N)) (ht : t ≤ 2) (hin : vp_in i N) (hkv : kd h v = (0, ci)) (hci : (t = 0 ∧ (ci = 6 ∨ ci = 5 ∨ ci = 4 ∨ ci = 3 ∨ ci = 9 ∨ ci = 1)) ∨ (t = 1 ∧ ci = 2) ∨ (t = 2 ∧ ci = 7)) (hd : decode M.2.1 pc = .ok (.aastore, 1)) (kk : AW G M d c n K (pc + 1) ls st (sR h a i.toNatClampNeg (some v))) : AW G M d c n K pc ls (.ref v :: .int i :: .ref a :: st) h := by
  intro p l e R s m args below meth cd Q H locs cells slots L F h1 h2 hH hS hL
  have hne := kd_ne hk (by omega)
  have hat := hH.at (ent_q (G := G) hk) hne
  have hD := wl_D G h
  have hT := tys_at (G := G) (t := t + 4) (by omega) (by omega)
  have hKs := F.2.2.2.2.2.2.2.1
  have hnw := F.2.2.2.2.2.2.2.2.1.2.2.2.2.2.2.1
  have hvat := hH.at (ent_o (G := G) hkv) (kd_ne hkv (by decide))
  obtain ⟨E, hE, hany⟩ : ∃ E : String, aty (t + 4) = .object E ∧ va_Any E s H (ad G v) := by
    have self : ∀ (r : vw_C) (E : String), cls[ci]? = some r → r.1 = E → va_Any E s H (ad G v) := fun r E hc hE => va_rAny hKs hH.2.2 hvat hc fun comp c0 e1 e2 => by
      rw [hE] at e2
      cases e1.symm.trans e2
      exact va_assign (hE ▸ (hKs.1 ci r hc).2 : ClassAt s E (G.2.1.1 ci)) |> fun q => by
        have e3 : G.2.1.1 ci = comp := Option.some.inj ((hKs.1 ci r hc).2.1.symm.trans (hE ▸ e1))
        rw [← e3]; exact va_assign (hKs.1 ci r hc).2
    have under : ∀ (r : vw_C), cls[ci]? = some r → Cond.castable r.1 RX6 ∈ nwL → va_Any RX6 s H (ad G v) := fun r hc hw => va_rAny hKs hH.2.2 hvat hc fun comp c0 e1 e2 => by
      obtain ⟨c1, t1, f1, f2, f3⟩ := Cond.castable_spec (va_Nw.use (A := args) rfl (hnw _ hw))
      cases f1.symm.trans e2
      cases f2.symm.trans e1
      exact f3
    rcases hci with ⟨rfl, h0⟩ | ⟨rfl, rfl⟩ | ⟨rfl, rfl⟩
    · refine ⟨RX6, rfl, ?_⟩
      rcases h0 with rfl | rfl | rfl | rfl | rfl | rfl
      · exact self _ _ rfl rfl
      · exact under _ rfl (by simp [nwL])
      · exact under _ rfl (by simp [nwL])
      · exact under _ rfl (by simp [nwL])
      · exact under _ rfl (by simp [nwL])
      · exact under _ rfl (by simp [nwL])
    · exact ⟨RX2, rfl, self _ _ rfl rfl⟩
    · exact ⟨RX7, rfl, self _ _ rfl rfl⟩
  rw [hE] at hT
  have hlt : i.toNatClampNeg < N := Nat.not_le.mp fun q => hin (Or.inr q)
  have h0 : ¬ i < 0 := fun q => hin (Or.inl q)
  obtain ⟨cellV, g1, g3, ⟨kC, hkC⟩, hasg⟩ := hany
  obtain ⟨kA, comp, k1, k2, k3, -⟩ := (hKs.2 (t + 4) _ hT).2
  obtain ⟨kE, hkE, -⟩ := Vm.findClass_spec k3
  refine W.aast F.1 F.2.1 (hH.2.2 (a - 32) _ hat) (fun q h => by cases h) (fun h => by cases h) k1 k2 rfl hkE ⟨h0, by show _ < (arrV _ _ _).slots.size; rw [arrV_size]; exact hlt⟩ g1 (fun q h => by rw [h] at g3; cases g3) hkC (hasg _ k3) rfl rfl hd fun H1 e1 e2 e3 => ?_
  have hP1 : va_P G.2.1 cls ((wl G h).set (a - 32) (ad G a, .inl (G.2.2.1 (t + 4), N, .inr (.inr (.inr (.inr (fun j => (up (gR h a) i.toNatClampNeg (some v) j).map (ad G)))))))) H1 := hH.2.2.set hD hat (by
    show H1[ad G a]? = some (vp_cell _ _)
    rw [e1, vp_cell_q, vp_cell_q, arrV_store]
    congr 2
    funext q
    by_cases hq : q = i.toNatClampNeg
    · subst hq; simp [updV, up, va_rf]
    · simp [updV, up, hq]) e3
  exact kk p l e R s m args below meth cd Q H1 _ cells slots L F h1 h2 (hH.put (h' := sR h a i.toNatClampNeg (some v)) hne hP1 e2 (ent_sRq hk) rfl (fun _ => rfl) (fun b hb => ent_rR G h a b _ hb)) (hS.put e2 e3 (hD.2 (a - 32) _ hat)) hL
theorem AW.alen {a t N : Nat} {v : Int32} (hk : kd h a = (t, N)) (ht1 : 1 ≤ t) (ht7 : t ≤ 7) (hv : Int32.ofNat N = v) (hd : decode M.2.1 pc = .ok (.arraylength, 1)) (kk : AW G M d c n K (pc + 1) ls (.int v :: st) h) : AW G M d c n K pc ls (.ref a :: st) h := by
  intro p l e R s m args below meth cd Q H locs cells slots L F h1 h2 hH hS hL
  have hat := hH.get (a := a) (kd_ne hk (by omega))
  have hT := tys_at (G := G) ht1 ht7
  have hk2 := kk p l e R s m args below meth cd Q H locs cells slots L F h1 h2 hH hS hL
  obtain ⟨x, hx, hx1⟩ : ∃ x : vp_A, ent G h a = .inl (G.2.2.1 t, x) ∧ x.1 = N := by
    rcases (show t = 1 ∨ t = 2 ∨ t = 3 ∨ ∃ u, t = u + 4 by rcases t with _ | _ | _ | _ | t; omega; omega; omega; omega; exact Or.inr (Or.inr (Or.inr ⟨t, rfl⟩))) with rfl | rfl | rfl | ⟨u, rfl⟩
    · exact ⟨_, ent_1 hk, rfl⟩
    · exact ⟨_, ent_2 hk, rfl⟩
    · exact ⟨_, ent_3 hk, rfl⟩
    · exact ⟨_, ent_q hk, rfl⟩
  rw [hx] at hat
  exact va_alen F.1 F.2.1 F.2.2.2.2.2.2.2.1 hH.2.2 (a - 32) t hat hT (by rw [hx1]; exact hv) hd hk2
end ARR
end
section
/-! ===== calls ===== -/
def YOk (Y : Mi) : Prop := Cond.code Y.1 Y.2.1 Y.2.2.1 Y.2.2.2 ∈ WS ∧ Cond.initialized Y.1.cls ∈ WS ∧ (Y.1.cls ≠ "java/lang/invoke/MethodHandle" ∧ Y.1.cls ≠ "java/lang/invoke/VarHandle") ∧ plainName Y.1.cls = true ∧ Y.2.2.1 ≤ 40
def YN (x : MethodName) (k : Nat) : Prop := (parseMethodDescriptor x.desc).map (fun d => d.parameters.length) = some k
theorem YN.of {x : MethodName} {k : Nat} (h : YN x k) : ∀ sig, parseMethodDescriptor x.desc = some sig → k = sig.parameters.length := fun sig q => by
  unfold YN at h
  rw [q] at h
  exact (Option.some.inj h).symm
theorem ws_self (Y : Mi) (hY : YOk Y) : ∀ w ∈ Cond.code Y.1 Y.2.1 Y.2.2.1 Y.2.2.2 :: WS, w ∈ WS := fun w hw => by
  rcases List.mem_cons.mp hw with rfl | h
  · exact hY.1
  · exact h
theorem pc_blind (G : Gd) (as : List Value) (h : Ah) : FrameBlind (PcA G as h) := fun a U g mk q => by
  obtain ⟨q1, q2, q3, q4⟩ := q
  exact ⟨q1, q2, va_K.moved (u := U) (U := U.calling g mk a) (Vm.Alike.refl U.vm) q3, Ex.same (u := U) (U := U.calling g mk a) rfl q4⟩
section CALL
variable {G : Gd} {M : Mi} {d : Nat} {K : Ah → Option Value → Prop} {p : Program} {l : Launch} {e : Env} {R : Room} {s : State} {m : MethodId} {args : Array Value} {below : List Frame} {meth : Method} {cd : Code} {Q : State → Prop} {H : Heap} {locs : List Loc} {cells slots : Nat} {h : Ah}
theorem pre_go {as : List Value} (F : Fr G M d K p l e R s m args below meth cd Q) (hH : Hp G h H) (hS : va_S (zA G) s.heap H locs) : ∀ U : State, U.heap = H → s.WarmedH U.vm → PcA G as h (as.map (cv G)).toArray U := fun U hU hW =>
  ⟨rfl, by rw [hU]; exact hH, va_K.moved hW.alike F.2.2.2.2.2.2.2.1, Ex.warm hW (fun a h1 h2 => by rw [hU]; exact hS.2.1 a h1 h2) F.2.2.2.2.2.2.2.2.1⟩
theorem run_on {c1 n1 pc : Nat} {L : Array Slot} {st0 rest : List Value} {a : Array Value} {K' : Ah → Option Value → Prop} (hr : va_Run p l e R s m args below meth cd H locs cells slots c1 n1 (F0 m pc L st0) (rest.map (cv G)) (QcA G K' a) (zA G)) (hS : va_S (zA G) s.heap H locs)
    (hk : ∀ (v : Option Value) (h' : Ah) (H1 : Heap) (locs1 : List Loc), K' h' v → Hp G h' H1 → va_S (zA G) s.heap H1 locs1 → W p l e R s m args below meth cd H1 locs1 (cells + c1) (slots + n1) Q (F0 m (pc + 3) L ((v.toList ++ rest).map (cv G)))) : W p l e R s m args below meth cd H locs cells slots Q (F0 m pc L st0) := by
  intro T hT X
  obtain ⟨v0, st₀, t, T', L2, h0, X', hL, e1, e2, ⟨⟨v, h', hv, hk', hp⟩, hz, hkp⟩, st⟩ := hr T hT X
  have hv0 : v0 = v.map (cv G) := Outcome.returned.inj hv
  subst hv0
  rw [h0] at hz hkp
  obtain ⟨t2, a1, b1⟩ := hk v h' T'.heap (locs ++ L2) hk' (by rw [e1]; exact hp)
    ⟨Nat.le_trans hS.1 (by rw [e1]; exact hz), fun q h1 h2 => by rw [e1, hkp q (Nat.lt_of_lt_of_le h1 hS.1) h2]; exact hS.2.1 q h1 h2, fun q hq => by
      rcases List.mem_append.mp hq with h | h
      · exact hS.2.2 q h
      · exact hL q h⟩ T' rfl X'
  refine ⟨t2, st t2 ?_, b1⟩
  have e3 : (v.map (cv G)).toList ++ rest.map (cv G) = (v.toList ++ rest).map (cv G) := by cases v <;> rfl
  show Steps p.tables e below (T'.setTop (F0 m (pc + 3) L ((v.map (cv G)).toList ++ rest.map (cv G)))) t2
  rw [e3]
  exact a1
end CALL
theorem callB_go {G : Gd} {M : Mi} {d : Nat} {K : Ah → Option Value → Prop} {p : Program} {l : Launch} {e : Env} {R : Room} {s : State} {m : MethodId} {args : Array Value} {below : List Frame} {meth : Method} {cd : Code} {Q : State → Prop} (F : Fr G M (d + 1) K p l e R s m args below meth cd Q) {Y : Mi} {ix k c1 n1 : Nat} (hY : YOk Y) (hn : YN Y.1 k) (hl : Cond.methodLink M.1.cls ix Y.1 ∈ WS) :
    CallB R s args M.1.cls ix Y.1 Y.2.1 Y.2.2.1 Y.2.2.2 (Cond.code Y.1 Y.2.1 Y.2.2.1 Y.2.2.2 :: WS) { frames := d, cells := c1, slots := n1, locals := 64 * d } c1 n1 k := by
  have hw := F.2.2.2.2.1
  obtain ⟨r1, r2⟩ := F.2.2.2.2.2.2.1
  obtain ⟨y1, y2, y3, y4, y5⟩ := hY
  exact callB_of (ws' := WS) k hw (ws_good (ws_self Y ⟨y1, y2, y3, y4, y5⟩)) rfl rfl rfl (hw _ y2) (hw _ hl) ⟨y3.1, y3.2, hn⟩ ⟨r1, by show 8 + (Y.2.2.1 + 11) + 64 * d ≤ R.locals; omega⟩
theorem fix_go {G : Gd} {M : Mi} {d : Nat} {K : Ah → Option Value → Prop} {p : Program} {l : Launch} {e : Env} {R : Room} {s : State} {m : MethodId} {args : Array Value} {below : List Frame} {meth : Method} {cd : Code} {Q : State → Prop} (F : Fr G M d K p l e R s m args below meth cd Q) : CallFix p m cd M.2.1 M.2.2.1 s args WS M.1.cls := ⟨F.1, F.2.1, F.2.2.1, F.2.2.2.1, F.2.2.2.2.1⟩
theorem mapRev (G : Gd) (as rest : List Value) : (as.reverse ++ rest).map (cv G) = (as.map (cv G)).reverse ++ rest.map (cv G) := by rw [List.map_append, List.map_reverse]
theorem room_go {G : Gd} {rest : List Value} {m : MethodId} {pc : Nat} {L : Array Slot} {st : List Value} (h : (rest.map fun v => v.category).sum ≤ 8) : 2 * (F0 m pc L st).monitorRoom + ((rest.map (cv G)).map fun v => v.category).sum ≤ 8 := lv_room (by rw [cv_cats]; exact h)
/-- what a static call, a call of a method of the receiver's own class, of a constructor asks of the words -/
def StOk (own : String) (ix : Nat) (Y : Mi) (k : Nat) : Prop := YOk Y ∧ YN Y.1 k ∧ Cond.methodLink own ix Y.1 ∈ WS ∧ Cond.static Y.1 ∈ WS
def ViOk (own : String) (ix ci : Nat) (Y : Mi) (k : Nat) : Prop := YOk Y ∧ YN Y.1 k ∧ Cond.methodLink own ix Y.1 ∈ WS ∧ Cond.instanceMethod Y.1 ∈ WS ∧ ∃ r : vw_C, cls[ci]? = some r ∧ Cond.selects r.1 Y.1 Y.1 ∈ WS
def InOk (own : String) (ix : Nat) (Y : Mi) (k : Nat) : Prop := YOk Y ∧ YN Y.1 k ∧ Cond.methodLink own ix Y.1 ∈ WS ∧ Cond.instanceMethod Y.1 ∈ WS ∧ Y.1.name = "<init>" ∧ Y.2.2.2 = none
def InnOk (own : String) (ix : Nat) (Y : Mi) (k : Nat) : Prop := YOk Y ∧ YN Y.1 k ∧ Cond.methodLinkNest own ix Y.1 RX11 ∈ nwL ∧ Cond.instanceMethod Y.1 ∈ WS ∧ Y.1.name = "<init>" ∧ Y.2.2.2 = none
/-- what is named is x, what runs is Y -/
def VuOk (own : String) (ix ci : Nat) (x : MethodName) (Y : Mi) (k : Nat) : Prop := YOk Y ∧ YN x k ∧ Cond.methodLink own ix x ∈ WS ∧ Cond.sameMethod x.cls x.cls x.name x.desc ∈ WS ∧ Cond.instanceMethod x ∈ WS ∧ (∃ b n r, Cond.code x b n r ∈ WS) ∧ (x.cls ≠ "java/lang/invoke/MethodHandle" ∧ x.cls ≠ "java/lang/invoke/VarHandle") ∧ Cond.instanceMethod Y.1 ∈ WS ∧ ∃ r : vw_C, cls[ci]? = some r ∧ Cond.selects r.1 x Y.1 ∈ WS
def SuOk (own : String) (ix : Nat) (Y : Mi) (k : Nat) : Prop := YOk Y ∧ YN Y.1 k ∧ Cond.methodLink own ix Y.1 ∈ WS ∧ Cond.sameMethod Y.1.cls Y.1.cls Y.1.name Y.1.desc ∈ WS ∧ Cond.superclass own Y.1.cls ∈ WS ∧ Cond.instanceMethod Y.1 ∈ WS ∧ Y.1.name ≠ "<init>"
section CALLS
variable {G : Gd} {M : Mi} {d c n : Nat} {K : Ah → Option Value → Prop} {pc : Nat} {ls : List (Option Value)} {st : List Value} {h : Ah}
theorem AW.invs {ix k c1 n1 : Nat} {Y : Mi} {as rest : List Value} (hY : StOk M.1.cls ix Y k) (hd : decode M.2.1 pc = .ok (.invokestatic ix, 3)) (hst : as.reverse ++ rest = st) (hk : as.length = k) (hr : (rest.map fun v => v.category).sum ≤ 8)
    (kk : AM G d c1 n1 Y as h (fun h' v => AW G M (d + 1) c n K (pc + 3) ls (v.toList ++ rest) h')) : AW G M (d + 1) (c1 + c) (n1 + n) K pc ls st h := by
  intro p l e R s m args below meth cd Q H locs cells slots L F h1 h2 hH hS hL
  obtain ⟨y1, y2, y3, y4⟩ := hY
  subst hst
  rw [mapRev]
  exact run_on (va_runS (As := as.map (cv G)) (fix_go F) (kk l) ⟨callB_go F y1 y2 y3, F.2.2.2.2.1 _ y4⟩ ⟨pc_blind G as h, pre_go F hH hS⟩ rfl (by rw [List.length_map]; exact hk) (hL.1) rfl (room_go hr) hd ⟨by omega, by omega⟩) hS
    fun v h' H1 locs1 q hH1 hS1 => q p l e R s m args below meth cd Q H1 locs1 (cells + c1) (slots + n1) L F (by omega) (by omega) hH1 hS1 hL
theorem AW.invv {ix ci k a c1 n1 : Nat} {Y : Mi} {as rest : List Value} (hY : ViOk M.1.cls ix ci Y k) (hka : kd h a = (0, ci)) (hd : decode M.2.1 pc = .ok (.invokevirtual ix, 3)) (hst : as.reverse ++ .ref a :: rest = st) (hk : as.length = k) (hr : (rest.map fun v => v.category).sum ≤ 8)
    (kk : AM G d c1 n1 Y (.ref a :: as) h (fun h' v => AW G M (d + 1) c n K (pc + 3) ls (v.toList ++ rest) h')) : AW G M (d + 1) (c1 + c) (n1 + n) K pc ls st h := by
  intro p l e R s m args below meth cd Q H locs cells slots L F h1 h2 hH hS hL
  obtain ⟨y1, y2, y3, y4, r, y5, y6⟩ := hY
  subst hst
  rw [mapRev]
  have hw := F.2.2.2.2.1
  exact run_on (va_runV (As := as.map (cv G)) (C := r.1) (b := ad G a) (rest := rest.map (cv G)) (fix_go F) (kk l) ⟨callB_go F y1 y2 y3, hw _ y4, hw _ y6⟩ ⟨pc_blind G (.ref a :: as) h, va_recv F.2.2.2.2.2.2.2.1 hH.2.2 y5 (hH.at (ent_o hka) (kd_ne hka (by decide))), pre_go (as := .ref a :: as) F hH hS⟩ rfl (by rw [List.length_map]; exact hk) (hL.1) rfl (room_go hr) hd ⟨by omega, by omega⟩) hS
    fun v h' H1 locs1 q hH1 hS1 => q p l e R s m args below meth cd Q H1 locs1 (cells + c1) (slots + n1) L F (by omega) (by omega) hH1 hS1 hL
theorem AW.invi {ix k a c1 n1 : Nat} {Y : Mi} {as rest : List Value} (hY : InOk M.1.cls ix Y k) (hd : decode M.2.1 pc = .ok (.invokespecial ix, 3)) (hst : as.reverse ++ .ref a :: rest = st) (hk : as.length = k) (hr : (rest.map fun v => v.category).sum ≤ 8)
    (kk : AM G d c1 n1 Y (.ref a :: as) h (fun h' v => AW G M (d + 1) c n K (pc + 3) ls (v.toList ++ rest) h')) : AW G M (d + 1) (c1 + c) (n1 + n) K pc ls st h := by
  intro p l e R s m args below meth cd Q H locs cells slots L F h1 h2 hH hS hL
  obtain ⟨y1, y2, y3, y4, y5, y6⟩ := hY
  subst hst
  rw [mapRev]
  have hw := F.2.2.2.2.1
  have hcb := callB_go (c1 := c1) (n1 := n1) F y1 y2 y3
  rw [y6] at hcb
  have hkl := kk l
  rw [y6] at hkl
  exact run_on (va_runI (As := as.map (cv G)) (b := ad G a) (rest := rest.map (cv G)) (fix_go F) hkl ⟨hcb, y5, hw _ y4⟩ ⟨pc_blind G (.ref a :: as) h, pre_go (as := .ref a :: as) F hH hS⟩ rfl (by rw [List.length_map]; exact hk) (hL.1) rfl (room_go hr) hd ⟨by omega, by omega⟩) hS
    fun v h' H1 locs1 q hH1 hS1 => q p l e R s m args below meth cd Q H1 locs1 (cells + c1) (slots + n1) L F (by omega) (by omega) hH1 hS1 hL
theorem AW.invn {ix k a c1 n1 : Nat} {Y : Mi} {as rest : List Value} (hY : InnOk M.1.cls ix Y k) (hd : decode M.2.1 pc = .ok (.invokespecial ix, 3)) (hst : as.reverse ++ .ref a :: rest = st) (hk : as.length = k) (hr : (rest.map fun v => v.category).sum ≤ 8)
    (kk : AM G d c1 n1 Y (.ref a :: as) h (fun h' v => AW G M (d + 1) c n K (pc + 3) ls (v.toList ++ rest) h')) : AW G M (d + 1) (c1 + c) (n1 + n) K pc ls st h := by
  intro p l e R s m args below meth cd Q H locs cells slots L F h1 h2 hH hS hL
  obtain ⟨y1, y2, y3, y4, y5, y6⟩ := hY
  subst hst
  rw [mapRev]
  have hw := F.2.2.2.2.1
  obtain ⟨r1, r2⟩ := F.2.2.2.2.2.2.1
  have hkl := kk l
  have hcb := va_cnB (R := R) (args := args) (own := M.1.cls) (index := ix) (y := Y.1) (bytes := Y.2.1) (maxL := Y.2.2.1) (ret := Y.2.2.2) (ws := Cond.code Y.1 Y.2.1 Y.2.2.1 Y.2.2.2 :: WS) (ws' := WS) (rm := { frames := d, cells := c1, slots := n1, locals := 64 * d }) (mc := c1) (ms := n1) k hw (ws_good (ws_self Y y1)) rfl rfl rfl (F.2.2.2.2.2.2.2.2.1.2.2.2.2.2.2.1 _ y3) (hw _ y1.2.1) ⟨y1.2.2.1.1, y1.2.2.1.2, y2⟩ ⟨r1, by obtain ⟨-, -, -, -, q⟩ := y1; show 8 + (Y.2.2.1 + 11) + 64 * d ≤ R.locals; omega⟩
  rw [y6] at hkl hcb
  exact run_on (va_runIN (As := as.map (cv G)) (b := ad G a) (rest := rest.map (cv G)) (fix_go F) hkl ⟨hcb, y5, hw _ y4⟩ ⟨pc_blind G (.ref a :: as) h, pre_go (as := .ref a :: as) F hH hS⟩ rfl (by rw [List.length_map]; exact hk) (hL.1) rfl (room_go hr) hd ⟨by omega, by omega⟩) hS
    fun v h' H1 locs1 q hH1 hS1 => q p l e R s m args below meth cd Q H1 locs1 (cells + c1) (slots + n1) L F (by omega) (by omega) hH1 hS1 hL
theorem AW.invu {ix ci k a c1 n1 : Nat} {x : MethodName} {Y : Mi} {as rest : List Value} (hY : VuOk M.1.cls ix ci x Y k) (hka : kd h a = (0, ci)) (hd : decode M.2.1 pc = .ok (.invokevirtual ix, 3)) (hst : as.reverse ++ .ref a :: rest = st) (hk : as.length = k) (hr : (rest.map fun v => v.category).sum ≤ 8)
    (kk : AM G d c1 n1 Y (.ref a :: as) h (fun h' v => AW G M (d + 1) c n K (pc + 3) ls (v.toList ++ rest) h')) : AW G M (d + 1) (c1 + c) (n1 + n) K pc ls st h := by
  intro p l e R s m args below meth cd Q H locs cells slots L F h1 h2 hH hS hL
  obtain ⟨y1, y2, y3, y4, y5, ⟨b0, m0, r0, y6⟩, y7, y8, r, y9, y10⟩ := hY
  subst hst
  rw [mapRev]
  have hw := F.2.2.2.2.1
  obtain ⟨r1, r2⟩ := F.2.2.2.2.2.2.1
  have hcu : va_CU R s args M.1.cls r.1 x.cls ix x Y.1 Y.2.1 Y.2.2.1 Y.2.2.2 (Cond.code Y.1 Y.2.1 Y.2.2.1 Y.2.2.2 :: WS) { frames := d, cells := c1, slots := n1, locals := 64 * d } c1 n1 k :=
    ⟨⟨rfl, rfl, r1, by obtain ⟨-, -, -, -, q⟩ := y1; show 8 + (Y.2.2.1 + 11) + 64 * d ≤ R.locals; omega, pay_in hw (ws_good (ws_self Y y1)), List.mem_cons_self⟩, hw _ y1.1, hw _ y1.2.1, y7, y2.of, hw _ y3, hw _ y4, va_Decl.of (hw _ y5) (hw _ y6), hw _ y10, hw _ y8⟩
  exact run_on (va_runU (As := as.map (cv G)) (C := r.1) (b := ad G a) (rest := rest.map (cv G)) (fix_go F) (kk l) hcu ⟨pc_blind G (.ref a :: as) h, va_recv F.2.2.2.2.2.2.2.1 hH.2.2 y9 (hH.at (ent_o hka) (kd_ne hka (by decide))), pre_go (as := .ref a :: as) F hH hS⟩ rfl (by rw [List.length_map]; exact hk) (hL.1) rfl (room_go hr) hd ⟨by omega, by omega⟩) hS
    fun v h' H1 locs1 q hH1 hS1 => q p l e R s m args below meth cd Q H1 locs1 (cells + c1) (slots + n1) L F (by omega) (by omega) hH1 hS1 hL
theorem AW.invsu {ix ci k a c1 n1 : Nat} {Y : Mi} {as rest : List Value} {C : String} {T : u_T} {N : Nat} (hY : SuOk M.1.cls ix Y k) (hka : kd h a = (0, ci)) (hc : cls[ci]? = some (C, T, N)) (hd : decode M.2.1 pc = .ok (.invokespecial ix, 3)) (hst : as.reverse ++ .ref a :: rest = st) (hk : as.length = k) (hr : (rest.map fun v => v.category).sum ≤ 8)
    (kk : AM G d c1 n1 Y (.ref a :: as) h (fun h' v => AW G M (d + 1) c n K (pc + 3) ls (v.toList ++ rest) h')) : AW G M (d + 1) (c1 + c) (n1 + n) K pc ls st h := by
  intro p l e R s m args below meth cd Q H locs cells slots L F h1 h2 hH hS hL
  obtain ⟨y1, y2, y3, y4, y5, y6, y7⟩ := hY
  subst hst
  rw [mapRev]
  have hw := F.2.2.2.2.1
  obtain ⟨r1, r2⟩ := F.2.2.2.2.2.2.1
  have hcs : va_CS R s args M.1.cls ix Y.1 Y.2.1 Y.2.2.1 Y.2.2.2 (Cond.code Y.1 Y.2.1 Y.2.2.1 Y.2.2.2 :: WS) { frames := d, cells := c1, slots := n1, locals := 64 * d } c1 n1 k :=
    ⟨⟨rfl, rfl, r1, by obtain ⟨-, -, -, -, q⟩ := y1; show 8 + (Y.2.2.1 + 11) + 64 * d ≤ R.locals; omega, pay_in hw (ws_good (ws_self Y y1)), List.mem_cons_self⟩, hw _ y3, hw _ y4, hw _ y5, hw _ y6, hw _ y1.2.1, hw _ y1.1, y7, y2.of⟩
  exact run_on (va_runSU (As := as.map (cv G)) (C := C) (b := ad G a) (rest := rest.map (cv G)) (F.2.2.2.2.2.2.2.1.1 ci _ hc).2 (fix_go F) (kk l) hcs ⟨pc_blind G (.ref a :: as) h, va_recv F.2.2.2.2.2.2.2.1 hH.2.2 hc (hH.at (ent_o hka) (kd_ne hka (by decide))), pre_go (as := .ref a :: as) F hH hS⟩ rfl (by rw [List.length_map]; exact hk) (hL.1) rfl (room_go hr) hd ⟨by omega, by omega⟩) hS
    fun v h' H1 locs1 q hH1 hS1 => q p l e R s m args below meth cd Q H1 locs1 (cells + c1) (slots + n1) L F (by omega) (by omega) hH1 hS1 hL
/-- Object.<init> -/
theorem AW.obj {ix a : Nat} (hl : Cond.methodLink M.1.cls ix Lib.objectInit ∈ WS) (hi : Cond.instanceMethod Lib.objectInit ∈ WS) (hc : Cond.code Lib.objectInit ⟨#[0xb1]⟩ 1 none ∈ WS) (hd : decode M.2.1 pc = .ok (.invokespecial ix, 3)) (hr : (st.map fun v => v.category).sum ≤ 8) (kk : AW G M (d + 1) c n K (pc + 3) ls st h) : AW G M (d + 1) c n K pc ls (.ref a :: st) h := by
  intro p l e R s m args below meth cd Q H locs cells slots L F h1 h2 hH hS hL
  have hw := F.2.2.2.2.1
  obtain ⟨r1, r2⟩ := F.2.2.2.2.2.2.1
  refine W.objInit F.1 F.2.1 F.2.2.2.1 (hw _ hl) (hw _ hi) (hw _ hc) rfl (by rw [F.2.2.1]; exact hL.1) rfl hd (by omega) ?_ ?_
  · have := room_go (G := G) (m := m) (pc := pc) (L := L) (st := []) hr
    have e1 : 2 * (F0 m pc L ([] : List Value)).monitorRoom = 0 := rfl
    show 2 * (F0 m pc L _).monitorRoom + _ + 12 ≤ _
    have e2 : 2 * (F0 m pc L (Value.ref (ad G a) :: st.map (cv G))).monitorRoom = 0 := rfl
    have e3 : 2 * (F0 m pc L (List.map (cv G) (Value.ref a :: st))).monitorRoom = 0 := rfl
    rw [e3]
    omega
  · exact kk p l e R s m args below meth cd Q H locs cells slots L F h1 h2 hH hS hL
end CALLS
end
section
/-! ===== new cells; copies; what lies outside; instanceof ===== -/
def NRef (own : String) (ix ci N : Nat) : Prop := ∃ (C : String) (T : u_T) (ty : Nat → FieldType), ClOk ci C T N ty ∧ Cond.classLink own ix C ∈ WS ∧ Cond.instantiable C N ∈ WS ∧ Cond.initialized C ∈ WS
theorem vp_V_fv (G : Gd) (h : Ah) (a : Nat) (ts : List Nat) {k : Nat} (hk : k < ts.length) : vp_V (fv G h a ts) k = if ts.getD k 0 = 0 then Value.int (gI h a k) else cr G (gR h a k) := by
  unfold vp_V
  rw [List.getD_eq_getElem?_getD, fv_at G h a ts hk]
  rfl
/-- arrays of one class: its number is known by its name -/
theorem ca_prim {G : Gd} {s : State} {t : Nat} {cA : ClassId} (hK : va_K G.2.1 cls (tysL G) s) (h1 : 1 ≤ t) (h3 : t ≤ 3) (hf : s.vm.findClass ("[" ++ (aty t).toString) = some cA) : cA = G.2.2.1 t := by
  have h := (hK.2 t _ (tys_at (G := G) h1 (by omega))).2
  rcases (show t = 1 ∨ t = 2 ∨ t = 3 by omega) with rfl | rfl | rfl
  · exact Option.some.inj (hf.symm.trans h)
  · exact Option.some.inj (hf.symm.trans h)
  · exact Option.some.inj (hf.symm.trans h)
theorem ca_obj {G : Gd} {s : State} {t : Nat} {cA : ClassId} {C : String} (hK : va_K G.2.1 cls (tysL G) s) (h1 : 4 ≤ t) (h3 : t ≤ 6) (hC : aty t = .object C) (hf : s.vm.findClass ("[" ++ (FieldType.object C).toString) = some cA) : cA = G.2.2.1 t := by
  have h := (hK.2 t _ (tys_at (G := G) (t := t) (by omega) (by omega))).2
  rw [hC] at h
  obtain ⟨kA, comp, -, -, -, h4⟩ := h
  exact Option.some.inj (hf.symm.trans h4)
theorem ca_int2 {G : Gd} {s : State} {cA : ClassId} (hK : va_K G.2.1 cls (tysL G) s) (hf : s.vm.findClass ("[" ++ (FieldType.array .int).toString) = some cA) : cA = G.2.2.1 7 := by
  have h := (hK.2 7 _ (tys_at (G := G) (t := 7) (by omega) (by omega))).2
  exact Option.some.inj (hf.symm.trans h)
theorem at_al1 {G : Gd} {h : Ah} {N : Nat} : ent G (al h (1, N)) (32 + nc h) = .inl (G.2.2.1 1, N, .inl (fun _ => 0)) := by
  rw [ent_1 (G := G) (show kd (al h (1, N)) (32 + nc h) = (1, N) from if_pos rfl), gI_al, if_pos rfl]
theorem at_al2 {G : Gd} {h : Ah} {N : Nat} : ent G (al h (2, N)) (32 + nc h) = .inl (G.2.2.1 2, N, .inr (.inl (fun _ => 0))) := by
  rw [ent_2 (G := G) (show kd (al h (2, N)) (32 + nc h) = (2, N) from if_pos rfl), gL_al, if_pos rfl]
theorem at_al3 {G : Gd} {h : Ah} {N : Nat} : ent G (al h (3, N)) (32 + nc h) = .inl (G.2.2.1 3, N, .inl (fun _ => 0)) := by
  rw [ent_3 (G := G) (show kd (al h (3, N)) (32 + nc h) = (3, N) from if_pos rfl), gI_al, if_pos rfl]
theorem at_alq {G : Gd} {h : Ah} {t N : Nat} : ent G (al h (t + 4, N)) (32 + nc h) = .inl (G.2.2.1 (t + 4), N, .inr (.inr (.inr (.inr (fun _ => none))))) := by
  rw [ent_q (G := G) (show kd (al h (t + 4, N)) (32 + nc h) = (t + 4, N) from if_pos rfl), gR_al, if_pos rfl]
  rfl
section NEW
variable {G : Gd} {M : Mi} {d c n : Nat} {K : Ah → Option Value → Prop} {pc : Nat} {ls : List (Option Value)} {st : List Value} {h : Ah}
theorem AW.new {ix ci N q : Nat} (hN : NRef M.1.cls ix ci N) (hq : 32 + nc h = q) (hd : decode M.2.1 pc = .ok (.new ix, 3)) (kk : AW G M d c n K (pc + 3) ls (.ref q :: st) (al h (0, ci))) : AW G M d (1 + c) (N + n) K pc ls st h := by
  intro p l e R s m args below meth cd Q H locs cells slots L F h1 h2 hH hS hL
  subst hq
  obtain ⟨C, T, ty, ⟨hc, hin, hty, hnm, hfl, hft⟩, w1, w2, w3⟩ := hN
  have hw := F.2.2.2.2.1
  have hKn := F.2.2.2.2.2.2.2.1.1 ci _ hc
  refine W.newcK F.1 F.2.1 F.2.2.2.1 (hw _ w1) (hw _ w2) (hw _ w3) rfl hd (by omega) (by omega) hKn.2.1 rfl fun H1 kC hkC e1 z1 o1 => ?_
  have hH1 : Hp G (al h (0, ci)) H1 := hH.new z1 o1 (by
    rw [ent_o (G := G) (show kd (al h (0, ci)) (32 + nc h) = (0, ci) from if_pos rfl)]
    refine ⟨_, hc, ?_⟩
    rw [← hH.1]
    refine (u_born ty hw hin hKn hkC e1 hty).to fun k hk => ?_
    rw [vp_V_fv G _ _ _ (by rw [hfl]; exact hk), gI_al, if_pos rfl, gR_al, if_pos rfl]
    rcases hft k hk with ⟨q1, q2 | q2⟩ | ⟨q1, q2⟩
    · rw [if_pos q1, q2]; rfl
    · rw [if_pos q1, q2]; rfl
    · rw [if_neg (by rw [q1]; decide)]
      generalize ty k = y at q2 ⊢
      cases y <;> first | (exact absurd q2 (by decide)) | rfl)
  have hk2 := kk p l e R s m args below meth cd Q H1 locs (cells + 1) (slots + N) L F (by omega) (by omega) hH1 (hS.new z1 o1) hL
  rw [List.map_cons, show cv G (.ref (32 + nc h)) = .ref H.size by rw [hH.1]; exact congrArg Value.ref (ad_new G _)] at hk2
  exact hk2
theorem AW.newPrim {t N q : Nat} {at_ : ArrayType} {z : Int32} (hat : newarray.typeOf at_ = aty t) (ht1 : 1 ≤ t) (ht3 : t ≤ 3) (hw : Cond.arrayClass (aty t) ∈ WS) (hz : ¬ z < 0) (hN : z.toNatClampNeg = N) (hb : N ≤ 1000000) (hq : 32 + nc h = q) (hd : decode M.2.1 pc = .ok (.newarray at_, 2)) (kk : AW G M d c n K (pc + 2) ls (.ref q :: st) (al h (t, N))) : AW G M d (1 + c) (N + n) K pc ls (.int z :: st) h := by
  intro p l e R s m args below meth cd Q H locs cells slots L F h1 h2 hH hS hL
  subst hq
  have hws := F.2.2.2.2.1
  have hb2 : N * componentBytes (newarray.typeOf at_) ≤ 536870912 := by
    rw [hat]
    rcases (show t = 1 ∨ t = 2 ∨ t = 3 by omega) with rfl | rfl | rfl
    · show N * 4 ≤ _; omega
    · show N * 8 ≤ _; omega
    · show N * 1 ≤ _; omega
  refine va_newaK F.1 F.2.1 (by rw [hat]; exact hws _ hw) rfl hd rfl hz hN hb2 (by omega) (by omega) rfl fun H1 cA e1 z1 o1 hAr hNm => ?_
  rw [hat] at e1 hNm
  have hca := ca_prim F.2.2.2.2.2.2.2.1 ht1 ht3 hNm
  subst hca
  have hH1 : Hp G (al h (t, N)) H1 := hH.new z1 o1 (by
    rw [← hH.1]
    rcases (show t = 1 ∨ t = 2 ∨ t = 3 by omega) with rfl | rfl | rfl
    · rw [at_al1]; exact e1
    · rw [at_al2]; exact e1
    · rw [at_al3]; exact e1)
  have hk2 := kk p l e R s m args below meth cd Q H1 locs (cells + 1) (slots + N) L F (by omega) (by omega) hH1 (hS.new z1 o1) hL
  rw [List.map_cons, show cv G (.ref (32 + nc h)) = .ref H.size by rw [hH.1]; exact congrArg Value.ref (ad_new G _)] at hk2
  exact hk2
theorem AW.newArr {t N q ix : Nat} {C : String} {z : Int32} (hC : aty (t + 4) = .object C) (ht : t ≤ 2) (hw : Cond.classLink M.1.cls ix C ∈ WS) (hz : ¬ z < 0) (hN : z.toNatClampNeg = N) (hb : N ≤ 1000000) (hq : 32 + nc h = q) (hd : decode M.2.1 pc = .ok (.anewarray ix, 3)) (kk : AW G M d c n K (pc + 3) ls (.ref q :: st) (al h (t + 4, N))) : AW G M d (1 + c) (N + n) K pc ls (.int z :: st) h := by
  intro p l e R s m args below meth cd Q H locs cells slots L F h1 h2 hH hS hL
  subst hq
  subst hN
  have hws := F.2.2.2.2.1
  have hE := F.2.2.2.2.2.2.2.2.1
  have hAO : va_AO C s := by
    obtain ⟨-, -, -, -, -, -, -, -, j1, j2, j3, -⟩ := hE
    rcases (show t = 0 ∨ t = 1 ∨ t = 2 by omega) with rfl | rfl | rfl
    · cases hC; exact j1
    · cases hC; exact j2
    · cases hC; exact j3
  refine W.anew F.1 F.2.1 F.2.2.2.1 (hws _ hw) (va_AO.use hAO) rfl hd rfl hz (by omega) (by omega) (by omega) fun cA kA comp f1 f2 f3 f4 => ?_
  have hca := ca_obj F.2.2.2.2.2.2.2.1 (t := t + 4) (by omega) (by omega) hC f1
  subst hca
  generalize hH1e : H.push ({ cls := G.2.2.1 (t + 4), slots := Array.replicate z.toNatClampNeg .null, vm := .none } : Cell) = H1
  have z1 : H1.size = H.size + 1 := by rw [← hH1e, Array.size_push]
  have e1 : H1[H.size]? = some (arrV (G.2.2.1 (t + 4)) z.toNatClampNeg (fun _ => .null)) := by rw [← hH1e, Array.getElem?_push_size, ← arrV_new]
  have o1 : ∀ q : Nat, q < H.size → H1[q]? = H[q]? := fun q hq => by rw [← hH1e, Array.getElem?_push, if_neg (Nat.ne_of_lt hq)]
  have hH1 : Hp G (al h (t + 4, z.toNatClampNeg)) H1 := hH.new z1 o1 (by
    rw [← hH.1, at_alq]
    show H1[H.size]? = some (vp_cell _ _)
    rw [vp_cell_q]
    exact e1)
  have hk2 := kk p l e R s m args below meth cd Q H1 locs (cells + 1) (slots + z.toNatClampNeg) L F (by omega) (by omega) hH1 (hS.new z1 o1) hL
  rw [List.map_cons, show cv G (.ref (32 + nc h)) = .ref H.size by rw [hH.1]; exact congrArg Value.ref (ad_new G _)] at hk2
  exact hk2
/-- k cells of one kind more -/
def alr (h : Ah) (k : Nat × Nat) : Nat → Ah
  | 0 => h
  | i + 1 => al (alr h k i) k
theorem nc_alr (h : Ah) (k : Nat × Nat) : ∀ i, nc (alr h k i) = nc h + i
  | 0 => rfl
  | i + 1 => by show nc (alr h k i) + 1 = _; rw [nc_alr h k i]; omega
/-- new int[N][Z]: the outer row at q, the inner ones behind it -/
def alm (h : Ah) (N Z : Nat) : Ah := rR (alr (al h (7, N)) (1, Z) N) (32 + nc h) (fun i => if i < N then some (32 + nc h + 1 + i) else none)
theorem ent_alr {G : Gd} (h : Ah) (k : Nat × Nat) (b : Nat) : ∀ i, b < 32 + nc h → ent G (alr h k i) b = ent G h b
  | 0, _ => rfl
  | i + 1, hb => by
    show ent G (al (alr h k i) k) b = _
    rw [ent_al G _ k b (by rw [nc_alr]; omega), ent_alr h k b i hb]
theorem kd_alr (h : Ah) (k : Nat × Nat) (b : Nat) : ∀ i, b < 32 + nc h → kd (alr h k i) b = kd h b
  | 0, _ => rfl
  | i + 1, hb => by
    show kd (al (alr h k i) k) b = _
    rw [kd_al, if_neg (by rw [nc_alr]; omega), kd_alr h k b i hb]
theorem AW.newMulti {N Z q ix : Nat} {z w : Int32} (hw : Cond.classLink M.1.cls ix "[[I" ∈ WS) (hi : Cond.arrayClass .int ∈ WS) (hz : ¬ z < 0) (hw0 : ¬ w < 0) (hN : z.toNatClampNeg = N) (hZ : w.toNatClampNeg = Z) (hb : N ≤ 1000) (hb2 : Z ≤ 1000) (hq : 32 + nc h = q) (hd : decode M.2.1 pc = .ok (.multianewarray ix 2, 4)) (kk : AW G M d c n K (pc + 4) ls (.ref q :: st) (alm h N Z)) : AW G M d (1 + N + c) (N + N * Z + n) K pc ls (.int w :: .int z :: st) h := by
  intro p l e R s m args below meth cd Q H locs cells slots L F h1 h2 hH hS hL
  subst hq
  subst hN
  subst hZ
  have hws := F.2.2.2.2.1
  have hE := F.2.2.2.2.2.2.2.2.1
  have hK := F.2.2.2.2.2.2.2.1
  have hAO : zAO s := by obtain ⟨-, -, -, -, -, -, -, -, -, -, -, k, -⟩ := hE; exact k
  have hAO2 : (Cond.arrayOver (.array .int)).before args s = true := hAO
  intro T hT Xs
  obtain ⟨vm₁, cA, comp, -, fA, fC, hO, -, X', step⟩ := Xs.multianewarray2F F.1 F.2.2.2.1 (ty := .int) (hws _ hw) hAO2 (hws _ hi) (g := F0 m pc L (.int w :: .int z :: st.map (cv G))) rfl (by rw [F.2.1]; exact hd) rfl hz hw0 (by omega) (by show _ * 4 ≤ _; omega) (by omega) rfl rfl (by omega) (by omega)
  have hcA := ca_int2 hK fA
  subst hcA
  have hcomp : comp = G.2.2.1 1 := ca_prim hK (t := 1) (by omega) (by omega) fC
  subst hcomp
  generalize hFe : Jvm.Free.Multi.fill (T.setVm vm₁) (G.2.2.1 7) (G.2.2.1 1) z.toNatClampNeg w.toNatClampNeg (defaultValue .int) z.toNatClampNeg = Fs at X' step
  have hTh : (T.setVm vm₁).heap = H := hT
  obtain ⟨f1, f2, -, -⟩ := Jvm.Free.Multi.fill_facts (T.setVm vm₁) (G.2.2.1 7) (G.2.2.1 1) z.toNatClampNeg w.toNatClampNeg (defaultValue .int) z.toNatClampNeg
  rw [hFe, hTh] at f1 f2
  have hold : ∀ x : Nat, x < H.size → Fs.heap[x]? = H[x]? := fun x hx => by
    have := Jvm.Free.Multi.fill_old (T.setVm vm₁) (G.2.2.1 7) (G.2.2.1 1) z.toNatClampNeg w.toNatClampNeg (defaultValue .int) (a := x) (by rw [hTh]; exact hx) z.toNatClampNeg
    rw [hFe, hTh] at this
    exact this
  have hrow : ∀ j : Nat, j < z.toNatClampNeg → Fs.heap[H.size + 1 + j]? = some (arrV (G.2.2.1 1) w.toNatClampNeg (fun _ => .int 0)) := fun j hj => by
    have := Jvm.Free.Multi.fill_inner (T.setVm vm₁) (G.2.2.1 7) (G.2.2.1 1) z.toNatClampNeg w.toNatClampNeg (defaultValue .int) z.toNatClampNeg j hj
    rw [hFe, hTh] at this
    rw [this]
    exact congrArg some (arrV_new _ _ _)
  rw [vr_outer] at f2
  have hH1 : Hp G (alm h z.toNatClampNeg w.toNatClampNeg) Fs.heap := by
    have hnc : nc (alm h z.toNatClampNeg w.toNatClampNeg) = nc h + 1 + z.toNatClampNeg := by
      show nc (alr (al h (7, z.toNatClampNeg)) (1, w.toNatClampNeg) z.toNatClampNeg) = _
      rw [nc_alr, nc_al]
    have hkd : ∀ b, kd (alm h z.toNatClampNeg w.toNatClampNeg) b = kd (alr (al h (7, z.toNatClampNeg)) (1, w.toNatClampNeg) z.toNatClampNeg) b := fun b => rfl
    have hkdN : ∀ i, ∀ b, (kd (alr (al h (7, z.toNatClampNeg)) (1, w.toNatClampNeg) i) b).1 ≠ 9 → 32 ≤ b ∧ b < 32 + nc h + 1 + i := by
      intro i
      induction i with
      | zero =>
        intro b hb
        show _ ∧ _
        rw [show alr (al h (7, z.toNatClampNeg)) (1, w.toNatClampNeg) 0 = al h (7, z.toNatClampNeg) from rfl, kd_al] at hb
        by_cases hbn : b = 32 + nc h
        · omega
        · rw [if_neg hbn] at hb
          have := hH.2.1 b hb
          omega
      | succ i ih =>
        intro b hb
        rw [show alr (al h (7, z.toNatClampNeg)) (1, w.toNatClampNeg) (i + 1) = al (alr (al h (7, z.toNatClampNeg)) (1, w.toNatClampNeg) i) (1, w.toNatClampNeg) from rfl, kd_al, nc_alr, nc_al] at hb
        by_cases hbn : b = 32 + (nc h + 1 + i)
        · omega
        · rw [if_neg hbn] at hb
          have := ih b hb
          omega
    refine ⟨by rw [f1, hnc, hH.1]; omega, fun b hb => ?_, fun k q hk => ?_⟩
    · rw [hkd] at hb
      have := hkdN _ b hb
      rw [hnc]
      omega
    · obtain ⟨hk1, rfl⟩ := wl_of hk
      rw [hnc] at hk1
      by_cases hk2 : k < nc h
      · have e : ent G (alm h z.toNatClampNeg w.toNatClampNeg) (32 + k) = ent G h (32 + k) := by
          show ent G (rR _ _ _) _ = _
          rw [ent_rR G _ _ _ _ (by omega), ent_alr _ _ _ _ (by rw [nc_al]; omega), ent_al G h _ _ (by omega)]
        rw [e]
        exact (hH.2.2 k _ (wl_at G h hk2)).kept (hold _ (by show G.1 + k < _; rw [hH.1]; omega))
      · by_cases hk3 : k = nc h
        · subst hk3
          have e : ent G (alm h z.toNatClampNeg w.toNatClampNeg) (32 + nc h) = .inl (G.2.2.1 7, z.toNatClampNeg, .inr (.inr (.inr (.inr (fun i => (if i < z.toNatClampNeg then some (32 + nc h + 1 + i) else none).map (ad G)))))) := by
            rw [ent_q (G := G) (t := 3) (N := z.toNatClampNeg) (by
              rw [hkd, kd_alr _ _ _ _ (by rw [nc_al]; omega), kd_al, if_pos rfl])]
            have : gR (alm h z.toNatClampNeg w.toNatClampNeg) (32 + nc h) = fun i => if i < z.toNatClampNeg then some (32 + nc h + 1 + i) else none := if_pos rfl
            rw [this]
          rw [e]
          show Fs.heap[G.1 + nc h]? = some (vp_cell _ _)
          rw [← hH.1, f2, vp_cell_q]
          congr 2
          funext j
          by_cases hj : j < z.toNatClampNeg
          · rw [if_pos hj, if_pos hj, Option.map_some, show 32 + nc h + 1 + j = 32 + (nc h + 1 + j) by omega, ad_new, hH.1]
            congr 2
            omega
          · rw [if_neg hj, if_neg hj]; rfl
        · obtain ⟨j, rfl⟩ : ∃ j, k = nc h + 1 + j := ⟨k - (nc h + 1), by omega⟩
          have hj : j < z.toNatClampNeg := by omega
          have hin : ∀ i, j < i → kd (alr (al h (7, z.toNatClampNeg)) (1, w.toNatClampNeg) i) (32 + (nc h + 1 + j)) = (1, w.toNatClampNeg) ∧ gI (alr (al h (7, z.toNatClampNeg)) (1, w.toNatClampNeg) i) (32 + (nc h + 1 + j)) = fun _ => 0 := by
            intro i
            induction i with
            | zero => intro q; omega
            | succ i ih =>
              intro q
              rw [show alr (al h (7, z.toNatClampNeg)) (1, w.toNatClampNeg) (i + 1) = al (alr (al h (7, z.toNatClampNeg)) (1, w.toNatClampNeg) i) (1, w.toNatClampNeg) from rfl, kd_al, gI_al, nc_alr, nc_al]
              by_cases hji : j = i
              · subst hji
                exact ⟨if_pos rfl, if_pos rfl⟩
              · rw [if_neg (by omega), if_neg (by omega)]
                exact ih (by omega)
          have e : ent G (alm h z.toNatClampNeg w.toNatClampNeg) (32 + (nc h + 1 + j)) = .inl (G.2.2.1 1, w.toNatClampNeg, .inl (fun _ => 0)) := by
            rw [show alm h z.toNatClampNeg w.toNatClampNeg = rR _ _ _ from rfl, ent_rR G _ _ _ _ (by omega), ent_1 (G := G) (hin _ hj).1, (hin _ hj).2]
          rw [e]
          show Fs.heap[G.1 + (nc h + 1 + j)]? = some (vp_cell _ _)
          rw [show G.1 + (nc h + 1 + j) = H.size + 1 + j by rw [hH.1]; omega, hrow j hj, vp_cell_i]
  have hS1 : va_S (zA G) s.heap Fs.heap locs ∧ True := ⟨⟨by rw [f1]; have := hS.1; omega, fun x g1 g2 => (hold x (Nat.lt_of_lt_of_le g1 hS.1)).trans (hS.2.1 x g1 g2), hS.2.2⟩, trivial⟩
  obtain ⟨t, a1, b1⟩ := kk p l e R s m args below meth cd Q Fs.heap locs (cells + 1 + z.toNatClampNeg) (slots + z.toNatClampNeg + z.toNatClampNeg * w.toNatClampNeg) L F (by omega) (by omega) hH1 hS1.1 hL Fs rfl (by
    have X2 := X'
    exact X2)
  refine ⟨t, step t ?_, b1⟩
  have e : T.heap.size = H.size := by rw [hT]
  rw [e]
  rw [List.map_cons, show cv G (.ref (32 + nc h)) = .ref H.size by rw [hH.1]; exact congrArg Value.ref (ad_new G _)] at a1
  exact a1
end NEW
end
section
/-! ===== copies between rows; tables, texts and the script; instanceof ===== -/
theorem copyAny {α : Type} (mk : α → Value) {p : Program} {l : Launch} {e : Env} {R : Room} {s : State} {m : MethodId} {args : Array Value} {below : List Frame} {meth : Method} {c : Code} {H : Heap} {locs : List Loc} {cells slots : Nat} {Q : State → Prop} {cc : ByteArray} {pc : Nat} {ls : Array Slot} {rest : List Value} (hexec : p.tables.exec = Jvm.exec) (hb : c.code = cc) (hml : c.maxLocals = ls.size) {own : String} {index : Nat} (hown : s.vm.findClass own = some m.cls) (hlink : (Cond.methodLink own index arraycopyName).before args s = true) (hnat : (Cond.native arraycopyName).before args s = true) (hstat : (Cond.static arraycopyName).before args s = true) (hini : (Cond.initialized "java/lang/System").before args s = true)
    {a a0 n0 n1 : Nat} {c0 c1 : ClassId} {f g : Nat → α} {ty : FieldType} (hc0 : H[a0]? = some (arrV c0 n0 (fun j => mk (f j)))) (hc1 : H[a]? = some (arrV c1 n1 (fun j => mk (g j)))) (ht0 : ArrOfT s c0 ty) (ht1 : ArrOfT s c1 ty) (hprim : refKind ty = false)
    {sp dp n : Int32} (h1 : ¬ sp < 0) (h2 : ¬ dp < 0) (h3 : ¬ n < 0) (h4 : sp.toNatClampNeg + n.toNatClampNeg ≤ n0) (h5 : dp.toNatClampNeg + n.toNatClampNeg ≤ n1) (hfit : ∀ x, fits ty (mk x) = true) (htk : ∀ (U : State) (cm : ClassId) (x : α), U.takes cm (mk x))
    (hframes : 1 ≤ R.frames) (hlocals : (rest.map fun v => v.category).sum + (nativeFrameWords "java/lang/System" "arraycopy" 5 + 11) ≤ R.locals) (hdg : decode cc pc = .ok (.invokestatic index, 3))
    (kk : ∀ (H1 : Heap) (locs1 : List Loc), H1[a]? = some (arrV c1 n1 (fun j => mk (va_cpy f g sp.toNatClampNeg dp.toNatClampNeg n.toNatClampNeg j))) → H1.size = H.size → (∀ q : Nat, q ≠ a → H1[q]? = H[q]?) → (∀ q ∈ locs1, q ∈ locs ∨ q.base = a) → W p l e R s m args below meth c H1 locs1 cells slots Q (F0 m (pc + 3) ls rest)) : W p l e R s m args below meth c H locs cells slots Q (F0 m pc ls (.int n :: .int dp :: .ref a :: .int sp :: .ref a0 :: rest)) := by
  have nn : ∀ z : Int32, ¬ z < 0 → z.toInt = (z.toNatClampNeg : Int) := by
    intro z hz
    have hz0 : (0 : Int) ≤ z.toInt := by
      have := Int32.not_lt.mp hz
      simpa using Int32.le_iff_toInt_le.mp this
    show z.toInt = ((z.toInt.toNat : Nat) : Int)
    omega
  intro T hT X
  obtain ⟨-, k0, hk0, cm0, hkk0⟩ := ht0 n0 (fun j => mk (f j))
  obtain ⟨-, k1, hk1, cm1, hkk1⟩ := ht1 n1 (fun j => mk (g j))
  obtain ⟨vm', X', step⟩ := X.arraycopy hexec hown hlink hnat hstat hini (src := a0) (dst := a) (cs := arrV c0 n0 (fun j => mk (f j))) (cd := arrV c1 n1 (fun j => mk (g j))) (srcPos := sp) (destPos := dp) (n := n) (by rw [hT]; exact hc0) (by rw [hT]; exact hc1)
    (fun _ h => by cases h) (fun _ h => by cases h) (fun h => by cases h) (fun h => by cases h) hk0 hk1 hkk0 hkk1 (by simp [hprim]) h1 h2 h3
    (by rw [nn sp h1, nn n h3, arrV_size]; omega)
    (by rw [nn dp h2, nn n h3, arrV_size]; omega)
    (fun vm₁ _ i hi => by
      have e : (arrV c0 n0 (fun j => mk (f j))).slots.getD (sp.toNatClampNeg + i) .null = mk (f (sp.toNatClampNeg + i)) := by
        rw [Array.getD_eq_getD_getElem?, arrV_read _ _ (by omega)]
        rfl
      rw [e]
      exact ⟨hfit _, htk _ _ _⟩)
    (g := F0 m pc ls (.int n :: .int dp :: .ref a :: .int sp :: .ref a0 :: rest)) rfl (by rw [hml]) (rest := rest) rfl (by rw [hb]; exact hdg) hframes (by show 2 * 0 + _ + _ ≤ _; omega)
  have e1 : copied (arrV c0 n0 (fun j => mk (f j))) (arrV c1 n1 (fun j => mk (g j))) sp dp n = arrV c1 n1 (fun j => mk (va_cpy f g sp.toNatClampNeg dp.toNatClampNeg n.toNatClampNeg j)) := va_copied mk c0 c1 f g h4
  rw [e1] at X' step
  have hl : a < H.size := (Array.getElem?_eq_some_iff.mp hc1).1
  have hheap : ((T.setVm vm').setCell a (arrV c1 n1 (fun j => mk (va_cpy f g sp.toNatClampNeg dp.toNatClampNeg n.toNatClampNeg j)))).heap = H.setIfInBounds a (arrV c1 n1 (fun j => mk (va_cpy f g sp.toNatClampNeg dp.toNatClampNeg n.toNatClampNeg j))) := by rw [← hT]; rfl
  obtain ⟨t, a1, b1⟩ := kk _ _ (show (H.setIfInBounds a _)[a]? = some _ by simp [Array.getElem?_setIfInBounds, hl]) (by simp) (fun q hq => by simp [Array.getElem?_setIfInBounds, Ne.symm hq]) (fun q hq => by
      rcases List.mem_append.mp hq with h | h
      · exact Or.inl h
      · obtain ⟨z, -, hz⟩ := List.mem_map.mp h
        exact Or.inr (by rw [← hz])) _ hheap X'
  exact ⟨t, step t a1, b1⟩
/-- what a copy asks of the words -/
def CpOk (own : String) (ix : Nat) : Prop := Cond.methodLink own ix arraycopyName ∈ WS ∧ Cond.native arraycopyName ∈ WS ∧ Cond.static arraycopyName ∈ WS ∧ Cond.initialized "java/lang/System" ∈ WS
def cpy {α : Type} (f g : Nat → α) (sp dp n : Nat) : Nat → α := fun k => if dp ≤ k ∧ k < dp + n then f (sp + (k - dp)) else g k
theorem ent_rI1 {G : Gd} {h : Ah} {a N : Nat} {f : Nat → Int32} (hk : kd h a = (1, N)) : ent G (rI h a f) a = .inl (G.2.2.1 1, N, .inl f) := by
  rw [ent_1 (G := G) (show kd (rI h a f) a = (1, N) from hk), gI_rI, if_pos rfl]
theorem ent_rL2 {G : Gd} {h : Ah} {a N : Nat} {f : Nat → Int64} (hk : kd h a = (2, N)) : ent G (rL h a f) a = .inl (G.2.2.1 2, N, .inr (.inl f)) := by
  rw [ent_2 (G := G) (show kd (rL h a f) a = (2, N) from hk), gL_rL, if_pos rfl]
section OUT
variable {G : Gd} {M : Mi} {d c n : Nat} {K : Ah → Option Value → Prop} {pc : Nat} {ls : List (Option Value)} {st : List Value} {h : Ah}
theorem AW.copyI {ix a a0 n0 n1 : Nat} {sp dp k : Int32} (hC : CpOk M.1.cls ix) (hk0 : kd h a0 = (1, n0)) (hk1 : kd h a = (1, n1)) (h1 : ¬ sp < 0) (h2 : ¬ dp < 0) (h3 : ¬ k < 0) (h4 : sp.toNatClampNeg + k.toNatClampNeg ≤ n0) (h5 : dp.toNatClampNeg + k.toNatClampNeg ≤ n1) (hr : (st.map fun v => v.category).sum ≤ 8) (hd : decode M.2.1 pc = .ok (.invokestatic ix, 3))
    (kk : AW G M (d + 1) c n K (pc + 3) ls st (rI h a (cpy (gI h a0) (gI h a) sp.toNatClampNeg dp.toNatClampNeg k.toNatClampNeg))) : AW G M (d + 1) c n K pc ls (.int k :: .int dp :: .ref a :: .int sp :: .ref a0 :: st) h := by
  intro p l e R s m args below meth cd Q H locs cells slots L F g1 g2 hH hS hL
  have hw := F.2.2.2.2.1
  obtain ⟨r1, r2⟩ := F.2.2.2.2.2.2.1
  obtain ⟨w1, w2, w3, w4⟩ := hC
  have hne := kd_ne hk1 (by decide)
  have hat0 := hH.at (ent_1 (G := G) hk0) (kd_ne hk0 (by decide))
  have hat1 := hH.at (ent_1 (G := G) hk1) hne
  have hD := wl_D G h
  have hT := (F.2.2.2.2.2.2.2.1.2 1 _ rfl).1
  refine copyAny (ty := .int) Value.int F.1 F.2.1 (F.2.2.1.trans hL.1.symm) F.2.2.2.1 (hw _ w1) (hw _ w2) (hw _ w3) (hw _ w4) (hH.2.2 _ _ hat0) (hH.2.2 _ _ hat1) hT hT rfl h1 h2 h3 h4 h5 (fun _ => rfl) (fun _ _ _ => trivial) (by omega) (by rw [cv_cats]; show _ + (5 + 2 + 11) ≤ _; omega) hd fun H1 locs1 e1 e2 e3 e4 => ?_
  have hP1 := hH.2.2.set hD hat1 (e := .inl (G.2.2.1 1, n1, .inl (cpy (gI h a0) (gI h a) sp.toNatClampNeg dp.toNatClampNeg k.toNatClampNeg))) e1 e3
  refine kk p l e R s m args below meth cd Q H1 locs1 cells slots L F g1 g2 (hH.put hne hP1 e2 (ent_rI1 hk1) rfl (fun _ => rfl) (fun b hb => ent_rI G h a b _ hb)) ⟨by rw [e2]; exact hS.1, fun q q1 q2 => ?_, fun q hq => ?_⟩ hL
  · rw [e3 q (fun z => q2 (by rw [z]; exact hD.2 _ _ hat1))]
    exact hS.2.1 q q1 q2
  · rcases e4 q hq with z | z
    · exact hS.2.2 q z
    · rw [z]; exact hD.2 _ _ hat1
theorem AW.copyL {ix a a0 n0 n1 : Nat} {sp dp k : Int32} (hC : CpOk M.1.cls ix) (hk0 : kd h a0 = (2, n0)) (hk1 : kd h a = (2, n1)) (h1 : ¬ sp < 0) (h2 : ¬ dp < 0) (h3 : ¬ k < 0) (h4 : sp.toNatClampNeg + k.toNatClampNeg ≤ n0) (h5 : dp.toNatClampNeg + k.toNatClampNeg ≤ n1) (hr : (st.map fun v => v.category).sum ≤ 8) (hd : decode M.2.1 pc = .ok (.invokestatic ix, 3))
    (kk : AW G M (d + 1) c n K (pc + 3) ls st (rL h a (cpy (gL h a0) (gL h a) sp.toNatClampNeg dp.toNatClampNeg k.toNatClampNeg))) : AW G M (d + 1) c n K pc ls (.int k :: .int dp :: .ref a :: .int sp :: .ref a0 :: st) h := by
  intro p l e R s m args below meth cd Q H locs cells slots L F g1 g2 hH hS hL
  have hw := F.2.2.2.2.1
  obtain ⟨r1, r2⟩ := F.2.2.2.2.2.2.1
  obtain ⟨w1, w2, w3, w4⟩ := hC
  have hne := kd_ne hk1 (by decide)
  have hat0 := hH.at (ent_2 (G := G) hk0) (kd_ne hk0 (by decide))
  have hat1 := hH.at (ent_2 (G := G) hk1) hne
  have hD := wl_D G h
  have hT := (F.2.2.2.2.2.2.2.1.2 2 _ rfl).1
  refine copyAny (ty := .long) Value.long F.1 F.2.1 (F.2.2.1.trans hL.1.symm) F.2.2.2.1 (hw _ w1) (hw _ w2) (hw _ w3) (hw _ w4) (hH.2.2 _ _ hat0) (hH.2.2 _ _ hat1) hT hT rfl h1 h2 h3 h4 h5 (fun _ => rfl) (fun _ _ _ => trivial) (by omega) (by rw [cv_cats]; show _ + (5 + 2 + 11) ≤ _; omega) hd fun H1 locs1 e1 e2 e3 e4 => ?_
  have hP1 := hH.2.2.set hD hat1 (e := .inl (G.2.2.1 2, n1, .inr (.inl (cpy (gL h a0) (gL h a) sp.toNatClampNeg dp.toNatClampNeg k.toNatClampNeg)))) e1 e3
  refine kk p l e R s m args below meth cd Q H1 locs1 cells slots L F g1 g2 (hH.put hne hP1 e2 (ent_rL2 hk1) rfl (fun _ => rfl) (fun b hb => ent_rL G h a b _ hb)) ⟨by rw [e2]; exact hS.1, fun q q1 q2 => ?_, fun q hq => ?_⟩ hL
  · rw [e3 q (fun z => q2 (by rw [z]; exact hD.2 _ _ hat1))]
    exact hS.2.1 q q1 q2
  · rcases e4 q hq with z | z
    · exact hS.2.2 q z
    · rw [z]; exact hD.2 _ _ hat1
/-! tables and texts: the cells 0, 1; 2 .. 12 and their bytes 13 .. 23; 24; the script 25 -/
theorem AW.gets0 {ix : Nat} (hl : Cond.fieldLink M.1.cls ix RX11 "BOAT_LEAST" "[I" ∈ WS) (hd : decode M.2.1 pc = .ok (.getstatic ix, 3)) (kk : AW G M d c n K (pc + 3) ls (.ref 0 :: st) h) : AW G M d c n K pc ls st h := by
  intro p l e R s m args below meth cd Q H locs cells slots L F h1 h2 hH hS hL
  exact va_gets F.1 F.2.1 F.2.2.2.2.2.2.2.2.1.1.1 hS F.2.2.2.1 (F.2.2.2.2.1 _ hl) (fun _ q => q) hd (kk p l e R s m args below meth cd Q H locs cells slots L F h1 h2 hH hS hL)
theorem AW.gets1 {ix : Nat} (hl : Cond.fieldLink M.1.cls ix RX11 "BOAT_MOST" "[I" ∈ WS) (hd : decode M.2.1 pc = .ok (.getstatic ix, 3)) (kk : AW G M d c n K (pc + 3) ls (.ref 1 :: st) h) : AW G M d c n K pc ls st h := by
  intro p l e R s m args below meth cd Q H locs cells slots L F h1 h2 hH hS hL
  exact va_gets F.1 F.2.1 F.2.2.2.2.2.2.2.2.1.2.1.1 hS F.2.2.2.1 (F.2.2.2.2.1 _ hl) (fun _ q => q) hd (kk p l e R s m args below meth cd Q H locs cells slots L F h1 h2 hH hS hL)
theorem AW.getsC {ix : Nat} (hl : Cond.fieldLink M.1.cls ix RJ0 "COMPACT_STRINGS" "Z" ∈ WS) (hd : decode M.2.1 pc = .ok (.getstatic ix, 3)) (kk : AW G M d c n K (pc + 3) ls (.int 1 :: st) h) : AW G M d c n K pc ls st h := by
  intro p l e R s m args below meth cd Q H locs cells slots L F h1 h2 hH hS hL
  exact va_gets F.1 F.2.1 F.2.2.2.2.2.2.2.2.1.2.2.1 hS F.2.2.2.1 (F.2.2.2.2.1 _ hl) (fun _ q => q) hd (kk p l e R s m args below meth cd Q H locs cells slots L F h1 h2 hH hS hL)
theorem AW.getsF {ix : Nat} (hl : Cond.fieldLink M.1.cls ix RJ3 "SIOOBE_FORMATTER" "Ljava/util/function/BiFunction;" ∈ WS) (hd : decode M.2.1 pc = .ok (.getstatic ix, 3)) (kk : ∀ o : Option Nat, AW G M d c n K (pc + 3) ls (va_rf o :: st) h) : AW G M d c n K pc ls st h := by
  intro p l e R s m args below meth cd Q H locs cells slots L F h1 h2 hH hS hL
  rcases F.2.2.2.2.2.2.2.2.1.2.2.2.1 with q | q
  · exact va_gets F.1 F.2.1 q hS F.2.2.2.1 (F.2.2.2.2.1 _ hl) (fun _ q => q) hd (kk none p l e R s m args below meth cd Q H locs cells slots L F h1 h2 hH hS hL)
  · exact va_gets F.1 F.2.1 q hS F.2.2.2.1 (F.2.2.2.2.1 _ hl) (fun _ q => q) hd (kk (some 24) p l e R s m args below meth cd Q H locs cells slots L F h1 h2 hH hS hL)
theorem AW.tab0 {i x : Int32} (hin : vp_in i 4) (hv : xl0 i.toNatClampNeg = x) (hd : decode M.2.1 pc = .ok (.iaload, 1)) (kk : AW G M d c n K (pc + 1) ls (.int x :: st) h) : AW G M d c n K pc ls (.int i :: .ref 0 :: st) h := by
  intro p l e R s m args below meth cd Q H locs cells slots L F h1 h2 hH hS hL
  exact va_ti F.1 F.2.1 F.2.2.2.2.2.2.2.2.1.1.2 hS hin (v := .int x) (by rw [hv]) hd (kk p l e R s m args below meth cd Q H locs cells slots L F h1 h2 hH hS hL)
theorem AW.tab1 {i x : Int32} (hin : vp_in i 4) (hv : xl1 i.toNatClampNeg = x) (hd : decode M.2.1 pc = .ok (.iaload, 1)) (kk : AW G M d c n K (pc + 1) ls (.int x :: st) h) : AW G M d c n K pc ls (.int i :: .ref 1 :: st) h := by
  intro p l e R s m args below meth cd Q H locs cells slots L F h1 h2 hH hS hL
  exact va_ti F.1 F.2.1 F.2.2.2.2.2.2.2.2.1.2.1.2 hS hin (v := .int x) (by rw [hv]) hd (kk p l e R s m args below meth cd Q H locs cells slots L F h1 h2 hH hS hL)
theorem AW.scr {i x : Int32} (hin : vp_in i G.2.2.2.2.1) (hv : G.2.2.2.2.2 i.toNatClampNeg = x) (hd : decode M.2.1 pc = .ok (.iaload, 1)) (kk : AW G M d c n K (pc + 1) ls (.int x :: st) h) : AW G M d c n K pc ls (.int i :: .ref 25 :: st) h := by
  intro p l e R s m args below meth cd Q H locs cells slots L F h1 h2 hH hS hL
  have hE := F.2.2.2.2.2.2.2.2.1
  obtain ⟨-, -, -, -, -, -, -, -, -, -, -, -, x0⟩ := hE
  exact va_ti F.1 F.2.1 x0 hS hin (v := .int x) (by rw [hv]) hd (kk p l e R s m args below meth cd Q H locs cells slots L F h1 h2 hH hS hL)
theorem AW.scrLen {v : Int32} (hv : Int32.ofNat G.2.2.2.2.1 = v) (hd : decode M.2.1 pc = .ok (.arraylength, 1)) (kk : AW G M d c n K (pc + 1) ls (.int v :: st) h) : AW G M d c n K pc ls (.ref 25 :: st) h := by
  intro p l e R s m args below meth cd Q H locs cells slots L F h1 h2 hH hS hL
  have hE := F.2.2.2.2.2.2.2.2.1
  obtain ⟨-, -, -, -, -, -, -, -, -, -, -, -, x0⟩ := hE
  exact va_tlen F.1 F.2.1 x0 hS hv hd (kk p l e R s m args below meth cd Q H locs cells slots L F h1 h2 hH hS hL)
theorem AW.ldcS {i : Nat} (hi : i < 11) (hM : M.1.cls = RX8) (hd : decode M.2.1 pc = .ok (.ldc (sIx i), 2)) (kk : AW G M d c n K (pc + 2) ls (.ref (2 + i) :: st) h) : AW G M d c n K pc ls st h := by
  intro p l e R s m args below meth cd Q H locs cells slots L F h1 h2 hH hS hL
  have hE := F.2.2.2.2.2.2.2.2.1
  obtain ⟨-, -, -, -, -, hR, -⟩ := hE
  have hown := F.2.2.2.1
  rw [hM] at hown
  exact va_ldcS F.1 F.2.1 hown (hR i hi) hd (kk p l e R s m args below meth cd Q H locs cells slots L F h1 h2 hH hS hL)
theorem AW.sVal {i ix : Nat} (hi : i < 11) (hl : Cond.fieldLink M.1.cls ix RJ0 "value" "[B" ∈ WS) (hd : decode M.2.1 pc = .ok (.getfield ix, 3)) (kk : AW G M d c n K (pc + 3) ls (.ref (13 + i) :: st) h) : AW G M d c n K pc ls (.ref (2 + i) :: st) h := by
  intro p l e R s m args below meth cd Q H locs cells slots L F h1 h2 hH hS hL
  have hE := F.2.2.2.2.2.2.2.2.1
  obtain ⟨-, -, -, -, hV, -⟩ := hE
  exact vk_getf F.1 F.2.1 (hV.1 i hi).2.2.1 hS F.2.2.2.1 (F.2.2.2.2.1 _ hl) (fun _ q => q) hd (kk p l e R s m args below meth cd Q H locs cells slots L F h1 h2 hH hS hL)
theorem AW.sCod {i ix : Nat} (hi : i < 11) (hl : Cond.fieldLink M.1.cls ix RJ0 "coder" "B" ∈ WS) (hd : decode M.2.1 pc = .ok (.getfield ix, 3)) (kk : AW G M d c n K (pc + 3) ls (.int 0 :: st) h) : AW G M d c n K pc ls (.ref (2 + i) :: st) h := by
  intro p l e R s m args below meth cd Q H locs cells slots L F h1 h2 hH hS hL
  have hE := F.2.2.2.2.2.2.2.2.1
  obtain ⟨-, -, -, -, hV, -⟩ := hE
  exact vk_getf F.1 F.2.1 (hV.1 i hi).2.1 hS F.2.2.2.1 (F.2.2.2.2.1 _ hl) (fun _ q => q) hd (kk p l e R s m args below meth cd Q H locs cells slots L F h1 h2 hH hS hL)
theorem AW.sLn {i : Nat} {v : Int32} (hi : i < 11) (hv : Int32.ofNat (sLen.getD i 0) = v) (hd : decode M.2.1 pc = .ok (.arraylength, 1)) (kk : AW G M d c n K (pc + 1) ls (.int v :: st) h) : AW G M d c n K pc ls (.ref (13 + i) :: st) h := by
  intro p l e R s m args below meth cd Q H locs cells slots L F h1 h2 hH hS hL
  have hE := F.2.2.2.2.2.2.2.2.1
  obtain ⟨-, -, -, -, hV, -⟩ := hE
  exact va_tlen F.1 F.2.1 (hV.1 i hi).2.2.2 hS hv hd (kk p l e R s m args below meth cd Q H locs cells slots L F h1 h2 hH hS hL)
theorem AW.sAt {i : Nat} {j x : Int32} (hi : i < 11) (hin : vp_in j (sLen.getD i 0)) (hv : (sByt.getD i []).getD j.toNatClampNeg 0 = x) (hd : decode M.2.1 pc = .ok (.baload, 1)) (kk : AW G M d c n K (pc + 1) ls (.int x :: st) h) : AW G M d c n K pc ls (.int j :: .ref (13 + i) :: st) h := by
  intro p l e R s m args below meth cd Q H locs cells slots L F h1 h2 hH hS hL
  have hE := F.2.2.2.2.2.2.2.2.1
  obtain ⟨-, -, -, -, hV, -⟩ := hE
  exact va_tb F.1 F.2.1 (hV.1 i hi).2.2.2 hS hin (v := .int x) (by rw [hv]) hd (kk p l e R s m args below meth cd Q H locs cells slots L F h1 h2 hH hS hL)
/-- a method of a text -/
def SvOk (own : String) (ix : Nat) (Y : Mi) (k : Nat) : Prop := YOk Y ∧ YN Y.1 k ∧ Cond.methodLink own ix Y.1 ∈ WS ∧ Cond.instanceMethod Y.1 ∈ WS ∧ Cond.selects RJ0 Y.1 Y.1 ∈ WS
theorem AW.invx {ix k i c1 n1 : Nat} {Y : Mi} {as rest : List Value} (hY : SvOk M.1.cls ix Y k) (hi : i < 11) (hd : decode M.2.1 pc = .ok (.invokevirtual ix, 3)) (hst : as.reverse ++ .ref (2 + i) :: rest = st) (hk : as.length = k) (hr : (rest.map fun v => v.category).sum ≤ 8)
    (kk : AM G d c1 n1 Y (.ref (2 + i) :: as) h (fun h' v => AW G M (d + 1) c n K (pc + 3) ls (v.toList ++ rest) h')) : AW G M (d + 1) (c1 + c) (n1 + n) K pc ls st h := by
  intro p l e R s m args below meth cd Q H locs cells slots L F h1 h2 hH hS hL
  obtain ⟨y1, y2, y3, y4, y6⟩ := hY
  subst hst
  rw [mapRev]
  have hw := F.2.2.2.2.1
  have hE := F.2.2.2.2.2.2.2.2.1
  obtain ⟨-, -, -, -, hV, -⟩ := hE
  exact run_on (va_runV (As := as.map (cv G)) (C := RJ0) (b := ad G (2 + i)) (rest := rest.map (cv G)) (fix_go F) (kk l) ⟨callB_go F y1 y2 y3, hw _ y4, hw _ y6⟩ ⟨pc_blind G (.ref (2 + i) :: as) h, vk_recv (adK := fun i => ad G (2 + i)) (i := i) hV hi hS, pre_go (as := .ref (2 + i) :: as) F hH hS⟩ rfl (by rw [List.length_map]; exact hk) (hL.1) rfl (room_go hr) hd ⟨by omega, by omega⟩) hS
    fun v h' H1 locs1 q hH1 hS1 => q p l e R s m args below meth cd Q H1 locs1 (cells + c1) (slots + n1) L F (by omega) (by omega) hH1 hS1 hL
/-! instanceof -/
theorem AW.instY {a ix ci : Nat} {r : vw_C} {T : String} (hk : kd h a = (0, ci)) (hc : cls[ci]? = some r) (hl : Cond.classLink M.1.cls ix T ∈ WS) (hw : r.1 = T ∨ Cond.castable r.1 T ∈ nwL) (hd : decode M.2.1 pc = .ok (.instanceof ix, 3)) (kk : AW G M d c n K (pc + 3) ls (.int 1 :: st) h) : AW G M d c n K pc ls (.ref a :: st) h := by
  intro p l e R s m args below meth cd Q H locs cells slots L F h1 h2 hH hS hL
  have hE := F.2.2.2.2.2.2.2.2.1
  have hr := va_recv F.2.2.2.2.2.2.2.1 hH.2.2 hc (hH.at (ent_o hk) (kd_ne hk (by decide)))
  rcases hw with rfl | hw
  · exact va_instS F.1 F.2.1 F.2.2.2.1 (F.2.2.2.2.1 _ hl) (F.2.2.2.2.2.2.2.1.1 ci r hc).2 hr hd (kk p l e R s m args below meth cd Q H locs cells slots L F h1 h2 hH hS hL)
  · exact va_instY F.1 F.2.1 F.2.2.2.1 (F.2.2.2.2.1 _ hl) (hE.2.2.2.2.2.2.1 _ hw) hr hd (kk p l e R s m args below meth cd Q H locs cells slots L F h1 h2 hH hS hL)
theorem AW.instN {a ix ci : Nat} {r : vw_C} {T : String} (hk : kd h a = (0, ci)) (hc : cls[ci]? = some r) (hl : Cond.classLink M.1.cls ix T ∈ WS) (hw : (r.1, T) ∈ ncL) (hd : decode M.2.1 pc = .ok (.instanceof ix, 3)) (kk : AW G M d c n K (pc + 3) ls (.int 0 :: st) h) : AW G M d c n K pc ls (.ref a :: st) h := by
  intro p l e R s m args below meth cd Q H locs cells slots L F h1 h2 hH hS hL
  have hE := F.2.2.2.2.2.2.2.2.1
  have hr := va_recv F.2.2.2.2.2.2.2.1 hH.2.2 hc (hH.at (ent_o hk) (kd_ne hk (by decide)))
  exact va_instNo F.1 F.2.1 F.2.2.2.1 (F.2.2.2.2.1 _ hl) (hE.2.2.2.2.2.2.2.1 _ hw) hr hd (kk p l e R s m args below meth cd Q H locs cells slots L F h1 h2 hH hS hL)
end OUT
end
section
theorem zz_t : True := by trivial
end
