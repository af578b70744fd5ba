section
-- ===== PART A: goes FIRST, ahead of the names: the tables' words, and 'selects' of the private methods out of them =====
/-- a private method of a class that the tables say can be made, by its rows of tables_1 -/
def lw_okq (q : MethodName × Nat) : Prop := (q.1.cls ≠ "java/lang/invoke/MethodHandle" ∧ q.1.cls ≠ "java/lang/invoke/VarHandle") ∧ Cond.instantiable q.1.cls q.2 ∈ tables_1 ∧ Cond.privateMethod q.1 ∈ tables_1 ∧ Cond.instanceMethod q.1 ∈ tables_1
theorem lw_p0 : lw_okq (⟨"KilnVillage$Tokens", "scanOne", "()I"⟩, 7) := ⟨⟨by decide +kernel, by decide +kernel⟩, List.mem_of_getElem? (i := 280) (by decide +kernel), List.mem_of_getElem? (i := 368) (by decide +kernel), List.mem_of_getElem? (i := 369) (by decide +kernel)⟩
theorem lw_p1 : lw_okq (⟨"KilnVillage$Tokens", "scanWord", "()I"⟩, 7) := ⟨⟨by decide +kernel, by decide +kernel⟩, List.mem_of_getElem? (i := 280) (by decide +kernel), List.mem_of_getElem? (i := 378) (by decide +kernel), List.mem_of_getElem? (i := 379) (by decide +kernel)⟩
theorem lw_p2 : lw_okq (⟨"KilnVillage$Tokens", "wordIs", "(Ljava/lang/String;)Z"⟩, 7) := ⟨⟨by decide +kernel, by decide +kernel⟩, List.mem_of_getElem? (i := 280) (by decide +kernel), List.mem_of_getElem? (i := 383) (by decide +kernel), List.mem_of_getElem? (i := 384) (by decide +kernel)⟩
theorem lw_p3 : lw_okq (⟨"KilnVillage$Tokens", "subjectOfWord", "()I"⟩, 7) := ⟨⟨by decide +kernel, by decide +kernel⟩, List.mem_of_getElem? (i := 280) (by decide +kernel), List.mem_of_getElem? (i := 439) (by decide +kernel), List.mem_of_getElem? (i := 440) (by decide +kernel)⟩
theorem lw_p4 : lw_okq (⟨"KilnVillage$Tokens", "scanNumber", "()I"⟩, 7) := ⟨⟨by decide +kernel, by decide +kernel⟩, List.mem_of_getElem? (i := 280) (by decide +kernel), List.mem_of_getElem? (i := 453) (by decide +kernel), List.mem_of_getElem? (i := 454) (by decide +kernel)⟩
theorem lw_p5 : lw_okq (⟨"KilnVillage$Tokens", "scanSign", "()I"⟩, 7) := ⟨⟨by decide +kernel, by decide +kernel⟩, List.mem_of_getElem? (i := 280) (by decide +kernel), List.mem_of_getElem? (i := 457) (by decide +kernel), List.mem_of_getElem? (i := 458) (by decide +kernel)⟩
theorem lw_p6 : lw_okq (⟨"KilnVillage$Reader", "isAt", "(I)Z"⟩, 5) := ⟨⟨by decide +kernel, by decide +kernel⟩, List.mem_of_getElem? (i := 272) (by decide +kernel), List.mem_of_getElem? (i := 461) (by decide +kernel), List.mem_of_getElem? (i := 462) (by decide +kernel)⟩
theorem lw_p7 : lw_okq (⟨"KilnVillage$Reader", "readLine", "(I)Z"⟩, 5) := ⟨⟨by decide +kernel, by decide +kernel⟩, List.mem_of_getElem? (i := 272) (by decide +kernel), List.mem_of_getElem? (i := 465) (by decide +kernel), List.mem_of_getElem? (i := 466) (by decide +kernel)⟩
theorem lw_p8 : lw_okq (⟨"KilnVillage$Reader", "note", "(I)V"⟩, 5) := ⟨⟨by decide +kernel, by decide +kernel⟩, List.mem_of_getElem? (i := 272) (by decide +kernel), List.mem_of_getElem? (i := 469) (by decide +kernel), List.mem_of_getElem? (i := 470) (by decide +kernel)⟩
theorem lw_p9 : lw_okq (⟨"KilnVillage$Reader", "readCondition", "(I)Z"⟩, 5) := ⟨⟨by decide +kernel, by decide +kernel⟩, List.mem_of_getElem? (i := 272) (by decide +kernel), List.mem_of_getElem? (i := 473) (by decide +kernel), List.mem_of_getElem? (i := 474) (by decide +kernel)⟩
theorem lw_p10 : lw_okq (⟨"KilnVillage$Reader", "take", "(I)Z"⟩, 5) := ⟨⟨by decide +kernel, by decide +kernel⟩, List.mem_of_getElem? (i := 272) (by decide +kernel), List.mem_of_getElem? (i := 477) (by decide +kernel), List.mem_of_getElem? (i := 478) (by decide +kernel)⟩
theorem lw_p11 : lw_okq (⟨"KilnVillage$Reader", "readTest", "(II)Z"⟩, 5) := ⟨⟨by decide +kernel, by decide +kernel⟩, List.mem_of_getElem? (i := 272) (by decide +kernel), List.mem_of_getElem? (i := 481) (by decide +kernel), List.mem_of_getElem? (i := 482) (by decide +kernel)⟩
theorem lw_p12 : lw_okq (⟨"KilnVillage$Reader", "keepTest", "(IIIZ)V"⟩, 5) := ⟨⟨by decide +kernel, by decide +kernel⟩, List.mem_of_getElem? (i := 272) (by decide +kernel), List.mem_of_getElem? (i := 485) (by decide +kernel), List.mem_of_getElem? (i := 486) (by decide +kernel)⟩
theorem lw_p13 : lw_okq (⟨"KilnVillage$Reader", "readDuty", "(I)Z"⟩, 5) := ⟨⟨by decide +kernel, by decide +kernel⟩, List.mem_of_getElem? (i := 272) (by decide +kernel), List.mem_of_getElem? (i := 489) (by decide +kernel), List.mem_of_getElem? (i := 490) (by decide +kernel)⟩
theorem lw_p14 : lw_okq (⟨"KilnVillage$Village", "nextPot", "()I"⟩, 13) := ⟨⟨by decide +kernel, by decide +kernel⟩, List.mem_of_getElem? (i := 26) (by decide +kernel), List.mem_of_getElem? (i := 583) (by decide +kernel), List.mem_of_getElem? (i := 584) (by decide +kernel)⟩
theorem lw_p15 : lw_okq (⟨"KilnVillage$Village", "goesBefore", "(II)Z"⟩, 13) := ⟨⟨by decide +kernel, by decide +kernel⟩, List.mem_of_getElem? (i := 26) (by decide +kernel), List.mem_of_getElem? (i := 587) (by decide +kernel), List.mem_of_getElem? (i := 588) (by decide +kernel)⟩
def lw_privs_1 : List (MethodName × Nat) := [(⟨"KilnVillage$Tokens", "scanOne", "()I"⟩, 7), (⟨"KilnVillage$Tokens", "scanWord", "()I"⟩, 7), (⟨"KilnVillage$Tokens", "wordIs", "(Ljava/lang/String;)Z"⟩, 7), (⟨"KilnVillage$Tokens", "subjectOfWord", "()I"⟩, 7), (⟨"KilnVillage$Tokens", "scanNumber", "()I"⟩, 7), (⟨"KilnVillage$Tokens", "scanSign", "()I"⟩, 7), (⟨"KilnVillage$Reader", "isAt", "(I)Z"⟩, 5), (⟨"KilnVillage$Reader", "readLine", "(I)Z"⟩, 5), (⟨"KilnVillage$Reader", "note", "(I)V"⟩, 5), (⟨"KilnVillage$Reader", "readCondition", "(I)Z"⟩, 5), (⟨"KilnVillage$Reader", "take", "(I)Z"⟩, 5), (⟨"KilnVillage$Reader", "readTest", "(II)Z"⟩, 5), (⟨"KilnVillage$Reader", "keepTest", "(IIIZ)V"⟩, 5), (⟨"KilnVillage$Reader", "readDuty", "(I)Z"⟩, 5), (⟨"KilnVillage$Village", "nextPot", "()I"⟩, 13), (⟨"KilnVillage$Village", "goesBefore", "(II)Z"⟩, 13)]
theorem lw_r1 : ∀ q ∈ lw_privs_1, lw_okq q := List.forall_mem_cons.mpr ⟨lw_p0, List.forall_mem_cons.mpr ⟨lw_p1, List.forall_mem_cons.mpr ⟨lw_p2, List.forall_mem_cons.mpr ⟨lw_p3, List.forall_mem_cons.mpr ⟨lw_p4, List.forall_mem_cons.mpr ⟨lw_p5, List.forall_mem_cons.mpr ⟨lw_p6, List.forall_mem_cons.mpr ⟨lw_p7, List.forall_mem_cons.mpr ⟨lw_p8, List.forall_mem_cons.mpr ⟨lw_p9, List.forall_mem_cons.mpr ⟨lw_p10, List.forall_mem_cons.mpr ⟨lw_p11, List.forall_mem_cons.mpr ⟨lw_p12, List.forall_mem_cons.mpr ⟨lw_p13, List.forall_mem_cons.mpr ⟨lw_p14, List.forall_mem_cons.mpr ⟨lw_p15, fun _ h => absurd h List.not_mem_nil⟩⟩⟩⟩⟩⟩⟩⟩⟩⟩⟩⟩⟩⟩⟩⟩
theorem lw_p16 : lw_okq (⟨"KilnVillage$Village", "giveBack", "(LKilnVillage$Pot;)Z"⟩, 13) := ⟨⟨by decide +kernel, by decide +kernel⟩, List.mem_of_getElem? (i := 26) (by decide +kernel), List.mem_of_getElem? (i := 647) (by decide +kernel), List.mem_of_getElem? (i := 648) (by decide +kernel)⟩
theorem lw_p17 : lw_okq (⟨"KilnVillage$Custom", "allHold", "(ILKilnVillage$Pot;)Z"⟩, 6) := ⟨⟨by decide +kernel, by decide +kernel⟩, List.mem_of_getElem? (i := 49) (by decide +kernel), List.mem_of_getElem? (i := 655) (by decide +kernel), List.mem_of_getElem? (i := 656) (by decide +kernel)⟩
theorem lw_p18 : lw_okq (⟨"KilnVillage$Custom", "holds", "(ILKilnVillage$Pot;)Z"⟩, 6) := ⟨⟨by decide +kernel, by decide +kernel⟩, List.mem_of_getElem? (i := 49) (by decide +kernel), List.mem_of_getElem? (i := 659) (by decide +kernel), List.mem_of_getElem? (i := 660) (by decide +kernel)⟩
theorem lw_p19 : lw_okq (⟨"KilnVillage$Village", "shareLoss", "(LKilnVillage$House;I)V"⟩, 13) := ⟨⟨by decide +kernel, by decide +kernel⟩, List.mem_of_getElem? (i := 26) (by decide +kernel), List.mem_of_getElem? (i := 667) (by decide +kernel), List.mem_of_getElem? (i := 668) (by decide +kernel)⟩
theorem lw_p20 : lw_okq (⟨"KilnVillage$Village", "isRipe", "(LKilnVillage$Pot;)Z"⟩, 13) := ⟨⟨by decide +kernel, by decide +kernel⟩, List.mem_of_getElem? (i := 26) (by decide +kernel), List.mem_of_getElem? (i := 671) (by decide +kernel), List.mem_of_getElem? (i := 672) (by decide +kernel)⟩
theorem lw_p21 : lw_okq (⟨"KilnVillageModel", "begins", "(I)V"⟩, 14) := ⟨⟨by decide +kernel, by decide +kernel⟩, List.mem_of_getElem? (i := 764) (by decide +kernel), List.mem_of_getElem? (i := 770) (by decide +kernel), List.mem_of_getElem? (i := 771) (by decide +kernel)⟩
theorem lw_p22 : lw_okq (⟨"KilnVillageModel", "advance", "()V"⟩, 14) := ⟨⟨by decide +kernel, by decide +kernel⟩, List.mem_of_getElem? (i := 764) (by decide +kernel), List.mem_of_getElem? (i := 830) (by decide +kernel), List.mem_of_getElem? (i := 831) (by decide +kernel)⟩
theorem lw_p23 : lw_okq (⟨"KilnVillageModel", "byteAt", "(I)I"⟩, 14) := ⟨⟨by decide +kernel, by decide +kernel⟩, List.mem_of_getElem? (i := 764) (by decide +kernel), List.mem_of_getElem? (i := 834) (by decide +kernel), List.mem_of_getElem? (i := 835) (by decide +kernel)⟩
theorem lw_p24 : lw_okq (⟨"KilnVillageModel", "aLine", "()V"⟩, 14) := ⟨⟨by decide +kernel, by decide +kernel⟩, List.mem_of_getElem? (i := 764) (by decide +kernel), List.mem_of_getElem? (i := 862) (by decide +kernel), List.mem_of_getElem? (i := 863) (by decide +kernel)⟩
theorem lw_p25 : lw_okq (⟨"KilnVillageModel", "tells", "(II)V"⟩, 14) := ⟨⟨by decide +kernel, by decide +kernel⟩, List.mem_of_getElem? (i := 764) (by decide +kernel), List.mem_of_getElem? (i := 866) (by decide +kernel), List.mem_of_getElem? (i := 867) (by decide +kernel)⟩
theorem lw_p26 : lw_okq (⟨"KilnVillageModel", "takes", "(I)Z"⟩, 14) := ⟨⟨by decide +kernel, by decide +kernel⟩, List.mem_of_getElem? (i := 764) (by decide +kernel), List.mem_of_getElem? (i := 870) (by decide +kernel), List.mem_of_getElem? (i := 871) (by decide +kernel)⟩
theorem lw_p27 : lw_okq (⟨"KilnVillageModel", "aTest", "()V"⟩, 14) := ⟨⟨by decide +kernel, by decide +kernel⟩, List.mem_of_getElem? (i := 764) (by decide +kernel), List.mem_of_getElem? (i := 874) (by decide +kernel), List.mem_of_getElem? (i := 875) (by decide +kernel)⟩
theorem lw_p28 : lw_okq (⟨"KilnVillageModel", "stops", "()V"⟩, 14) := ⟨⟨by decide +kernel, by decide +kernel⟩, List.mem_of_getElem? (i := 764) (by decide +kernel), List.mem_of_getElem? (i := 881) (by decide +kernel), List.mem_of_getElem? (i := 882) (by decide +kernel)⟩
theorem lw_p29 : lw_okq (⟨"KilnVillageModel", "numbered", "()I"⟩, 14) := ⟨⟨by decide +kernel, by decide +kernel⟩, List.mem_of_getElem? (i := 764) (by decide +kernel), List.mem_of_getElem? (i := 885) (by decide +kernel), List.mem_of_getElem? (i := 886) (by decide +kernel)⟩
theorem lw_p30 : lw_okq (⟨"KilnVillageModel", "puts", "(II)V"⟩, 14) := ⟨⟨by decide +kernel, by decide +kernel⟩, List.mem_of_getElem? (i := 764) (by decide +kernel), List.mem_of_getElem? (i := 889) (by decide +kernel), List.mem_of_getElem? (i := 890) (by decide +kernel)⟩
theorem lw_p31 : lw_okq (⟨"KilnVillageModel", "must", "(I)V"⟩, 14) := ⟨⟨by decide +kernel, by decide +kernel⟩, List.mem_of_getElem? (i := 764) (by decide +kernel), List.mem_of_getElem? (i := 893) (by decide +kernel), List.mem_of_getElem? (i := 894) (by decide +kernel)⟩
def lw_privs_2 : List (MethodName × Nat) := [(⟨"KilnVillage$Village", "giveBack", "(LKilnVillage$Pot;)Z"⟩, 13), (⟨"KilnVillage$Custom", "allHold", "(ILKilnVillage$Pot;)Z"⟩, 6), (⟨"KilnVillage$Custom", "holds", "(ILKilnVillage$Pot;)Z"⟩, 6), (⟨"KilnVillage$Village", "shareLoss", "(LKilnVillage$House;I)V"⟩, 13), (⟨"KilnVillage$Village", "isRipe", "(LKilnVillage$Pot;)Z"⟩, 13), (⟨"KilnVillageModel", "begins", "(I)V"⟩, 14), (⟨"KilnVillageModel", "advance", "()V"⟩, 14), (⟨"KilnVillageModel", "byteAt", "(I)I"⟩, 14), (⟨"KilnVillageModel", "aLine", "()V"⟩, 14), (⟨"KilnVillageModel", "tells", "(II)V"⟩, 14), (⟨"KilnVillageModel", "takes", "(I)Z"⟩, 14), (⟨"KilnVillageModel", "aTest", "()V"⟩, 14), (⟨"KilnVillageModel", "stops", "()V"⟩, 14), (⟨"KilnVillageModel", "numbered", "()I"⟩, 14), (⟨"KilnVillageModel", "puts", "(II)V"⟩, 14), (⟨"KilnVillageModel", "must", "(I)V"⟩, 14)]
theorem lw_r2 : ∀ q ∈ lw_privs_2, lw_okq q := List.forall_mem_cons.mpr ⟨lw_p16, List.forall_mem_cons.mpr ⟨lw_p17, List.forall_mem_cons.mpr ⟨lw_p18, List.forall_mem_cons.mpr ⟨lw_p19, List.forall_mem_cons.mpr ⟨lw_p20, List.forall_mem_cons.mpr ⟨lw_p21, List.forall_mem_cons.mpr ⟨lw_p22, List.forall_mem_cons.mpr ⟨lw_p23, List.forall_mem_cons.mpr ⟨lw_p24, List.forall_mem_cons.mpr ⟨lw_p25, List.forall_mem_cons.mpr ⟨lw_p26, List.forall_mem_cons.mpr ⟨lw_p27, List.forall_mem_cons.mpr ⟨lw_p28, List.forall_mem_cons.mpr ⟨lw_p29, List.forall_mem_cons.mpr ⟨lw_p30, List.forall_mem_cons.mpr ⟨lw_p31, fun _ h => absurd h List.not_mem_nil⟩⟩⟩⟩⟩⟩⟩⟩⟩⟩⟩⟩⟩⟩⟩⟩
theorem lw_p32 : lw_okq (⟨"KilnVillageModel", "standing", "()I"⟩, 14) := ⟨⟨by decide +kernel, by decide +kernel⟩, List.mem_of_getElem? (i := 764) (by decide +kernel), List.mem_of_getElem? (i := 917) (by decide +kernel), List.mem_of_getElem? (i := 918) (by decide +kernel)⟩
theorem lw_p33 : lw_okq (⟨"KilnVillageModel", "stands", "(I)Z"⟩, 14) := ⟨⟨by decide +kernel, by decide +kernel⟩, List.mem_of_getElem? (i := 764) (by decide +kernel), List.mem_of_getElem? (i := 921) (by decide +kernel), List.mem_of_getElem? (i := 922) (by decide +kernel)⟩
theorem lw_p34 : lw_okq (⟨"KilnVillageModel", "its", "(II)I"⟩, 14) := ⟨⟨by decide +kernel, by decide +kernel⟩, List.mem_of_getElem? (i := 764) (by decide +kernel), List.mem_of_getElem? (i := 925) (by decide +kernel), List.mem_of_getElem? (i := 926) (by decide +kernel)⟩
theorem lw_p35 : lw_okq (⟨"KilnVillageModel", "isPlace", "(II)Z"⟩, 14) := ⟨⟨by decide +kernel, by decide +kernel⟩, List.mem_of_getElem? (i := 764) (by decide +kernel), List.mem_of_getElem? (i := 933) (by decide +kernel), List.mem_of_getElem? (i := 934) (by decide +kernel)⟩
theorem lw_p36 : lw_okq (⟨"KilnVillageModel", "isHouse", "(I)Z"⟩, 14) := ⟨⟨by decide +kernel, by decide +kernel⟩, List.mem_of_getElem? (i := 764) (by decide +kernel), List.mem_of_getElem? (i := 941) (by decide +kernel), List.mem_of_getElem? (i := 942) (by decide +kernel)⟩
theorem lw_p37 : lw_okq (⟨"KilnVillageModel", "sets", "(III)V"⟩, 14) := ⟨⟨by decide +kernel, by decide +kernel⟩, List.mem_of_getElem? (i := 764) (by decide +kernel), List.mem_of_getElem? (i := 945) (by decide +kernel), List.mem_of_getElem? (i := 946) (by decide +kernel)⟩
theorem lw_p38 : lw_okq (⟨"KilnVillageModel", "greatestHeat", "()I"⟩, 14) := ⟨⟨by decide +kernel, by decide +kernel⟩, List.mem_of_getElem? (i := 764) (by decide +kernel), List.mem_of_getElem? (i := 957) (by decide +kernel), List.mem_of_getElem? (i := 958) (by decide +kernel)⟩
theorem lw_p39 : lw_okq (⟨"KilnVillageModel", "nextHouse", "()I"⟩, 14) := ⟨⟨by decide +kernel, by decide +kernel⟩, List.mem_of_getElem? (i := 764) (by decide +kernel), List.mem_of_getElem? (i := 961) (by decide +kernel), List.mem_of_getElem? (i := 962) (by decide +kernel)⟩
theorem lw_p40 : lw_okq (⟨"KilnVillageModel", "waiting", "(I)I"⟩, 14) := ⟨⟨by decide +kernel, by decide +kernel⟩, List.mem_of_getElem? (i := 764) (by decide +kernel), List.mem_of_getElem? (i := 965) (by decide +kernel), List.mem_of_getElem? (i := 966) (by decide +kernel)⟩
theorem lw_p41 : lw_okq (⟨"KilnVillageModel", "of", "(II)I"⟩, 14) := ⟨⟨by decide +kernel, by decide +kernel⟩, List.mem_of_getElem? (i := 764) (by decide +kernel), List.mem_of_getElem? (i := 969) (by decide +kernel), List.mem_of_getElem? (i := 970) (by decide +kernel)⟩
theorem lw_p42 : lw_okq (⟨"KilnVillageModel", "bestPlace", "()I"⟩, 14) := ⟨⟨by decide +kernel, by decide +kernel⟩, List.mem_of_getElem? (i := 764) (by decide +kernel), List.mem_of_getElem? (i := 973) (by decide +kernel), List.mem_of_getElem? (i := 974) (by decide +kernel)⟩
theorem lw_p43 : lw_okq (⟨"KilnVillageModel", "at0", "(I)I"⟩, 14) := ⟨⟨by decide +kernel, by decide +kernel⟩, List.mem_of_getElem? (i := 764) (by decide +kernel), List.mem_of_getElem? (i := 977) (by decide +kernel), List.mem_of_getElem? (i := 978) (by decide +kernel)⟩
theorem lw_p44 : lw_okq (⟨"KilnVillageModel", "adds", "(III)V"⟩, 14) := ⟨⟨by decide +kernel, by decide +kernel⟩, List.mem_of_getElem? (i := 764) (by decide +kernel), List.mem_of_getElem? (i := 981) (by decide +kernel), List.mem_of_getElem? (i := 982) (by decide +kernel)⟩
theorem lw_p45 : lw_okq (⟨"KilnVillageModel", "hour", "(II)V"⟩, 14) := ⟨⟨by decide +kernel, by decide +kernel⟩, List.mem_of_getElem? (i := 764) (by decide +kernel), List.mem_of_getElem? (i := 993) (by decide +kernel), List.mem_of_getElem? (i := 994) (by decide +kernel)⟩
theorem lw_p46 : lw_okq (⟨"KilnVillageModel", "bakes", "(II)V"⟩, 14) := ⟨⟨by decide +kernel, by decide +kernel⟩, List.mem_of_getElem? (i := 764) (by decide +kernel), List.mem_of_getElem? (i := 997) (by decide +kernel), List.mem_of_getElem? (i := 998) (by decide +kernel)⟩
theorem lw_p47 : lw_okq (⟨"KilnVillageModel", "gives", "(I)Z"⟩, 14) := ⟨⟨by decide +kernel, by decide +kernel⟩, List.mem_of_getElem? (i := 764) (by decide +kernel), List.mem_of_getElem? (i := 1013) (by decide +kernel), List.mem_of_getElem? (i := 1014) (by decide +kernel)⟩
def lw_privs_3 : List (MethodName × Nat) := [(⟨"KilnVillageModel", "standing", "()I"⟩, 14), (⟨"KilnVillageModel", "stands", "(I)Z"⟩, 14), (⟨"KilnVillageModel", "its", "(II)I"⟩, 14), (⟨"KilnVillageModel", "isPlace", "(II)Z"⟩, 14), (⟨"KilnVillageModel", "isHouse", "(I)Z"⟩, 14), (⟨"KilnVillageModel", "sets", "(III)V"⟩, 14), (⟨"KilnVillageModel", "greatestHeat", "()I"⟩, 14), (⟨"KilnVillageModel", "nextHouse", "()I"⟩, 14), (⟨"KilnVillageModel", "waiting", "(I)I"⟩, 14), (⟨"KilnVillageModel", "of", "(II)I"⟩, 14), (⟨"KilnVillageModel", "bestPlace", "()I"⟩, 14), (⟨"KilnVillageModel", "at0", "(I)I"⟩, 14), (⟨"KilnVillageModel", "adds", "(III)V"⟩, 14), (⟨"KilnVillageModel", "hour", "(II)V"⟩, 14), (⟨"KilnVillageModel", "bakes", "(II)V"⟩, 14), (⟨"KilnVillageModel", "gives", "(I)Z"⟩, 14)]
theorem lw_r3 : ∀ q ∈ lw_privs_3, lw_okq q := List.forall_mem_cons.mpr ⟨lw_p32, List.forall_mem_cons.mpr ⟨lw_p33, List.forall_mem_cons.mpr ⟨lw_p34, List.forall_mem_cons.mpr ⟨lw_p35, List.forall_mem_cons.mpr ⟨lw_p36, List.forall_mem_cons.mpr ⟨lw_p37, List.forall_mem_cons.mpr ⟨lw_p38, List.forall_mem_cons.mpr ⟨lw_p39, List.forall_mem_cons.mpr ⟨lw_p40, List.forall_mem_cons.mpr ⟨lw_p41, List.forall_mem_cons.mpr ⟨lw_p42, List.forall_mem_cons.mpr ⟨lw_p43, List.forall_mem_cons.mpr ⟨lw_p44, List.forall_mem_cons.mpr ⟨lw_p45, List.forall_mem_cons.mpr ⟨lw_p46, List.forall_mem_cons.mpr ⟨lw_p47, fun _ h => absurd h List.not_mem_nil⟩⟩⟩⟩⟩⟩⟩⟩⟩⟩⟩⟩⟩⟩⟩⟩
theorem lw_p48 : lw_okq (⟨"KilnVillageModel", "isRipe", "(I)Z"⟩, 14) := ⟨⟨by decide +kernel, by decide +kernel⟩, List.mem_of_getElem? (i := 764) (by decide +kernel), List.mem_of_getElem? (i := 1017) (by decide +kernel), List.mem_of_getElem? (i := 1018) (by decide +kernel)⟩
theorem lw_p49 : lw_okq (⟨"KilnVillageModel", "customOf", "(I)I"⟩, 14) := ⟨⟨by decide +kernel, by decide +kernel⟩, List.mem_of_getElem? (i := 764) (by decide +kernel), List.mem_of_getElem? (i := 1021) (by decide +kernel), List.mem_of_getElem? (i := 1022) (by decide +kernel)⟩
theorem lw_p50 : lw_okq (⟨"KilnVillageModel", "holds", "(II)Z"⟩, 14) := ⟨⟨by decide +kernel, by decide +kernel⟩, List.mem_of_getElem? (i := 764) (by decide +kernel), List.mem_of_getElem? (i := 1025) (by decide +kernel), List.mem_of_getElem? (i := 1026) (by decide +kernel)⟩
theorem lw_p51 : lw_okq (⟨"KilnVillageModel", "asked", "(II)I"⟩, 14) := ⟨⟨by decide +kernel, by decide +kernel⟩, List.mem_of_getElem? (i := 764) (by decide +kernel), List.mem_of_getElem? (i := 1029) (by decide +kernel), List.mem_of_getElem? (i := 1030) (by decide +kernel)⟩
theorem lw_p52 : lw_okq (⟨"KilnVillageModel", "can", "(II)Z"⟩, 14) := ⟨⟨by decide +kernel, by decide +kernel⟩, List.mem_of_getElem? (i := 764) (by decide +kernel), List.mem_of_getElem? (i := 1049) (by decide +kernel), List.mem_of_getElem? (i := 1050) (by decide +kernel)⟩
theorem lw_p53 : lw_okq (⟨"KilnVillageModel", "best", "(I)I"⟩, 14) := ⟨⟨by decide +kernel, by decide +kernel⟩, List.mem_of_getElem? (i := 764) (by decide +kernel), List.mem_of_getElem? (i := 1062) (by decide +kernel), List.mem_of_getElem? (i := 1063) (by decide +kernel)⟩
theorem lw_p54 : lw_okq (⟨"KilnVillageModel", "worthOf", "(II)I"⟩, 14) := ⟨⟨by decide +kernel, by decide +kernel⟩, List.mem_of_getElem? (i := 764) (by decide +kernel), List.mem_of_getElem? (i := 1066) (by decide +kernel), List.mem_of_getElem? (i := 1067) (by decide +kernel)⟩
def lw_privs_4 : List (MethodName × Nat) := [(⟨"KilnVillageModel", "isRipe", "(I)Z"⟩, 14), (⟨"KilnVillageModel", "customOf", "(I)I"⟩, 14), (⟨"KilnVillageModel", "holds", "(II)Z"⟩, 14), (⟨"KilnVillageModel", "asked", "(II)I"⟩, 14), (⟨"KilnVillageModel", "can", "(II)Z"⟩, 14), (⟨"KilnVillageModel", "best", "(I)I"⟩, 14), (⟨"KilnVillageModel", "worthOf", "(II)I"⟩, 14)]
theorem lw_r4 : ∀ q ∈ lw_privs_4, lw_okq q := List.forall_mem_cons.mpr ⟨lw_p48, List.forall_mem_cons.mpr ⟨lw_p49, List.forall_mem_cons.mpr ⟨lw_p50, List.forall_mem_cons.mpr ⟨lw_p51, List.forall_mem_cons.mpr ⟨lw_p52, List.forall_mem_cons.mpr ⟨lw_p53, List.forall_mem_cons.mpr ⟨lw_p54, fun _ h => absurd h List.not_mem_nil⟩⟩⟩⟩⟩⟩⟩
def lw_privs : List (MethodName × Nat) := lw_privs_1 ++ (lw_privs_2 ++ (lw_privs_3 ++ (lw_privs_4)))
def lw_tbl : List Cond := k2_sels lw_privs ++ tables_1
theorem lw_privs_ok : ∀ q ∈ lw_privs, lw_okq q := by
  show ∀ q ∈ lw_privs_1 ++ (lw_privs_2 ++ (lw_privs_3 ++ (lw_privs_4))), lw_okq q
  exact List.forall_mem_append.mpr ⟨lw_r1, List.forall_mem_append.mpr ⟨lw_r2, List.forall_mem_append.mpr ⟨lw_r3, lw_r4⟩⟩⟩
-- ===== end of PART A; then your names; then what follows =====
end
section
/-! ===== BEGIN printed: names, fields, word lists, decode rows ===== -/
def RX0 : String := "KilnVillage$Custom"
def TX0 : u_T := fun k => match k with
  | 0 => ("KilnVillage$Custom", "lines", "I", false)
  | 1 => ("KilnVillage$Custom", "parts", "[I", true)
  | 2 => ("KilnVillage$Custom", "tests", "[I", true)
  | 3 => ("KilnVillage$Custom", "subjects", "[I", true)
  | 4 => ("KilnVillage$Custom", "relations", "[I", true)
  | _ => ("KilnVillage$Custom", "numbers", "[I", true)
def tyX0 : Nat → FieldType := fun k => match k with
  | 0 => .int
  | 1 => .array .int
  | 2 => .array .int
  | 3 => .array .int
  | 4 => .array .int
  | _ => .array .int
abbrev wsX00 : List Cond := u_ws RX0 TX0 6
theorem nmX0 : ∀ a, a < 6 → ∀ b, b < 6 → a ≠ b → (TX0 a).2.1 ≠ (TX0 b).2.1 := by decide +kernel
theorem tyX0_ok : ∀ k, k < 6 → parseFieldDescriptor (TX0 k).2.2.1 = some (tyX0 k) := by decide +kernel
abbrev cX0_init : ByteArray := prog_2_method_1_code
def yX0_init : MethodName := ⟨RX0, "<init>", "()V"⟩
abbrev cX0_copyFrom : ByteArray := prog_2_method_2_code
def yX0_copyFrom : MethodName := ⟨RX0, "copyFrom", "(LKilnVillage$Custom;)V"⟩
abbrev cX0_partFor : ByteArray := prog_2_method_3_code
def yX0_partFor : MethodName := ⟨RX0, "partFor", "(LKilnVillage$Pot;)I"⟩
abbrev cX0_allHold : ByteArray := prog_2_method_4_code
def yX0_allHold : MethodName := ⟨RX0, "allHold", "(ILKilnVillage$Pot;)Z"⟩
abbrev cX0_holds : ByteArray := prog_2_method_5_code
def yX0_holds : MethodName := ⟨RX0, "holds", "(ILKilnVillage$Pot;)Z"⟩
def RX1 : String := "KilnVillage$House"
def TX1 : u_T := fun k => match k with
  | 0 => ("KilnVillage$House", "silver", "I", false)
  | 1 => ("KilnVillage$House", "had", "I", false)
  | 2 => ("KilnVillage$House", "everHadPot", "Z", false)
  | 3 => ("KilnVillage$House", "crackedBack", "I", false)
  | 4 => ("KilnVillage$House", "orders", "I", false)
  | 5 => ("KilnVillage$House", "days", "[I", true)
  | 6 => ("KilnVillage$House", "dues", "[I", true)
  | 7 => ("KilnVillage$House", "worths", "[I", true)
  | _ => ("KilnVillage$House", "byDue", "[I", true)
def tyX1 : Nat → FieldType := fun k => match k with
  | 0 => .int
  | 1 => .int
  | 2 => .boolean
  | 3 => .int
  | 4 => .int
  | 5 => .array .int
  | 6 => .array .int
  | 7 => .array .int
  | _ => .array .int
abbrev wsX10 : List Cond := u_ws RX1 TX1 9
theorem nmX1 : ∀ a, a < 9 → ∀ b, b < 9 → a ≠ b → (TX1 a).2.1 ≠ (TX1 b).2.1 := by decide +kernel
theorem tyX1_ok : ∀ k, k < 9 → parseFieldDescriptor (TX1 k).2.2.1 = some (tyX1 k) := by decide +kernel
abbrev cX1_init : ByteArray := prog_3_method_1_code
def yX1_init : MethodName := ⟨RX1, "<init>", "()V"⟩
abbrev cX1_copyFrom : ByteArray := prog_3_method_2_code
def yX1_copyFrom : MethodName := ⟨RX1, "copyFrom", "(LKilnVillage$House;)V"⟩
abbrev cX1_takeOrder : ByteArray := prog_3_method_3_code
def yX1_takeOrder : MethodName := ⟨RX1, "takeOrder", "(III)V"⟩
abbrev cX1_hasOrders : ByteArray := prog_3_method_4_code
def yX1_hasOrders : MethodName := ⟨RX1, "hasOrders", "(I)Z"⟩
abbrev cX1_canDo : ByteArray := prog_3_method_5_code
def yX1_canDo : MethodName := ⟨RX1, "canDo", "(I)Z"⟩
abbrev cX1_worthOf : ByteArray := prog_3_method_6_code
def yX1_worthOf : MethodName := ⟨RX1, "worthOf", "(I)I"⟩
abbrev cX1_bestOrders : ByteArray := prog_3_method_7_code
def yX1_bestOrders : MethodName := ⟨RX1, "bestOrders", "()I"⟩
def RX2 : String := "KilnVillage$Kiln"
def TX2 : u_T := fun k => match k with
  | 0 => ("KilnVillage$Kiln", "chambers", "I", false)
  | 1 => ("KilnVillage$Kiln", "hours", "I", false)
  | 2 => ("KilnVillage$Kiln", "logs", "I", false)
  | 3 => ("KilnVillage$Kiln", "heats", "[I", true)
  | 4 => ("KilnVillage$Kiln", "heatsBefore", "[I", true)
  | 5 => ("KilnVillage$Kiln", "values", "[I", true)
  | _ => ("KilnVillage$Kiln", "holders", "[I", true)
def tyX2 : Nat → FieldType := fun k => match k with
  | 0 => .int
  | 1 => .int
  | 2 => .int
  | 3 => .array .int
  | 4 => .array .int
  | 5 => .array .int
  | _ => .array .int
abbrev wsX20 : List Cond := u_ws RX2 TX2 7
theorem nmX2 : ∀ a, a < 7 → ∀ b, b < 7 → a ≠ b → (TX2 a).2.1 ≠ (TX2 b).2.1 := by decide +kernel
theorem tyX2_ok : ∀ k, k < 7 → parseFieldDescriptor (TX2 k).2.2.1 = some (tyX2 k) := by decide +kernel
abbrev cX2_init : ByteArray := prog_4_method_1_code
def yX2_init : MethodName := ⟨RX2, "<init>", "()V"⟩
abbrev cX2_build : ByteArray := prog_4_method_2_code
def yX2_build : MethodName := ⟨RX2, "build", "(I)V"⟩
abbrev cX2_clear : ByteArray := prog_4_method_3_code
def yX2_clear : MethodName := ⟨RX2, "clear", "()V"⟩
abbrev cX2_copyFrom : ByteArray := prog_4_method_4_code
def yX2_copyFrom : MethodName := ⟨RX2, "copyFrom", "(LKilnVillage$Kiln;)V"⟩
abbrev cX2_hasChamber : ByteArray := prog_4_method_5_code
def yX2_hasChamber : MethodName := ⟨RX2, "hasChamber", "(I)Z"⟩
abbrev cX2_hasPlace : ByteArray := prog_4_method_6_code
def yX2_hasPlace : MethodName := ⟨RX2, "hasPlace", "(II)Z"⟩
abbrev cX2_burn : ByteArray := prog_4_method_7_code
def yX2_burn : MethodName := ⟨RX2, "burn", "(II)V"⟩
abbrev cX2_changeOf : ByteArray := prog_4_method_8_code
def yX2_changeOf : MethodName := ⟨RX2, "changeOf", "(I)I"⟩
abbrev cX2_greatestHeat : ByteArray := prog_4_method_9_code
def yX2_greatestHeat : MethodName := ⟨RX2, "greatestHeat", "()I"⟩
abbrev cX2_heatsTogether : ByteArray := prog_4_method_10_code
def yX2_heatsTogether : MethodName := ⟨RX2, "heatsTogether", "()I"⟩
abbrev cX2_bestFreePlace : ByteArray := prog_4_method_11_code
def yX2_bestFreePlace : MethodName := ⟨RX2, "bestFreePlace", "()I"⟩
def RX3 : String := "KilnVillage$Pot"
def TX3 : u_T := fun k => match k with
  | 0 => ("KilnVillage$Pot", "house", "I", false)
  | 1 => ("KilnVillage$Pot", "shape", "I", false)
  | 2 => ("KilnVillage$Pot", "glaze", "I", false)
  | 3 => ("KilnVillage$Pot", "wet", "I", false)
  | 4 => ("KilnVillage$Pot", "chamber", "I", false)
  | 5 => ("KilnVillage$Pot", "spot", "I", false)
  | 6 => ("KilnVillage$Pot", "cracked", "Z", false)
  | _ => ("KilnVillage$Pot", "ripe", "I", false)
def tyX3 : Nat → FieldType := fun k => match k with
  | 0 => .int
  | 1 => .int
  | 2 => .int
  | 3 => .int
  | 4 => .int
  | 5 => .int
  | 6 => .boolean
  | _ => .int
abbrev wsX30 : List Cond := u_ws RX3 TX3 8
theorem nmX3 : ∀ a, a < 8 → ∀ b, b < 8 → a ≠ b → (TX3 a).2.1 ≠ (TX3 b).2.1 := by decide +kernel
theorem tyX3_ok : ∀ k, k < 8 → parseFieldDescriptor (TX3 k).2.2.1 = some (tyX3 k) := by decide +kernel
abbrev cX3_init : ByteArray := prog_5_method_1_code
def yX3_init : MethodName := ⟨RX3, "<init>", "()V"⟩
abbrev cX3_turn : ByteArray := prog_5_method_2_code
def yX3_turn : MethodName := ⟨RX3, "turn", "(IIII)V"⟩
abbrev cX3_copyFrom : ByteArray := prog_5_method_3_code
def yX3_copyFrom : MethodName := ⟨RX3, "copyFrom", "(LKilnVillage$Pot;)V"⟩
abbrev cX3_stands : ByteArray := prog_5_method_4_code
def yX3_stands : MethodName := ⟨RX3, "stands", "()Z"⟩
abbrev cX3_bear : ByteArray := prog_5_method_5_code
def yX3_bear : MethodName := ⟨RX3, "bear", "(III)V"⟩
abbrev cX3_subject : ByteArray := prog_5_method_6_code
def yX3_subject : MethodName := ⟨RX3, "subject", "(I)I"⟩
def RX4 : String := "KilnVillage$Reader"
def TX4 : u_T := fun k => match k with
  | 0 => ("KilnVillage$Reader", "draft", "LKilnVillage$Custom;", true)
  | 1 => ("KilnVillage$Reader", "fault", "I", false)
  | 2 => ("KilnVillage$Reader", "faultPlace", "I", false)
  | 3 => ("KilnVillage$Reader", "tokens", "LKilnVillage$Tokens;", true)
  | _ => ("KilnVillage$Reader", "at", "I", false)
def tyX4 : Nat → FieldType := fun k => match k with
  | 0 => .object "KilnVillage$Custom"
  | 1 => .int
  | 2 => .int
  | 3 => .object "KilnVillage$Tokens"
  | _ => .int
abbrev wsX40 : List Cond := u_ws RX4 TX4 5
theorem nmX4 : ∀ a, a < 5 → ∀ b, b < 5 → a ≠ b → (TX4 a).2.1 ≠ (TX4 b).2.1 := by decide +kernel
theorem tyX4_ok : ∀ k, k < 5 → parseFieldDescriptor (TX4 k).2.2.1 = some (tyX4 k) := by decide +kernel
abbrev cX4_init : ByteArray := prog_6_method_1_code
def yX4_init : MethodName := ⟨RX4, "<init>", "(LKilnVillage$Tape;)V"⟩
abbrev cX4_read : ByteArray := prog_6_method_2_code
def yX4_read : MethodName := ⟨RX4, "read", "()V"⟩
abbrev cX4_readLine : ByteArray := prog_6_method_3_code
def yX4_readLine : MethodName := ⟨RX4, "readLine", "(I)Z"⟩
abbrev cX4_readCondition : ByteArray := prog_6_method_4_code
def yX4_readCondition : MethodName := ⟨RX4, "readCondition", "(I)Z"⟩
abbrev cX4_readTest : ByteArray := prog_6_method_5_code
def yX4_readTest : MethodName := ⟨RX4, "readTest", "(II)Z"⟩
abbrev cX4_keepTest : ByteArray := prog_6_method_6_code
def yX4_keepTest : MethodName := ⟨RX4, "keepTest", "(IIIZ)V"⟩
abbrev cX4_readDuty : ByteArray := prog_6_method_7_code
def yX4_readDuty : MethodName := ⟨RX4, "readDuty", "(I)Z"⟩
abbrev cX4_note : ByteArray := prog_6_method_8_code
def yX4_note : MethodName := ⟨RX4, "note", "(I)V"⟩
abbrev cX4_isAt : ByteArray := prog_6_method_9_code
def yX4_isAt : MethodName := ⟨RX4, "isAt", "(I)Z"⟩
abbrev cX4_take : ByteArray := prog_6_method_10_code
def yX4_take : MethodName := ⟨RX4, "take", "(I)Z"⟩
def RX5 : String := "KilnVillage$Tape"
def TX5 : u_T := fun k => match k with
  | 0 => ("KilnVillage$Tape", "bytes", "[B", true)
  | _ => ("KilnVillage$Tape", "length", "I", false)
def tyX5 : Nat → FieldType := fun k => match k with
  | 0 => .array .byte
  | _ => .int
abbrev wsX50 : List Cond := u_ws RX5 TX5 2
theorem nmX5 : ∀ a, a < 2 → ∀ b, b < 2 → a ≠ b → (TX5 a).2.1 ≠ (TX5 b).2.1 := by decide +kernel
theorem tyX5_ok : ∀ k, k < 2 → parseFieldDescriptor (TX5 k).2.2.1 = some (tyX5 k) := by decide +kernel
abbrev cX5_init : ByteArray := prog_7_method_1_code
def yX5_init : MethodName := ⟨RX5, "<init>", "()V"⟩
abbrev cX5_copyFrom : ByteArray := prog_7_method_2_code
def yX5_copyFrom : MethodName := ⟨RX5, "copyFrom", "(LKilnVillage$Tape;)V"⟩
abbrev cX5_append : ByteArray := prog_7_method_3_code
def yX5_append : MethodName := ⟨RX5, "append", "(I)V"⟩
def RX6 : String := "KilnVillage$Tokens"
def TX6 : u_T := fun k => match k with
  | 0 => ("KilnVillage$Tokens", "tape", "LKilnVillage$Tape;", true)
  | 1 => ("KilnVillage$Tokens", "kinds", "[I", true)
  | 2 => ("KilnVillage$Tokens", "meanings", "[I", true)
  | 3 => ("KilnVillage$Tokens", "places", "[I", true)
  | 4 => ("KilnVillage$Tokens", "first", "I", false)
  | 5 => ("KilnVillage$Tokens", "next", "I", false)
  | _ => ("KilnVillage$Tokens", "meaning", "I", false)
def tyX6 : Nat → FieldType := fun k => match k with
  | 0 => .object "KilnVillage$Tape"
  | 1 => .array .int
  | 2 => .array .int
  | 3 => .array .int
  | 4 => .int
  | 5 => .int
  | _ => .int
abbrev wsX60 : List Cond := u_ws RX6 TX6 7
theorem nmX6 : ∀ a, a < 7 → ∀ b, b < 7 → a ≠ b → (TX6 a).2.1 ≠ (TX6 b).2.1 := by decide +kernel
theorem tyX6_ok : ∀ k, k < 7 → parseFieldDescriptor (TX6 k).2.2.1 = some (tyX6 k) := by decide +kernel
abbrev cX6_init : ByteArray := prog_8_method_1_code
def yX6_init : MethodName := ⟨RX6, "<init>", "(LKilnVillage$Tape;)V"⟩
abbrev cX6_scan : ByteArray := prog_8_method_2_code
def yX6_scan : MethodName := ⟨RX6, "scan", "()V"⟩
abbrev cX6_scanOne : ByteArray := prog_8_method_3_code
def yX6_scanOne : MethodName := ⟨RX6, "scanOne", "()I"⟩
abbrev cX6_scanWord : ByteArray := prog_8_method_4_code
def yX6_scanWord : MethodName := ⟨RX6, "scanWord", "()I"⟩
abbrev cX6_subjectOfWord : ByteArray := prog_8_method_5_code
def yX6_subjectOfWord : MethodName := ⟨RX6, "subjectOfWord", "()I"⟩
abbrev cX6_wordIs : ByteArray := prog_8_method_6_code
def yX6_wordIs : MethodName := ⟨RX6, "wordIs", "(Ljava/lang/String;)Z"⟩
abbrev cX6_scanNumber : ByteArray := prog_8_method_7_code
def yX6_scanNumber : MethodName := ⟨RX6, "scanNumber", "()I"⟩
abbrev cX6_scanSign : ByteArray := prog_8_method_8_code
def yX6_scanSign : MethodName := ⟨RX6, "scanSign", "()I"⟩
abbrev cX6_isBlank : ByteArray := prog_8_method_9_code
def yX6_isBlank : MethodName := ⟨RX6, "isBlank", "(I)Z"⟩
abbrev cX6_isLetter : ByteArray := prog_8_method_10_code
def yX6_isLetter : MethodName := ⟨RX6, "isLetter", "(I)Z"⟩
abbrev cX6_isDigit : ByteArray := prog_8_method_11_code
def yX6_isDigit : MethodName := ⟨RX6, "isDigit", "(I)Z"⟩
def RX7 : String := "KilnVillage$Village"
def TX7 : u_T := fun k => match k with
  | 0 => ("KilnVillage$Village", "tape", "LKilnVillage$Tape;", true)
  | 1 => ("KilnVillage$Village", "custom", "LKilnVillage$Custom;", true)
  | 2 => ("KilnVillage$Village", "fault", "I", false)
  | 3 => ("KilnVillage$Village", "faultPlace", "I", false)
  | 4 => ("KilnVillage$Village", "houses", "[LKilnVillage$House;", true)
  | 5 => ("KilnVillage$Village", "houseCount", "I", false)
  | 6 => ("KilnVillage$Village", "shapeWorths", "[I", true)
  | 7 => ("KilnVillage$Village", "shapeToughs", "[I", true)
  | 8 => ("KilnVillage$Village", "glazeAshes", "[I", true)
  | 9 => ("KilnVillage$Village", "kiln", "LKilnVillage$Kiln;", true)
  | 10 => ("KilnVillage$Village", "pots", "[LKilnVillage$Pot;", true)
  | 11 => ("KilnVillage$Village", "potCount", "I", false)
  | _ => ("KilnVillage$Village", "openings", "I", false)
def tyX7 : Nat → FieldType := fun k => match k with
  | 0 => .object "KilnVillage$Tape"
  | 1 => .object "KilnVillage$Custom"
  | 2 => .int
  | 3 => .int
  | 4 => .array (.object "KilnVillage$House")
  | 5 => .int
  | 6 => .array .int
  | 7 => .array .int
  | 8 => .array .int
  | 9 => .object "KilnVillage$Kiln"
  | 10 => .array (.object "KilnVillage$Pot")
  | 11 => .int
  | _ => .int
abbrev wsX70 : List Cond := u_ws RX7 TX7 13
theorem nmX7 : ∀ a, a < 13 → ∀ b, b < 13 → a ≠ b → (TX7 a).2.1 ≠ (TX7 b).2.1 := by decide +kernel
theorem tyX7_ok : ∀ k, k < 13 → parseFieldDescriptor (TX7 k).2.2.1 = some (tyX7 k) := by decide +kernel
abbrev cX7_init : ByteArray := prog_9_method_1_code
def yX7_init : MethodName := ⟨RX7, "<init>", "()V"⟩
abbrev cX7_copyFrom : ByteArray := prog_9_method_2_code
def yX7_copyFrom : MethodName := ⟨RX7, "copyFrom", "(LKilnVillage$Village;)V"⟩
abbrev cX7_hasHouse : ByteArray := prog_9_method_3_code
def yX7_hasHouse : MethodName := ⟨RX7, "hasHouse", "(I)Z"⟩
abbrev cX7_standingPots : ByteArray := prog_9_method_4_code
def yX7_standingPots : MethodName := ⟨RX7, "standingPots", "()I"⟩
abbrev cX7_potsOf : ByteArray := prog_9_method_5_code
def yX7_potsOf : MethodName := ⟨RX7, "potsOf", "(IZ)I"⟩
abbrev cX7_dryWaiting : ByteArray := prog_9_method_6_code
def yX7_dryWaiting : MethodName := ⟨RX7, "dryWaiting", "(I)V"⟩
abbrev cX7_dealPlaces : ByteArray := prog_9_method_7_code
def yX7_dealPlaces : MethodName := ⟨RX7, "dealPlaces", "()I"⟩
abbrev cX7_nextPot : ByteArray := prog_9_method_8_code
def yX7_nextPot : MethodName := ⟨RX7, "nextPot", "()I"⟩
abbrev cX7_goesBefore : ByteArray := prog_9_method_9_code
def yX7_goesBefore : MethodName := ⟨RX7, "goesBefore", "(II)Z"⟩
abbrev cX7_spreadOfHad : ByteArray := prog_9_method_10_code
def yX7_spreadOfHad : MethodName := ⟨RX7, "spreadOfHad", "()I"⟩
abbrev cX7_passHour : ByteArray := prog_9_method_11_code
def yX7_passHour : MethodName := ⟨RX7, "passHour", "(II)V"⟩
abbrev cX7_giveAllBack : ByteArray := prog_9_method_12_code
def yX7_giveAllBack : MethodName := ⟨RX7, "giveAllBack", "()I"⟩
abbrev cX7_giveBack : ByteArray := prog_9_method_13_code
def yX7_giveBack : MethodName := ⟨RX7, "giveBack", "(LKilnVillage$Pot;)Z"⟩
abbrev cX7_isRipe : ByteArray := prog_9_method_14_code
def yX7_isRipe : MethodName := ⟨RX7, "isRipe", "(LKilnVillage$Pot;)Z"⟩
abbrev cX7_shareLoss : ByteArray := prog_9_method_15_code
def yX7_shareLoss : MethodName := ⟨RX7, "shareLoss", "(LKilnVillage$House;I)V"⟩
def RX8 : String := "KilnVillage"
def TX8 : u_T := fun k => match k with
  | 0 => ("KilnVillage", "now", "LKilnVillage$Village;", true)
  | 1 => ("KilnVillage", "reader", "LKilnVillage$Reader;", true)
  | _ => ("KilnVillage", "images", "[LKilnVillage$Village;", true)
def tyX8 : Nat → FieldType := fun k => match k with
  | 0 => .object "KilnVillage$Village"
  | 1 => .object "KilnVillage$Reader"
  | _ => .array (.object "KilnVillage$Village")
abbrev wsX80 : List Cond := u_ws RX8 TX8 3
theorem nmX8 : ∀ a, a < 3 → ∀ b, b < 3 → a ≠ b → (TX8 a).2.1 ≠ (TX8 b).2.1 := by decide +kernel
theorem tyX8_ok : ∀ k, k < 3 → parseFieldDescriptor (TX8 k).2.2.1 = some (tyX8 k) := by decide +kernel
abbrev cX8_init : ByteArray := prog_1_method_1_code
def yX8_init : MethodName := ⟨RX8, "<init>", "()V"⟩
abbrev cX8_feed : ByteArray := prog_1_method_2_code
def yX8_feed : MethodName := ⟨RX8, "feed", "(IIIII)I"⟩
abbrev cX8_end : ByteArray := prog_1_method_3_code
def yX8_end : MethodName := ⟨RX8, "end", "(I)I"⟩
abbrev cX8_custom : ByteArray := prog_1_method_4_code
def yX8_custom : MethodName := ⟨RX8, "custom", "()I"⟩
abbrev cX8_fault : ByteArray := prog_1_method_5_code
def yX8_fault : MethodName := ⟨RX8, "fault", "(I)I"⟩
abbrev cX8_house : ByteArray := prog_1_method_6_code
def yX8_house : MethodName := ⟨RX8, "house", "()I"⟩
abbrev cX8_shape : ByteArray := prog_1_method_7_code
def yX8_shape : MethodName := ⟨RX8, "shape", "(III)Z"⟩
abbrev cX8_glaze : ByteArray := prog_1_method_8_code
def yX8_glaze : MethodName := ⟨RX8, "glaze", "(II)Z"⟩
abbrev cX8_kiln : ByteArray := prog_1_method_9_code
def yX8_kiln : MethodName := ⟨RX8, "kiln", "(I)Z"⟩
abbrev cX8_value : ByteArray := prog_1_method_10_code
def yX8_value : MethodName := ⟨RX8, "value", "(III)Z"⟩
abbrev cX8_pot : ByteArray := prog_1_method_11_code
def yX8_pot : MethodName := ⟨RX8, "pot", "(IIII)I"⟩
abbrev cX8_dry : ByteArray := prog_1_method_12_code
def yX8_dry : MethodName := ⟨RX8, "dry", "(I)Z"⟩
abbrev cX8_deal : ByteArray := prog_1_method_13_code
def yX8_deal : MethodName := ⟨RX8, "deal", "()I"⟩
abbrev cX8_spread : ByteArray := prog_1_method_14_code
def yX8_spread : MethodName := ⟨RX8, "spread", "()I"⟩
abbrev cX8_fire : ByteArray := prog_1_method_15_code
def yX8_fire : MethodName := ⟨RX8, "fire", "(II)I"⟩
abbrev cX8_rest : ByteArray := prog_1_method_16_code
def yX8_rest : MethodName := ⟨RX8, "rest", "(I)I"⟩
abbrev cX8_heat : ByteArray := prog_1_method_17_code
def yX8_heat : MethodName := ⟨RX8, "heat", "(I)I"⟩
abbrev cX8_open : ByteArray := prog_1_method_18_code
def yX8_open : MethodName := ⟨RX8, "open", "()I"⟩
abbrev cX8_about : ByteArray := prog_1_method_19_code
def yX8_about : MethodName := ⟨RX8, "about", "(II)I"⟩
abbrev cX8_at : ByteArray := prog_1_method_20_code
def yX8_at : MethodName := ⟨RX8, "at", "(II)I"⟩
abbrev cX8_tell : ByteArray := prog_1_method_21_code
def yX8_tell : MethodName := ⟨RX8, "tell", "(II)I"⟩
abbrev cX8_order : ByteArray := prog_1_method_22_code
def yX8_order : MethodName := ⟨RX8, "order", "(IIII)I"⟩
abbrev cX8_inTime : ByteArray := prog_1_method_23_code
def yX8_inTime : MethodName := ⟨RX8, "inTime", "(II)Z"⟩
abbrev cX8_forget : ByteArray := prog_1_method_24_code
def yX8_forget : MethodName := ⟨RX8, "forget", "(I)Z"⟩
abbrev cX8_count : ByteArray := prog_1_method_25_code
def yX8_count : MethodName := ⟨RX8, "count", "(I)I"⟩
abbrev cX8_image : ByteArray := prog_1_method_26_code
def yX8_image : MethodName := ⟨RX8, "image", "(I)Z"⟩
abbrev cX8_again : ByteArray := prog_1_method_27_code
def yX8_again : MethodName := ⟨RX8, "again", "(I)Z"⟩
abbrev cX8_within : ByteArray := prog_1_method_28_code
def yX8_within : MethodName := ⟨RX8, "within", "(III)Z"⟩
def RX9 : String := "KilnVillageModel"
def TX9 : u_T := fun k => match k with
  | 0 => ("KilnVillageModel", "all", "[I", true)
  | 1 => ("KilnVillageModel", "has", "[Z", true)
  | 2 => ("KilnVillageModel", "size", "I", false)
  | 3 => ("KilnVillageModel", "next", "I", false)
  | 4 => ("KilnVillageModel", "where", "I", false)
  | 5 => ("KilnVillageModel", "token", "I", false)
  | 6 => ("KilnVillageModel", "number", "I", false)
  | 7 => ("KilnVillageModel", "sign", "I", false)
  | 8 => ("KilnVillageModel", "word", "I", false)
  | 9 => ("KilnVillageModel", "wrong", "Z", false)
  | 10 => ("KilnVillageModel", "lines", "I", false)
  | 11 => ("KilnVillageModel", "read", "[I", true)
  | 12 => ("KilnVillageModel", "test", "[I", true)
  | _ => ("KilnVillageModel", "before", "[I", true)
def tyX9 : Nat → FieldType := fun k => match k with
  | 0 => .array .int
  | 1 => .array .boolean
  | 2 => .int
  | 3 => .int
  | 4 => .int
  | 5 => .int
  | 6 => .int
  | 7 => .int
  | 8 => .int
  | 9 => .boolean
  | 10 => .int
  | 11 => .array .int
  | 12 => .array .int
  | _ => .array .int
abbrev wsX90 : List Cond := u_ws RX9 TX9 14
theorem nmX9 : ∀ a, a < 14 → ∀ b, b < 14 → a ≠ b → (TX9 a).2.1 ≠ (TX9 b).2.1 := by decide +kernel
theorem tyX9_ok : ∀ k, k < 14 → parseFieldDescriptor (TX9 k).2.2.1 = some (tyX9 k) := by decide +kernel
abbrev cX9_init : ByteArray := prog_11_method_1_code
def yX9_init : MethodName := ⟨RX9, "<init>", "()V"⟩
abbrev cX9_isIn : ByteArray := prog_11_method_2_code
def yX9_isIn : MethodName := ⟨RX9, "isIn", "(III)Z"⟩
abbrev cX9_begins : ByteArray := prog_11_method_3_code
def yX9_begins : MethodName := ⟨RX9, "begins", "(I)V"⟩
abbrev cX9_feed : ByteArray := prog_11_method_4_code
def yX9_feed : MethodName := ⟨RX9, "feed", "(IIIII)I"⟩
abbrev cX9_end : ByteArray := prog_11_method_5_code
def yX9_end : MethodName := ⟨RX9, "end", "(I)I"⟩
abbrev cX9_byteAt : ByteArray := prog_11_method_6_code
def yX9_byteAt : MethodName := ⟨RX9, "byteAt", "(I)I"⟩
abbrev cX9_isLetter : ByteArray := prog_11_method_7_code
def yX9_isLetter : MethodName := ⟨RX9, "isLetter", "(I)Z"⟩
abbrev cX9_isDigit : ByteArray := prog_11_method_8_code
def yX9_isDigit : MethodName := ⟨RX9, "isDigit", "(I)Z"⟩
abbrev cX9_three : ByteArray := prog_11_method_9_code
def yX9_three : MethodName := ⟨RX9, "three", "(III)J"⟩
abbrev cX9_four : ByteArray := prog_11_method_10_code
def yX9_four : MethodName := ⟨RX9, "four", "(IIII)J"⟩
abbrev cX9_wordOf : ByteArray := prog_11_method_11_code
def yX9_wordOf : MethodName := ⟨RX9, "wordOf", "(J)I"⟩
abbrev cX9_isSignByte : ByteArray := prog_11_method_12_code
def yX9_isSignByte : MethodName := ⟨RX9, "isSignByte", "(I)Z"⟩
abbrev cX9_advance : ByteArray := prog_11_method_13_code
def yX9_advance : MethodName := ⟨RX9, "advance", "()V"⟩
abbrev cX9_stops : ByteArray := prog_11_method_14_code
def yX9_stops : MethodName := ⟨RX9, "stops", "()V"⟩
abbrev cX9_tells : ByteArray := prog_11_method_15_code
def yX9_tells : MethodName := ⟨RX9, "tells", "(II)V"⟩
abbrev cX9_takes : ByteArray := prog_11_method_16_code
def yX9_takes : MethodName := ⟨RX9, "takes", "(I)Z"⟩
abbrev cX9_must : ByteArray := prog_11_method_17_code
def yX9_must : MethodName := ⟨RX9, "must", "(I)V"⟩
abbrev cX9_numbered : ByteArray := prog_11_method_18_code
def yX9_numbered : MethodName := ⟨RX9, "numbered", "()I"⟩
abbrev cX9_aTest : ByteArray := prog_11_method_19_code
def yX9_aTest : MethodName := ⟨RX9, "aTest", "()V"⟩
abbrev cX9_puts : ByteArray := prog_11_method_20_code
def yX9_puts : MethodName := ⟨RX9, "puts", "(II)V"⟩
abbrev cX9_aLine : ByteArray := prog_11_method_21_code
def yX9_aLine : MethodName := ⟨RX9, "aLine", "()V"⟩
abbrev cX9_custom : ByteArray := prog_11_method_22_code
def yX9_custom : MethodName := ⟨RX9, "custom", "()I"⟩
abbrev cX9_fault : ByteArray := prog_11_method_23_code
def yX9_fault : MethodName := ⟨RX9, "fault", "(I)I"⟩
abbrev cX9_isHouse : ByteArray := prog_11_method_24_code
def yX9_isHouse : MethodName := ⟨RX9, "isHouse", "(I)Z"⟩
abbrev cX9_of : ByteArray := prog_11_method_25_code
def yX9_of : MethodName := ⟨RX9, "of", "(II)I"⟩
abbrev cX9_adds : ByteArray := prog_11_method_26_code
def yX9_adds : MethodName := ⟨RX9, "adds", "(III)V"⟩
abbrev cX9_house : ByteArray := prog_11_method_27_code
def yX9_house : MethodName := ⟨RX9, "house", "()I"⟩
abbrev cX9_shape : ByteArray := prog_11_method_28_code
def yX9_shape : MethodName := ⟨RX9, "shape", "(III)Z"⟩
abbrev cX9_glaze : ByteArray := prog_11_method_29_code
def yX9_glaze : MethodName := ⟨RX9, "glaze", "(II)Z"⟩
abbrev cX9_its : ByteArray := prog_11_method_30_code
def yX9_its : MethodName := ⟨RX9, "its", "(II)I"⟩
abbrev cX9_sets : ByteArray := prog_11_method_31_code
def yX9_sets : MethodName := ⟨RX9, "sets", "(III)V"⟩
abbrev cX9_stands : ByteArray := prog_11_method_32_code
def yX9_stands : MethodName := ⟨RX9, "stands", "(I)Z"⟩
abbrev cX9_standing : ByteArray := prog_11_method_33_code
def yX9_standing : MethodName := ⟨RX9, "standing", "()I"⟩
abbrev cX9_kiln : ByteArray := prog_11_method_34_code
def yX9_kiln : MethodName := ⟨RX9, "kiln", "(I)Z"⟩
abbrev cX9_isPlace : ByteArray := prog_11_method_35_code
def yX9_isPlace : MethodName := ⟨RX9, "isPlace", "(II)Z"⟩
abbrev cX9_value : ByteArray := prog_11_method_36_code
def yX9_value : MethodName := ⟨RX9, "value", "(III)Z"⟩
abbrev cX9_pot : ByteArray := prog_11_method_37_code
def yX9_pot : MethodName := ⟨RX9, "pot", "(IIII)I"⟩
abbrev cX9_dry : ByteArray := prog_11_method_38_code
def yX9_dry : MethodName := ⟨RX9, "dry", "(I)Z"⟩
abbrev cX9_greatestHeat : ByteArray := prog_11_method_39_code
def yX9_greatestHeat : MethodName := ⟨RX9, "greatestHeat", "()I"⟩
abbrev cX9_at0 : ByteArray := prog_11_method_40_code
def yX9_at0 : MethodName := ⟨RX9, "at0", "(I)I"⟩
abbrev cX9_bestPlace : ByteArray := prog_11_method_41_code
def yX9_bestPlace : MethodName := ⟨RX9, "bestPlace", "()I"⟩
abbrev cX9_waiting : ByteArray := prog_11_method_42_code
def yX9_waiting : MethodName := ⟨RX9, "waiting", "(I)I"⟩
abbrev cX9_nextHouse : ByteArray := prog_11_method_43_code
def yX9_nextHouse : MethodName := ⟨RX9, "nextHouse", "()I"⟩
abbrev cX9_deal : ByteArray := prog_11_method_44_code
def yX9_deal : MethodName := ⟨RX9, "deal", "()I"⟩
abbrev cX9_spread : ByteArray := prog_11_method_45_code
def yX9_spread : MethodName := ⟨RX9, "spread", "()I"⟩
abbrev cX9_hour : ByteArray := prog_11_method_46_code
def yX9_hour : MethodName := ⟨RX9, "hour", "(II)V"⟩
abbrev cX9_bakes : ByteArray := prog_11_method_47_code
def yX9_bakes : MethodName := ⟨RX9, "bakes", "(II)V"⟩
abbrev cX9_fire : ByteArray := prog_11_method_48_code
def yX9_fire : MethodName := ⟨RX9, "fire", "(II)I"⟩
abbrev cX9_rest : ByteArray := prog_11_method_49_code
def yX9_rest : MethodName := ⟨RX9, "rest", "(I)I"⟩
abbrev cX9_heat : ByteArray := prog_11_method_50_code
def yX9_heat : MethodName := ⟨RX9, "heat", "(I)I"⟩
abbrev cX9_asked : ByteArray := prog_11_method_51_code
def yX9_asked : MethodName := ⟨RX9, "asked", "(II)I"⟩
abbrev cX9_holds : ByteArray := prog_11_method_52_code
def yX9_holds : MethodName := ⟨RX9, "holds", "(II)Z"⟩
abbrev cX9_customOf : ByteArray := prog_11_method_53_code
def yX9_customOf : MethodName := ⟨RX9, "customOf", "(I)I"⟩
abbrev cX9_isRipe : ByteArray := prog_11_method_54_code
def yX9_isRipe : MethodName := ⟨RX9, "isRipe", "(I)Z"⟩
abbrev cX9_gives : ByteArray := prog_11_method_55_code
def yX9_gives : MethodName := ⟨RX9, "gives", "(I)Z"⟩
abbrev cX9_open : ByteArray := prog_11_method_56_code
def yX9_open : MethodName := ⟨RX9, "open", "()I"⟩
abbrev cX9_about : ByteArray := prog_11_method_57_code
def yX9_about : MethodName := ⟨RX9, "about", "(II)I"⟩
abbrev cX9_at : ByteArray := prog_11_method_58_code
def yX9_at : MethodName := ⟨RX9, "at", "(II)I"⟩
abbrev cX9_order : ByteArray := prog_11_method_59_code
def yX9_order : MethodName := ⟨RX9, "order", "(IIII)I"⟩
abbrev cX9_can : ByteArray := prog_11_method_60_code
def yX9_can : MethodName := ⟨RX9, "can", "(II)Z"⟩
abbrev cX9_inTime : ByteArray := prog_11_method_61_code
def yX9_inTime : MethodName := ⟨RX9, "inTime", "(II)Z"⟩
abbrev cX9_worthOf : ByteArray := prog_11_method_62_code
def yX9_worthOf : MethodName := ⟨RX9, "worthOf", "(II)I"⟩
abbrev cX9_best : ByteArray := prog_11_method_63_code
def yX9_best : MethodName := ⟨RX9, "best", "(I)I"⟩
abbrev cX9_forget : ByteArray := prog_11_method_64_code
def yX9_forget : MethodName := ⟨RX9, "forget", "(I)Z"⟩
abbrev cX9_tell : ByteArray := prog_11_method_65_code
def yX9_tell : MethodName := ⟨RX9, "tell", "(II)I"⟩
abbrev cX9_count : ByteArray := prog_11_method_66_code
def yX9_count : MethodName := ⟨RX9, "count", "(I)I"⟩
abbrev cX9_image : ByteArray := prog_11_method_67_code
def yX9_image : MethodName := ⟨RX9, "image", "(I)Z"⟩
abbrev cX9_again : ByteArray := prog_11_method_68_code
def yX9_again : MethodName := ⟨RX9, "again", "(I)Z"⟩
def RJ9 : String := "java/lang/Math"
def TJ9 : u_T := fun k => match k with
  | _ => ("", "", "", false)
def tyJ9 : Nat → FieldType := fun k => match k with
  | _ => .int
abbrev wsJ90 : List Cond := u_ws RJ9 TJ9 0
theorem nmJ9 : ∀ a, a < 0 → ∀ b, b < 0 → a ≠ b → (TJ9 a).2.1 ≠ (TJ9 b).2.1 := by decide +kernel
theorem tyJ9_ok : ∀ k, k < 0 → parseFieldDescriptor (TJ9 k).2.2.1 = some (tyJ9 k) := by decide +kernel
abbrev cJ9_abs_0f7a4 : ByteArray := prog_12_method_59_code
def yJ9_abs_0f7a4 : MethodName := ⟨RJ9, "abs", "(I)I"⟩
abbrev cJ9_max_7cf53 : ByteArray := prog_12_method_65_code
def yJ9_max_7cf53 : MethodName := ⟨RJ9, "max", "(II)I"⟩
abbrev cJ9_min_7cf53 : ByteArray := prog_12_method_69_code
def yJ9_min_7cf53 : MethodName := ⟨RJ9, "min", "(II)I"⟩
def RJ0 : String := "java/lang/String"
def TJ0 : u_T := fun k => match k with
  | _ => ("", "", "", false)
def tyJ0 : Nat → FieldType := fun k => match k with
  | _ => .int
abbrev wsJ00 : List Cond := u_ws RJ0 TJ0 0
theorem nmJ0 : ∀ a, a < 0 → ∀ b, b < 0 → a ≠ b → (TJ0 a).2.1 ≠ (TJ0 b).2.1 := by decide +kernel
theorem tyJ0_ok : ∀ k, k < 0 → parseFieldDescriptor (TJ0 k).2.2.1 = some (tyJ0 k) := by decide +kernel
abbrev cJ0_length_8abf5 : ByteArray := prog_13_method_54_code
def yJ0_length_8abf5 : MethodName := ⟨RJ0, "length", "()I"⟩
abbrev cJ0_charAt_5068e : ByteArray := prog_13_method_56_code
def yJ0_charAt_5068e : MethodName := ⟨RJ0, "charAt", "(I)C"⟩
abbrev cJ0_coder_7d493 : ByteArray := prog_13_method_152_code
def yJ0_coder_7d493 : MethodName := ⟨RJ0, "coder", "()B"⟩
abbrev cJ0_isLatin1_aae02 : ByteArray := prog_13_method_154_code
def yJ0_isLatin1_aae02 : MethodName := ⟨RJ0, "isLatin1", "()Z"⟩
abbrev cJ0_checkIndex_df160 : ByteArray := prog_13_method_155_code
def yJ0_checkIndex_df160 : MethodName := ⟨RJ0, "checkIndex", "(II)V"⟩
def RJ1 : String := "java/lang/StringLatin1"
def TJ1 : u_T := fun k => match k with
  | _ => ("", "", "", false)
def tyJ1 : Nat → FieldType := fun k => match k with
  | _ => .int
abbrev wsJ10 : List Cond := u_ws RJ1 TJ1 0
theorem nmJ1 : ∀ a, a < 0 → ∀ b, b < 0 → a ≠ b → (TJ1 a).2.1 ≠ (TJ1 b).2.1 := by decide +kernel
theorem tyJ1_ok : ∀ k, k < 0 → parseFieldDescriptor (TJ1 k).2.2.1 = some (tyJ1 k) := by decide +kernel
abbrev cJ1_charAt_3b067 : ByteArray := prog_14_method_2_code
def yJ1_charAt_3b067 : MethodName := ⟨RJ1, "charAt", "([BI)C"⟩
def RJ2 : String := "java/lang/StringUTF16"
def TJ2 : u_T := fun k => match k with
  | _ => ("", "", "", false)
def tyJ2 : Nat → FieldType := fun k => match k with
  | _ => .int
abbrev wsJ20 : List Cond := u_ws RJ2 TJ2 0
theorem nmJ2 : ∀ a, a < 0 → ∀ b, b < 0 → a ≠ b → (TJ2 a).2.1 ≠ (TJ2 b).2.1 := by decide +kernel
theorem tyJ2_ok : ∀ k, k < 0 → parseFieldDescriptor (TJ2 k).2.2.1 = some (tyJ2 k) := by decide +kernel
abbrev cJ2_getChar_3b067 : ByteArray := prog_15_method_5_code
def yJ2_getChar_3b067 : MethodName := ⟨RJ2, "getChar", "([BI)C"⟩
abbrev cJ2_length_9d52b : ByteArray := prog_15_method_6_code
def yJ2_length_9d52b : MethodName := ⟨RJ2, "length", "([B)I"⟩
abbrev cJ2_charAt_3b067 : ByteArray := prog_15_method_83_code
def yJ2_charAt_3b067 : MethodName := ⟨RJ2, "charAt", "([BI)C"⟩
abbrev cJ2_checkIndex_2214a : ByteArray := prog_15_method_91_code
def yJ2_checkIndex_2214a : MethodName := ⟨RJ2, "checkIndex", "(I[B)V"⟩
def RJ10 : String := "java/lang/System"
def TJ10 : u_T := fun k => match k with
  | _ => ("", "", "", false)
def tyJ10 : Nat → FieldType := fun k => match k with
  | _ => .int
abbrev wsJ100 : List Cond := u_ws RJ10 TJ10 0
theorem nmJ10 : ∀ a, a < 0 → ∀ b, b < 0 → a ≠ b → (TJ10 a).2.1 ≠ (TJ10 b).2.1 := by decide +kernel
theorem tyJ10_ok : ∀ k, k < 0 → parseFieldDescriptor (TJ10 k).2.2.1 = some (tyJ10 k) := by decide +kernel
def RJ3 : String := "jdk/internal/util/Preconditions"
def TJ3 : u_T := fun k => match k with
  | _ => ("", "", "", false)
def tyJ3 : Nat → FieldType := fun k => match k with
  | _ => .int
abbrev wsJ30 : List Cond := u_ws RJ3 TJ3 0
theorem nmJ3 : ∀ a, a < 0 → ∀ b, b < 0 → a ≠ b → (TJ3 a).2.1 ≠ (TJ3 b).2.1 := by decide +kernel
theorem tyJ3_ok : ∀ k, k < 0 → parseFieldDescriptor (TJ3 k).2.2.1 = some (tyJ3 k) := by decide +kernel
abbrev cJ3_checkIndex_8e157 : ByteArray := prog_17_method_11_code
def yJ3_checkIndex_8e157 : MethodName := ⟨RJ3, "checkIndex", "(IILjava/util/function/BiFunction;)I"⟩
def RL : String := "KilnVillageLaw"
abbrev cL_law : ByteArray := code
def yL_law : MethodName := ⟨RL, "law", "([I)Z"⟩
abbrev vwCl : List vw_C := [(RX0, TX0, 6), (RX1, TX1, 9), (RX2, TX2, 7), (RX3, TX3, 8), (RX4, TX4, 5), (RX5, TX5, 2), (RX6, TX6, 7), (RX7, TX7, 13), (RX8, TX8, 3), (RX9, TX9, 14)]
end
section
/-! the layer of memories: a machine's heap as two tables of numbers and places, by address and slot -/
abbrev GT : Type := Launch × va_G × (Nat → ClassId) × Nat × (Nat → Option Cell)
abbrev MT : Type := MethodName × ByteArray × Nat × Option FieldType × Nat × Nat
abbrev ST : Type := Nat × (Nat → Nat) × (Nat → Nat)
abbrev PT : Type := Nat → Nat → Nat
abbrev IT : Type := Nat → Nat → Int32
abbrev QT : Type := Option Value → ST → PT → IT → Prop
abbrev mY (M : MT) : MethodName := M.1
abbrev mC (M : MT) : ByteArray := M.2.1
abbrev mX (M : MT) : Nat := M.2.2.1
abbrev mR (M : MT) : Option FieldType := M.2.2.2.1
abbrev mF (M : MT) : Nat := M.2.2.2.2.1
abbrev mL (M : MT) : Nat := M.2.2.2.2.2
abbrev gB (g : GT) : Nat := g.2.2.2.1
abbrev sN (S : ST) : Nat := S.1
abbrev sT (S : ST) : Nat → Nat := S.2.1
abbrev sL (S : ST) : Nat → Nat := S.2.2
def rv (n : Nat) : Value := match n with
  | 0 => .null
  | n + 1 => .ref n
def is_r (d : String) : Bool := !(d == "I" || d == "Z")
def f_v (T : u_T) (P : PT) (I : IT) (a k : Nat) : Value := if is_r (T k).2.2.1 then rv (P a k) else .int (I a k)
def e_v (P : PT) (I : IT) (a j k : Nat) : Value := if j < 3 then .int (I a k) else rv (P a k)
def a_ty (j : Nat) : FieldType := match j with
  | 0 => .int
  | 1 => .byte
  | 2 => .boolean
  | 3 => .object RX1
  | 4 => .object RX3
  | _ => .object RX7
def rp_at (g : GT) (S : ST) (P : PT) (I : IT) (H : Heap) (a : Nat) : Prop :=
  (∀ (ci : Nat) (r : vw_C), sT S a = ci + 1 → vwCl[ci]? = some r → t_OB a (g.2.1.1 ci) r.2.2 (g.2.1.2 ci) H (f_v r.2.1 P I a)) ∧
  (∀ j : Nat, sT S a = 40 + j → H[a]? = some (arrV (g.2.2.1 j) (sL S a) (e_v P I a j)))
def Rep (g : GT) (S : ST) (P : PT) (I : IT) (H : Heap) : Prop :=
  H.size = sN S ∧ gB g ≤ sN S ∧ (∀ q : Nat, q < gB g → H[q]? = g.2.2.2.2 q) ∧ ∀ a : Nat, sT S a ≠ 0 → gB g ≤ a ∧ a < sN S ∧ rp_at g S P I H a
def Kn (g : GT) (s : State) : Prop := va_K g.2.1 vwCl [] s ∧ ∀ j : Nat, j < 6 → ArrOfT s (g.2.2.1 j) (a_ty j) ∧ va_RA s (g.2.2.1 j) (a_ty j)
theorem Kn.moved {g : GT} {u U : State} (hvm : u.vm.Alike U.vm) (h : Kn g u) : Kn g U := ⟨va_K.moved hvm h.1, fun j hj => ⟨arrOfT_moved hvm (h.2 j hj).1, (h.2 j hj).2.moved hvm⟩⟩
def gws : List Cond := lw_tbl.filter goodWord
def wsM (M : MT) : List Cond := Cond.code (mY M) (mC M) (mX M) (mR M) :: gws
def rmM (M : MT) (mc ms : Nat) : Room := { frames := mF M, cells := mc, slots := ms, locals := mL M }
theorem gws_good {w : Cond} (h : w ∈ gws) : (w.onTables && w.keeps) = true ∨ ∃ ty, w = .arrayClass ty := good_of_word (List.mem_filter.mp h).2
/-- a method's triple -/
def T (g : GT) (M : MT) (mc ms : Nat) (as : List Value) (S : ST) (P : PT) (I : IT) (Q : QT) : Prop :=
  Met g.1 (mY M) (wsM M) (rmM M mc ms) (va_Pc as (fun U => Rep g S P I U.heap ∧ Kn g U)) (fun _ _ o t => ∃ (r : Option Value) (S' : ST) (P' : PT) (I' : IT), o = .returned r ∧ Rep g S' P' I' t.heap ∧ Q r S' P' I') mc ms (fun q => gB g ≤ q)
def Cx (g : GT) (M : MT) (p : Program) (R : Room) (s : State) (m : MethodId) (args : Array Value) (meth : Method) (c : Code) : Prop :=
  p.tables.exec = Jvm.exec ∧ c.code = mC M ∧ c.maxLocals = mX M ∧ meth.locks = false ∧ s.vm.findClass (mY M).cls = some m.cls ∧ (∀ w ∈ gws, w.before args s = true) ∧ Kn g s ∧ mF M ≤ R.frames ∧ mL M ≤ R.locals ∧ meth.name = (mY M).name
def rsh (M : MT) (op : Instr) (r : Option Value) : Prop :=
  (op = .ireturn ∧ ∃ (v : Int32) (ty : FieldType), r = some (.int v) ∧ mR M = some ty ∧ narrow ty (.int v) = .int v) ∨ (op = .return_ ∧ r = none ∧ mR M = none) ∨ (op = .lreturn ∧ ∃ v : Int64, r = some (.long v) ∧ mR M = some .long)
def RO (g : GT) (M : MT) (p : Program) (e : Env) (R : Room) (s : State) (m : MethodId) (args : Array Value) (below : List Frame) (meth : Method) (c : Code) (Q : QT) (Z : State → Prop) : Prop :=
  ∀ (H : Heap) (locs : List Loc) (cells slots : Nat) (r : Option Value) (S : ST) (P : PT) (I : IT) (pc : Nat) (ls : Array Slot) (op : Instr), Rep g S P I H → (∀ q ∈ locs, gB g ≤ q.base) → cells ≤ R.cells → slots ≤ R.slots → Q r S P I → decode (mC M) pc = .ok (op, 1) → rsh M op r →
    W p g.1 e R s m args below meth c H locs cells slots Z (F0 m pc ls r.toList)
/-- a body from a pc on -/
def B (g : GT) (M : MT) (rc rs pc : Nat) (lv : List (Nat × Value)) (st : List Value) (S : ST) (P : PT) (I : IT) (Q : QT) : Prop :=
  ∀ (p : Program) (e : Env) (R : Room) (s : State) (m : MethodId) (args : Array Value) (below : List Frame) (meth : Method) (c : Code) (Z : State → Prop), Cx g M p R s m args meth c → RO g M p e R s m args below meth c Q Z →
  ∀ (H : Heap) (locs : List Loc) (cells slots : Nat) (ls : Array Slot), cells + rc ≤ R.cells → slots + rs ≤ R.slots → Rep g S P I H → (∀ q ∈ locs, gB g ≤ q.base) → lv_has ls (mX M) lv → W p g.1 e R s m args below meth c H locs cells slots Z (F0 m pc ls st)
theorem RO.mono {g : GT} {M : MT} {p : Program} {e : Env} {R : Room} {s : State} {m : MethodId} {args : Array Value} {below : List Frame} {meth : Method} {c : Code} {Q Q' : QT} {Z : State → Prop} (h : RO g M p e R s m args below meth c Q Z) (k : ∀ r S P I, Q' r S P I → Q r S P I) : RO g M p e R s m args below meth c Q' Z :=
  fun H locs cells slots r S P I pc ls op h1 h2 h3 h4 h5 h6 h7 => h H locs cells slots r S P I pc ls op h1 h2 h3 h4 (k _ _ _ _ h5) h6 h7
theorem B.mono {g : GT} {M : MT} {rc rs pc : Nat} {lv : List (Nat × Value)} {st : List Value} {S : ST} {P : PT} {I : IT} {Q Q' : QT} (h : B g M rc rs pc lv st S P I Q) (k : ∀ r S P I, Q r S P I → Q' r S P I) : B g M rc rs pc lv st S P I Q' :=
  fun p e R s m args below meth c Z hC hR => h p e R s m args below meth c Z hC (hR.mono k)
theorem B.less {g : GT} {M : MT} {rc rs rc' rs' pc : Nat} {lv : List (Nat × Value)} {st : List Value} {S : ST} {P : PT} {I : IT} {Q : QT} (h : B g M rc' rs' pc lv st S P I Q) (h1 : rc' ≤ rc) (h2 : rs' ≤ rs) : B g M rc rs pc lv st S P I Q :=
  fun p e R s m args below meth c Z hC hR H locs cells slots ls g1 g2 g3 g4 g5 => h p e R s m args below meth c Z hC hR H locs cells slots ls (by omega) (by omega) g3 g4 g5
theorem T_of {g : GT} {M : MT} {mc ms : Nat} {as : List Value} {S : ST} {P : PT} {I : IT} {Q : QT} (hy : plainName (mY M).cls = true) (hlen : (lg_sl as).length ≤ mX M) (K : B g M mc ms 0 (lv_args 0 as) [] S P I Q) : T g M mc ms as S P I Q := by
  refine Met.ofW (cc := mC M) (maxL := mX M) (ret := mR M) hy rfl ?_
  intro p e s m args below meth c s₁ Bd hml hv
  obtain ⟨rfl, hRp, hKn⟩ := hv
  have hts := atoms_spec (ws := wsM M) Bd.pre
  have hl := lv_entry as (n := mX M) hlen
  rw [lg_entry_eq]
  refine K p e _ s m _ below meth c _ ⟨Bd.exec, Bd.bytes, hml, Bd.notSynchronized, findClass_of_methodNamed Bd.named, fun w hw => hts w (List.mem_cons_of_mem _ hw), hKn, Nat.le_refl _, Nat.le_refl _, (name_of_methodNamed Bd.named Bd.method).1⟩ ?_ _ _ _ _ _ (by show 0 + mc ≤ mc; omega) (by show 0 + ms ≤ ms; omega) hRp (fun q h => by cases h) hl
  intro H locs cells slots r S2 P2 I2 pc ls op h1 h2 h3 h4 h5 h6 h7
  refine W.widen (k := mc) (n := ms) h3 h4 ?_
  have hr := Bd.returns
  have hlocks := Bd.notSynchronized
  rcases h7 with ⟨rfl, v, ty, rfl, e2, e3⟩ | ⟨rfl, rfl, e2⟩ | ⟨rfl, v, rfl, e2⟩
  · exact W.zret Bd.exec Bd.bytes (hr.trans e2) e3 (fun t ht hW => ⟨_, S2, P2, I2, rfl, by rw [ht]; exact h1, h5⟩) h2 h6
  · exact W.vret Bd.exec Bd.bytes (hr.trans e2) (fun t ht hW => ⟨_, S2, P2, I2, rfl, by rw [ht]; exact h1, h5⟩) h2 h6
  · exact W.lret Bd.exec Bd.bytes (hr.trans e2) (fun t ht hW => ⟨_, S2, P2, I2, rfl, by rw [ht]; exact h1, h5⟩) h2 h6
end
section
section RULES
variable {g : GT} {M : MT} {rc rs pc : Nat} {lv : List (Nat × Value)} {st : List Value} {S : ST} {P : PT} {I : IT} {Q : QT}
def lins (q : Nat × Value) : List (Nat × Value) → List (Nat × Value)
  | [] => [q]
  | r :: t => if q.1 < r.1 then q :: r :: t else r :: lins q t
theorem lins_mem {q z : Nat × Value} : ∀ {l : List (Nat × Value)}, z ∈ lins q l → z = q ∨ z ∈ l
  | [], h => Or.inl (List.mem_singleton.mp h)
  | r :: t, h => by
    unfold lins at h
    split at h
    · exact List.mem_cons.mp h
    · rcases List.mem_cons.mp h with h | h
      · exact Or.inr (List.mem_cons.mpr (Or.inl h))
      · exact (lins_mem h).imp id (List.mem_cons_of_mem _)
def lset (lv : List (Nat × Value)) (i : Nat) (v : Value) : List (Nat × Value) := lins (i, v) (lv.filter (fun q => !(q.1 == i) && !(q.1 + 1 == i && q.2.category == 2)))
def lset2 (lv : List (Nat × Value)) (i : Nat) (v : Value) : List (Nat × Value) := lins (i, v) (lv.filter (fun q => !(q.1 == i) && (!(q.1 == i + 1) && !(q.1 + 1 == i && q.2.category == 2))))
theorem lset_has {ls : Array Slot} {n i : Nat} {v : Value} (h : lv_has ls n ((i, v) :: lv.filter (fun q => !(q.1 == i) && !(q.1 + 1 == i && q.2.category == 2)))) : lv_has ls n (lset lv i v) :=
  ⟨h.1, h.2.1, fun q hq => h.2.2 q (List.mem_cons.mpr (lins_mem hq))⟩
theorem lset2_has {ls : Array Slot} {n i : Nat} {v : Value} (h : lv_has ls n ((i, v) :: lv.filter (fun q => !(q.1 == i) && (!(q.1 == i + 1) && !(q.1 + 1 == i && q.2.category == 2))))) : lv_has ls n (lset2 lv i v) :=
  ⟨h.1, h.2.1, fun q hq => h.2.2 q (List.mem_cons.mpr (lins_mem hq))⟩
theorem B.lvs (lv' : List (Nat × Value)) (ks : List Nat) (hk : lv_pick lv ks = lv') (K : B g M rc rs pc lv' st S P I Q) : B g M rc rs pc lv st S P I Q := by
  intro p e R s m args below meth c Z hC hR H locs cells slots ls h1 h2 h3 h4 hl
  exact K p e R s m args below meth c Z hC hR H locs cells slots ls h1 h2 h3 h4 (lv_sub hl ks hk)
theorem B.iload_n {n : Fin 4} {i : Nat} {x : Int32} (k : Nat) (hd : decode (mC M) pc = .ok (.iload_n n, 1)) (hi : (n : Nat) = i) (hk : lv[k]? = some (i, .int x)) (K : B g M rc rs (pc + 1) lv (.int x :: st) S P I Q) : B g M rc rs pc lv st S P I Q := by
  intro p e R s m args below meth c Z hC hR H locs cells slots ls h1 h2 h3 h4 hl
  exact lv_iload_n hC.1 hC.2.1 hd hi (lv_at hl k hk) (K p e R s m args below meth c Z hC hR H locs cells slots ls h1 h2 h3 h4 hl)
theorem B.aload_n {n : Fin 4} {i : Nat} {x : Nat} (k : Nat) (hd : decode (mC M) pc = .ok (.aload_n n, 1)) (hi : (n : Nat) = i) (hk : lv[k]? = some (i, .ref x)) (K : B g M rc rs (pc + 1) lv (.ref x :: st) S P I Q) : B g M rc rs pc lv st S P I Q := by
  intro p e R s m args below meth c Z hC hR H locs cells slots ls h1 h2 h3 h4 hl
  exact lv_aload_n hC.1 hC.2.1 hd hi (lv_at hl k hk) (K p e R s m args below meth c Z hC hR H locs cells slots ls h1 h2 h3 h4 hl)
theorem B.lload_n {n : Fin 4} {i : Nat} {x : Int64} (k : Nat) (hd : decode (mC M) pc = .ok (.lload_n n, 1)) (hi : (n : Nat) = i) (hk : lv[k]? = some (i, .long x)) (K : B g M rc rs (pc + 1) lv (.long x :: st) S P I Q) : B g M rc rs pc lv st S P I Q := by
  intro p e R s m args below meth c Z hC hR H locs cells slots ls h1 h2 h3 h4 hl
  exact lv_lload_n hC.1 hC.2.1 hd hi (lv_at hl k hk) (K p e R s m args below meth c Z hC hR H locs cells slots ls h1 h2 h3 h4 hl)
theorem B.iload {i : Nat} {x : Int32} (k : Nat) (hd : decode (mC M) pc = .ok (.iload i, 2)) (hk : lv[k]? = some (i, .int x)) (K : B g M rc rs (pc + 2) lv (.int x :: st) S P I Q) : B g M rc rs pc lv st S P I Q := by
  intro p e R s m args below meth c Z hC hR H locs cells slots ls h1 h2 h3 h4 hl
  exact lv_iload hC.1 hC.2.1 hd (lv_at hl k hk) (K p e R s m args below meth c Z hC hR H locs cells slots ls h1 h2 h3 h4 hl)
theorem B.aload {i : Nat} {x : Nat} (k : Nat) (hd : decode (mC M) pc = .ok (.aload i, 2)) (hk : lv[k]? = some (i, .ref x)) (K : B g M rc rs (pc + 2) lv (.ref x :: st) S P I Q) : B g M rc rs pc lv st S P I Q := by
  intro p e R s m args below meth c Z hC hR H locs cells slots ls h1 h2 h3 h4 hl
  exact lv_aload hC.1 hC.2.1 hd (lv_at hl k hk) (K p e R s m args below meth c Z hC hR H locs cells slots ls h1 h2 h3 h4 hl)
theorem B.istore_n {n : Fin 4} {i : Nat} {x : Int32} {lv' : List (Nat × Value)} (hd : decode (mC M) pc = .ok (.istore_n n, 1)) (hi : (n : Nat) = i) (hn : i < mX M) (hl' : lset lv i (.int x) = lv') (K : B g M rc rs (pc + 1) lv' st S P I Q) : B g M rc rs pc lv (.int x :: st) S P I Q := by
  subst hl'
  intro p e R s m args below meth c Z hC hR H locs cells slots ls h1 h2 h3 h4 hl
  exact lv_istore_n hC.1 hC.2.1 hd hi hl hn rfl (fun ls hl => K p e R s m args below meth c Z hC hR H locs cells slots ls h1 h2 h3 h4 (lset_has hl))
theorem B.astore_n {n : Fin 4} {i : Nat} {x : Nat} {lv' : List (Nat × Value)} (hd : decode (mC M) pc = .ok (.astore_n n, 1)) (hi : (n : Nat) = i) (hn : i < mX M) (hl' : lset lv i (.ref x) = lv') (K : B g M rc rs (pc + 1) lv' st S P I Q) : B g M rc rs pc lv (.ref x :: st) S P I Q := by
  subst hl'
  intro p e R s m args below meth c Z hC hR H locs cells slots ls h1 h2 h3 h4 hl
  exact lv_astore_n hC.1 hC.2.1 hd hi hl hn rfl (fun ls hl => K p e R s m args below meth c Z hC hR H locs cells slots ls h1 h2 h3 h4 (lset_has hl))
theorem B.lstore_n {n : Fin 4} {i : Nat} {x : Int64} {lv' : List (Nat × Value)} (hd : decode (mC M) pc = .ok (.lstore_n n, 1)) (hi : (n : Nat) = i) (hn : i + 1 < mX M) (hl' : lset2 lv i (.long x) = lv') (K : B g M rc rs (pc + 1) lv' st S P I Q) : B g M rc rs pc lv (.long x :: st) S P I Q := by
  subst hl'
  intro p e R s m args below meth c Z hC hR H locs cells slots ls h1 h2 h3 h4 hl
  exact lv_lstore_n hC.1 hC.2.1 hd hi hl hn rfl (fun ls hl => K p e R s m args below meth c Z hC hR H locs cells slots ls h1 h2 h3 h4 (lset2_has hl))
theorem B.istore {i : Nat} {x : Int32} {lv' : List (Nat × Value)} (hd : decode (mC M) pc = .ok (.istore i, 2)) (hn : i < mX M) (hl' : lset lv i (.int x) = lv') (K : B g M rc rs (pc + 2) lv' st S P I Q) : B g M rc rs pc lv (.int x :: st) S P I Q := by
  subst hl'
  intro p e R s m args below meth c Z hC hR H locs cells slots ls h1 h2 h3 h4 hl
  exact lv_istore hC.1 hC.2.1 hd hl hn rfl (fun ls hl => K p e R s m args below meth c Z hC hR H locs cells slots ls h1 h2 h3 h4 (lset_has hl))
theorem B.astore {i : Nat} {x : Nat} {lv' : List (Nat × Value)} (hd : decode (mC M) pc = .ok (.astore i, 2)) (hn : i < mX M) (hl' : lset lv i (.ref x) = lv') (K : B g M rc rs (pc + 2) lv' st S P I Q) : B g M rc rs pc lv (.ref x :: st) S P I Q := by
  subst hl'
  intro p e R s m args below meth c Z hC hR H locs cells slots ls h1 h2 h3 h4 hl
  exact lv_astore hC.1 hC.2.1 hd hl hn rfl (fun ls hl => K p e R s m args below meth c Z hC hR H locs cells slots ls h1 h2 h3 h4 (lset_has hl))
theorem B.iinc {i : Nat} {n : Int} {x : Int32} {lv' : List (Nat × Value)} (k : Nat) (v : Int32) (hd : decode (mC M) pc = .ok (.iinc i n, 3)) (hk : lv[k]? = some (i, .int x)) (hv : x + Int32.ofInt n = v) (hn : i < mX M) (hl' : lset lv i (.int v) = lv') (K : B g M rc rs (pc + 3) lv' st S P I Q) : B g M rc rs pc lv st S P I Q := by
  subst hl'
  intro p e R s m args below meth c Z hC hR H locs cells slots ls h1 h2 h3 h4 hl
  exact lv_iinc hC.1 hC.2.1 hd hl hk hv hn rfl (fun ls hl => K p e R s m args below meth c Z hC hR H locs cells slots ls h1 h2 h3 h4 (lset_has hl))
theorem B.iconst {n : Int} (v : Int32) (hd : decode (mC M) pc = .ok (.iconst n, 1)) (hv : Int32.ofInt n = v) (K : B g M rc rs (pc + 1) lv (.int v :: st) S P I Q) : B g M rc rs pc lv st S P I Q := by
  intro p e R s m args below meth c Z hC hR H locs cells slots ls h1 h2 h3 h4 hl
  exact lv_iconst hC.1 hC.2.1 hd hv (K p e R s m args below meth c Z hC hR H locs cells slots ls h1 h2 h3 h4 hl)
theorem B.bipush {n : Int} (v : Int32) (hd : decode (mC M) pc = .ok (.bipush n, 2)) (hv : (Int8.ofInt n).toInt32 = v) (K : B g M rc rs (pc + 2) lv (.int v :: st) S P I Q) : B g M rc rs pc lv st S P I Q := by
  intro p e R s m args below meth c Z hC hR H locs cells slots ls h1 h2 h3 h4 hl
  exact lv_bipush hC.1 hC.2.1 hd hv (K p e R s m args below meth c Z hC hR H locs cells slots ls h1 h2 h3 h4 hl)
theorem B.sipush {n : Int} (v : Int32) (hd : decode (mC M) pc = .ok (.sipush n, 3)) (hv : (Int16.ofInt n).toInt32 = v) (K : B g M rc rs (pc + 3) lv (.int v :: st) S P I Q) : B g M rc rs pc lv st S P I Q := by
  intro p e R s m args below meth c Z hC hR H locs cells slots ls h1 h2 h3 h4 hl
  exact lv_sipush hC.1 hC.2.1 hd hv (K p e R s m args below meth c Z hC hR H locs cells slots ls h1 h2 h3 h4 hl)
theorem B.iadd {x y : Int32} (hd : decode (mC M) pc = .ok (.iadd, 1)) (K : B g M rc rs (pc + 1) lv (.int (x + y) :: st) S P I Q) : B g M rc rs pc lv (.int y :: .int x :: st) S P I Q := by
  intro p e R s m args below meth c Z hC hR H locs cells slots ls h1 h2 h3 h4 hl
  exact lv_iadd hC.1 hC.2.1 hd (K p e R s m args below meth c Z hC hR H locs cells slots ls h1 h2 h3 h4 hl)
theorem B.isub {x y : Int32} (hd : decode (mC M) pc = .ok (.isub, 1)) (K : B g M rc rs (pc + 1) lv (.int (x - y) :: st) S P I Q) : B g M rc rs pc lv (.int y :: .int x :: st) S P I Q := by
  intro p e R s m args below meth c Z hC hR H locs cells slots ls h1 h2 h3 h4 hl
  exact lv_isub hC.1 hC.2.1 hd (K p e R s m args below meth c Z hC hR H locs cells slots ls h1 h2 h3 h4 hl)
theorem B.imul {x y : Int32} (hd : decode (mC M) pc = .ok (.imul, 1)) (K : B g M rc rs (pc + 1) lv (.int (x * y) :: st) S P I Q) : B g M rc rs pc lv (.int y :: .int x :: st) S P I Q := by
  intro p e R s m args below meth c Z hC hR H locs cells slots ls h1 h2 h3 h4 hl
  exact lv_imul hC.1 hC.2.1 hd (K p e R s m args below meth c Z hC hR H locs cells slots ls h1 h2 h3 h4 hl)
theorem B.iand {x y : Int32} (hd : decode (mC M) pc = .ok (.iand, 1)) (K : B g M rc rs (pc + 1) lv (.int (x &&& y) :: st) S P I Q) : B g M rc rs pc lv (.int y :: .int x :: st) S P I Q := by
  intro p e R s m args below meth c Z hC hR H locs cells slots ls h1 h2 h3 h4 hl
  exact lv_iand hC.1 hC.2.1 hd (K p e R s m args below meth c Z hC hR H locs cells slots ls h1 h2 h3 h4 hl)
theorem B.ishl {x y : Int32} (hd : decode (mC M) pc = .ok (.ishl, 1)) (K : B g M rc rs (pc + 1) lv (.int (x <<< (y &&& 31)) :: st) S P I Q) : B g M rc rs pc lv (.int y :: .int x :: st) S P I Q := by
  intro p e R s m args below meth c Z hC hR H locs cells slots ls h1 h2 h3 h4 hl
  exact lv_ishl hC.1 hC.2.1 hd (K p e R s m args below meth c Z hC hR H locs cells slots ls h1 h2 h3 h4 hl)
theorem B.ishr {x y : Int32} (hd : decode (mC M) pc = .ok (.ishr, 1)) (K : B g M rc rs (pc + 1) lv (.int (x >>> (y &&& 31)) :: st) S P I Q) : B g M rc rs pc lv (.int y :: .int x :: st) S P I Q := by
  intro p e R s m args below meth c Z hC hR H locs cells slots ls h1 h2 h3 h4 hl
  exact lv_ishr hC.1 hC.2.1 hd (K p e R s m args below meth c Z hC hR H locs cells slots ls h1 h2 h3 h4 hl)
theorem B.ladd {x y : Int64} (hd : decode (mC M) pc = .ok (.ladd, 1)) (K : B g M rc rs (pc + 1) lv (.long (x + y) :: st) S P I Q) : B g M rc rs pc lv (.long y :: .long x :: st) S P I Q := by
  intro p e R s m args below meth c Z hC hR H locs cells slots ls h1 h2 h3 h4 hl
  exact lv_ladd hC.1 hC.2.1 hd (K p e R s m args below meth c Z hC hR H locs cells slots ls h1 h2 h3 h4 hl)
theorem B.lsub {x y : Int64} (hd : decode (mC M) pc = .ok (.lsub, 1)) (K : B g M rc rs (pc + 1) lv (.long (x - y) :: st) S P I Q) : B g M rc rs pc lv (.long y :: .long x :: st) S P I Q := by
  intro p e R s m args below meth c Z hC hR H locs cells slots ls h1 h2 h3 h4 hl
  exact lv_lsub hC.1 hC.2.1 hd (K p e R s m args below meth c Z hC hR H locs cells slots ls h1 h2 h3 h4 hl)
theorem B.lmul {x y : Int64} (hd : decode (mC M) pc = .ok (.lmul, 1)) (K : B g M rc rs (pc + 1) lv (.long (x * y) :: st) S P I Q) : B g M rc rs pc lv (.long y :: .long x :: st) S P I Q := by
  intro p e R s m args below meth c Z hC hR H locs cells slots ls h1 h2 h3 h4 hl
  exact lv_lmul hC.1 hC.2.1 hd (K p e R s m args below meth c Z hC hR H locs cells slots ls h1 h2 h3 h4 hl)
theorem B.idiv {x y : Int32} (hd : decode (mC M) pc = .ok (.idiv, 1)) (hne : ¬ y = 0) (K : B g M rc rs (pc + 1) lv (.int (x / y) :: st) S P I Q) : B g M rc rs pc lv (.int y :: .int x :: st) S P I Q := by
  intro p e R s m args below meth c Z hC hR H locs cells slots ls h1 h2 h3 h4 hl
  exact lv_idiv hC.1 hC.2.1 hd hne (K p e R s m args below meth c Z hC hR H locs cells slots ls h1 h2 h3 h4 hl)
theorem B.irem {x y : Int32} (hd : decode (mC M) pc = .ok (.irem, 1)) (hne : ¬ y = 0) (K : B g M rc rs (pc + 1) lv (.int (x - x / y * y) :: st) S P I Q) : B g M rc rs pc lv (.int y :: .int x :: st) S P I Q := by
  intro p e R s m args below meth c Z hC hR H locs cells slots ls h1 h2 h3 h4 hl
  exact lv_irem hC.1 hC.2.1 hd hne (K p e R s m args below meth c Z hC hR H locs cells slots ls h1 h2 h3 h4 hl)
theorem B.ineg {x : Int32} (hd : decode (mC M) pc = .ok (.ineg, 1)) (K : B g M rc rs (pc + 1) lv (.int (-x) :: st) S P I Q) : B g M rc rs pc lv (.int x :: st) S P I Q := by
  intro p e R s m args below meth c Z hC hR H locs cells slots ls h1 h2 h3 h4 hl
  exact lv_ineg hC.1 hC.2.1 hd (K p e R s m args below meth c Z hC hR H locs cells slots ls h1 h2 h3 h4 hl)
theorem B.iushr {x y : Int32} (hd : decode (mC M) pc = .ok (.iushr, 1)) (K : B g M rc rs (pc + 1) lv (.int ((x.toUInt32 >>> (y.toUInt32 &&& Int32.toUInt32 31)).toInt32) :: st) S P I Q) : B g M rc rs pc lv (.int y :: .int x :: st) S P I Q := by
  intro p e R s m args below meth c Z hC hR H locs cells slots ls h1 h2 h3 h4 hl
  exact lv_iushr hC.1 hC.2.1 hd rfl (K p e R s m args below meth c Z hC hR H locs cells slots ls h1 h2 h3 h4 hl)
theorem B.i2l {x : Int32} (hd : decode (mC M) pc = .ok (.i2l, 1)) (K : B g M rc rs (pc + 1) lv (.long x.toInt64 :: st) S P I Q) : B g M rc rs pc lv (.int x :: st) S P I Q := by
  intro p e R s m args below meth c Z hC hR H locs cells slots ls h1 h2 h3 h4 hl
  exact lv_i2l hC.1 hC.2.1 hd rfl (K p e R s m args below meth c Z hC hR H locs cells slots ls h1 h2 h3 h4 hl)
theorem B.i2b {x : Int32} (hd : decode (mC M) pc = .ok (.i2b, 1)) (K : B g M rc rs (pc + 1) lv (.int x.toInt8.toInt32 :: st) S P I Q) : B g M rc rs pc lv (.int x :: st) S P I Q := by
  intro p e R s m args below meth c Z hC hR H locs cells slots ls h1 h2 h3 h4 hl
  exact lv_i2b hC.1 hC.2.1 hd rfl (K p e R s m args below meth c Z hC hR H locs cells slots ls h1 h2 h3 h4 hl)
theorem B.lcmp {x y : Int64} (hd : decode (mC M) pc = .ok (.lcmp, 1)) (K : B g M rc rs (pc + 1) lv (.int (lg_cmp x y) :: st) S P I Q) : B g M rc rs pc lv (.long y :: .long x :: st) S P I Q := by
  intro p e R s m args below meth c Z hC hR H locs cells slots ls h1 h2 h3 h4 hl
  exact W.lcmp hC.1 hC.2.1 hd (K p e R s m args below meth c Z hC hR H locs cells slots ls h1 h2 h3 h4 hl)
theorem B.lconst {n : Fin 2} (v : Int64) (hd : decode (mC M) pc = .ok (.lconst n, 1)) (hv : Int64.ofNat n = v) (K : B g M rc rs (pc + 1) lv (.long v :: st) S P I Q) : B g M rc rs pc lv st S P I Q := by
  intro p e R s m args below meth c Z hC hR H locs cells slots ls h1 h2 h3 h4 hl
  exact lv_lconst hC.1 hC.2.1 hd hv (K p e R s m args below meth c Z hC hR H locs cells slots ls h1 h2 h3 h4 hl)
theorem B.ldc {ix : Nat} (v : Int32) (hd : decode (mC M) pc = .ok (.ldc ix, 2)) (hw : Cond.constant (mY M).cls ix v ∈ gws) (K : B g M rc rs (pc + 2) lv (.int v :: st) S P I Q) : B g M rc rs pc lv st S P I Q := by
  intro p e R s m args below meth c Z hC hR H locs cells slots ls h1 h2 h3 h4 hl
  exact lv_ldc hC.1 hC.2.1 hC.2.2.2.2.1 (hC.2.2.2.2.2.1 _ hw) hd (K p e R s m args below meth c Z hC hR H locs cells slots ls h1 h2 h3 h4 hl)
theorem B.ldc2 {ix : Nat} (v : Int64) (hd : decode (mC M) pc = .ok (.ldc2_w ix, 3)) (hw : Cond.constantLong (mY M).cls ix v ∈ gws) (K : B g M rc rs (pc + 3) lv (.long v :: st) S P I Q) : B g M rc rs pc lv st S P I Q := by
  intro p e R s m args below meth c Z hC hR H locs cells slots ls h1 h2 h3 h4 hl
  exact W.ldc2 hC.1 hC.2.1 hC.2.2.2.2.1 (hC.2.2.2.2.2.1 _ hw) rfl hd (K p e R s m args below meth c Z hC hR H locs cells slots ls h1 h2 h3 h4 hl)
theorem B.dup {va : Value} (hd : decode (mC M) pc = .ok (.dup, 1)) (hva : va.category = 1) (K : B g M rc rs (pc + 1) lv (va :: va :: st) S P I Q) : B g M rc rs pc lv (va :: st) S P I Q := by
  intro p e R s m args below meth c Z hC hR H locs cells slots ls h1 h2 h3 h4 hl
  exact lv_dup hC.1 hC.2.1 hd hva (K p e R s m args below meth c Z hC hR H locs cells slots ls h1 h2 h3 h4 hl)
theorem B.dup2 {va vb : Value} (hd : decode (mC M) pc = .ok (.dup2, 1)) (hva : va.category = 1) (hvb : vb.category = 1) (K : B g M rc rs (pc + 1) lv (va :: vb :: va :: vb :: st) S P I Q) : B g M rc rs pc lv (va :: vb :: st) S P I Q := by
  intro p e R s m args below meth c Z hC hR H locs cells slots ls h1 h2 h3 h4 hl
  exact lv_dup2_11 hC.1 hC.2.1 hd hva hvb (K p e R s m args below meth c Z hC hR H locs cells slots ls h1 h2 h3 h4 hl)
theorem B.if_eq {x : Int32} {off : Int} (tgt : Nat) (hd : decode (mC M) pc = .ok (.ifCond .eq off, 3)) (ht : (pc : Int) + off = (tgt : Int)) (KT : x = 0 → B g M rc rs tgt lv st S P I Q) (KF : ¬ (x = 0) → B g M rc rs (pc + 3) lv st S P I Q) : B g M rc rs pc lv (.int x :: st) S P I Q := by
  intro p e R s m args below meth c Z hC hR H locs cells slots ls h1 h2 h3 h4 hl
  exact lv_if_eq hC.1 hC.2.1 hd ht (fun q => KT q p e R s m args below meth c Z hC hR H locs cells slots ls h1 h2 h3 h4 hl) (fun q => KF q p e R s m args below meth c Z hC hR H locs cells slots ls h1 h2 h3 h4 hl)
theorem B.icmp_eq {x y : Int32} {off : Int} (tgt : Nat) (hd : decode (mC M) pc = .ok (.if_icmp .eq off, 3)) (ht : (pc : Int) + off = (tgt : Int)) (KT : x = y → B g M rc rs tgt lv st S P I Q) (KF : ¬ (x = y) → B g M rc rs (pc + 3) lv st S P I Q) : B g M rc rs pc lv (.int y :: .int x :: st) S P I Q := by
  intro p e R s m args below meth c Z hC hR H locs cells slots ls h1 h2 h3 h4 hl
  exact lv_icmp_eq hC.1 hC.2.1 hd ht (fun q => KT q p e R s m args below meth c Z hC hR H locs cells slots ls h1 h2 h3 h4 hl) (fun q => KF q p e R s m args below meth c Z hC hR H locs cells slots ls h1 h2 h3 h4 hl)
theorem B.if_ne {x : Int32} {off : Int} (tgt : Nat) (hd : decode (mC M) pc = .ok (.ifCond .ne off, 3)) (ht : (pc : Int) + off = (tgt : Int)) (KT : ¬ x = 0 → B g M rc rs tgt lv st S P I Q) (KF : x = 0 → B g M rc rs (pc + 3) lv st S P I Q) : B g M rc rs pc lv (.int x :: st) S P I Q := by
  intro p e R s m args below meth c Z hC hR H locs cells slots ls h1 h2 h3 h4 hl
  exact lv_if_ne hC.1 hC.2.1 hd ht (fun q => KT q p e R s m args below meth c Z hC hR H locs cells slots ls h1 h2 h3 h4 hl) (fun q => KF q p e R s m args below meth c Z hC hR H locs cells slots ls h1 h2 h3 h4 hl)
theorem B.icmp_ne {x y : Int32} {off : Int} (tgt : Nat) (hd : decode (mC M) pc = .ok (.if_icmp .ne off, 3)) (ht : (pc : Int) + off = (tgt : Int)) (KT : ¬ x = y → B g M rc rs tgt lv st S P I Q) (KF : x = y → B g M rc rs (pc + 3) lv st S P I Q) : B g M rc rs pc lv (.int y :: .int x :: st) S P I Q := by
  intro p e R s m args below meth c Z hC hR H locs cells slots ls h1 h2 h3 h4 hl
  exact lv_icmp_ne hC.1 hC.2.1 hd ht (fun q => KT q p e R s m args below meth c Z hC hR H locs cells slots ls h1 h2 h3 h4 hl) (fun q => KF q p e R s m args below meth c Z hC hR H locs cells slots ls h1 h2 h3 h4 hl)
theorem B.if_lt {x : Int32} {off : Int} (tgt : Nat) (hd : decode (mC M) pc = .ok (.ifCond .lt off, 3)) (ht : (pc : Int) + off = (tgt : Int)) (KT : x < 0 → B g M rc rs tgt lv st S P I Q) (KF : ¬ (x < 0) → B g M rc rs (pc + 3) lv st S P I Q) : B g M rc rs pc lv (.int x :: st) S P I Q := by
  intro p e R s m args below meth c Z hC hR H locs cells slots ls h1 h2 h3 h4 hl
  exact lv_if_lt hC.1 hC.2.1 hd ht (fun q => KT q p e R s m args below meth c Z hC hR H locs cells slots ls h1 h2 h3 h4 hl) (fun q => KF q p e R s m args below meth c Z hC hR H locs cells slots ls h1 h2 h3 h4 hl)
theorem B.icmp_lt {x y : Int32} {off : Int} (tgt : Nat) (hd : decode (mC M) pc = .ok (.if_icmp .lt off, 3)) (ht : (pc : Int) + off = (tgt : Int)) (KT : x < y → B g M rc rs tgt lv st S P I Q) (KF : ¬ (x < y) → B g M rc rs (pc + 3) lv st S P I Q) : B g M rc rs pc lv (.int y :: .int x :: st) S P I Q := by
  intro p e R s m args below meth c Z hC hR H locs cells slots ls h1 h2 h3 h4 hl
  exact lv_icmp_lt hC.1 hC.2.1 hd ht (fun q => KT q p e R s m args below meth c Z hC hR H locs cells slots ls h1 h2 h3 h4 hl) (fun q => KF q p e R s m args below meth c Z hC hR H locs cells slots ls h1 h2 h3 h4 hl)
theorem B.if_ge {x : Int32} {off : Int} (tgt : Nat) (hd : decode (mC M) pc = .ok (.ifCond .ge off, 3)) (ht : (pc : Int) + off = (tgt : Int)) (KT : 0 ≤ x → B g M rc rs tgt lv st S P I Q) (KF : ¬ (0 ≤ x) → B g M rc rs (pc + 3) lv st S P I Q) : B g M rc rs pc lv (.int x :: st) S P I Q := by
  intro p e R s m args below meth c Z hC hR H locs cells slots ls h1 h2 h3 h4 hl
  exact lv_if_ge hC.1 hC.2.1 hd ht (fun q => KT q p e R s m args below meth c Z hC hR H locs cells slots ls h1 h2 h3 h4 hl) (fun q => KF q p e R s m args below meth c Z hC hR H locs cells slots ls h1 h2 h3 h4 hl)
theorem B.icmp_ge {x y : Int32} {off : Int} (tgt : Nat) (hd : decode (mC M) pc = .ok (.if_icmp .ge off, 3)) (ht : (pc : Int) + off = (tgt : Int)) (KT : y ≤ x → B g M rc rs tgt lv st S P I Q) (KF : ¬ (y ≤ x) → B g M rc rs (pc + 3) lv st S P I Q) : B g M rc rs pc lv (.int y :: .int x :: st) S P I Q := by
  intro p e R s m args below meth c Z hC hR H locs cells slots ls h1 h2 h3 h4 hl
  exact lv_icmp_ge hC.1 hC.2.1 hd ht (fun q => KT q p e R s m args below meth c Z hC hR H locs cells slots ls h1 h2 h3 h4 hl) (fun q => KF q p e R s m args below meth c Z hC hR H locs cells slots ls h1 h2 h3 h4 hl)
theorem B.if_gt {x : Int32} {off : Int} (tgt : Nat) (hd : decode (mC M) pc = .ok (.ifCond .gt off, 3)) (ht : (pc : Int) + off = (tgt : Int)) (KT : 0 < x → B g M rc rs tgt lv st S P I Q) (KF : ¬ (0 < x) → B g M rc rs (pc + 3) lv st S P I Q) : B g M rc rs pc lv (.int x :: st) S P I Q := by
  intro p e R s m args below meth c Z hC hR H locs cells slots ls h1 h2 h3 h4 hl
  exact lv_if_gt hC.1 hC.2.1 hd ht (fun q => KT q p e R s m args below meth c Z hC hR H locs cells slots ls h1 h2 h3 h4 hl) (fun q => KF q p e R s m args below meth c Z hC hR H locs cells slots ls h1 h2 h3 h4 hl)
theorem B.icmp_gt {x y : Int32} {off : Int} (tgt : Nat) (hd : decode (mC M) pc = .ok (.if_icmp .gt off, 3)) (ht : (pc : Int) + off = (tgt : Int)) (KT : y < x → B g M rc rs tgt lv st S P I Q) (KF : ¬ (y < x) → B g M rc rs (pc + 3) lv st S P I Q) : B g M rc rs pc lv (.int y :: .int x :: st) S P I Q := by
  intro p e R s m args below meth c Z hC hR H locs cells slots ls h1 h2 h3 h4 hl
  exact lv_icmp_gt hC.1 hC.2.1 hd ht (fun q => KT q p e R s m args below meth c Z hC hR H locs cells slots ls h1 h2 h3 h4 hl) (fun q => KF q p e R s m args below meth c Z hC hR H locs cells slots ls h1 h2 h3 h4 hl)
theorem B.if_le {x : Int32} {off : Int} (tgt : Nat) (hd : decode (mC M) pc = .ok (.ifCond .le off, 3)) (ht : (pc : Int) + off = (tgt : Int)) (KT : x ≤ 0 → B g M rc rs tgt lv st S P I Q) (KF : ¬ (x ≤ 0) → B g M rc rs (pc + 3) lv st S P I Q) : B g M rc rs pc lv (.int x :: st) S P I Q := by
  intro p e R s m args below meth c Z hC hR H locs cells slots ls h1 h2 h3 h4 hl
  exact lv_if_le hC.1 hC.2.1 hd ht (fun q => KT q p e R s m args below meth c Z hC hR H locs cells slots ls h1 h2 h3 h4 hl) (fun q => KF q p e R s m args below meth c Z hC hR H locs cells slots ls h1 h2 h3 h4 hl)
theorem B.icmp_le {x y : Int32} {off : Int} (tgt : Nat) (hd : decode (mC M) pc = .ok (.if_icmp .le off, 3)) (ht : (pc : Int) + off = (tgt : Int)) (KT : x ≤ y → B g M rc rs tgt lv st S P I Q) (KF : ¬ (x ≤ y) → B g M rc rs (pc + 3) lv st S P I Q) : B g M rc rs pc lv (.int y :: .int x :: st) S P I Q := by
  intro p e R s m args below meth c Z hC hR H locs cells slots ls h1 h2 h3 h4 hl
  exact lv_icmp_le hC.1 hC.2.1 hd ht (fun q => KT q p e R s m args below meth c Z hC hR H locs cells slots ls h1 h2 h3 h4 hl) (fun q => KF q p e R s m args below meth c Z hC hR H locs cells slots ls h1 h2 h3 h4 hl)
theorem B.goto_ {off : Int} (tgt : Nat) (hd : decode (mC M) pc = .ok (.goto off, 3)) (ht : (pc : Int) + off = (tgt : Int)) (K : B g M rc rs tgt lv st S P I Q) : B g M rc rs pc lv st S P I Q := by
  intro p e R s m args below meth c Z hC hR H locs cells slots ls h1 h2 h3 h4 hl
  exact lv_goto hC.1 hC.2.1 hd ht (K p e R s m args below meth c Z hC hR H locs cells slots ls h1 h2 h3 h4 hl)
theorem B.ifnonnull {x : Nat} {off : Int} (tgt : Nat) (hd : decode (mC M) pc = .ok (.ifnonnull off, 3)) (ht : (pc : Int) + off = (tgt : Int)) (KT : ∀ y : Nat, x = y + 1 → B g M rc rs tgt lv st S P I Q) (KF : x = 0 → B g M rc rs (pc + 3) lv st S P I Q) : B g M rc rs pc lv (rv x :: st) S P I Q := by
  intro p e R s m args below meth c Z hC hR H locs cells slots ls h1 h2 h3 h4 hl
  cases x with
  | zero => exact lv_ifnonnullN hC.1 hC.2.1 hd (KF rfl p e R s m args below meth c Z hC hR H locs cells slots ls h1 h2 h3 h4 hl)
  | succ y => exact lv_ifnonnull hC.1 hC.2.1 hd ht (KT y rfl p e R s m args below meth c Z hC hR H locs cells slots ls h1 h2 h3 h4 hl)
theorem B.tableIn {dflt lo hi : Int} {offs : Array Int} {len : Nat} {x : Int32} {off : Int} (tgt : Nat) (hd : decode (mC M) pc = .ok (.tableswitch dflt lo hi offs, len)) (q1 : ¬ x.toInt < lo) (q2 : ¬ hi < x.toInt) (ho : offs[(x.toInt - lo).toNat]? = some off) (ht : (pc : Int) + off = (tgt : Int)) (K : B g M rc rs tgt lv st S P I Q) : B g M rc rs pc lv (.int x :: st) S P I Q := by
  intro p e R s m args below meth c Z hC hR H locs cells slots ls h1 h2 h3 h4 hl
  exact lv_tableIn hC.1 hC.2.1 hd q1 q2 ho ht (K p e R s m args below meth c Z hC hR H locs cells slots ls h1 h2 h3 h4 hl)
theorem B.tableOut {dflt lo hi : Int} {offs : Array Int} {len : Nat} {x : Int32} (tgt : Nat) (hd : decode (mC M) pc = .ok (.tableswitch dflt lo hi offs, len)) (q1 : x.toInt < lo ∨ hi < x.toInt) (ht : (pc : Int) + dflt = (tgt : Int)) (K : B g M rc rs tgt lv st S P I Q) : B g M rc rs pc lv (.int x :: st) S P I Q := by
  intro p e R s m args below meth c Z hC hR H locs cells slots ls h1 h2 h3 h4 hl
  exact lv_tableOut hC.1 hC.2.1 hd q1 ht (K p e R s m args below meth c Z hC hR H locs cells slots ls h1 h2 h3 h4 hl)
theorem B.lookup {dflt : Int} {ps : Array (Int × Int)} {len : Nat} {x : Int32} {off : Int} (tgt : Nat) (hd : decode (mC M) pc = .ok (.lookupswitch dflt ps, len)) (hp : (ps.toList.zip (ps.toList.drop 1)).all (fun (a, next) => a.1 < next.1) = true) (ho : Op.lookupswitch.offset ps.toList dflt x.toInt = off) (ht : (pc : Int) + off = (tgt : Int)) (K : B g M rc rs tgt lv st S P I Q) : B g M rc rs pc lv (.int x :: st) S P I Q := by
  intro p e R s m args below meth c Z hC hR H locs cells slots ls h1 h2 h3 h4 hl
  exact lv_lookup hC.1 hC.2.1 hd hp ho ht (K p e R s m args below meth c Z hC hR H locs cells slots ls h1 h2 h3 h4 hl)
theorem B.ireturn {v : Int32} {ty : FieldType} (hd : decode (mC M) pc = .ok (.ireturn, 1)) (hr : mR M = some ty) (hn : narrow ty (.int v) = .int v) (K : Q (some (.int v)) S P I) : B g M rc rs pc lv [.int v] S P I Q := by
  intro p e R s m args below meth c Z hC hR H locs cells slots ls h1 h2 h3 h4 hl
  exact hR H locs cells slots _ S P I pc ls _ h3 h4 (by omega) (by omega) K hd (Or.inl ⟨rfl, v, ty, rfl, hr, hn⟩)
theorem B.return_ (hd : decode (mC M) pc = .ok (.return_, 1)) (hr : mR M = none) (K : Q none S P I) : B g M rc rs pc lv [] S P I Q := by
  intro p e R s m args below meth c Z hC hR H locs cells slots ls h1 h2 h3 h4 hl
  exact hR H locs cells slots _ S P I pc ls _ h3 h4 (by omega) (by omega) K hd (Or.inr (Or.inl ⟨rfl, rfl, hr⟩))
theorem B.lreturn {v : Int64} (hd : decode (mC M) pc = .ok (.lreturn, 1)) (hr : mR M = some .long) (K : Q (some (.long v)) S P I) : B g M rc rs pc lv [.long v] S P I Q := by
  intro p e R s m args below meth c Z hC hR H locs cells slots ls h1 h2 h3 h4 hl
  exact hR H locs cells slots _ S P I pc ls _ h3 h4 (by omega) (by omega) K hd (Or.inr (Or.inr ⟨rfl, v, rfl, hr⟩))
end RULES
end
section
theorem all_in {ci : Nat} {r : vw_C} (h : vwCl[ci]? = some r) : ∀ w ∈ u_ws r.1 r.2.1 r.2.2, w ∈ gws := by
  have hl : ci < 10 := (List.getElem?_eq_some_iff.mp h).1
  have key : ∀ i, i < 10 → ∀ r', vwCl[i]? = some r' → ∀ w ∈ u_ws r'.1 r'.2.1 r'.2.2, w ∈ gws := by
    intro i hi
    match i, hi with
    | 0, _ => intro r' h; cases h; decide +kernel
    | 1, _ => intro r' h; cases h; decide +kernel
    | 2, _ => intro r' h; cases h; decide +kernel
    | 3, _ => intro r' h; cases h; decide +kernel
    | 4, _ => intro r' h; cases h; decide +kernel
    | 5, _ => intro r' h; cases h; decide +kernel
    | 6, _ => intro r' h; cases h; decide +kernel
    | 7, _ => intro r' h; cases h; decide +kernel
    | 8, _ => intro r' h; cases h; decide +kernel
    | 9, _ => intro r' h; cases h; decide +kernel
  exact key ci hl r h
theorem all_nm {ci : Nat} {r : vw_C} (h : vwCl[ci]? = some r) : (∀ a, a < r.2.2 → ∀ b, b < r.2.2 → a ≠ b → (r.2.1 a).2.1 ≠ (r.2.1 b).2.1) ∧ ∃ ty : Nat → FieldType, (∀ k, k < r.2.2 → parseFieldDescriptor (r.2.1 k).2.2.1 = some (ty k)) ∧ ∀ k, k < r.2.2 → defaultValue (ty k) = if is_r (r.2.1 k).2.2.1 then .null else .int 0 := by
  have hl : ci < 10 := (List.getElem?_eq_some_iff.mp h).1
  have key : ∀ i, i < 10 → ∀ r', vwCl[i]? = some r' → (∀ a, a < r'.2.2 → ∀ b, b < r'.2.2 → a ≠ b → (r'.2.1 a).2.1 ≠ (r'.2.1 b).2.1) ∧ ∃ ty : Nat → FieldType, (∀ k, k < r'.2.2 → parseFieldDescriptor (r'.2.1 k).2.2.1 = some (ty k)) ∧ ∀ k, k < r'.2.2 → defaultValue (ty k) = if is_r (r'.2.1 k).2.2.1 then .null else .int 0 := by
    intro i hi
    match i, hi with
    | 0, _ => intro r' h; cases h; exact ⟨nmX0, tyX0, tyX0_ok, by decide +kernel⟩
    | 1, _ => intro r' h; cases h; exact ⟨nmX1, tyX1, tyX1_ok, by decide +kernel⟩
    | 2, _ => intro r' h; cases h; exact ⟨nmX2, tyX2, tyX2_ok, by decide +kernel⟩
    | 3, _ => intro r' h; cases h; exact ⟨nmX3, tyX3, tyX3_ok, by decide +kernel⟩
    | 4, _ => intro r' h; cases h; exact ⟨nmX4, tyX4, tyX4_ok, by decide +kernel⟩
    | 5, _ => intro r' h; cases h; exact ⟨nmX5, tyX5, tyX5_ok, by decide +kernel⟩
    | 6, _ => intro r' h; cases h; exact ⟨nmX6, tyX6, tyX6_ok, by decide +kernel⟩
    | 7, _ => intro r' h; cases h; exact ⟨nmX7, tyX7, tyX7_ok, by decide +kernel⟩
    | 8, _ => intro r' h; cases h; exact ⟨nmX8, tyX8, tyX8_ok, by decide +kernel⟩
    | 9, _ => intro r' h; cases h; exact ⟨nmX9, tyX9, tyX9_ok, by decide +kernel⟩
  exact key ci hl r h
def u2 (I : IT) (a k : Nat) (x : Int32) : IT := fun b j => if b = a ∧ j = k then x else I b j
def p2 (P : PT) (a k : Nat) (x : Nat) : PT := fun b j => if b = a ∧ j = k then x else P b j
def zI (I : IT) (a : Nat) : IT := fun b j => if b = a then 0 else I b j
def zP (P : PT) (a : Nat) : PT := fun b j => if b = a then 0 else P b j
def sA (S : ST) (t n : Nat) : ST := (sN S + 1, (fun a => if a = sN S then t else sT S a), (fun a => if a = sN S then n else sL S a))
def ix (i : Int32) (j n : Nat) : Prop := ¬ i < 0 ∧ i.toNatClampNeg = j ∧ j < n
theorem ix_n {j n : Nat} (h : j < n) (hn : n < 2 ^ 31) : ix (nI j) j n := ⟨nI_pos (by omega), nI_clamp (by omega), h⟩
theorem ix.vp {i : Int32} {j n : Nat} (h : ix i j n) : ¬ (i < 0 ∨ n ≤ i.toNatClampNeg) := by
  rintro (q | q)
  · exact h.1 q
  · rw [h.2.1] at q
    exact absurd h.2.2 (Nat.not_lt.mpr q)
def FL (own : String) (x ci k : Nat) (rf : Bool) : Prop := ∃ r : vw_C, vwCl[ci]? = some r ∧ k < r.2.2 ∧ Cond.fieldLink own x r.1 (r.2.1 k).2.1 (r.2.1 k).2.2.1 ∈ gws ∧ (r.2.1 k).1 = r.1 ∧ is_r (r.2.1 k).2.2.1 = rf
def FW (own : String) (x ci k : Nat) (rf fin : Bool) (ty : FieldType) : Prop := ∃ r : vw_C, vwCl[ci]? = some r ∧ k < r.2.2 ∧ Cond.fieldLink own x r.1 (r.2.1 k).2.1 (r.2.1 k).2.2.1 ∈ gws ∧ (r.2.1 k).1 = r.1 ∧ is_r (r.2.1 k).2.2.1 = rf ∧ (r.2.1 k).2.2.2 = fin ∧ parseFieldDescriptor (r.2.1 k).2.2.1 = some ty ∧ (fin = true → own = r.1)
theorem Rep.set {g : GT} {S : ST} {P P' : PT} {I I' : IT} {H H' : Heap} {a : Nat} (h : Rep g S P I H) (hsz : H'.size = H.size) (ho : ∀ q : Nat, q ≠ a → H'[q]? = H[q]?) (ha : gB g ≤ a) (hp : ∀ b, b ≠ a → P' b = P b) (hi : ∀ b, b ≠ a → I' b = I b) (hat : rp_at g S P' I' H' a) : Rep g S P' I' H' := by
  refine ⟨hsz.trans h.1, h.2.1, fun q hq => (ho q (by omega)).trans (h.2.2.1 q hq), fun b hb => ?_⟩
  obtain ⟨b1, b2, b3⟩ := h.2.2.2 b hb
  refine ⟨b1, b2, ?_⟩
  by_cases hba : b = a
  · subst hba; exact hat
  · refine ⟨fun ci r ht hr => ?_, fun j ht => ?_⟩
    · refine ((b3.1 ci r ht hr).kept (ho b hba)).to (fun k _ => ?_)
      unfold f_v
      rw [hp b hba, hi b hba]
    · rw [ho b hba, b3.2 j ht]
      unfold e_v
      rw [hp b hba, hi b hba]
section HEAP
variable {g : GT} {M : MT} {rc rs pc : Nat} {lv : List (Nat × Value)} {st : List Value} {S : ST} {P : PT} {I : IT} {Q : QT}
theorem B.getf {x ci k a : Nat} {rf : Bool} (hd : decode (mC M) pc = .ok (.getfield x, 3)) (hL : FL (mY M).cls x ci k rf) (ht : sT S a = ci + 1) (K : B g M rc rs (pc + 3) lv ((if rf then rv (P a k) else .int (I a k)) :: st) S P I Q) : B g M rc rs pc lv (.ref a :: st) S P I Q := by
  intro p e R s m args below meth c Z hC hR H locs cells slots ls h1 h2 h3 h4 hl
  obtain ⟨r, hr, hk, hw, hdec, hrf⟩ := hL
  obtain ⟨b1, b2, hat⟩ := h3.2.2.2 a (by rw [ht]; omega)
  obtain ⟨cell, q1, q2, q3, q4⟩ := hat.1 ci r ht hr
  obtain ⟨hx, hb, hml, hlk, hown, hts, hKn, hF, hLo, hnm⟩ := id hC
  obtain ⟨hS, hfc, kC, hkC, hkind⟩ := hKn.1.1 ci r hr
  obtain ⟨cf, kf, fi, f, hi, hsl⟩ := hS k hk
  rw [hdec] at hi
  refine W.getf hx hb hown (hts _ hw) hi ?_ q1 (by rw [q3]; exact fun h => by cases h) (v := f_v r.2.1 P I a k) (by rw [hsl]; exact q4 k hk) rfl rfl hd ?_
  · exact (u_facts hfc hkC (u_lays hts (all_in hr) hk) (by rw [hdec]; exact hi)).1
  · have : f_v r.2.1 P I a k = (if rf then rv (P a k) else .int (I a k)) := by unfold f_v; rw [hrf]
    rw [this]
    exact K p e R s m args below meth c Z hC hR H locs cells slots ls h1 h2 h3 h4 hl
theorem B.getI {x ci k a : Nat} (hd : decode (mC M) pc = .ok (.getfield x, 3)) (hL : FL (mY M).cls x ci k false) (ht : sT S a = ci + 1) (K : B g M rc rs (pc + 3) lv (.int (I a k) :: st) S P I Q) : B g M rc rs pc lv (.ref a :: st) S P I Q := B.getf hd hL ht K
theorem B.getP {x ci k a : Nat} (hd : decode (mC M) pc = .ok (.getfield x, 3)) (hL : FL (mY M).cls x ci k true) (ht : sT S a = ci + 1) {b : Nat} (hb : P a k = b + 1) (K : B g M rc rs (pc + 3) lv (.ref b :: st) S P I Q) : B g M rc rs pc lv (.ref a :: st) S P I Q := by
  refine B.getf hd hL ht ?_
  rw [hb]
  exact K
theorem upd_OB {k a : Nat} {r : vw_C} {P' : PT} {I' : IT} {v : Value} {cC : ClassId} {iS : Nat → Nat} {H : Heap} {cell : Cell} (q1 : H[a]? = some (cell.setSlot (iS k) v)) (q2 : cell.cls = cC) (q3 : cell.vm = .none) (q4 : ∀ j, j < r.2.2 → cell.slots[iS j]? = some (f_v r.2.1 P I a j)) (hap : ∀ x y, x < r.2.2 → y < r.2.2 → x ≠ y → iS x ≠ iS y) (hk : k < r.2.2) (hv : f_v r.2.1 P' I' a k = v) (hj : ∀ j, j ≠ k → f_v r.2.1 P' I' a j = f_v r.2.1 P I a j) : t_OB a cC r.2.2 iS H (f_v r.2.1 P' I' a) := by
  refine t_OB.to (V := updV (f_v r.2.1 P I a) k v) ⟨_, q1, q2, q3, t_set q4 hap hk v⟩ (fun j _ => ?_)
  by_cases hjk : j = k
  · subst hjk; rw [hv]; simp [updV]
  · rw [hj j hjk]; simp [updV, hjk]
theorem B.putG {x ci k a : Nat} {rf : Bool} {ty : FieldType} {v : Value} {P' : PT} {I' : IT} (hd : decode (mC M) pc = .ok (.putfield x, 3)) (hL : FW (mY M).cls x ci k rf false ty) (ht : sT S a = ci + 1) (hn : narrow ty v = v) (hfit : fits ty v = true)
    (hp : ∀ b, b ≠ a → P' b = P b) (hi' : ∀ b, b ≠ a → I' b = I b) (hpk : ∀ j, j ≠ k → P' a j = P a j) (hik : ∀ j, j ≠ k → I' a j = I a j) (hv : (if rf then rv (P' a k) else .int (I' a k)) = v) (K : B g M rc rs (pc + 3) lv st S P' I' Q) : B g M rc rs pc lv (v :: .ref a :: st) S P I Q := by
  intro p e R s m args below meth c Z hC hR H locs cells slots ls h1 h2 h3 h4 hl
  obtain ⟨r, hr, hk, hw, hdec, hrf, hfin, hpty, -⟩ := hL
  obtain ⟨b1, b2, hat⟩ := h3.2.2.2 a (by rw [ht]; omega)
  obtain ⟨cell, q1, q2, q3, q4⟩ := hat.1 ci r ht hr
  obtain ⟨hx, hb, hml, hlk, hown, hts, hKn, hF, hLo, hnm⟩ := id hC
  obtain ⟨hnms, ty0, hty0, -⟩ := all_nm hr
  have hap := va_apart (own := (mY M).cls) hts (all_in hr) ty0 hty0 hnms hKn.1 hr
  obtain ⟨hS, hfc, kC, hkC, hkind⟩ := hKn.1.1 ci r hr
  obtain ⟨cf, kf, fi, f, hi, hsl⟩ := hS k hk
  have hlay := hts _ (all_in hr _ (u_in_lay hk))
  unfold u_lay at hlay
  rw [if_neg (by rw [hfin]; decide)] at hlay
  have hst := (u_facts hfc hkC (u_lays hts (all_in hr) hk) hi).1
  have h6 := u_store hfc hkC hkind hlay hi hpty hn hfit
  refine W.putK hx hb (f := f) ⟨hown, hts _ hw, ⟨_, _, _, hdec ▸ hi⟩, hst⟩ (by rw [q2]; exact h6) q1 q3 (by rw [hsl]; exact k2_hasslot (q4 k hk)) rfl rfl hd fun H' e1 e2 e3 => ?_
  rw [hsl] at e1 ⊢
  have hci : ci < 10 := (List.getElem?_eq_some_iff.mp hr).1
  refine K p e R s m args below meth c Z hC hR H' _ cells slots ls h1 h2 (h3.set e2 e3 b1 hp hi' ⟨fun ci2 r2 t2 hr2 => ?_, fun j t2 => ?_⟩) (fun q hq => ?_) hl
  · have : ci2 = ci := by rw [ht] at t2; omega
    subst this
    cases hr.symm.trans hr2
    exact upd_OB e1 q2 q3 q4 hap hk (by unfold f_v; rw [hrf]; exact hv) (fun j hj => by unfold f_v; rw [hpk j hj, hik j hj])
  · rw [ht] at t2; omega
  · rcases List.mem_append.mp hq with h | h
    · exact h4 q h
    · cases List.mem_singleton.mp h
      exact b1
theorem B.putI {x ci k a : Nat} {v : Int32} (hd : decode (mC M) pc = .ok (.putfield x, 3)) (hL : FW (mY M).cls x ci k false false .int) (ht : sT S a = ci + 1) (K : B g M rc rs (pc + 3) lv st S P (u2 I a k v) Q) : B g M rc rs pc lv (.int v :: .ref a :: st) S P I Q :=
  B.putG (P' := P) (I' := u2 I a k v) hd hL ht rfl rfl (fun _ _ => rfl) (fun b hb => by funext j; simp [u2, hb]) (fun _ _ => rfl) (fun j hj => by simp [u2, hj]) (by simp [u2]) K
theorem B.putZ {x ci k a : Nat} {v : Int32} (hd : decode (mC M) pc = .ok (.putfield x, 3)) (hL : FW (mY M).cls x ci k false false .boolean) (ht : sT S a = ci + 1) (hv : v = 0 ∨ v = 1) (K : B g M rc rs (pc + 3) lv st S P (u2 I a k v) Q) : B g M rc rs pc lv (.int v :: .ref a :: st) S P I Q :=
  B.putG (P' := P) (I' := u2 I a k v) hd hL ht (by rcases hv with rfl | rfl <;> rfl) (by rcases hv with rfl | rfl <;> rfl) (fun _ _ => rfl) (fun b hb => by funext j; simp [u2, hb]) (fun _ _ => rfl) (fun j hj => by simp [u2, hj]) (by simp [u2]) K
theorem B.putF {x ci k a b : Nat} {ty : FieldType} (hd : decode (mC M) pc = .ok (.putfield x, 3)) (hL : FW (mY M).cls x ci k true true ty) (hin : (mY M).name = "<init>") (ht : sT S a = ci + 1) (hfit : fits ty (.ref b) = true) (hn : narrow ty (.ref b) = .ref b) (K : B g M rc rs (pc + 3) lv st S (p2 P a k (b + 1)) I Q) : B g M rc rs pc lv (.ref b :: .ref a :: st) S P I Q := by
  intro p e R s m args below meth c Z hC hR H locs cells slots ls h1 h2 h3 h4 hl
  obtain ⟨r, hr, hk, hw, hdec, hrf, hfin, hpty, hfo⟩ := hL
  obtain ⟨b1, b2, hat⟩ := h3.2.2.2 a (by rw [ht]; omega)
  obtain ⟨cell, q1, q2, q3, q4⟩ := hat.1 ci r ht hr
  obtain ⟨hx, hb, hml, hlk, hown, hts, hKn, hF, hLo, hnm⟩ := id hC
  obtain ⟨hnms, ty0, hty0, -⟩ := all_nm hr
  have hap := va_apart (own := (mY M).cls) hts (all_in hr) ty0 hty0 hnms hKn.1 hr
  obtain ⟨hS, hfc, kC, hkC, hkind⟩ := hKn.1.1 ci r hr
  obtain ⟨cf, kf, fi, f, hi, hsl⟩ := hS k hk
  have hlay := hts _ (all_in hr _ (u_in_lay hk))
  unfold u_lay at hlay
  rw [if_pos hfin] at hlay
  have hst := (u_facts hfc hkC (Or.inr hlay) hi).1
  have h6 := u_fits hfc hkC hkind (Or.inr hlay) hi hpty hn hfit
  have hcf : m.cls = cf := by
    obtain ⟨_, _, c', _, _, _, -, -, hf', -, -, -, hown2, -⟩ := Cond.laysFinal_spec hlay
    have e1 : c' = cf := by have := hi.symm.trans hf'; simp at this; exact this.1.symm
    rw [hdec, ← hfo rfl] at hown2
    rw [← e1]; exact Option.some.inj (hown.symm.trans hown2)
  refine W.putFinK hx hb hown (hts _ hw) (f := f) (hdec ▸ hi) hst hcf (hnm.trans hin) (by rw [q2]; exact h6) q1 q3 (by rw [hsl]; exact k2_hasslot (q4 k hk)) rfl rfl hd fun H' e1 e2 e3 => ?_
  rw [hsl] at e1 ⊢
  refine K p e R s m args below meth c Z hC hR H' _ cells slots ls h1 h2 (h3.set e2 e3 b1 (fun b' hb' => by funext j; simp [p2, hb']) (fun _ _ => rfl) ⟨fun ci2 r2 t2 hr2 => ?_, fun j t2 => ?_⟩) (fun q hq => ?_) hl
  · have : ci2 = ci := by rw [ht] at t2; omega
    subst this
    cases hr.symm.trans hr2
    exact upd_OB e1 q2 q3 q4 hap hk (by unfold f_v; rw [hrf]; simp [p2, rv]) (fun j hj => by unfold f_v; simp [p2, hj])
  · have hci : ci < 10 := (List.getElem?_eq_some_iff.mp hr).1
    rw [ht] at t2; omega
  · rcases List.mem_append.mp hq with h | h
    · exact h4 q h
    · cases List.mem_singleton.mp h
      exact b1
end HEAP
end
section
theorem sA_t (S : ST) (t n b : Nat) : sT (sA S t n) b = if b = sN S then t else sT S b := rfl
theorem sA_l (S : ST) (t n b : Nat) : sL (sA S t n) b = if b = sN S then n else sL S b := rfl
section ARR
variable {g : GT} {M : MT} {rc rs pc : Nat} {lv : List (Nat × Value)} {st : List Value} {S : ST} {P : PT} {I : IT} {Q : QT}
theorem B.iaload {a j : Nat} {i : Int32} (hd : decode (mC M) pc = .ok (.iaload, 1)) (ht : sT S a = 40) (hi : ix i j (sL S a)) (K : B g M rc rs (pc + 1) lv (.int (I a j) :: st) S P I Q) : B g M rc rs pc lv (.int i :: .ref a :: st) S P I Q := by
  intro p e R s m args below meth c Z hC hR H locs cells slots ls h1 h2 h3 h4 hl
  obtain ⟨b1, b2, hat⟩ := h3.2.2.2 a (by rw [ht]; omega)
  have hc := hat.2 0 ht
  refine W.iald (v := .int (I a j)) hC.1 hC.2.1 hc ((hC.2.2.2.2.2.2.1.2 0 (by decide)).1 _ _) (fun q => by cases q) (by rw [arrV_size]; exact hi.vp) (by rw [hi.2.1, arrV_read _ _ hi.2.2]; rfl) rfl rfl hd ?_
  exact K p e R s m args below meth c Z hC hR H locs cells slots ls h1 h2 h3 h4 hl
theorem B.baload {a j : Nat} {i : Int32} (hd : decode (mC M) pc = .ok (.baload, 1)) (ht : sT S a = 41) (hi : ix i j (sL S a)) (K : B g M rc rs (pc + 1) lv (.int (I a j) :: st) S P I Q) : B g M rc rs pc lv (.int i :: .ref a :: st) S P I Q := by
  intro p e R s m args below meth c Z hC hR H locs cells slots ls h1 h2 h3 h4 hl
  obtain ⟨b1, b2, hat⟩ := h3.2.2.2 a (by rw [ht]; omega)
  have hc := hat.2 1 ht
  refine W.bald (v := .int (I a j)) hC.1 hC.2.1 hc ((hC.2.2.2.2.2.2.1.2 1 (by decide)).1 _ _) (fun q => by cases q) (by rw [arrV_size]; exact hi.vp) (by rw [hi.2.1, arrV_read _ _ hi.2.2]; rfl) rfl rfl hd ?_
  exact K p e R s m args below meth c Z hC hR H locs cells slots ls h1 h2 h3 h4 hl
theorem B.zaload {a j : Nat} {i : Int32} (hd : decode (mC M) pc = .ok (.baload, 1)) (ht : sT S a = 42) (hi : ix i j (sL S a)) (K : B g M rc rs (pc + 1) lv (.int (I a j) :: st) S P I Q) : B g M rc rs pc lv (.int i :: .ref a :: st) S P I Q := by
  intro p e R s m args below meth c Z hC hR H locs cells slots ls h1 h2 h3 h4 hl
  obtain ⟨b1, b2, hat⟩ := h3.2.2.2 a (by rw [ht]; omega)
  have hc := hat.2 2 ht
  refine W.zald (v := .int (I a j)) hC.1 hC.2.1 hc ((hC.2.2.2.2.2.2.1.2 2 (by decide)).1 _ _) (fun q => by cases q) (by rw [arrV_size]; exact hi.vp) (by rw [hi.2.1, arrV_read _ _ hi.2.2]; rfl) rfl rfl hd ?_
  exact K p e R s m args below meth c Z hC hR H locs cells slots ls h1 h2 h3 h4 hl
theorem a_ty_ref {t : Nat} (h : 3 ≤ t) : (a_ty t).isReference = true := by
  match t, h with
  | 3, _ => rfl
  | 4, _ => rfl
  | n + 5, _ => rfl
theorem B.aaloadG {a j t : Nat} {i : Int32} (ht3 : 3 ≤ t) (ht6 : t < 6) (hd : decode (mC M) pc = .ok (.aaload, 1)) (ht : sT S a = 40 + t) (hi : ix i j (sL S a)) (K : B g M rc rs (pc + 1) lv (rv (P a j) :: st) S P I Q) : B g M rc rs pc lv (.int i :: .ref a :: st) S P I Q := by
  intro p e R s m args below meth c Z hC hR H locs cells slots ls h1 h2 h3 h4 hl
  obtain ⟨b1, b2, hat⟩ := h3.2.2.2 a (by rw [ht]; omega)
  have hc := hat.2 t ht
  refine W.aald (v := rv (P a j)) hC.1 hC.2.1 hc ((hC.2.2.2.2.2.2.1.2 t ht6).1 _ _) (a_ty_ref ht3) (fun q => by cases q) (by rw [arrV_size]; exact hi.vp) (by rw [hi.2.1, arrV_read _ _ hi.2.2]; unfold e_v; rw [if_neg (by omega)]) rfl rfl hd ?_
  exact K p e R s m args below meth c Z hC hR H locs cells slots ls h1 h2 h3 h4 hl
theorem B.aaload {a j b : Nat} (t : Nat) {i : Int32} (htt : 3 ≤ t ∧ t < 6) (hd : decode (mC M) pc = .ok (.aaload, 1)) (ht : sT S a = 40 + t) (hi : ix i j (sL S a)) (hb : P a j = b + 1) (K : B g M rc rs (pc + 1) lv (.ref b :: st) S P I Q) : B g M rc rs pc lv (.int i :: .ref a :: st) S P I Q := by
  refine B.aaloadG htt.1 htt.2 hd ht hi ?_
  rw [hb]
  exact K
theorem set_arr {a j t n : Nat} {cA : ClassId} {v : Value} {P' : PT} {I' : IT} {H : Heap} (h : H[a]? = some ((arrV cA n (e_v P I a t)).setSlot j v)) (hv : e_v P' I' a t j = v) (hj : ∀ k, k ≠ j → e_v P' I' a t k = e_v P I a t k) : H[a]? = some (arrV cA n (e_v P' I' a t)) := by
  rw [h, arrV_store]
  congr 2
  funext k
  by_cases hk : k = j
  · subst hk; rw [hv]; simp [updV]
  · rw [hj k hk]; simp [updV, hk]
theorem B.iastore {a j : Nat} {i v : Int32} (hd : decode (mC M) pc = .ok (.iastore, 1)) (ht : sT S a = 40) (hi : ix i j (sL S a)) (K : B g M rc rs (pc + 1) lv st S P (u2 I a j v) Q) : B g M rc rs pc lv (.int v :: .int i :: .ref a :: st) S P I Q := by
  intro p e R s m args below meth c Z hC hR H locs cells slots ls h1 h2 h3 h4 hl
  obtain ⟨b1, b2, hat⟩ := h3.2.2.2 a (by rw [ht]; omega)
  have hc := hat.2 0 ht
  refine W.iast hC.1 hC.2.1 hc ((hC.2.2.2.2.2.2.1.2 0 (by decide)).1 _ _) (fun q => by cases q) (by rw [arrV_size]; exact hi.vp) rfl rfl hd fun H' e1 e2 e3 => ?_
  rw [hi.2.1] at e1 ⊢
  refine K p e R s m args below meth c Z hC hR H' _ cells slots ls h1 h2 (h3.set e2 e3 b1 (fun _ _ => rfl) (fun b hb => by funext k; simp [u2, hb]) ⟨fun ci r t2 hr => ?_, fun t t2 => ?_⟩) (fun q hq => ?_) hl
  · have hci : ci < 10 := (List.getElem?_eq_some_iff.mp hr).1
    rw [ht] at t2; omega
  · have : t = 0 := by rw [ht] at t2; omega
    subst this
    exact set_arr e1 (by simp [e_v, u2]) (fun k hk => by simp [e_v, u2, hk])
  · rcases List.mem_append.mp hq with h | h
    · exact h4 q h
    · cases List.mem_singleton.mp h
      exact b1
theorem B.bastore {a j : Nat} {i v : Int32} (hd : decode (mC M) pc = .ok (.bastore, 1)) (ht : sT S a = 41) (hi : ix i j (sL S a)) (hv : narrow .byte (.int v) = .int v) (K : B g M rc rs (pc + 1) lv st S P (u2 I a j v) Q) : B g M rc rs pc lv (.int v :: .int i :: .ref a :: st) S P I Q := by
  intro p e R s m args below meth c Z hC hR H locs cells slots ls h1 h2 h3 h4 hl
  obtain ⟨b1, b2, hat⟩ := h3.2.2.2 a (by rw [ht]; omega)
  have hc := hat.2 1 ht
  refine W.bast hC.1 hC.2.1 hc ((hC.2.2.2.2.2.2.1.2 1 (by decide)).1 _ _) (fun q => by cases q) (by rw [arrV_size]; exact hi.vp) rfl rfl hd fun H' e1 e2 e3 => ?_
  rw [hi.2.1, hv] at e1
  rw [hi.2.1]
  refine K p e R s m args below meth c Z hC hR H' _ cells slots ls h1 h2 (h3.set e2 e3 b1 (fun _ _ => rfl) (fun b hb => by funext k; simp [u2, hb]) ⟨fun ci r t2 hr => ?_, fun t t2 => ?_⟩) (fun q hq => ?_) hl
  · have hci : ci < 10 := (List.getElem?_eq_some_iff.mp hr).1
    rw [ht] at t2; omega
  · have : t = 1 := by rw [ht] at t2; omega
    subst this
    exact set_arr e1 (by simp [e_v, u2]) (fun k hk => by simp [e_v, u2, hk])
  · rcases List.mem_append.mp hq with h | h
    · exact h4 q h
    · cases List.mem_singleton.mp h
      exact b1
theorem B.zastore {a j : Nat} {i v : Int32} (hd : decode (mC M) pc = .ok (.bastore, 1)) (ht : sT S a = 42) (hi : ix i j (sL S a)) (hv : v = 0 ∨ v = 1) (K : B g M rc rs (pc + 1) lv st S P (u2 I a j v) Q) : B g M rc rs pc lv (.int v :: .int i :: .ref a :: st) S P I Q := by
  intro p e R s m args below meth c Z hC hR H locs cells slots ls h1 h2 h3 h4 hl
  obtain ⟨b1, b2, hat⟩ := h3.2.2.2 a (by rw [ht]; omega)
  have hc := hat.2 2 ht
  refine W.zast hC.1 hC.2.1 hc ((hC.2.2.2.2.2.2.1.2 2 (by decide)).1 _ _) (fun q => by cases q) (by rw [arrV_size]; exact hi.vp) rfl rfl hd fun H' e1 e2 e3 => ?_
  rw [hi.2.1, show narrow .boolean (.int v) = .int v by rcases hv with rfl | rfl <;> rfl] at e1
  rw [hi.2.1]
  refine K p e R s m args below meth c Z hC hR H' _ cells slots ls h1 h2 (h3.set e2 e3 b1 (fun _ _ => rfl) (fun b hb => by funext k; simp [u2, hb]) ⟨fun ci r t2 hr => ?_, fun t t2 => ?_⟩) (fun q hq => ?_) hl
  · have hci : ci < 10 := (List.getElem?_eq_some_iff.mp hr).1
    rw [ht] at t2; omega
  · have : t = 2 := by rw [ht] at t2; omega
    subst this
    exact set_arr e1 (by simp [e_v, u2]) (fun k hk => by simp [e_v, u2, hk])
  · rcases List.mem_append.mp hq with h | h
    · exact h4 q h
    · cases List.mem_singleton.mp h
      exact b1
theorem B.aastore {a j v : Nat} (t ci : Nat) (r : vw_C) {i : Int32} (htt : 3 ≤ t ∧ t < 6) (hr : vwCl[ci]? = some r) (hty : a_ty t = .object r.1) (hd : decode (mC M) pc = .ok (.aastore, 1)) (ht : sT S a = 40 + t) (hi : ix i j (sL S a)) (hv : sT S v = ci + 1) (K : B g M rc rs (pc + 1) lv st S (p2 P a j (v + 1)) I Q) : B g M rc rs pc lv (.ref v :: .int i :: .ref a :: st) S P I Q := by
  intro p e R s m args below meth c Z hC hR H locs cells slots ls h1 h2 h3 h4 hl
  obtain ⟨b1, b2, hat⟩ := h3.2.2.2 a (by rw [ht]; omega)
  obtain ⟨d1, d2, hatv⟩ := h3.2.2.2 v (by rw [hv]; omega)
  have hc := hat.2 t ht
  obtain ⟨cellV, g1, g2, g3, -⟩ := hatv.1 ci r hv hr
  have hcls := (hC.2.2.2.2.2.2.1.1.1 ci r hr).2
  have hra := (hC.2.2.2.2.2.2.1.2 t htt.2).2
  rw [hty] at hra
  obtain ⟨kA, comp, k1, k2, k3, -⟩ := hra
  have hcomp : comp = g.2.1.1 ci := Option.some.inj (k3.symm.trans hcls.1)
  subst hcomp
  obtain ⟨kC, hkC, -⟩ := hcls.2
  refine W.aast hC.1 hC.2.1 hc (fun q h => by cases h) (fun h => by cases h) k1 k2 rfl hkC ⟨hi.1, by rw [arrV_size, hi.2.1]; exact hi.2.2⟩ g1 (fun q h => by rw [g3] at h; cases h) (by rw [g2]; exact hkC) (by rw [g2]; exact va_assign hcls) rfl rfl hd fun H' e1 e2 e3 => ?_
  rw [hi.2.1] at e1 ⊢
  refine K p e R s m args below meth c Z hC hR H' _ cells slots ls h1 h2 (h3.set e2 e3 b1 (fun b hb => by funext k; simp [p2, hb]) (fun _ _ => rfl) ⟨fun ci r t2 hr => ?_, fun t' t2 => ?_⟩) (fun q hq => ?_) hl
  · have hci : ci < 10 := (List.getElem?_eq_some_iff.mp hr).1
    rw [ht] at t2; omega
  · have : t' = t := by rw [ht] at t2; omega
    subst this
    have h3' : ¬ t' < 3 := by omega
    exact set_arr e1 (by simp [e_v, p2, h3', rv]) (fun k hk => by simp [e_v, p2, hk])
  · rcases List.mem_append.mp hq with h | h
    · exact h4 q h
    · cases List.mem_singleton.mp h
      exact b1
theorem Rep.new {t n : Nat} {H H' : Heap} (h : Rep g S P I H) (hsz : H'.size = sN S + 1) (ho : ∀ q : Nat, q < sN S → H'[q]? = H[q]?) (hat : rp_at g (sA S t n) (zP P (sN S)) (zI I (sN S)) H' (sN S)) : Rep g (sA S t n) (zP P (sN S)) (zI I (sN S)) H' := by
  refine ⟨hsz, Nat.le_succ_of_le h.2.1, fun q hq => (ho q (Nat.lt_of_lt_of_le hq h.2.1)).trans (h.2.2.1 q hq), fun b hb => ?_⟩
  by_cases hbn : b = sN S
  · subst hbn
    exact ⟨h.2.1, Nat.lt_succ_self _, hat⟩
  · have e : sT (sA S t n) b = sT S b := by rw [sA_t, if_neg hbn]
    rw [e] at hb
    obtain ⟨b1, b2, b3⟩ := h.2.2.2 b hb
    refine ⟨b1, Nat.lt_succ_of_lt b2, fun ci r ht hr => ?_, fun j ht => ?_⟩
    · rw [e] at ht
      refine ((b3.1 ci r ht hr).kept (ho b b2)).to (fun k _ => ?_)
      simp [f_v, zP, zI, hbn]
    · rw [e] at ht
      rw [ho b b2, b3.2 j ht]
      have e2 : sL (sA S t n) b = sL S b := by rw [sA_l, if_neg hbn]
      rw [e2]
      congr 2
      funext k
      simp [e_v, zP, zI, hbn]
theorem B.newarr {t N : Nat} {n : Int32} (atype : ArrayType) (htt : t < 3) (hty : newarray.typeOf atype = a_ty t) (hdf : defaultValue (a_ty t) = .int 0) (hw : Cond.arrayClass (newarray.typeOf atype) ∈ gws) (hd : decode (mC M) pc = .ok (.newarray atype, 2)) (hn : ¬ n < 0) (hN : n.toNatClampNeg = N) (hbytes : N * componentBytes (newarray.typeOf atype) ≤ 536870912) (K : B g M rc rs (pc + 2) lv (.ref (sN S) :: st) (sA S (40 + t) N) (zP P (sN S)) (zI I (sN S)) Q) : B g M (rc + 1) (rs + N) pc lv (.int n :: st) S P I Q := by
  intro p e R s m args below meth c Z hC hR H locs cells slots ls h1 h2 h3 h4 hl
  refine va_newaK hC.1 hC.2.1 (hC.2.2.2.2.2.1 _ hw) rfl hd rfl hn hN hbytes (by omega) (by omega) (h := sN S) h3.1 fun H' cA e1 e2 e3 e4 e5 => ?_
  have hcA : cA = g.2.2.1 t := by
    have hra := (hC.2.2.2.2.2.2.1.2 t (by omega)).2
    rw [hty] at e5
    have : s.vm.findClass ("[" ++ (a_ty t).toString) = some (g.2.2.1 t) := by
      match t, htt with
      | 0, _ => exact hra
      | 1, _ => exact hra
      | 2, _ => exact hra
    exact Option.some.inj (e5.symm.trans this)
  refine K p e R s m args below meth c Z hC hR H' locs (cells + 1) (slots + N) ls (by omega) (by omega) (h3.new e2 e3 ⟨fun ci r t2 hr => ?_, fun j t2 => ?_⟩) h4 hl
  · have hci : ci < 10 := (List.getElem?_eq_some_iff.mp hr).1
    rw [sA_t, if_pos rfl] at t2; omega
  · have hj : j = t := by rw [sA_t, if_pos rfl] at t2; omega
    subst hj
    rw [e1, hcA, hty, hdf]
    have : sL (sA S (40 + j) N) (sN S) = N := by rw [sA_l, if_pos rfl]
    rw [this]
    congr 2
    funext k
    simp [e_v, htt, zI]
theorem B.newrefs {t N x : Nat} {n : Int32} (ci : Nat) (r : vw_C) (htt : 3 ≤ t ∧ t < 6) (hr0 : vwCl[ci]? = some r) (hty : a_ty t = .object r.1) (hw1 : Cond.classLink (mY M).cls x r.1 ∈ gws) (hw2 : Cond.arrayOver (.object r.1) ∈ gws) (hd : decode (mC M) pc = .ok (.anewarray x, 3)) (hn : ¬ n < 0) (hN : n.toNatClampNeg = N) (hbytes : N * 4 ≤ 536870912) (K : B g M rc rs (pc + 3) lv (.ref (sN S) :: st) (sA S (40 + t) N) (zP P (sN S)) (zI I (sN S)) Q) : B g M (rc + 1) (rs + N) pc lv (.int n :: st) S P I Q := by
  intro p e R s m args below meth c Z hC hR H locs cells slots ls h1 h2 h3 h4 hl
  subst hN
  refine W.anew hC.1 hC.2.1 hC.2.2.2.2.1 (hC.2.2.2.2.2.1 _ hw1) (hC.2.2.2.2.2.1 _ hw2) rfl hd rfl hn hbytes (by omega) (by omega) fun cA kA comp e1 e2 e3 e4 => ?_
  have hcA : cA = g.2.2.1 t := by
    have hra := (hC.2.2.2.2.2.2.1.2 t (by omega)).2
    rw [hty] at hra
    obtain ⟨_, _, _, _, _, k4⟩ := hra
    exact Option.some.inj (e1.symm.trans k4)
  have hs := h3.1
  have hst : ((.ref H.size : Value) :: st) = .ref (sN S) :: st := by rw [hs]
  show W p g.1 e R s m args below meth c _ _ _ _ _ (F0 m (pc + 3) ls (.ref H.size :: st))
  rw [hst]
  refine K p e R s m args below meth c Z hC hR _ locs (cells + 1) (slots + n.toNatClampNeg) ls (by omega) (by omega) (h3.new (by simp [hs]) (fun q hq => by rw [Array.getElem?_push, if_neg (by omega)]) ⟨fun ci r t2 hr => ?_, fun j t2 => ?_⟩) h4 hl
  · have hci : ci < 10 := (List.getElem?_eq_some_iff.mp hr).1
    rw [sA_t, if_pos rfl] at t2; omega
  · have hj : j = t := by rw [sA_t, if_pos rfl] at t2; omega
    subst hj
    rw [arrV_new, ← hs]
    have : sL (sA S (40 + j) n.toNatClampNeg) H.size = n.toNatClampNeg := by rw [hs, sA_l, if_pos rfl]
    rw [this, ← hcA]
    simp only [Array.getElem?_push_size]
    congr 2
    funext k
    have h3' : ¬ j < 3 := by omega
    simp [e_v, h3', zP, rv]
theorem B.newobj {x : Nat} (ci : Nat) (r : vw_C) (hr0 : vwCl[ci]? = some r) (hw1 : Cond.classLink (mY M).cls x r.1 ∈ gws) (hw2 : Cond.instantiable r.1 r.2.2 ∈ gws) (hw3 : Cond.initialized r.1 ∈ gws) (hd : decode (mC M) pc = .ok (.new x, 3)) (K : B g M rc rs (pc + 3) lv (.ref (sN S) :: st) (sA S (ci + 1) 0) (zP P (sN S)) (zI I (sN S)) Q) : B g M (rc + 1) (rs + r.2.2) pc lv st S P I Q := by
  intro p e R s m args below meth c Z hC hR H locs cells slots ls h1 h2 h3 h4 hl
  have hKn := hC.2.2.2.2.2.2.1.1.1 ci r hr0
  have hts := hC.2.2.2.2.2.1
  refine W.newcK hC.1 hC.2.1 hC.2.2.2.2.1 (hts _ hw1) (hts _ hw2) (hts _ hw3) rfl hd (by omega) (by omega) (cC := g.2.1.1 ci) hKn.2.1 (h := sN S) h3.1 fun H' kC e1 e2 e3 e4 => ?_
  obtain ⟨-, ty0, hty0, hdf⟩ := all_nm hr0
  refine K p e R s m args below meth c Z hC hR H' locs (cells + 1) (slots + r.2.2) ls (by omega) (by omega) (h3.new e3 e4 ⟨fun ci2 r2 t2 hr => ?_, fun j t2 => ?_⟩) h4 hl
  · have : ci2 = ci := by rw [sA_t, if_pos rfl] at t2; omega
    subst this
    cases hr0.symm.trans hr
    refine (u_born ty0 hts (all_in hr0) hKn e1 e2 hty0).to (fun k hk => ?_)
    rw [hdf k hk]
    simp [f_v, zP, zI, rv]
  · have hci : ci < 10 := (List.getElem?_eq_some_iff.mp hr0).1
    rw [sA_t, if_pos rfl] at t2; omega
end ARR
end
section
def MG (M : MT) (n : Nat) : Prop := Cond.code (mY M) (mC M) (mX M) (mR M) ∈ gws ∧ Cond.initialized (mY M).cls ∈ gws ∧ ((mY M).cls ≠ "java/lang/invoke/MethodHandle" ∧ (mY M).cls ≠ "java/lang/invoke/VarHandle") ∧ (parseMethodDescriptor (mY M).desc).map (fun d => d.parameters.length) = some n
def MV (M : MT) (n ci : Nat) : Prop := MG M n ∧ Cond.instanceMethod (mY M) ∈ gws ∧ Cond.selects (mY M).cls (mY M) (mY M) ∈ gws ∧ ∃ r : vw_C, vwCl[ci]? = some r ∧ r.1 = (mY M).cls
def MS (M : MT) (n : Nat) : Prop := MG M n ∧ Cond.static (mY M) ∈ gws
def MI (M : MT) (n : Nat) : Prop := MG M n ∧ Cond.instanceMethod (mY M) ∈ gws ∧ (mY M).name = "<init>" ∧ mR M = none
def RM (M M' : MT) : Prop := mF M' + 1 ≤ mF M ∧ 8 + (mX M' + 11) + mL M' ≤ mL M
section CALLS
variable {g : GT} {M : MT} {rc rs pc : Nat} {lv : List (Nat × Value)} {st : List Value} {S : ST} {P : PT} {I : IT} {Q : QT} {M' : MT} {mc ms : Nat}
theorem cg_b {p : Program} {R : Room} {s : State} {m : MethodId} {args : Array Value} {meth : Method} {c : Code} {n x : Nat} (hC : Cx g M p R s m args meth c) (hM : MG M' n) (hR : RM M M') (hl : Cond.methodLink (mY M).cls x (mY M') ∈ gws) : CallB R s args (mY M).cls x (mY M') (mC M') (mX M') (mR M') (wsM M') (rmM M' mc ms) mc ms n := by
  obtain ⟨hx, hb, hml, hlk, hown, hts, hKn, hF, hLo, hnm⟩ := hC
  have hG : GoodIn gws (wsM M') := fun w hw => by
    rcases List.mem_cons.mp hw with h | h
    · rw [h]; exact ⟨hM.1, gws_good hM.1⟩
    · exact ⟨h, gws_good h⟩
  have h1 := hR.1
  have h2 := hR.2
  exact callB_of n hts hG rfl rfl rfl (hts _ hM.2.1) (hts _ hl) ⟨hM.2.2.1.1, hM.2.2.1.2, hM.2.2.2⟩ ⟨by show mF M' + 1 ≤ _; omega, by show 8 + (mX M' + 11) + mL M' ≤ _; omega⟩
theorem cg_n {p : Program} {R : Room} {s : State} {m : MethodId} {args : Array Value} {meth : Method} {c : Code} {n x : Nat} {host : String} (hC : Cx g M p R s m args meth c) (hM : MG M' n) (hR : RM M M') (hl : Cond.methodLinkNest (mY M).cls x (mY M') host ∈ gws) : va_CN R s args (mY M).cls x (mY M') host (mC M') (mX M') (mR M') (wsM M') (rmM M' mc ms) mc ms n := by
  obtain ⟨hx, hb, hml, hlk, hown, hts, hKn, hF, hLo, hnm⟩ := hC
  have hG : GoodIn gws (wsM M') := fun w hw => by
    rcases List.mem_cons.mp hw with h | h
    · rw [h]; exact ⟨hM.1, gws_good hM.1⟩
    · exact ⟨h, gws_good h⟩
  have h1 := hR.1
  have h2 := hR.2
  exact va_cnB n hts hG rfl rfl rfl (hts _ hl) (hts _ hM.2.1) ⟨hM.2.2.1.1, hM.2.2.1.2, hM.2.2.2⟩ ⟨by show mF M' + 1 ≤ _; omega, by show 8 + (mX M' + 11) + mL M' ≤ _; omega⟩
theorem pre_blind {as : List Value} : FrameBlind (va_Pc as (fun U => Rep g S P I U.heap ∧ Kn g U)) := fun a U gg mk q => ⟨q.1, q.2.1, Kn.moved (u := U) (U := U.calling gg mk a) (Vm.Alike.refl U.vm) q.2.2⟩
theorem run_on {p : Program} {e : Env} {R : Room} {s : State} {m : MethodId} {args : Array Value} {below : List Frame} {meth : Method} {c : Code} {Z : State → Prop} {H : Heap} {locs : List Loc} {cells slots : Nat} {ls : Array Slot} {st0 : List Value}
    (hC : Cx g M p R s m args meth c) (hR : RO g M p e R s m args below meth c Q Z) (h1 : cells + (rc + mc) ≤ R.cells) (h2 : slots + (rs + ms) ≤ R.slots) (h4 : ∀ q ∈ locs, gB g ≤ q.base) (hl : lv_has ls (mX M) lv)
    (hr : va_Run p g.1 e R s m args below meth c H locs cells slots mc ms (F0 m pc ls st0) st (fun _ o t => ∃ (r : Option Value) (S' : ST) (P' : PT) (I' : IT), o = .returned r ∧ Rep g S' P' I' t.heap ∧ B g M rc rs (pc + 3) lv (r.toList ++ st) S' P' I' Q) (fun q => gB g ≤ q)) : W p g.1 e R s m args below meth c H locs cells slots Z (F0 m pc ls st0) := by
  intro T0 hT X
  obtain ⟨v, st₀, t, T', L, h0, X', hL, e1, e2, ⟨r, S', P', I', hv, hRep, hB⟩, go⟩ := hr T0 hT X
  cases hv
  obtain ⟨t2, a1, b1⟩ := hB p e R s m args below meth c Z hC hR T'.heap (locs ++ L) (cells + mc) (slots + ms) ls (by omega) (by omega) (by rw [e1]; exact hRep) (fun q hq => by
    rcases List.mem_append.mp hq with h | h
    · exact h4 q h
    · exact hL q h) hl T' rfl X'
  exact ⟨t2, go t2 a1, b1⟩
theorem B.callV {x n ci b : Nat} {st0 : List Value} (As : List Value) (hd : decode (mC M) pc = .ok (.invokevirtual x, 3)) (hM : MV M' n ci) (hlk : Cond.methodLink (mY M).cls x (mY M') ∈ gws) (hRM : RM M M') (hn : As.length = n) (hs : st0 = As.reverse ++ .ref b :: st) (hc8 : (st.map fun v => v.category).sum ≤ 8) (ht : sT S b = ci + 1)
    (K : T g M' mc ms (.ref b :: As) S P I (fun r S' P' I' => B g M rc rs (pc + 3) lv (r.toList ++ st) S' P' I' Q)) : B g M (rc + mc) (rs + ms) pc lv st0 S P I Q := by
  intro p e R s m args below meth c Z hC hR H locs cells slots ls h1 h2 h3 h4 hl
  obtain ⟨r, hr, hrc⟩ := hM.2.2.2
  obtain ⟨b1, b2, hat⟩ := h3.2.2.2 b (by rw [ht]; omega)
  obtain ⟨cell, q1, q2, q3, q4⟩ := hat.1 ci r ht hr
  have hts := hC.2.2.2.2.2.1
  have hfc := (hC.2.2.2.2.2.2.1.1.1 ci r hr).2.1
  subst hs
  exact run_on hC hR h1 h2 h4 hl (va_runV (C := (mY M').cls) (Ts := gws) (cc := mC M) (nL := mX M) ⟨hC.1, hC.2.1, hC.2.2.1, hC.2.2.2.2.1, hts⟩ K ⟨cg_b hC hM.1 hRM hlk, hts _ hM.2.1, hts _ hM.2.2.1⟩ ⟨pre_blind, ⟨cell, q1, by rw [q3]; rfl, by rw [q2, ← hrc]; exact hfc⟩, fun U hU hW => ⟨rfl, by rw [hU]; exact h3, Kn.moved hW.alike hC.2.2.2.2.2.2.1⟩⟩ rfl hn hl.1 rfl (lv_room hc8) hd ⟨by omega, by omega⟩)
theorem B.callS {x n : Nat} {st0 : List Value} (As : List Value) (hd : decode (mC M) pc = .ok (.invokestatic x, 3)) (hM : MS M' n) (hlk : Cond.methodLink (mY M).cls x (mY M') ∈ gws) (hRM : RM M M') (hn : As.length = n) (hs : st0 = As.reverse ++ st) (hc8 : (st.map fun v => v.category).sum ≤ 8)
    (K : T g M' mc ms As S P I (fun r S' P' I' => B g M rc rs (pc + 3) lv (r.toList ++ st) S' P' I' Q)) : B g M (rc + mc) (rs + ms) pc lv st0 S P I Q := by
  intro p e R s m args below meth c Z hC hR H locs cells slots ls h1 h2 h3 h4 hl
  have hts := hC.2.2.2.2.2.1
  subst hs
  exact run_on hC hR h1 h2 h4 hl (va_runS (Ts := gws) (cc := mC M) (nL := mX M) ⟨hC.1, hC.2.1, hC.2.2.1, hC.2.2.2.2.1, hts⟩ K ⟨cg_b hC hM.1 hRM hlk, hts _ hM.2⟩ ⟨pre_blind, fun U hU hW => ⟨rfl, by rw [hU]; exact h3, Kn.moved hW.alike hC.2.2.2.2.2.2.1⟩⟩ rfl hn hl.1 rfl (lv_room hc8) hd ⟨by omega, by omega⟩)
theorem B.callSN {x n : Nat} {st0 : List Value} (As : List Value) (host : String) (hd : decode (mC M) pc = .ok (.invokestatic x, 3)) (hM : MS M' n) (hlk : Cond.methodLinkNest (mY M).cls x (mY M') host ∈ gws) (hRM : RM M M') (hn : As.length = n) (hs : st0 = As.reverse ++ st) (hc8 : (st.map fun v => v.category).sum ≤ 8)
    (K : T g M' mc ms As S P I (fun r S' P' I' => B g M rc rs (pc + 3) lv (r.toList ++ st) S' P' I' Q)) : B g M (rc + mc) (rs + ms) pc lv st0 S P I Q := by
  intro p e R s m args below meth c Z hC hR H locs cells slots ls h1 h2 h3 h4 hl
  have hts := hC.2.2.2.2.2.1
  subst hs
  exact run_on hC hR h1 h2 h4 hl (va_runSN (Ts := gws) (cc := mC M) (nL := mX M) ⟨hC.1, hC.2.1, hC.2.2.1, hC.2.2.2.2.1, hts⟩ K ⟨cg_n hC hM.1 hRM hlk, hts _ hM.2, trivial⟩ ⟨pre_blind, fun U hU hW => ⟨rfl, by rw [hU]; exact h3, Kn.moved hW.alike hC.2.2.2.2.2.2.1⟩⟩ rfl hn hl.1 rfl (lv_room hc8) hd ⟨by omega, by omega⟩)
theorem B.callI {x n b : Nat} {st0 : List Value} (As : List Value) (hd : decode (mC M) pc = .ok (.invokespecial x, 3)) (hM : MI M' n) (hlk : Cond.methodLink (mY M).cls x (mY M') ∈ gws) (hRM : RM M M') (hn : As.length = n) (hs : st0 = As.reverse ++ .ref b :: st) (hc8 : (st.map fun v => v.category).sum ≤ 8)
    (K : T g M' mc ms (.ref b :: As) S P I (fun r S' P' I' => B g M rc rs (pc + 3) lv (r.toList ++ st) S' P' I' Q)) : B g M (rc + mc) (rs + ms) pc lv st0 S P I Q := by
  intro p e R s m args below meth c Z hC hR H locs cells slots ls h1 h2 h3 h4 hl
  have hts := hC.2.2.2.2.2.1
  subst hs
  have hcb := cg_b (mc := mc) (ms := ms) hC hM.1 hRM hlk
  rw [hM.2.2.2] at hcb
  exact run_on hC hR h1 h2 h4 hl (va_runI (Ts := gws) (cc := mC M) (nL := mX M) ⟨hC.1, hC.2.1, hC.2.2.1, hC.2.2.2.2.1, hts⟩ K ⟨hcb, hM.2.2.1, hts _ hM.2.1⟩ ⟨pre_blind, fun U hU hW => ⟨rfl, by rw [hU]; exact h3, Kn.moved hW.alike hC.2.2.2.2.2.2.1⟩⟩ rfl hn hl.1 rfl (lv_room hc8) hd ⟨by omega, by omega⟩)
theorem B.callIN {x n b : Nat} {st0 : List Value} (As : List Value) (host : String) (hd : decode (mC M) pc = .ok (.invokespecial x, 3)) (hM : MI M' n) (hlk : Cond.methodLinkNest (mY M).cls x (mY M') host ∈ gws) (hRM : RM M M') (hn : As.length = n) (hs : st0 = As.reverse ++ .ref b :: st) (hc8 : (st.map fun v => v.category).sum ≤ 8)
    (K : T g M' mc ms (.ref b :: As) S P I (fun r S' P' I' => B g M rc rs (pc + 3) lv (r.toList ++ st) S' P' I' Q)) : B g M (rc + mc) (rs + ms) pc lv st0 S P I Q := by
  intro p e R s m args below meth c Z hC hR H locs cells slots ls h1 h2 h3 h4 hl
  have hts := hC.2.2.2.2.2.1
  subst hs
  have hcb := cg_n (mc := mc) (ms := ms) hC hM.1 hRM hlk
  rw [hM.2.2.2] at hcb
  exact run_on hC hR h1 h2 h4 hl (va_runIN (Ts := gws) (cc := mC M) (nL := mX M) ⟨hC.1, hC.2.1, hC.2.2.1, hC.2.2.2.2.1, hts⟩ K ⟨hcb, hM.2.2.1, hts _ hM.2.1⟩ ⟨pre_blind, fun U hU hW => ⟨rfl, by rw [hU]; exact h3, Kn.moved hW.alike hC.2.2.2.2.2.2.1⟩⟩ rfl hn hl.1 rfl (lv_room hc8) hd ⟨by omega, by omega⟩)
theorem oi_1 : Cond.instanceMethod objectInit ∈ gws := by decide +kernel
theorem oi_2 : Cond.code objectInit ⟨#[0xb1]⟩ 1 none ∈ gws := by decide +kernel
theorem B.objInit {x a : Nat} (hd : decode (mC M) pc = .ok (.invokespecial x, 3)) (hlk : Cond.methodLink (mY M).cls x objectInit ∈ gws) (hF : 1 ≤ mF M) (hL : 20 ≤ mL M) (hc8 : (st.map fun v => v.category).sum ≤ 8) (K : B g M rc rs (pc + 3) lv st S P I Q) : B g M rc rs pc lv (.ref a :: st) S P I Q := by
  intro p e R s m args below meth c Z hC hR H locs cells slots ls h1 h2 h3 h4 hl
  have hts := hC.2.2.2.2.2.1
  have q1 := hC.2.2.2.2.2.2.2.1
  have q2 := hC.2.2.2.2.2.2.2.2.1
  have q3 := lv_room (m := m) (pc := pc) (ls := ls) (rest := .ref a :: st) hc8
  refine W.objInit hC.1 hC.2.1 hC.2.2.2.2.1 (hts _ hlk) (hts _ oi_1) (hts _ oi_2) rfl (by rw [hC.2.2.1]; exact hl.1) rfl hd (by omega) (by omega) ?_
  exact K p e R s m args below meth c Z hC hR H locs cells slots ls h1 h2 h3 h4 hl
def cpI (I : IT) (a b n : Nat) : IT := fun q k => if q = b ∧ k < n then I a k else I q k
theorem ac_1 : Cond.native arraycopyName ∈ gws := by decide +kernel
theorem ac_2 : Cond.static arraycopyName ∈ gws := by decide +kernel
theorem ac_3 : Cond.initialized "java/lang/System" ∈ gws := by decide +kernel
theorem B.copy {x a b t n : Nat} {nn : Int32} (htt : t < 3) (hfit : ∀ k, k < n → fits (a_ty t) (.int (I a k)) = true) (hrk : refKind (a_ty t) = false) (hd : decode (mC M) pc = .ok (.invokestatic x, 3)) (hlk : Cond.methodLink (mY M).cls x arraycopyName ∈ gws) (hF : 1 ≤ mF M) (hL : 8 + (nativeFrameWords "java/lang/System" "arraycopy" 5 + 11) ≤ mL M) (hc8 : (st.map fun v => v.category).sum ≤ 8) (hta : sT S a = 40 + t) (htb : sT S b = 40 + t) (hn : ¬ nn < 0) (hnn : nn.toNatClampNeg = n) (hla : n ≤ sL S a) (hlb : n ≤ sL S b)
    (K : B g M rc rs (pc + 3) lv st S P (cpI I a b n) Q) : B g M rc rs pc lv (.int nn :: .int 0 :: .ref b :: .int 0 :: .ref a :: st) S P I Q := by
  intro p e R s m args below meth c Z hC hR H locs cells slots ls h1 h2 h3 h4 hl
  have hts := hC.2.2.2.2.2.1
  obtain ⟨b1, b2, hata⟩ := h3.2.2.2 a (by rw [hta]; omega)
  obtain ⟨d1, d2, hatb⟩ := h3.2.2.2 b (by rw [htb]; omega)
  have ca := hata.2 t hta
  have cb := hatb.2 t htb
  have q1 := hC.2.2.2.2.2.2.2.1
  have q2 := hC.2.2.2.2.2.2.2.2.1
  have hz : ¬ (0 : Int32) < 0 := by decide
  have hz2 : (0 : Int32).toNatClampNeg = 0 := rfl
  have nnI : nn.toInt = (n : Int) := by
    have hz0 : (0 : Int) ≤ nn.toInt := by
      have := Int32.not_lt.mp hn
      simpa using Int32.le_iff_toInt_le.mp this
    rw [← hnn]
    show nn.toInt = ((nn.toInt.toNat : Nat) : Int)
    omega
  intro T0 hT X
  obtain ⟨-, k0, hk0, cm0, hkk0⟩ := (hC.2.2.2.2.2.2.1.2 t (by omega)).1 (sL S a) (e_v P I a t)
  obtain ⟨-, k1, hk1, cm1, hkk1⟩ := (hC.2.2.2.2.2.2.1.2 t (by omega)).1 (sL S b) (e_v P I b t)
  obtain ⟨vm', X', step⟩ := X.arraycopy hC.1 hC.2.2.2.2.1 (hts _ hlk) (hts _ ac_1) (hts _ ac_2) (hts _ ac_3) (src := a) (dst := b) (cs := arrV (g.2.2.1 t) (sL S a) (e_v P I a t)) (cd := arrV (g.2.2.1 t) (sL S b) (e_v P I b t)) (srcPos := 0) (destPos := 0) (n := nn) (by rw [hT]; exact ca) (by rw [hT]; exact cb)
    (fun _ h => by cases h) (fun _ h => by cases h) (fun h => by cases h) (fun h => by cases h) hk0 hk1 hkk0 hkk1 (by simp [hrk]) hz hz hn
    (by rw [arrV_size, nnI]; show ¬ ((0 : Int) + _ > _); omega)
    (by rw [arrV_size, nnI]; show ¬ ((0 : Int) + _ > _); omega)
    (fun vm₁ _ i hi => by
      rw [hnn] at hi
      have e : (arrV (g.2.2.1 t) (sL S a) (e_v P I a t)).slots.getD ((0 : Int32).toNatClampNeg + i) .null = .int (I a i) := by
        rw [Array.getD_eq_getD_getElem?, hz2, Nat.zero_add, arrV_read _ _ (by omega)]
        simp [e_v, htt]
      refine ⟨?_, ?_⟩
      · rw [e]
        exact hfit i hi
      · rw [e]
        exact trivial)
    (g := F0 m pc ls (.int nn :: .int 0 :: .ref b :: .int 0 :: .ref a :: st)) rfl (by rw [hC.2.2.1]; exact hl.1) (rest := st) rfl (by rw [hC.2.1]; exact hd) (by omega) (by show 2 * 0 + _ + _ ≤ _; omega)
  have ea : arrV (g.2.2.1 t) (sL S a) (e_v P I a t) = arrV (g.2.2.1 t) (sL S a) (fun j => .int (I a j)) := by congr 1; funext j; simp [e_v, htt]
  have eb : arrV (g.2.2.1 t) (sL S b) (e_v P I b t) = arrV (g.2.2.1 t) (sL S b) (fun j => .int (I b j)) := by congr 1; funext j; simp [e_v, htt]
  have e1 : copied (arrV (g.2.2.1 t) (sL S a) (e_v P I a t)) (arrV (g.2.2.1 t) (sL S b) (e_v P I b t)) 0 0 nn = arrV (g.2.2.1 t) (sL S b) (fun j => .int (va_cpy (I a) (I b) 0 0 n j)) := by
    rw [ea, eb, ← hnn]
    exact va_copied (fun z => .int z) _ _ (I a) (I b) (by omega)
  rw [e1] at X' step
  have hl2 : b < H.size := (Array.getElem?_eq_some_iff.mp cb).1
  have hheap : ((T0.setVm vm').setCell b (arrV (g.2.2.1 t) (sL S b) (fun j => .int (va_cpy (I a) (I b) 0 0 n j)))).heap = H.setIfInBounds b (arrV (g.2.2.1 t) (sL S b) (fun j => .int (va_cpy (I a) (I b) 0 0 n j))) := by rw [← hT]; rfl
  have oq : ∀ q : Nat, q ≠ b → (H.setIfInBounds b (arrV (g.2.2.1 t) (sL S b) (fun j => .int (va_cpy (I a) (I b) 0 0 n j))))[q]? = H[q]? := fun q hq => by simp [Array.getElem?_setIfInBounds, Ne.symm hq]
  have hnew : Rep g S P (cpI I a b n) (H.setIfInBounds b (arrV (g.2.2.1 t) (sL S b) (fun j => .int (va_cpy (I a) (I b) 0 0 n j)))) := by
    refine h3.set (by simp) oq d1 (fun _ _ => rfl) (fun b' hb' => by funext k; simp [cpI, hb']) ⟨fun ci r t2 hr => ?_, fun t' t2 => ?_⟩
    · have hci : ci < 10 := (List.getElem?_eq_some_iff.mp hr).1
      rw [htb] at t2; omega
    · have : t' = t := by rw [htb] at t2; omega
      subst this
      simp only [Array.getElem?_setIfInBounds_self]
      rw [if_pos hl2]
      congr 2
      funext k
      simp only [e_v, htt, if_true, va_cpy, cpI, Nat.zero_le, true_and, Nat.zero_add, Nat.sub_zero]
  obtain ⟨t2, a1, b1'⟩ := K p e R s m args below meth c Z hC hR _ _ cells slots ls h1 h2 hnew (fun q hq => by
      rcases List.mem_append.mp hq with h | h
      · exact h4 q h
      · obtain ⟨z, -, hz⟩ := List.mem_map.mp h
        rw [← hz]
        exact d1) hl _ hheap X'
  exact ⟨t2, step t2 a1, b1'⟩
end CALLS
end
