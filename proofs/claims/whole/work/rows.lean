section
-- ===== PART A: goes FIRST, ahead of the names: the tables' words, and 'selects' of the private methods out of them =====
/-- a private method of a class that the tables say can be made, by its rows of tables_1 -/
def lw_okq (q : MethodName × Nat) : Prop := (q.1.cls ≠ "java/lang/invoke/MethodHandle" ∧ q.1.cls ≠ "java/lang/invoke/VarHandle") ∧ Cond.instantiable q.1.cls q.2 ∈ tables_1 ∧ Cond.privateMethod q.1 ∈ tables_1 ∧ Cond.instanceMethod q.1 ∈ tables_1
theorem lw_p0 : lw_okq (⟨"KilnVillage$Tokens", "scanOne", "()I"⟩, 7) := ⟨⟨by decide +kernel, by decide +kernel⟩, List.mem_of_getElem? (i := 280) (by decide +kernel), List.mem_of_getElem? (i := 368) (by decide +kernel), List.mem_of_getElem? (i := 369) (by decide +kernel)⟩
theorem lw_p1 : lw_okq (⟨"KilnVillage$Tokens", "scanWord", "()I"⟩, 7) := ⟨⟨by decide +kernel, by decide +kernel⟩, List.mem_of_getElem? (i := 280) (by decide +kernel), List.mem_of_getElem? (i := 378) (by decide +kernel), List.mem_of_getElem? (i := 379) (by decide +kernel)⟩
theorem lw_p2 : lw_okq (⟨"KilnVillage$Tokens", "wordIs", "(Ljava/lang/String;)Z"⟩, 7) := ⟨⟨by decide +kernel, by decide +kernel⟩, List.mem_of_getElem? (i := 280) (by decide +kernel), List.mem_of_getElem? (i := 383) (by decide +kernel), List.mem_of_getElem? (i := 384) (by decide +kernel)⟩
theorem lw_p3 : lw_okq (⟨"KilnVillage$Tokens", "subjectOfWord", "()I"⟩, 7) := ⟨⟨by decide +kernel, by decide +kernel⟩, List.mem_of_getElem? (i := 280) (by decide +kernel), List.mem_of_getElem? (i := 439) (by decide +kernel), List.mem_of_getElem? (i := 440) (by decide +kernel)⟩
theorem lw_p4 : lw_okq (⟨"KilnVillage$Tokens", "scanNumber", "()I"⟩, 7) := ⟨⟨by decide +kernel, by decide +kernel⟩, List.mem_of_getElem? (i := 280) (by decide +kernel), List.mem_of_getElem? (i := 453) (by decide +kernel), List.mem_of_getElem? (i := 454) (by decide +kernel)⟩
theorem lw_p5 : lw_okq (⟨"KilnVillage$Tokens", "scanSign", "()I"⟩, 7) := ⟨⟨by decide +kernel, by decide +kernel⟩, List.mem_of_getElem? (i := 280) (by decide +kernel), List.mem_of_getElem? (i := 457) (by decide +kernel), List.mem_of_getElem? (i := 458) (by decide +kernel)⟩
theorem lw_p6 : lw_okq (⟨"KilnVillage$Reader", "isAt", "(I)Z"⟩, 5) := ⟨⟨by decide +kernel, by decide +kernel⟩, List.mem_of_getElem? (i := 272) (by decide +kernel), List.mem_of_getElem? (i := 461) (by decide +kernel), List.mem_of_getElem? (i := 462) (by decide +kernel)⟩
theorem lw_p7 : lw_okq (⟨"KilnVillage$Reader", "readLine", "(I)Z"⟩, 5) := ⟨⟨by decide +kernel, by decide +kernel⟩, List.mem_of_getElem? (i := 272) (by decide +kernel), List.mem_of_getElem? (i := 465) (by decide +kernel), List.mem_of_getElem? (i := 466) (by decide +kernel)⟩
theorem lw_p8 : lw_okq (⟨"KilnVillage$Reader", "note", "(I)V"⟩, 5) := ⟨⟨by decide +kernel, by decide +kernel⟩, List.mem_of_getElem? (i := 272) (by decide +kernel), List.mem_of_getElem? (i := 469) (by decide +kernel), List.mem_of_getElem? (i := 470) (by decide +kernel)⟩
theorem lw_p9 : lw_okq (⟨"KilnVillage$Reader", "readCondition", "(I)Z"⟩, 5) := ⟨⟨by decide +kernel, by decide +kernel⟩, List.mem_of_getElem? (i := 272) (by decide +kernel), List.mem_of_getElem? (i := 473) (by decide +kernel), List.mem_of_getElem? (i := 474) (by decide +kernel)⟩
theorem lw_p10 : lw_okq (⟨"KilnVillage$Reader", "take", "(I)Z"⟩, 5) := ⟨⟨by decide +kernel, by decide +kernel⟩, List.mem_of_getElem? (i := 272) (by decide +kernel), List.mem_of_getElem? (i := 477) (by decide +kernel), List.mem_of_getElem? (i := 478) (by decide +kernel)⟩
theorem lw_p11 : lw_okq (⟨"KilnVillage$Reader", "readTest", "(II)Z"⟩, 5) := ⟨⟨by decide +kernel, by decide +kernel⟩, List.mem_of_getElem? (i := 272) (by decide +kernel), List.mem_of_getElem? (i := 481) (by decide +kernel), List.mem_of_getElem? (i := 482) (by decide +kernel)⟩
theorem lw_p12 : lw_okq (⟨"KilnVillage$Reader", "keepTest", "(IIIZ)V"⟩, 5) := ⟨⟨by decide +kernel, by decide +kernel⟩, List.mem_of_getElem? (i := 272) (by decide +kernel), List.mem_of_getElem? (i := 485) (by decide +kernel), List.mem_of_getElem? (i := 486) (by decide +kernel)⟩
theorem lw_p13 : lw_okq (⟨"KilnVillage$Reader", "readDuty", "(I)Z"⟩, 5) := ⟨⟨by decide +kernel, by decide +kernel⟩, List.mem_of_getElem? (i := 272) (by decide +kernel), List.mem_of_getElem? (i := 489) (by decide +kernel), List.mem_of_getElem? (i := 490) (by decide +kernel)⟩
theorem lw_p14 : lw_okq (⟨"KilnVillage$Village", "nextPot", "()I"⟩, 13) := ⟨⟨by decide +kernel, by decide +kernel⟩, List.mem_of_getElem? (i := 26) (by decide +kernel), List.mem_of_getElem? (i := 583) (by decide +kernel), List.mem_of_getElem? (i := 584) (by decide +kernel)⟩
theorem lw_p15 : lw_okq (⟨"KilnVillage$Village", "goesBefore", "(II)Z"⟩, 13) := ⟨⟨by decide +kernel, by decide +kernel⟩, List.mem_of_getElem? (i := 26) (by decide +kernel), List.mem_of_getElem? (i := 587) (by decide +kernel), List.mem_of_getElem? (i := 588) (by decide +kernel)⟩
def lw_privs_1 : List (MethodName × Nat) := [(⟨"KilnVillage$Tokens", "scanOne", "()I"⟩, 7), (⟨"KilnVillage$Tokens", "scanWord", "()I"⟩, 7), (⟨"KilnVillage$Tokens", "wordIs", "(Ljava/lang/String;)Z"⟩, 7), (⟨"KilnVillage$Tokens", "subjectOfWord", "()I"⟩, 7), (⟨"KilnVillage$Tokens", "scanNumber", "()I"⟩, 7), (⟨"KilnVillage$Tokens", "scanSign", "()I"⟩, 7), (⟨"KilnVillage$Reader", "isAt", "(I)Z"⟩, 5), (⟨"KilnVillage$Reader", "readLine", "(I)Z"⟩, 5), (⟨"KilnVillage$Reader", "note", "(I)V"⟩, 5), (⟨"KilnVillage$Reader", "readCondition", "(I)Z"⟩, 5), (⟨"KilnVillage$Reader", "take", "(I)Z"⟩, 5), (⟨"KilnVillage$Reader", "readTest", "(II)Z"⟩, 5), (⟨"KilnVillage$Reader", "keepTest", "(IIIZ)V"⟩, 5), (⟨"KilnVillage$Reader", "readDuty", "(I)Z"⟩, 5), (⟨"KilnVillage$Village", "nextPot", "()I"⟩, 13), (⟨"KilnVillage$Village", "goesBefore", "(II)Z"⟩, 13)]
theorem lw_r1 : ∀ q ∈ lw_privs_1, lw_okq q := List.forall_mem_cons.mpr ⟨lw_p0, List.forall_mem_cons.mpr ⟨lw_p1, List.forall_mem_cons.mpr ⟨lw_p2, List.forall_mem_cons.mpr ⟨lw_p3, List.forall_mem_cons.mpr ⟨lw_p4, List.forall_mem_cons.mpr ⟨lw_p5, List.forall_mem_cons.mpr ⟨lw_p6, List.forall_mem_cons.mpr ⟨lw_p7, List.forall_mem_cons.mpr ⟨lw_p8, List.forall_mem_cons.mpr ⟨lw_p9, List.forall_mem_cons.mpr ⟨lw_p10, List.forall_mem_cons.mpr ⟨lw_p11, List.forall_mem_cons.mpr ⟨lw_p12, List.forall_mem_cons.mpr ⟨lw_p13, List.forall_mem_cons.mpr ⟨lw_p14, List.forall_mem_cons.mpr ⟨lw_p15, fun _ h => absurd h List.not_mem_nil⟩⟩⟩⟩⟩⟩⟩⟩⟩⟩⟩⟩⟩⟩⟩⟩
theorem lw_p16 : lw_okq (⟨"KilnVillage$Village", "giveBack", "(LKilnVillage$Pot;)Z"⟩, 13) := ⟨⟨by decide +kernel, by decide +kernel⟩, List.mem_of_getElem? (i := 26) (by decide +kernel), List.mem_of_getElem? (i := 647) (by decide +kernel), List.mem_of_getElem? (i := 648) (by decide +kernel)⟩
theorem lw_p17 : lw_okq (⟨"KilnVillage$Custom", "allHold", "(ILKilnVillage$Pot;)Z"⟩, 6) := ⟨⟨by decide +kernel, by decide +kernel⟩, List.mem_of_getElem? (i := 49) (by decide +kernel), List.mem_of_getElem? (i := 655) (by decide +kernel), List.mem_of_getElem? (i := 656) (by decide +kernel)⟩
theorem lw_p18 : lw_okq (⟨"KilnVillage$Custom", "holds", "(ILKilnVillage$Pot;)Z"⟩, 6) := ⟨⟨by decide +kernel, by decide +kernel⟩, List.mem_of_getElem? (i := 49) (by decide +kernel), List.mem_of_getElem? (i := 659) (by decide +kernel), List.mem_of_getElem? (i := 660) (by decide +kernel)⟩
theorem lw_p19 : lw_okq (⟨"KilnVillage$Village", "shareLoss", "(LKilnVillage$House;I)V"⟩, 13) := ⟨⟨by decide +kernel, by decide +kernel⟩, List.mem_of_getElem? (i := 26) (by decide +kernel), List.mem_of_getElem? (i := 667) (by decide +kernel), List.mem_of_getElem? (i := 668) (by decide +kernel)⟩
theorem lw_p20 : lw_okq (⟨"KilnVillage$Village", "isRipe", "(LKilnVillage$Pot;)Z"⟩, 13) := ⟨⟨by decide +kernel, by decide +kernel⟩, List.mem_of_getElem? (i := 26) (by decide +kernel), List.mem_of_getElem? (i := 671) (by decide +kernel), List.mem_of_getElem? (i := 672) (by decide +kernel)⟩
theorem lw_p21 : lw_okq (⟨"KilnVillageModel", "begins", "(I)V"⟩, 14) := ⟨⟨by decide +kernel, by decide +kernel⟩, List.mem_of_getElem? (i := 764) (by decide +kernel), List.mem_of_getElem? (i := 770) (by decide +kernel), List.mem_of_getElem? (i := 771) (by decide +kernel)⟩
theorem lw_p22 : lw_okq (⟨"KilnVillageModel", "advance", "()V"⟩, 14) := ⟨⟨by decide +kernel, by decide +kernel⟩, List.mem_of_getElem? (i := 764) (by decide +kernel), List.mem_of_getElem? (i := 830) (by decide +kernel), List.mem_of_getElem? (i := 831) (by decide +kernel)⟩
theorem lw_p23 : lw_okq (⟨"KilnVillageModel", "byteAt", "(I)I"⟩, 14) := ⟨⟨by decide +kernel, by decide +kernel⟩, List.mem_of_getElem? (i := 764) (by decide +kernel), List.mem_of_getElem? (i := 834) (by decide +kernel), List.mem_of_getElem? (i := 835) (by decide +kernel)⟩
theorem lw_p24 : lw_okq (⟨"KilnVillageModel", "aLine", "()V"⟩, 14) := ⟨⟨by decide +kernel, by decide +kernel⟩, List.mem_of_getElem? (i := 764) (by decide +kernel), List.mem_of_getElem? (i := 862) (by decide +kernel), List.mem_of_getElem? (i := 863) (by decide +kernel)⟩
theorem lw_p25 : lw_okq (⟨"KilnVillageModel", "tells", "(II)V"⟩, 14) := ⟨⟨by decide +kernel, by decide +kernel⟩, List.mem_of_getElem? (i := 764) (by decide +kernel), List.mem_of_getElem? (i := 866) (by decide +kernel), List.mem_of_getElem? (i := 867) (by decide +kernel)⟩
theorem lw_p26 : lw_okq (⟨"KilnVillageModel", "takes", "(I)Z"⟩, 14) := ⟨⟨by decide +kernel, by decide +kernel⟩, List.mem_of_getElem? (i := 764) (by decide +kernel), List.mem_of_getElem? (i := 870) (by decide +kernel), List.mem_of_getElem? (i := 871) (by decide +kernel)⟩
theorem lw_p27 : lw_okq (⟨"KilnVillageModel", "aTest", "()V"⟩, 14) := ⟨⟨by decide +kernel, by decide +kernel⟩, List.mem_of_getElem? (i := 764) (by decide +kernel), List.mem_of_getElem? (i := 874) (by decide +kernel), List.mem_of_getElem? (i := 875) (by decide +kernel)⟩
theorem lw_p28 : lw_okq (⟨"KilnVillageModel", "stops", "()V"⟩, 14) := ⟨⟨by decide +kernel, by decide +kernel⟩, List.mem_of_getElem? (i := 764) (by decide +kernel), List.mem_of_getElem? (i := 881) (by decide +kernel), List.mem_of_getElem? (i := 882) (by decide +kernel)⟩
theorem lw_p29 : lw_okq (⟨"KilnVillageModel", "numbered", "()I"⟩, 14) := ⟨⟨by decide +kernel, by decide +kernel⟩, List.mem_of_getElem? (i := 764) (by decide +kernel), List.mem_of_getElem? (i := 885) (by decide +kernel), List.mem_of_getElem? (i := 886) (by decide +kernel)⟩
theorem lw_p30 : lw_okq (⟨"KilnVillageModel", "puts", "(II)V"⟩, 14) := ⟨⟨by decide +kernel, by decide +kernel⟩, List.mem_of_getElem? (i := 764) (by decide +kernel), List.mem_of_getElem? (i := 889) (by decide +kernel), List.mem_of_getElem? (i := 890) (by decide +kernel)⟩
theorem lw_p31 : lw_okq (⟨"KilnVillageModel", "must", "(I)V"⟩, 14) := ⟨⟨by decide +kernel, by decide +kernel⟩, List.mem_of_getElem? (i := 764) (by decide +kernel), List.mem_of_getElem? (i := 893) (by decide +kernel), List.mem_of_getElem? (i := 894) (by decide +kernel)⟩
def lw_privs_2 : List (MethodName × Nat) := [(⟨"KilnVillage$Village", "giveBack", "(LKilnVillage$Pot;)Z"⟩, 13), (⟨"KilnVillage$Custom", "allHold", "(ILKilnVillage$Pot;)Z"⟩, 6), (⟨"KilnVillage$Custom", "holds", "(ILKilnVillage$Pot;)Z"⟩, 6), (⟨"KilnVillage$Village", "shareLoss", "(LKilnVillage$House;I)V"⟩, 13), (⟨"KilnVillage$Village", "isRipe", "(LKilnVillage$Pot;)Z"⟩, 13), (⟨"KilnVillageModel", "begins", "(I)V"⟩, 14), (⟨"KilnVillageModel", "advance", "()V"⟩, 14), (⟨"KilnVillageModel", "byteAt", "(I)I"⟩, 14), (⟨"KilnVillageModel", "aLine", "()V"⟩, 14), (⟨"KilnVillageModel", "tells", "(II)V"⟩, 14), (⟨"KilnVillageModel", "takes", "(I)Z"⟩, 14), (⟨"KilnVillageModel", "aTest", "()V"⟩, 14), (⟨"KilnVillageModel", "stops", "()V"⟩, 14), (⟨"KilnVillageModel", "numbered", "()I"⟩, 14), (⟨"KilnVillageModel", "puts", "(II)V"⟩, 14), (⟨"KilnVillageModel", "must", "(I)V"⟩, 14)]
theorem lw_r2 : ∀ q ∈ lw_privs_2, lw_okq q := List.forall_mem_cons.mpr ⟨lw_p16, List.forall_mem_cons.mpr ⟨lw_p17, List.forall_mem_cons.mpr ⟨lw_p18, List.forall_mem_cons.mpr ⟨lw_p19, List.forall_mem_cons.mpr ⟨lw_p20, List.forall_mem_cons.mpr ⟨lw_p21, List.forall_mem_cons.mpr ⟨lw_p22, List.forall_mem_cons.mpr ⟨lw_p23, List.forall_mem_cons.mpr ⟨lw_p24, List.forall_mem_cons.mpr ⟨lw_p25, List.forall_mem_cons.mpr ⟨lw_p26, List.forall_mem_cons.mpr ⟨lw_p27, List.forall_mem_cons.mpr ⟨lw_p28, List.forall_mem_cons.mpr ⟨lw_p29, List.forall_mem_cons.mpr ⟨lw_p30, List.forall_mem_cons.mpr ⟨lw_p31, fun _ h => absurd h List.not_mem_nil⟩⟩⟩⟩⟩⟩⟩⟩⟩⟩⟩⟩⟩⟩⟩⟩
theorem lw_p32 : lw_okq (⟨"KilnVillageModel", "standing", "()I"⟩, 14) := ⟨⟨by decide +kernel, by decide +kernel⟩, List.mem_of_getElem? (i := 764) (by decide +kernel), List.mem_of_getElem? (i := 917) (by decide +kernel), List.mem_of_getElem? (i := 918) (by decide +kernel)⟩
theorem lw_p33 : lw_okq (⟨"KilnVillageModel", "stands", "(I)Z"⟩, 14) := ⟨⟨by decide +kernel, by decide +kernel⟩, List.mem_of_getElem? (i := 764) (by decide +kernel), List.mem_of_getElem? (i := 921) (by decide +kernel), List.mem_of_getElem? (i := 922) (by decide +kernel)⟩
theorem lw_p34 : lw_okq (⟨"KilnVillageModel", "its", "(II)I"⟩, 14) := ⟨⟨by decide +kernel, by decide +kernel⟩, List.mem_of_getElem? (i := 764) (by decide +kernel), List.mem_of_getElem? (i := 925) (by decide +kernel), List.mem_of_getElem? (i := 926) (by decide +kernel)⟩
theorem lw_p35 : lw_okq (⟨"KilnVillageModel", "isPlace", "(II)Z"⟩, 14) := ⟨⟨by decide +kernel, by decide +kernel⟩, List.mem_of_getElem? (i := 764) (by decide +kernel), List.mem_of_getElem? (i := 933) (by decide +kernel), List.mem_of_getElem? (i := 934) (by decide +kernel)⟩
theorem lw_p36 : lw_okq (⟨"KilnVillageModel", "isHouse", "(I)Z"⟩, 14) := ⟨⟨by decide +kernel, by decide +kernel⟩, List.mem_of_getElem? (i := 764) (by decide +kernel), List.mem_of_getElem? (i := 941) (by decide +kernel), List.mem_of_getElem? (i := 942) (by decide +kernel)⟩
theorem lw_p37 : lw_okq (⟨"KilnVillageModel", "sets", "(III)V"⟩, 14) := ⟨⟨by decide +kernel, by decide +kernel⟩, List.mem_of_getElem? (i := 764) (by decide +kernel), List.mem_of_getElem? (i := 945) (by decide +kernel), List.mem_of_getElem? (i := 946) (by decide +kernel)⟩
theorem lw_p38 : lw_okq (⟨"KilnVillageModel", "greatestHeat", "()I"⟩, 14) := ⟨⟨by decide +kernel, by decide +kernel⟩, List.mem_of_getElem? (i := 764) (by decide +kernel), List.mem_of_getElem? (i := 957) (by decide +kernel), List.mem_of_getElem? (i := 958) (by decide +kernel)⟩
theorem lw_p39 : lw_okq (⟨"KilnVillageModel", "nextHouse", "()I"⟩, 14) := ⟨⟨by decide +kernel, by decide +kernel⟩, List.mem_of_getElem? (i := 764) (by decide +kernel), List.mem_of_getElem? (i := 961) (by decide +kernel), List.mem_of_getElem? (i := 962) (by decide +kernel)⟩
theorem lw_p40 : lw_okq (⟨"KilnVillageModel", "waiting", "(I)I"⟩, 14) := ⟨⟨by decide +kernel, by decide +kernel⟩, List.mem_of_getElem? (i := 764) (by decide +kernel), List.mem_of_getElem? (i := 965) (by decide +kernel), List.mem_of_getElem? (i := 966) (by decide +kernel)⟩
theorem lw_p41 : lw_okq (⟨"KilnVillageModel", "of", "(II)I"⟩, 14) := ⟨⟨by decide +kernel, by decide +kernel⟩, List.mem_of_getElem? (i := 764) (by decide +kernel), List.mem_of_getElem? (i := 969) (by decide +kernel), List.mem_of_getElem? (i := 970) (by decide +kernel)⟩
theorem lw_p42 : lw_okq (⟨"KilnVillageModel", "bestPlace", "()I"⟩, 14) := ⟨⟨by decide +kernel, by decide +kernel⟩, List.mem_of_getElem? (i := 764) (by decide +kernel), List.mem_of_getElem? (i := 973) (by decide +kernel), List.mem_of_getElem? (i := 974) (by decide +kernel)⟩
theorem lw_p43 : lw_okq (⟨"KilnVillageModel", "at0", "(I)I"⟩, 14) := ⟨⟨by decide +kernel, by decide +kernel⟩, List.mem_of_getElem? (i := 764) (by decide +kernel), List.mem_of_getElem? (i := 977) (by decide +kernel), List.mem_of_getElem? (i := 978) (by decide +kernel)⟩
theorem lw_p44 : lw_okq (⟨"KilnVillageModel", "adds", "(III)V"⟩, 14) := ⟨⟨by decide +kernel, by decide +kernel⟩, List.mem_of_getElem? (i := 764) (by decide +kernel), List.mem_of_getElem? (i := 981) (by decide +kernel), List.mem_of_getElem? (i := 982) (by decide +kernel)⟩
theorem lw_p45 : lw_okq (⟨"KilnVillageModel", "hour", "(II)V"⟩, 14) := ⟨⟨by decide +kernel, by decide +kernel⟩, List.mem_of_getElem? (i := 764) (by decide +kernel), List.mem_of_getElem? (i := 993) (by decide +kernel), List.mem_of_getElem? (i := 994) (by decide +kernel)⟩
theorem lw_p46 : lw_okq (⟨"KilnVillageModel", "bakes", "(II)V"⟩, 14) := ⟨⟨by decide +kernel, by decide +kernel⟩, List.mem_of_getElem? (i := 764) (by decide +kernel), List.mem_of_getElem? (i := 997) (by decide +kernel), List.mem_of_getElem? (i := 998) (by decide +kernel)⟩
theorem lw_p47 : lw_okq (⟨"KilnVillageModel", "gives", "(I)Z"⟩, 14) := ⟨⟨by decide +kernel, by decide +kernel⟩, List.mem_of_getElem? (i := 764) (by decide +kernel), List.mem_of_getElem? (i := 1013) (by decide +kernel), List.mem_of_getElem? (i := 1014) (by decide +kernel)⟩
def lw_privs_3 : List (MethodName × Nat) := [(⟨"KilnVillageModel", "standing", "()I"⟩, 14), (⟨"KilnVillageModel", "stands", "(I)Z"⟩, 14), (⟨"KilnVillageModel", "its", "(II)I"⟩, 14), (⟨"KilnVillageModel", "isPlace", "(II)Z"⟩, 14), (⟨"KilnVillageModel", "isHouse", "(I)Z"⟩, 14), (⟨"KilnVillageModel", "sets", "(III)V"⟩, 14), (⟨"KilnVillageModel", "greatestHeat", "()I"⟩, 14), (⟨"KilnVillageModel", "nextHouse", "()I"⟩, 14), (⟨"KilnVillageModel", "waiting", "(I)I"⟩, 14), (⟨"KilnVillageModel", "of", "(II)I"⟩, 14), (⟨"KilnVillageModel", "bestPlace", "()I"⟩, 14), (⟨"KilnVillageModel", "at0", "(I)I"⟩, 14), (⟨"KilnVillageModel", "adds", "(III)V"⟩, 14), (⟨"KilnVillageModel", "hour", "(II)V"⟩, 14), (⟨"KilnVillageModel", "bakes", "(II)V"⟩, 14), (⟨"KilnVillageModel", "gives", "(I)Z"⟩, 14)]
theorem lw_r3 : ∀ q ∈ lw_privs_3, lw_okq q := List.forall_mem_cons.mpr ⟨lw_p32, List.forall_mem_cons.mpr ⟨lw_p33, List.forall_mem_cons.mpr ⟨lw_p34, List.forall_mem_cons.mpr ⟨lw_p35, List.forall_mem_cons.mpr ⟨lw_p36, List.forall_mem_cons.mpr ⟨lw_p37, List.forall_mem_cons.mpr ⟨lw_p38, List.forall_mem_cons.mpr ⟨lw_p39, List.forall_mem_cons.mpr ⟨lw_p40, List.forall_mem_cons.mpr ⟨lw_p41, List.forall_mem_cons.mpr ⟨lw_p42, List.forall_mem_cons.mpr ⟨lw_p43, List.forall_mem_cons.mpr ⟨lw_p44, List.forall_mem_cons.mpr ⟨lw_p45, List.forall_mem_cons.mpr ⟨lw_p46, List.forall_mem_cons.mpr ⟨lw_p47, fun _ h => absurd h List.not_mem_nil⟩⟩⟩⟩⟩⟩⟩⟩⟩⟩⟩⟩⟩⟩⟩⟩
theorem lw_p48 : lw_okq (⟨"KilnVillageModel", "isRipe", "(I)Z"⟩, 14) := ⟨⟨by decide +kernel, by decide +kernel⟩, List.mem_of_getElem? (i := 764) (by decide +kernel), List.mem_of_getElem? (i := 1017) (by decide +kernel), List.mem_of_getElem? (i := 1018) (by decide +kernel)⟩
theorem lw_p49 : lw_okq (⟨"KilnVillageModel", "customOf", "(I)I"⟩, 14) := ⟨⟨by decide +kernel, by decide +kernel⟩, List.mem_of_getElem? (i := 764) (by decide +kernel), List.mem_of_getElem? (i := 1021) (by decide +kernel), List.mem_of_getElem? (i := 1022) (by decide +kernel)⟩
theorem lw_p50 : lw_okq (⟨"KilnVillageModel", "holds", "(II)Z"⟩, 14) := ⟨⟨by decide +kernel, by decide +kernel⟩, List.mem_of_getElem? (i := 764) (by decide +kernel), List.mem_of_getElem? (i := 1025) (by decide +kernel), List.mem_of_getElem? (i := 1026) (by decide +kernel)⟩
theorem lw_p51 : lw_okq (⟨"KilnVillageModel", "asked", "(II)I"⟩, 14) := ⟨⟨by decide +kernel, by decide +kernel⟩, List.mem_of_getElem? (i := 764) (by decide +kernel), List.mem_of_getElem? (i := 1029) (by decide +kernel), List.mem_of_getElem? (i := 1030) (by decide +kernel)⟩
theorem lw_p52 : lw_okq (⟨"KilnVillageModel", "can", "(II)Z"⟩, 14) := ⟨⟨by decide +kernel, by decide +kernel⟩, List.mem_of_getElem? (i := 764) (by decide +kernel), List.mem_of_getElem? (i := 1049) (by decide +kernel), List.mem_of_getElem? (i := 1050) (by decide +kernel)⟩
theorem lw_p53 : lw_okq (⟨"KilnVillageModel", "best", "(I)I"⟩, 14) := ⟨⟨by decide +kernel, by decide +kernel⟩, List.mem_of_getElem? (i := 764) (by decide +kernel), List.mem_of_getElem? (i := 1062) (by decide +kernel), List.mem_of_getElem? (i := 1063) (by decide +kernel)⟩
theorem lw_p54 : lw_okq (⟨"KilnVillageModel", "worthOf", "(II)I"⟩, 14) := ⟨⟨by decide +kernel, by decide +kernel⟩, List.mem_of_getElem? (i := 764) (by decide +kernel), List.mem_of_getElem? (i := 1066) (by decide +kernel), List.mem_of_getElem? (i := 1067) (by decide +kernel)⟩
def lw_privs_4 : List (MethodName × Nat) := [(⟨"KilnVillageModel", "isRipe", "(I)Z"⟩, 14), (⟨"KilnVillageModel", "customOf", "(I)I"⟩, 14), (⟨"KilnVillageModel", "holds", "(II)Z"⟩, 14), (⟨"KilnVillageModel", "asked", "(II)I"⟩, 14), (⟨"KilnVillageModel", "can", "(II)Z"⟩, 14), (⟨"KilnVillageModel", "best", "(I)I"⟩, 14), (⟨"KilnVillageModel", "worthOf", "(II)I"⟩, 14)]
theorem lw_r4 : ∀ q ∈ lw_privs_4, lw_okq q := List.forall_mem_cons.mpr ⟨lw_p48, List.forall_mem_cons.mpr ⟨lw_p49, List.forall_mem_cons.mpr ⟨lw_p50, List.forall_mem_cons.mpr ⟨lw_p51, List.forall_mem_cons.mpr ⟨lw_p52, List.forall_mem_cons.mpr ⟨lw_p53, List.forall_mem_cons.mpr ⟨lw_p54, fun _ h => absurd h List.not_mem_nil⟩⟩⟩⟩⟩⟩⟩
def lw_privs : List (MethodName × Nat) := lw_privs_1 ++ (lw_privs_2 ++ (lw_privs_3 ++ (lw_privs_4)))
def lw_tbl : List Cond := k2_sels lw_privs ++ tables_1
theorem lw_privs_ok : ∀ q ∈ lw_privs, lw_okq q := by
  show ∀ q ∈ lw_privs_1 ++ (lw_privs_2 ++ (lw_privs_3 ++ (lw_privs_4))), lw_okq q
  exact List.forall_mem_append.mpr ⟨lw_r1, List.forall_mem_append.mpr ⟨lw_r2, List.forall_mem_append.mpr ⟨lw_r3, lw_r4⟩⟩⟩
-- ===== end of PART A; then your names; then what follows =====
end
section
/-! ===== BEGIN printed: names, fields, word lists, decode rows ===== -/
def RX0 : String := "KilnVillage$Custom"
def TX0 : u_T := fun k => match k with
  | 0 => ("KilnVillage$Custom", "lines", "I", false)
  | 1 => ("KilnVillage$Custom", "parts", "[I", true)
  | 2 => ("KilnVillage$Custom", "tests", "[I", true)
  | 3 => ("KilnVillage$Custom", "subjects", "[I", true)
  | 4 => ("KilnVillage$Custom", "relations", "[I", true)
  | _ => ("KilnVillage$Custom", "numbers", "[I", true)
def tyX0 : Nat → FieldType := fun k => match k with
  | 0 => .int
  | 1 => .array .int
  | 2 => .array .int
  | 3 => .array .int
  | 4 => .array .int
  | _ => .array .int
abbrev wsX00 : List Cond := u_ws RX0 TX0 6
theorem nmX0 : ∀ a, a < 6 → ∀ b, b < 6 → a ≠ b → (TX0 a).2.1 ≠ (TX0 b).2.1 := by decide +kernel
theorem tyX0_ok : ∀ k, k < 6 → parseFieldDescriptor (TX0 k).2.2.1 = some (tyX0 k) := by decide +kernel
abbrev cX0_init : ByteArray := prog_2_method_1_code
def yX0_init : MethodName := ⟨RX0, "<init>", "()V"⟩
abbrev cX0_copyFrom : ByteArray := prog_2_method_2_code
def yX0_copyFrom : MethodName := ⟨RX0, "copyFrom", "(LKilnVillage$Custom;)V"⟩
abbrev cX0_partFor : ByteArray := prog_2_method_3_code
def yX0_partFor : MethodName := ⟨RX0, "partFor", "(LKilnVillage$Pot;)I"⟩
abbrev cX0_allHold : ByteArray := prog_2_method_4_code
def yX0_allHold : MethodName := ⟨RX0, "allHold", "(ILKilnVillage$Pot;)Z"⟩
abbrev cX0_holds : ByteArray := prog_2_method_5_code
def yX0_holds : MethodName := ⟨RX0, "holds", "(ILKilnVillage$Pot;)Z"⟩
def RX1 : String := "KilnVillage$House"
def TX1 : u_T := fun k => match k with
  | 0 => ("KilnVillage$House", "silver", "I", false)
  | 1 => ("KilnVillage$House", "had", "I", false)
  | 2 => ("KilnVillage$House", "everHadPot", "Z", false)
  | 3 => ("KilnVillage$House", "crackedBack", "I", false)
  | 4 => ("KilnVillage$House", "orders", "I", false)
  | 5 => ("KilnVillage$House", "days", "[I", true)
  | 6 => ("KilnVillage$House", "dues", "[I", true)
  | 7 => ("KilnVillage$House", "worths", "[I", true)
  | _ => ("KilnVillage$House", "byDue", "[I", true)
def tyX1 : Nat → FieldType := fun k => match k with
  | 0 => .int
  | 1 => .int
  | 2 => .boolean
  | 3 => .int
  | 4 => .int
  | 5 => .array .int
  | 6 => .array .int
  | 7 => .array .int
  | _ => .array .int
abbrev wsX10 : List Cond := u_ws RX1 TX1 9
theorem nmX1 : ∀ a, a < 9 → ∀ b, b < 9 → a ≠ b → (TX1 a).2.1 ≠ (TX1 b).2.1 := by decide +kernel
theorem tyX1_ok : ∀ k, k < 9 → parseFieldDescriptor (TX1 k).2.2.1 = some (tyX1 k) := by decide +kernel
abbrev cX1_init : ByteArray := prog_3_method_1_code
def yX1_init : MethodName := ⟨RX1, "<init>", "()V"⟩
abbrev cX1_copyFrom : ByteArray := prog_3_method_2_code
def yX1_copyFrom : MethodName := ⟨RX1, "copyFrom", "(LKilnVillage$House;)V"⟩
abbrev cX1_takeOrder : ByteArray := prog_3_method_3_code
def yX1_takeOrder : MethodName := ⟨RX1, "takeOrder", "(III)V"⟩
abbrev cX1_hasOrders : ByteArray := prog_3_method_4_code
def yX1_hasOrders : MethodName := ⟨RX1, "hasOrders", "(I)Z"⟩
abbrev cX1_canDo : ByteArray := prog_3_method_5_code
def yX1_canDo : MethodName := ⟨RX1, "canDo", "(I)Z"⟩
abbrev cX1_worthOf : ByteArray := prog_3_method_6_code
def yX1_worthOf : MethodName := ⟨RX1, "worthOf", "(I)I"⟩
abbrev cX1_bestOrders : ByteArray := prog_3_method_7_code
def yX1_bestOrders : MethodName := ⟨RX1, "bestOrders", "()I"⟩
def RX2 : String := "KilnVillage$Kiln"
def TX2 : u_T := fun k => match k with
  | 0 => ("KilnVillage$Kiln", "chambers", "I", false)
  | 1 => ("KilnVillage$Kiln", "hours", "I", false)
  | 2 => ("KilnVillage$Kiln", "logs", "I", false)
  | 3 => ("KilnVillage$Kiln", "heats", "[I", true)
  | 4 => ("KilnVillage$Kiln", "heatsBefore", "[I", true)
  | 5 => ("KilnVillage$Kiln", "values", "[I", true)
  | _ => ("KilnVillage$Kiln", "holders", "[I", true)
def tyX2 : Nat → FieldType := fun k => match k with
  | 0 => .int
  | 1 => .int
  | 2 => .int
  | 3 => .array .int
  | 4 => .array .int
  | 5 => .array .int
  | _ => .array .int
abbrev wsX20 : List Cond := u_ws RX2 TX2 7
theorem nmX2 : ∀ a, a < 7 → ∀ b, b < 7 → a ≠ b → (TX2 a).2.1 ≠ (TX2 b).2.1 := by decide +kernel
theorem tyX2_ok : ∀ k, k < 7 → parseFieldDescriptor (TX2 k).2.2.1 = some (tyX2 k) := by decide +kernel
abbrev cX2_init : ByteArray := prog_4_method_1_code
def yX2_init : MethodName := ⟨RX2, "<init>", "()V"⟩
abbrev cX2_build : ByteArray := prog_4_method_2_code
def yX2_build : MethodName := ⟨RX2, "build", "(I)V"⟩
abbrev cX2_clear : ByteArray := prog_4_method_3_code
def yX2_clear : MethodName := ⟨RX2, "clear", "()V"⟩
abbrev cX2_copyFrom : ByteArray := prog_4_method_4_code
def yX2_copyFrom : MethodName := ⟨RX2, "copyFrom", "(LKilnVillage$Kiln;)V"⟩
abbrev cX2_hasChamber : ByteArray := prog_4_method_5_code
def yX2_hasChamber : MethodName := ⟨RX2, "hasChamber", "(I)Z"⟩
abbrev cX2_hasPlace : ByteArray := prog_4_method_6_code
def yX2_hasPlace : MethodName := ⟨RX2, "hasPlace", "(II)Z"⟩
abbrev cX2_burn : ByteArray := prog_4_method_7_code
def yX2_burn : MethodName := ⟨RX2, "burn", "(II)V"⟩
abbrev cX2_changeOf : ByteArray := prog_4_method_8_code
def yX2_changeOf : MethodName := ⟨RX2, "changeOf", "(I)I"⟩
abbrev cX2_greatestHeat : ByteArray := prog_4_method_9_code
def yX2_greatestHeat : MethodName := ⟨RX2, "greatestHeat", "()I"⟩
abbrev cX2_heatsTogether : ByteArray := prog_4_method_10_code
def yX2_heatsTogether : MethodName := ⟨RX2, "heatsTogether", "()I"⟩
abbrev cX2_bestFreePlace : ByteArray := prog_4_method_11_code
def yX2_bestFreePlace : MethodName := ⟨RX2, "bestFreePlace", "()I"⟩
def RX3 : String := "KilnVillage$Pot"
def TX3 : u_T := fun k => match k with
  | 0 => ("KilnVillage$Pot", "house", "I", false)
  | 1 => ("KilnVillage$Pot", "shape", "I", false)
  | 2 => ("KilnVillage$Pot", "glaze", "I", false)
  | 3 => ("KilnVillage$Pot", "wet", "I", false)
  | 4 => ("KilnVillage$Pot", "chamber", "I", false)
  | 5 => ("KilnVillage$Pot", "spot", "I", false)
  | 6 => ("KilnVillage$Pot", "cracked", "Z", false)
  | _ => ("KilnVillage$Pot", "ripe", "I", false)
def tyX3 : Nat → FieldType := fun k => match k with
  | 0 => .int
  | 1 => .int
  | 2 => .int
  | 3 => .int
  | 4 => .int
  | 5 => .int
  | 6 => .boolean
  | _ => .int
abbrev wsX30 : List Cond := u_ws RX3 TX3 8
theorem nmX3 : ∀ a, a < 8 → ∀ b, b < 8 → a ≠ b → (TX3 a).2.1 ≠ (TX3 b).2.1 := by decide +kernel
theorem tyX3_ok : ∀ k, k < 8 → parseFieldDescriptor (TX3 k).2.2.1 = some (tyX3 k) := by decide +kernel
abbrev cX3_init : ByteArray := prog_5_method_1_code
def yX3_init : MethodName := ⟨RX3, "<init>", "()V"⟩
abbrev cX3_turn : ByteArray := prog_5_method_2_code
def yX3_turn : MethodName := ⟨RX3, "turn", "(IIII)V"⟩
abbrev cX3_copyFrom : ByteArray := prog_5_method_3_code
def yX3_copyFrom : MethodName := ⟨RX3, "copyFrom", "(LKilnVillage$Pot;)V"⟩
abbrev cX3_stands : ByteArray := prog_5_method_4_code
def yX3_stands : MethodName := ⟨RX3, "stands", "()Z"⟩
abbrev cX3_bear : ByteArray := prog_5_method_5_code
def yX3_bear : MethodName := ⟨RX3, "bear", "(III)V"⟩
abbrev cX3_subject : ByteArray := prog_5_method_6_code
def yX3_subject : MethodName := ⟨RX3, "subject", "(I)I"⟩
def RX4 : String := "KilnVillage$Reader"
def TX4 : u_T := fun k => match k with
  | 0 => ("KilnVillage$Reader", "draft", "LKilnVillage$Custom;", true)
  | 1 => ("KilnVillage$Reader", "fault", "I", false)
  | 2 => ("KilnVillage$Reader", "faultPlace", "I", false)
  | 3 => ("KilnVillage$Reader", "tokens", "LKilnVillage$Tokens;", true)
  | _ => ("KilnVillage$Reader", "at", "I", false)
def tyX4 : Nat → FieldType := fun k => match k with
  | 0 => .object "KilnVillage$Custom"
  | 1 => .int
  | 2 => .int
  | 3 => .object "KilnVillage$Tokens"
  | _ => .int
abbrev wsX40 : List Cond := u_ws RX4 TX4 5
theorem nmX4 : ∀ a, a < 5 → ∀ b, b < 5 → a ≠ b → (TX4 a).2.1 ≠ (TX4 b).2.1 := by decide +kernel
theorem tyX4_ok : ∀ k, k < 5 → parseFieldDescriptor (TX4 k).2.2.1 = some (tyX4 k) := by decide +kernel
abbrev cX4_init : ByteArray := prog_6_method_1_code
def yX4_init : MethodName := ⟨RX4, "<init>", "(LKilnVillage$Tape;)V"⟩
abbrev cX4_read : ByteArray := prog_6_method_2_code
def yX4_read : MethodName := ⟨RX4, "read", "()V"⟩
abbrev cX4_readLine : ByteArray := prog_6_method_3_code
def yX4_readLine : MethodName := ⟨RX4, "readLine", "(I)Z"⟩
abbrev cX4_readCondition : ByteArray := prog_6_method_4_code
def yX4_readCondition : MethodName := ⟨RX4, "readCondition", "(I)Z"⟩
abbrev cX4_readTest : ByteArray := prog_6_method_5_code
def yX4_readTest : MethodName := ⟨RX4, "readTest", "(II)Z"⟩
abbrev cX4_keepTest : ByteArray := prog_6_method_6_code
def yX4_keepTest : MethodName := ⟨RX4, "keepTest", "(IIIZ)V"⟩
abbrev cX4_readDuty : ByteArray := prog_6_method_7_code
def yX4_readDuty : MethodName := ⟨RX4, "readDuty", "(I)Z"⟩
abbrev cX4_note : ByteArray := prog_6_method_8_code
def yX4_note : MethodName := ⟨RX4, "note", "(I)V"⟩
abbrev cX4_isAt : ByteArray := prog_6_method_9_code
def yX4_isAt : MethodName := ⟨RX4, "isAt", "(I)Z"⟩
abbrev cX4_take : ByteArray := prog_6_method_10_code
def yX4_take : MethodName := ⟨RX4, "take", "(I)Z"⟩
def RX5 : String := "KilnVillage$Tape"
def TX5 : u_T := fun k => match k with
  | 0 => ("KilnVillage$Tape", "bytes", "[B", true)
  | _ => ("KilnVillage$Tape", "length", "I", false)
def tyX5 : Nat → FieldType := fun k => match k with
  | 0 => .array .byte
  | _ => .int
abbrev wsX50 : List Cond := u_ws RX5 TX5 2
theorem nmX5 : ∀ a, a < 2 → ∀ b, b < 2 → a ≠ b → (TX5 a).2.1 ≠ (TX5 b).2.1 := by decide +kernel
theorem tyX5_ok : ∀ k, k < 2 → parseFieldDescriptor (TX5 k).2.2.1 = some (tyX5 k) := by decide +kernel
abbrev cX5_init : ByteArray := prog_7_method_1_code
def yX5_init : MethodName := ⟨RX5, "<init>", "()V"⟩
abbrev cX5_copyFrom : ByteArray := prog_7_method_2_code
def yX5_copyFrom : MethodName := ⟨RX5, "copyFrom", "(LKilnVillage$Tape;)V"⟩
abbrev cX5_append : ByteArray := prog_7_method_3_code
def yX5_append : MethodName := ⟨RX5, "append", "(I)V"⟩
def RX6 : String := "KilnVillage$Tokens"
def TX6 : u_T := fun k => match k with
  | 0 => ("KilnVillage$Tokens", "tape", "LKilnVillage$Tape;", true)
  | 1 => ("KilnVillage$Tokens", "kinds", "[I", true)
  | 2 => ("KilnVillage$Tokens", "meanings", "[I", true)
  | 3 => ("KilnVillage$Tokens", "places", "[I", true)
  | 4 => ("KilnVillage$Tokens", "first", "I", false)
  | 5 => ("KilnVillage$Tokens", "next", "I", false)
  | _ => ("KilnVillage$Tokens", "meaning", "I", false)
def tyX6 : Nat → FieldType := fun k => match k with
  | 0 => .object "KilnVillage$Tape"
  | 1 => .array .int
  | 2 => .array .int
  | 3 => .array .int
  | 4 => .int
  | 5 => .int
  | _ => .int
abbrev wsX60 : List Cond := u_ws RX6 TX6 7
theorem nmX6 : ∀ a, a < 7 → ∀ b, b < 7 → a ≠ b → (TX6 a).2.1 ≠ (TX6 b).2.1 := by decide +kernel
theorem tyX6_ok : ∀ k, k < 7 → parseFieldDescriptor (TX6 k).2.2.1 = some (tyX6 k) := by decide +kernel
abbrev cX6_init : ByteArray := prog_8_method_1_code
def yX6_init : MethodName := ⟨RX6, "<init>", "(LKilnVillage$Tape;)V"⟩
abbrev cX6_scan : ByteArray := prog_8_method_2_code
def yX6_scan : MethodName := ⟨RX6, "scan", "()V"⟩
abbrev cX6_scanOne : ByteArray := prog_8_method_3_code
def yX6_scanOne : MethodName := ⟨RX6, "scanOne", "()I"⟩
abbrev cX6_scanWord : ByteArray := prog_8_method_4_code
def yX6_scanWord : MethodName := ⟨RX6, "scanWord", "()I"⟩
abbrev cX6_subjectOfWord : ByteArray := prog_8_method_5_code
def yX6_subjectOfWord : MethodName := ⟨RX6, "subjectOfWord", "()I"⟩
abbrev cX6_wordIs : ByteArray := prog_8_method_6_code
def yX6_wordIs : MethodName := ⟨RX6, "wordIs", "(Ljava/lang/String;)Z"⟩
abbrev cX6_scanNumber : ByteArray := prog_8_method_7_code
def yX6_scanNumber : MethodName := ⟨RX6, "scanNumber", "()I"⟩
abbrev cX6_scanSign : ByteArray := prog_8_method_8_code
def yX6_scanSign : MethodName := ⟨RX6, "scanSign", "()I"⟩
abbrev cX6_isBlank : ByteArray := prog_8_method_9_code
def yX6_isBlank : MethodName := ⟨RX6, "isBlank", "(I)Z"⟩
abbrev cX6_isLetter : ByteArray := prog_8_method_10_code
def yX6_isLetter : MethodName := ⟨RX6, "isLetter", "(I)Z"⟩
abbrev cX6_isDigit : ByteArray := prog_8_method_11_code
def yX6_isDigit : MethodName := ⟨RX6, "isDigit", "(I)Z"⟩
def RX7 : String := "KilnVillage$Village"
def TX7 : u_T := fun k => match k with
  | 0 => ("KilnVillage$Village", "tape", "LKilnVillage$Tape;", true)
  | 1 => ("KilnVillage$Village", "custom", "LKilnVillage$Custom;", true)
  | 2 => ("KilnVillage$Village", "fault", "I", false)
  | 3 => ("KilnVillage$Village", "faultPlace", "I", false)
  | 4 => ("KilnVillage$Village", "houses", "[LKilnVillage$House;", true)
  | 5 => ("KilnVillage$Village", "houseCount", "I", false)
  | 6 => ("KilnVillage$Village", "shapeWorths", "[I", true)
  | 7 => ("KilnVillage$Village", "shapeToughs", "[I", true)
  | 8 => ("KilnVillage$Village", "glazeAshes", "[I", true)
  | 9 => ("KilnVillage$Village", "kiln", "LKilnVillage$Kiln;", true)
  | 10 => ("KilnVillage$Village", "pots", "[LKilnVillage$Pot;", true)
  | 11 => ("KilnVillage$Village", "potCount", "I", false)
  | _ => ("KilnVillage$Village", "openings", "I", false)
def tyX7 : Nat → FieldType := fun k => match k with
  | 0 => .object "KilnVillage$Tape"
  | 1 => .object "KilnVillage$Custom"
  | 2 => .int
  | 3 => .int
  | 4 => .array (.object "KilnVillage$House")
  | 5 => .int
  | 6 => .array .int
  | 7 => .array .int
  | 8 => .array .int
  | 9 => .object "KilnVillage$Kiln"
  | 10 => .array (.object "KilnVillage$Pot")
  | 11 => .int
  | _ => .int
abbrev wsX70 : List Cond := u_ws RX7 TX7 13
theorem nmX7 : ∀ a, a < 13 → ∀ b, b < 13 → a ≠ b → (TX7 a).2.1 ≠ (TX7 b).2.1 := by decide +kernel
theorem tyX7_ok : ∀ k, k < 13 → parseFieldDescriptor (TX7 k).2.2.1 = some (tyX7 k) := by decide +kernel
abbrev cX7_init : ByteArray := prog_9_method_1_code
def yX7_init : MethodName := ⟨RX7, "<init>", "()V"⟩
abbrev cX7_copyFrom : ByteArray := prog_9_method_2_code
def yX7_copyFrom : MethodName := ⟨RX7, "copyFrom", "(LKilnVillage$Village;)V"⟩
abbrev cX7_hasHouse : ByteArray := prog_9_method_3_code
def yX7_hasHouse : MethodName := ⟨RX7, "hasHouse", "(I)Z"⟩
abbrev cX7_standingPots : ByteArray := prog_9_method_4_code
def yX7_standingPots : MethodName := ⟨RX7, "standingPots", "()I"⟩
abbrev cX7_potsOf : ByteArray := prog_9_method_5_code
def yX7_potsOf : MethodName := ⟨RX7, "potsOf", "(IZ)I"⟩
abbrev cX7_dryWaiting : ByteArray := prog_9_method_6_code
def yX7_dryWaiting : MethodName := ⟨RX7, "dryWaiting", "(I)V"⟩
abbrev cX7_dealPlaces : ByteArray := prog_9_method_7_code
def yX7_dealPlaces : MethodName := ⟨RX7, "dealPlaces", "()I"⟩
abbrev cX7_nextPot : ByteArray := prog_9_method_8_code
def yX7_nextPot : MethodName := ⟨RX7, "nextPot", "()I"⟩
abbrev cX7_goesBefore : ByteArray := prog_9_method_9_code
def yX7_goesBefore : MethodName := ⟨RX7, "goesBefore", "(II)Z"⟩
abbrev cX7_spreadOfHad : ByteArray := prog_9_method_10_code
def yX7_spreadOfHad : MethodName := ⟨RX7, "spreadOfHad", "()I"⟩
abbrev cX7_passHour : ByteArray := prog_9_method_11_code
def yX7_passHour : MethodName := ⟨RX7, "passHour", "(II)V"⟩
abbrev cX7_giveAllBack : ByteArray := prog_9_method_12_code
def yX7_giveAllBack : MethodName := ⟨RX7, "giveAllBack", "()I"⟩
abbrev cX7_giveBack : ByteArray := prog_9_method_13_code
def yX7_giveBack : MethodName := ⟨RX7, "giveBack", "(LKilnVillage$Pot;)Z"⟩
abbrev cX7_isRipe : ByteArray := prog_9_method_14_code
def yX7_isRipe : MethodName := ⟨RX7, "isRipe", "(LKilnVillage$Pot;)Z"⟩
abbrev cX7_shareLoss : ByteArray := prog_9_method_15_code
def yX7_shareLoss : MethodName := ⟨RX7, "shareLoss", "(LKilnVillage$House;I)V"⟩
def RX8 : String := "KilnVillage"
def TX8 : u_T := fun k => match k with
  | 0 => ("KilnVillage", "now", "LKilnVillage$Village;", true)
  | 1 => ("KilnVillage", "reader", "LKilnVillage$Reader;", true)
  | _ => ("KilnVillage", "images", "[LKilnVillage$Village;", true)
def tyX8 : Nat → FieldType := fun k => match k with
  | 0 => .object "KilnVillage$Village"
  | 1 => .object "KilnVillage$Reader"
  | _ => .array (.object "KilnVillage$Village")
abbrev wsX80 : List Cond := u_ws RX8 TX8 3
theorem nmX8 : ∀ a, a < 3 → ∀ b, b < 3 → a ≠ b → (TX8 a).2.1 ≠ (TX8 b).2.1 := by decide +kernel
theorem tyX8_ok : ∀ k, k < 3 → parseFieldDescriptor (TX8 k).2.2.1 = some (tyX8 k) := by decide +kernel
abbrev cX8_init : ByteArray := prog_1_method_1_code
def yX8_init : MethodName := ⟨RX8, "<init>", "()V"⟩
abbrev cX8_feed : ByteArray := prog_1_method_2_code
def yX8_feed : MethodName := ⟨RX8, "feed", "(IIIII)I"⟩
abbrev cX8_end : ByteArray := prog_1_method_3_code
def yX8_end : MethodName := ⟨RX8, "end", "(I)I"⟩
abbrev cX8_custom : ByteArray := prog_1_method_4_code
def yX8_custom : MethodName := ⟨RX8, "custom", "()I"⟩
abbrev cX8_fault : ByteArray := prog_1_method_5_code
def yX8_fault : MethodName := ⟨RX8, "fault", "(I)I"⟩
abbrev cX8_house : ByteArray := prog_1_method_6_code
def yX8_house : MethodName := ⟨RX8, "house", "()I"⟩
abbrev cX8_shape : ByteArray := prog_1_method_7_code
def yX8_shape : MethodName := ⟨RX8, "shape", "(III)Z"⟩
abbrev cX8_glaze : ByteArray := prog_1_method_8_code
def yX8_glaze : MethodName := ⟨RX8, "glaze", "(II)Z"⟩
abbrev cX8_kiln : ByteArray := prog_1_method_9_code
def yX8_kiln : MethodName := ⟨RX8, "kiln", "(I)Z"⟩
abbrev cX8_value : ByteArray := prog_1_method_10_code
def yX8_value : MethodName := ⟨RX8, "value", "(III)Z"⟩
abbrev cX8_pot : ByteArray := prog_1_method_11_code
def yX8_pot : MethodName := ⟨RX8, "pot", "(IIII)I"⟩
abbrev cX8_dry : ByteArray := prog_1_method_12_code
def yX8_dry : MethodName := ⟨RX8, "dry", "(I)Z"⟩
abbrev cX8_deal : ByteArray := prog_1_method_13_code
def yX8_deal : MethodName := ⟨RX8, "deal", "()I"⟩
abbrev cX8_spread : ByteArray := prog_1_method_14_code
def yX8_spread : MethodName := ⟨RX8, "spread", "()I"⟩
abbrev cX8_fire : ByteArray := prog_1_method_15_code
def yX8_fire : MethodName := ⟨RX8, "fire", "(II)I"⟩
abbrev cX8_rest : ByteArray := prog_1_method_16_code
def yX8_rest : MethodName := ⟨RX8, "rest", "(I)I"⟩
abbrev cX8_heat : ByteArray := prog_1_method_17_code
def yX8_heat : MethodName := ⟨RX8, "heat", "(I)I"⟩
abbrev cX8_open : ByteArray := prog_1_method_18_code
def yX8_open : MethodName := ⟨RX8, "open", "()I"⟩
abbrev cX8_about : ByteArray := prog_1_method_19_code
def yX8_about : MethodName := ⟨RX8, "about", "(II)I"⟩
abbrev cX8_at : ByteArray := prog_1_method_20_code
def yX8_at : MethodName := ⟨RX8, "at", "(II)I"⟩
abbrev cX8_tell : ByteArray := prog_1_method_21_code
def yX8_tell : MethodName := ⟨RX8, "tell", "(II)I"⟩
abbrev cX8_order : ByteArray := prog_1_method_22_code
def yX8_order : MethodName := ⟨RX8, "order", "(IIII)I"⟩
abbrev cX8_inTime : ByteArray := prog_1_method_23_code
def yX8_inTime : MethodName := ⟨RX8, "inTime", "(II)Z"⟩
abbrev cX8_forget : ByteArray := prog_1_method_24_code
def yX8_forget : MethodName := ⟨RX8, "forget", "(I)Z"⟩
abbrev cX8_count : ByteArray := prog_1_method_25_code
def yX8_count : MethodName := ⟨RX8, "count", "(I)I"⟩
abbrev cX8_image : ByteArray := prog_1_method_26_code
def yX8_image : MethodName := ⟨RX8, "image", "(I)Z"⟩
abbrev cX8_again : ByteArray := prog_1_method_27_code
def yX8_again : MethodName := ⟨RX8, "again", "(I)Z"⟩
abbrev cX8_within : ByteArray := prog_1_method_28_code
def yX8_within : MethodName := ⟨RX8, "within", "(III)Z"⟩
def RX9 : String := "KilnVillageModel"
def TX9 : u_T := fun k => match k with
  | 0 => ("KilnVillageModel", "all", "[I", true)
  | 1 => ("KilnVillageModel", "has", "[Z", true)
  | 2 => ("KilnVillageModel", "size", "I", false)
  | 3 => ("KilnVillageModel", "next", "I", false)
  | 4 => ("KilnVillageModel", "where", "I", false)
  | 5 => ("KilnVillageModel", "token", "I", false)
  | 6 => ("KilnVillageModel", "number", "I", false)
  | 7 => ("KilnVillageModel", "sign", "I", false)
  | 8 => ("KilnVillageModel", "word", "I", false)
  | 9 => ("KilnVillageModel", "wrong", "Z", false)
  | 10 => ("KilnVillageModel", "lines", "I", false)
  | 11 => ("KilnVillageModel", "read", "[I", true)
  | 12 => ("KilnVillageModel", "test", "[I", true)
  | _ => ("KilnVillageModel", "before", "[I", true)
def tyX9 : Nat → FieldType := fun k => match k with
  | 0 => .array .int
  | 1 => .array .boolean
  | 2 => .int
  | 3 => .int
  | 4 => .int
  | 5 => .int
  | 6 => .int
  | 7 => .int
  | 8 => .int
  | 9 => .boolean
  | 10 => .int
  | 11 => .array .int
  | 12 => .array .int
  | _ => .array .int
abbrev wsX90 : List Cond := u_ws RX9 TX9 14
theorem nmX9 : ∀ a, a < 14 → ∀ b, b < 14 → a ≠ b → (TX9 a).2.1 ≠ (TX9 b).2.1 := by decide +kernel
theorem tyX9_ok : ∀ k, k < 14 → parseFieldDescriptor (TX9 k).2.2.1 = some (tyX9 k) := by decide +kernel
abbrev cX9_init : ByteArray := prog_11_method_1_code
def yX9_init : MethodName := ⟨RX9, "<init>", "()V"⟩
abbrev cX9_isIn : ByteArray := prog_11_method_2_code
def yX9_isIn : MethodName := ⟨RX9, "isIn", "(III)Z"⟩
abbrev cX9_begins : ByteArray := prog_11_method_3_code
def yX9_begins : MethodName := ⟨RX9, "begins", "(I)V"⟩
abbrev cX9_feed : ByteArray := prog_11_method_4_code
def yX9_feed : MethodName := ⟨RX9, "feed", "(IIIII)I"⟩
abbrev cX9_end : ByteArray := prog_11_method_5_code
def yX9_end : MethodName := ⟨RX9, "end", "(I)I"⟩
abbrev cX9_byteAt : ByteArray := prog_11_method_6_code
def yX9_byteAt : MethodName := ⟨RX9, "byteAt", "(I)I"⟩
abbrev cX9_isLetter : ByteArray := prog_11_method_7_code
def yX9_isLetter : MethodName := ⟨RX9, "isLetter", "(I)Z"⟩
abbrev cX9_isDigit : ByteArray := prog_11_method_8_code
def yX9_isDigit : MethodName := ⟨RX9, "isDigit", "(I)Z"⟩
abbrev cX9_three : ByteArray := prog_11_method_9_code
def yX9_three : MethodName := ⟨RX9, "three", "(III)J"⟩
abbrev cX9_four : ByteArray := prog_11_method_10_code
def yX9_four : MethodName := ⟨RX9, "four", "(IIII)J"⟩
abbrev cX9_wordOf : ByteArray := prog_11_method_11_code
def yX9_wordOf : MethodName := ⟨RX9, "wordOf", "(J)I"⟩
abbrev cX9_isSignByte : ByteArray := prog_11_method_12_code
def yX9_isSignByte : MethodName := ⟨RX9, "isSignByte", "(I)Z"⟩
abbrev cX9_advance : ByteArray := prog_11_method_13_code
def yX9_advance : MethodName := ⟨RX9, "advance", "()V"⟩
abbrev cX9_stops : ByteArray := prog_11_method_14_code
def yX9_stops : MethodName := ⟨RX9, "stops", "()V"⟩
abbrev cX9_tells : ByteArray := prog_11_method_15_code
def yX9_tells : MethodName := ⟨RX9, "tells", "(II)V"⟩
abbrev cX9_takes : ByteArray := prog_11_method_16_code
def yX9_takes : MethodName := ⟨RX9, "takes", "(I)Z"⟩
abbrev cX9_must : ByteArray := prog_11_method_17_code
def yX9_must : MethodName := ⟨RX9, "must", "(I)V"⟩
abbrev cX9_numbered : ByteArray := prog_11_method_18_code
def yX9_numbered : MethodName := ⟨RX9, "numbered", "()I"⟩
abbrev cX9_aTest : ByteArray := prog_11_method_19_code
def yX9_aTest : MethodName := ⟨RX9, "aTest", "()V"⟩
abbrev cX9_puts : ByteArray := prog_11_method_20_code
def yX9_puts : MethodName := ⟨RX9, "puts", "(II)V"⟩
abbrev cX9_aLine : ByteArray := prog_11_method_21_code
def yX9_aLine : MethodName := ⟨RX9, "aLine", "()V"⟩
abbrev cX9_custom : ByteArray := prog_11_method_22_code
def yX9_custom : MethodName := ⟨RX9, "custom", "()I"⟩
abbrev cX9_fault : ByteArray := prog_11_method_23_code
def yX9_fault : MethodName := ⟨RX9, "fault", "(I)I"⟩
abbrev cX9_isHouse : ByteArray := prog_11_method_24_code
def yX9_isHouse : MethodName := ⟨RX9, "isHouse", "(I)Z"⟩
abbrev cX9_of : ByteArray := prog_11_method_25_code
def yX9_of : MethodName := ⟨RX9, "of", "(II)I"⟩
abbrev cX9_adds : ByteArray := prog_11_method_26_code
def yX9_adds : MethodName := ⟨RX9, "adds", "(III)V"⟩
abbrev cX9_house : ByteArray := prog_11_method_27_code
def yX9_house : MethodName := ⟨RX9, "house", "()I"⟩
abbrev cX9_shape : ByteArray := prog_11_method_28_code
def yX9_shape : MethodName := ⟨RX9, "shape", "(III)Z"⟩
abbrev cX9_glaze : ByteArray := prog_11_method_29_code
def yX9_glaze : MethodName := ⟨RX9, "glaze", "(II)Z"⟩
abbrev cX9_its : ByteArray := prog_11_method_30_code
def yX9_its : MethodName := ⟨RX9, "its", "(II)I"⟩
abbrev cX9_sets : ByteArray := prog_11_method_31_code
def yX9_sets : MethodName := ⟨RX9, "sets", "(III)V"⟩
abbrev cX9_stands : ByteArray := prog_11_method_32_code
def yX9_stands : MethodName := ⟨RX9, "stands", "(I)Z"⟩
abbrev cX9_standing : ByteArray := prog_11_method_33_code
def yX9_standing : MethodName := ⟨RX9, "standing", "()I"⟩
abbrev cX9_kiln : ByteArray := prog_11_method_34_code
def yX9_kiln : MethodName := ⟨RX9, "kiln", "(I)Z"⟩
abbrev cX9_isPlace : ByteArray := prog_11_method_35_code
def yX9_isPlace : MethodName := ⟨RX9, "isPlace", "(II)Z"⟩
abbrev cX9_value : ByteArray := prog_11_method_36_code
def yX9_value : MethodName := ⟨RX9, "value", "(III)Z"⟩
abbrev cX9_pot : ByteArray := prog_11_method_37_code
def yX9_pot : MethodName := ⟨RX9, "pot", "(IIII)I"⟩
abbrev cX9_dry : ByteArray := prog_11_method_38_code
def yX9_dry : MethodName := ⟨RX9, "dry", "(I)Z"⟩
abbrev cX9_greatestHeat : ByteArray := prog_11_method_39_code
def yX9_greatestHeat : MethodName := ⟨RX9, "greatestHeat", "()I"⟩
abbrev cX9_at0 : ByteArray := prog_11_method_40_code
def yX9_at0 : MethodName := ⟨RX9, "at0", "(I)I"⟩
abbrev cX9_bestPlace : ByteArray := prog_11_method_41_code
def yX9_bestPlace : MethodName := ⟨RX9, "bestPlace", "()I"⟩
abbrev cX9_waiting : ByteArray := prog_11_method_42_code
def yX9_waiting : MethodName := ⟨RX9, "waiting", "(I)I"⟩
abbrev cX9_nextHouse : ByteArray := prog_11_method_43_code
def yX9_nextHouse : MethodName := ⟨RX9, "nextHouse", "()I"⟩
abbrev cX9_deal : ByteArray := prog_11_method_44_code
def yX9_deal : MethodName := ⟨RX9, "deal", "()I"⟩
abbrev cX9_spread : ByteArray := prog_11_method_45_code
def yX9_spread : MethodName := ⟨RX9, "spread", "()I"⟩
abbrev cX9_hour : ByteArray := prog_11_method_46_code
def yX9_hour : MethodName := ⟨RX9, "hour", "(II)V"⟩
abbrev cX9_bakes : ByteArray := prog_11_method_47_code
def yX9_bakes : MethodName := ⟨RX9, "bakes", "(II)V"⟩
abbrev cX9_fire : ByteArray := prog_11_method_48_code
def yX9_fire : MethodName := ⟨RX9, "fire", "(II)I"⟩
abbrev cX9_rest : ByteArray := prog_11_method_49_code
def yX9_rest : MethodName := ⟨RX9, "rest", "(I)I"⟩
abbrev cX9_heat : ByteArray := prog_11_method_50_code
def yX9_heat : MethodName := ⟨RX9, "heat", "(I)I"⟩
abbrev cX9_asked : ByteArray := prog_11_method_51_code
def yX9_asked : MethodName := ⟨RX9, "asked", "(II)I"⟩
abbrev cX9_holds : ByteArray := prog_11_method_52_code
def yX9_holds : MethodName := ⟨RX9, "holds", "(II)Z"⟩
abbrev cX9_customOf : ByteArray := prog_11_method_53_code
def yX9_customOf : MethodName := ⟨RX9, "customOf", "(I)I"⟩
abbrev cX9_isRipe : ByteArray := prog_11_method_54_code
def yX9_isRipe : MethodName := ⟨RX9, "isRipe", "(I)Z"⟩
abbrev cX9_gives : ByteArray := prog_11_method_55_code
def yX9_gives : MethodName := ⟨RX9, "gives", "(I)Z"⟩
abbrev cX9_open : ByteArray := prog_11_method_56_code
def yX9_open : MethodName := ⟨RX9, "open", "()I"⟩
abbrev cX9_about : ByteArray := prog_11_method_57_code
def yX9_about : MethodName := ⟨RX9, "about", "(II)I"⟩
abbrev cX9_at : ByteArray := prog_11_method_58_code
def yX9_at : MethodName := ⟨RX9, "at", "(II)I"⟩
abbrev cX9_order : ByteArray := prog_11_method_59_code
def yX9_order : MethodName := ⟨RX9, "order", "(IIII)I"⟩
abbrev cX9_can : ByteArray := prog_11_method_60_code
def yX9_can : MethodName := ⟨RX9, "can", "(II)Z"⟩
abbrev cX9_inTime : ByteArray := prog_11_method_61_code
def yX9_inTime : MethodName := ⟨RX9, "inTime", "(II)Z"⟩
abbrev cX9_worthOf : ByteArray := prog_11_method_62_code
def yX9_worthOf : MethodName := ⟨RX9, "worthOf", "(II)I"⟩
abbrev cX9_best : ByteArray := prog_11_method_63_code
def yX9_best : MethodName := ⟨RX9, "best", "(I)I"⟩
abbrev cX9_forget : ByteArray := prog_11_method_64_code
def yX9_forget : MethodName := ⟨RX9, "forget", "(I)Z"⟩
abbrev cX9_tell : ByteArray := prog_11_method_65_code
def yX9_tell : MethodName := ⟨RX9, "tell", "(II)I"⟩
abbrev cX9_count : ByteArray := prog_11_method_66_code
def yX9_count : MethodName := ⟨RX9, "count", "(I)I"⟩
abbrev cX9_image : ByteArray := prog_11_method_67_code
def yX9_image : MethodName := ⟨RX9, "image", "(I)Z"⟩
abbrev cX9_again : ByteArray := prog_11_method_68_code
def yX9_again : MethodName := ⟨RX9, "again", "(I)Z"⟩
def RJ9 : String := "java/lang/Math"
def TJ9 : u_T := fun k => match k with
  | _ => ("", "", "", false)
def tyJ9 : Nat → FieldType := fun k => match k with
  | _ => .int
abbrev wsJ90 : List Cond := u_ws RJ9 TJ9 0
theorem nmJ9 : ∀ a, a < 0 → ∀ b, b < 0 → a ≠ b → (TJ9 a).2.1 ≠ (TJ9 b).2.1 := by decide +kernel
theorem tyJ9_ok : ∀ k, k < 0 → parseFieldDescriptor (TJ9 k).2.2.1 = some (tyJ9 k) := by decide +kernel
abbrev cJ9_abs_0f7a4 : ByteArray := prog_12_method_59_code
def yJ9_abs_0f7a4 : MethodName := ⟨RJ9, "abs", "(I)I"⟩
abbrev cJ9_max_7cf53 : ByteArray := prog_12_method_65_code
def yJ9_max_7cf53 : MethodName := ⟨RJ9, "max", "(II)I"⟩
abbrev cJ9_min_7cf53 : ByteArray := prog_12_method_69_code
def yJ9_min_7cf53 : MethodName := ⟨RJ9, "min", "(II)I"⟩
def RJ0 : String := "java/lang/String"
def TJ0 : u_T := fun k => match k with
  | _ => ("", "", "", false)
def tyJ0 : Nat → FieldType := fun k => match k with
  | _ => .int
abbrev wsJ00 : List Cond := u_ws RJ0 TJ0 0
theorem nmJ0 : ∀ a, a < 0 → ∀ b, b < 0 → a ≠ b → (TJ0 a).2.1 ≠ (TJ0 b).2.1 := by decide +kernel
theorem tyJ0_ok : ∀ k, k < 0 → parseFieldDescriptor (TJ0 k).2.2.1 = some (tyJ0 k) := by decide +kernel
abbrev cJ0_length_8abf5 : ByteArray := prog_13_method_54_code
def yJ0_length_8abf5 : MethodName := ⟨RJ0, "length", "()I"⟩
abbrev cJ0_charAt_5068e : ByteArray := prog_13_method_56_code
def yJ0_charAt_5068e : MethodName := ⟨RJ0, "charAt", "(I)C"⟩
abbrev cJ0_coder_7d493 : ByteArray := prog_13_method_152_code
def yJ0_coder_7d493 : MethodName := ⟨RJ0, "coder", "()B"⟩
abbrev cJ0_isLatin1_aae02 : ByteArray := prog_13_method_154_code
def yJ0_isLatin1_aae02 : MethodName := ⟨RJ0, "isLatin1", "()Z"⟩
abbrev cJ0_checkIndex_df160 : ByteArray := prog_13_method_155_code
def yJ0_checkIndex_df160 : MethodName := ⟨RJ0, "checkIndex", "(II)V"⟩
def RJ1 : String := "java/lang/StringLatin1"
def TJ1 : u_T := fun k => match k with
  | _ => ("", "", "", false)
def tyJ1 : Nat → FieldType := fun k => match k with
  | _ => .int
abbrev wsJ10 : List Cond := u_ws RJ1 TJ1 0
theorem nmJ1 : ∀ a, a < 0 → ∀ b, b < 0 → a ≠ b → (TJ1 a).2.1 ≠ (TJ1 b).2.1 := by decide +kernel
theorem tyJ1_ok : ∀ k, k < 0 → parseFieldDescriptor (TJ1 k).2.2.1 = some (tyJ1 k) := by decide +kernel
abbrev cJ1_charAt_3b067 : ByteArray := prog_14_method_2_code
def yJ1_charAt_3b067 : MethodName := ⟨RJ1, "charAt", "([BI)C"⟩
def RJ2 : String := "java/lang/StringUTF16"
def TJ2 : u_T := fun k => match k with
  | _ => ("", "", "", false)
def tyJ2 : Nat → FieldType := fun k => match k with
  | _ => .int
abbrev wsJ20 : List Cond := u_ws RJ2 TJ2 0
theorem nmJ2 : ∀ a, a < 0 → ∀ b, b < 0 → a ≠ b → (TJ2 a).2.1 ≠ (TJ2 b).2.1 := by decide +kernel
theorem tyJ2_ok : ∀ k, k < 0 → parseFieldDescriptor (TJ2 k).2.2.1 = some (tyJ2 k) := by decide +kernel
abbrev cJ2_getChar_3b067 : ByteArray := prog_15_method_5_code
def yJ2_getChar_3b067 : MethodName := ⟨RJ2, "getChar", "([BI)C"⟩
abbrev cJ2_length_9d52b : ByteArray := prog_15_method_6_code
def yJ2_length_9d52b : MethodName := ⟨RJ2, "length", "([B)I"⟩
abbrev cJ2_charAt_3b067 : ByteArray := prog_15_method_83_code
def yJ2_charAt_3b067 : MethodName := ⟨RJ2, "charAt", "([BI)C"⟩
abbrev cJ2_checkIndex_2214a : ByteArray := prog_15_method_91_code
def yJ2_checkIndex_2214a : MethodName := ⟨RJ2, "checkIndex", "(I[B)V"⟩
def RJ10 : String := "java/lang/System"
def TJ10 : u_T := fun k => match k with
  | _ => ("", "", "", false)
def tyJ10 : Nat → FieldType := fun k => match k with
  | _ => .int
abbrev wsJ100 : List Cond := u_ws RJ10 TJ10 0
theorem nmJ10 : ∀ a, a < 0 → ∀ b, b < 0 → a ≠ b → (TJ10 a).2.1 ≠ (TJ10 b).2.1 := by decide +kernel
theorem tyJ10_ok : ∀ k, k < 0 → parseFieldDescriptor (TJ10 k).2.2.1 = some (tyJ10 k) := by decide +kernel
def RJ3 : String := "jdk/internal/util/Preconditions"
def TJ3 : u_T := fun k => match k with
  | _ => ("", "", "", false)
def tyJ3 : Nat → FieldType := fun k => match k with
  | _ => .int
abbrev wsJ30 : List Cond := u_ws RJ3 TJ3 0
theorem nmJ3 : ∀ a, a < 0 → ∀ b, b < 0 → a ≠ b → (TJ3 a).2.1 ≠ (TJ3 b).2.1 := by decide +kernel
theorem tyJ3_ok : ∀ k, k < 0 → parseFieldDescriptor (TJ3 k).2.2.1 = some (tyJ3 k) := by decide +kernel
abbrev cJ3_checkIndex_8e157 : ByteArray := prog_17_method_11_code
def yJ3_checkIndex_8e157 : MethodName := ⟨RJ3, "checkIndex", "(IILjava/util/function/BiFunction;)I"⟩
def RL : String := "KilnVillageLaw"
abbrev cL_law : ByteArray := code
def yL_law : MethodName := ⟨RL, "law", "([I)Z"⟩
abbrev vwCl : List vw_C := [(RX0, TX0, 6), (RX1, TX1, 9), (RX2, TX2, 7), (RX3, TX3, 8), (RX4, TX4, 5), (RX5, TX5, 2), (RX6, TX6, 7), (RX7, TX7, 13), (RX8, TX8, 3), (RX9, TX9, 14)]
end
section
/-! methods and links as data -/
abbrev MT : Type := MethodName × ByteArray × Nat × Option FieldType × Nat × Nat
abbrev mY (M : MT) : MethodName := M.1
abbrev mC (M : MT) : ByteArray := M.2.1
abbrev mX (M : MT) : Nat := M.2.2.1
abbrev mR (M : MT) : Option FieldType := M.2.2.2.1
abbrev mF (M : MT) : Nat := M.2.2.2.2.1
abbrev mL (M : MT) : Nat := M.2.2.2.2.2
def gws : List Cond := lw_tbl.filter goodWord
def is_r (d : String) : Bool := !(d == "I" || d == "Z")
theorem gws_good {w : Cond} (h : w ∈ gws) : (w.onTables && w.keeps) = true ∨ ∃ ty, w = .arrayClass ty := good_of_word (List.mem_filter.mp h).2
def FL (own : String) (x ci k : Nat) (rf : Bool) : Prop := ∃ r : vw_C, vwCl[ci]? = some r ∧ k < r.2.2 ∧ Cond.fieldLink own x r.1 (r.2.1 k).2.1 (r.2.1 k).2.2.1 ∈ gws ∧ (r.2.1 k).1 = r.1 ∧ is_r (r.2.1 k).2.2.1 = rf
def FW (own : String) (x ci k : Nat) (rf fin : Bool) (ty : FieldType) : Prop := ∃ r : vw_C, vwCl[ci]? = some r ∧ k < r.2.2 ∧ Cond.fieldLink own x r.1 (r.2.1 k).2.1 (r.2.1 k).2.2.1 ∈ gws ∧ (r.2.1 k).1 = r.1 ∧ is_r (r.2.1 k).2.2.1 = rf ∧ (r.2.1 k).2.2.2 = fin ∧ parseFieldDescriptor (r.2.1 k).2.2.1 = some ty ∧ (fin = true → own = r.1)
def MG (M : MT) (n : Nat) : Prop := Cond.code (mY M) (mC M) (mX M) (mR M) ∈ gws ∧ Cond.initialized (mY M).cls ∈ gws ∧ ((mY M).cls ≠ "java/lang/invoke/MethodHandle" ∧ (mY M).cls ≠ "java/lang/invoke/VarHandle") ∧ (parseMethodDescriptor (mY M).desc).map (fun d => d.parameters.length) = some n
def MV (M : MT) (n ci : Nat) : Prop := MG M n ∧ Cond.instanceMethod (mY M) ∈ gws ∧ Cond.selects (mY M).cls (mY M) (mY M) ∈ gws ∧ ∃ r : vw_C, vwCl[ci]? = some r ∧ r.1 = (mY M).cls
def MS (M : MT) (n : Nat) : Prop := MG M n ∧ Cond.static (mY M) ∈ gws
def MI (M : MT) (n : Nat) : Prop := MG M n ∧ Cond.instanceMethod (mY M) ∈ gws ∧ (mY M).name = "<init>" ∧ mR M = none
def RM (M M' : MT) : Prop := mF M' + 1 ≤ mF M ∧ 8 + (mX M' + 11) + mL M' ≤ mL M
theorem gw_at (i : Nat) {w : Cond} (h : lw_tbl[i]? = some w) (hg : goodWord w = true) : w ∈ gws := List.mem_filter.mpr ⟨List.mem_of_getElem? h, hg⟩
end
section
theorem dX0_init_0 : decode cX0_init 0 = .ok (.aload_n 0, 1) := by decide +kernel
theorem dX0_init_1 : decode cX0_init 1 = .ok (.invokespecial 3, 3) := by decide +kernel
theorem dX0_init_4 : decode cX0_init 4 = .ok (.aload_n 0, 1) := by decide +kernel
theorem dX0_init_5 : decode cX0_init 5 = .ok (.iconst 0, 1) := by decide +kernel
theorem dX0_init_6 : decode cX0_init 6 = .ok (.putfield 9, 3) := by decide +kernel
theorem dX0_init_9 : decode cX0_init 9 = .ok (.aload_n 0, 1) := by decide +kernel
theorem dX0_init_10 : decode cX0_init 10 = .ok (.bipush 12, 2) := by decide +kernel
theorem dX0_init_12 : decode cX0_init 12 = .ok (.newarray .int, 2) := by decide +kernel
theorem dX0_init_14 : decode cX0_init 14 = .ok (.putfield 15, 3) := by decide +kernel
theorem dX0_init_17 : decode cX0_init 17 = .ok (.aload_n 0, 1) := by decide +kernel
theorem dX0_init_18 : decode cX0_init 18 = .ok (.bipush 12, 2) := by decide +kernel
theorem dX0_init_20 : decode cX0_init 20 = .ok (.newarray .int, 2) := by decide +kernel
theorem dX0_init_22 : decode cX0_init 22 = .ok (.putfield 19, 3) := by decide +kernel
theorem dX0_init_25 : decode cX0_init 25 = .ok (.aload_n 0, 1) := by decide +kernel
theorem dX0_init_26 : decode cX0_init 26 = .ok (.bipush 48, 2) := by decide +kernel
theorem dX0_init_28 : decode cX0_init 28 = .ok (.newarray .int, 2) := by decide +kernel
theorem dX0_init_30 : decode cX0_init 30 = .ok (.putfield 22, 3) := by decide +kernel
theorem dX0_init_33 : decode cX0_init 33 = .ok (.aload_n 0, 1) := by decide +kernel
theorem dX0_init_34 : decode cX0_init 34 = .ok (.bipush 48, 2) := by decide +kernel
theorem dX0_init_36 : decode cX0_init 36 = .ok (.newarray .int, 2) := by decide +kernel
theorem dX0_init_38 : decode cX0_init 38 = .ok (.putfield 25, 3) := by decide +kernel
theorem dX0_init_41 : decode cX0_init 41 = .ok (.aload_n 0, 1) := by decide +kernel
theorem dX0_init_42 : decode cX0_init 42 = .ok (.bipush 48, 2) := by decide +kernel
theorem dX0_init_44 : decode cX0_init 44 = .ok (.newarray .int, 2) := by decide +kernel
theorem dX0_init_46 : decode cX0_init 46 = .ok (.putfield 28, 3) := by decide +kernel
theorem dX0_init_49 : decode cX0_init 49 = .ok (.return_, 1) := by decide +kernel
theorem dX0_copyFrom_0 : decode cX0_copyFrom 0 = .ok (.aload_n 0, 1) := by decide +kernel
theorem dX0_copyFrom_1 : decode cX0_copyFrom 1 = .ok (.aload_n 1, 1) := by decide +kernel
theorem dX0_copyFrom_2 : decode cX0_copyFrom 2 = .ok (.getfield 9, 3) := by decide +kernel
theorem dX0_copyFrom_5 : decode cX0_copyFrom 5 = .ok (.putfield 9, 3) := by decide +kernel
theorem dX0_copyFrom_8 : decode cX0_copyFrom 8 = .ok (.aload_n 1, 1) := by decide +kernel
theorem dX0_copyFrom_9 : decode cX0_copyFrom 9 = .ok (.getfield 15, 3) := by decide +kernel
theorem dX0_copyFrom_12 : decode cX0_copyFrom 12 = .ok (.iconst 0, 1) := by decide +kernel
theorem dX0_copyFrom_13 : decode cX0_copyFrom 13 = .ok (.aload_n 0, 1) := by decide +kernel
theorem dX0_copyFrom_14 : decode cX0_copyFrom 14 = .ok (.getfield 15, 3) := by decide +kernel
theorem dX0_copyFrom_17 : decode cX0_copyFrom 17 = .ok (.iconst 0, 1) := by decide +kernel
theorem dX0_copyFrom_18 : decode cX0_copyFrom 18 = .ok (.bipush 12, 2) := by decide +kernel
theorem dX0_copyFrom_20 : decode cX0_copyFrom 20 = .ok (.invokestatic 31, 3) := by decide +kernel
theorem dX0_copyFrom_23 : decode cX0_copyFrom 23 = .ok (.aload_n 1, 1) := by decide +kernel
theorem dX0_copyFrom_24 : decode cX0_copyFrom 24 = .ok (.getfield 19, 3) := by decide +kernel
theorem dX0_copyFrom_27 : decode cX0_copyFrom 27 = .ok (.iconst 0, 1) := by decide +kernel
theorem dX0_copyFrom_28 : decode cX0_copyFrom 28 = .ok (.aload_n 0, 1) := by decide +kernel
theorem dX0_copyFrom_29 : decode cX0_copyFrom 29 = .ok (.getfield 19, 3) := by decide +kernel
theorem dX0_copyFrom_32 : decode cX0_copyFrom 32 = .ok (.iconst 0, 1) := by decide +kernel
theorem dX0_copyFrom_33 : decode cX0_copyFrom 33 = .ok (.bipush 12, 2) := by decide +kernel
theorem dX0_copyFrom_35 : decode cX0_copyFrom 35 = .ok (.invokestatic 31, 3) := by decide +kernel
theorem dX0_copyFrom_38 : decode cX0_copyFrom 38 = .ok (.aload_n 1, 1) := by decide +kernel
theorem dX0_copyFrom_39 : decode cX0_copyFrom 39 = .ok (.getfield 22, 3) := by decide +kernel
theorem dX0_copyFrom_42 : decode cX0_copyFrom 42 = .ok (.iconst 0, 1) := by decide +kernel
theorem dX0_copyFrom_43 : decode cX0_copyFrom 43 = .ok (.aload_n 0, 1) := by decide +kernel
theorem dX0_copyFrom_44 : decode cX0_copyFrom 44 = .ok (.getfield 22, 3) := by decide +kernel
theorem dX0_copyFrom_47 : decode cX0_copyFrom 47 = .ok (.iconst 0, 1) := by decide +kernel
theorem dX0_copyFrom_48 : decode cX0_copyFrom 48 = .ok (.bipush 48, 2) := by decide +kernel
theorem dX0_copyFrom_50 : decode cX0_copyFrom 50 = .ok (.invokestatic 31, 3) := by decide +kernel
theorem dX0_copyFrom_53 : decode cX0_copyFrom 53 = .ok (.aload_n 1, 1) := by decide +kernel
theorem dX0_copyFrom_54 : decode cX0_copyFrom 54 = .ok (.getfield 25, 3) := by decide +kernel
theorem dX0_copyFrom_57 : decode cX0_copyFrom 57 = .ok (.iconst 0, 1) := by decide +kernel
theorem dX0_copyFrom_58 : decode cX0_copyFrom 58 = .ok (.aload_n 0, 1) := by decide +kernel
theorem dX0_copyFrom_59 : decode cX0_copyFrom 59 = .ok (.getfield 25, 3) := by decide +kernel
theorem dX0_copyFrom_62 : decode cX0_copyFrom 62 = .ok (.iconst 0, 1) := by decide +kernel
theorem dX0_copyFrom_63 : decode cX0_copyFrom 63 = .ok (.bipush 48, 2) := by decide +kernel
theorem dX0_copyFrom_65 : decode cX0_copyFrom 65 = .ok (.invokestatic 31, 3) := by decide +kernel
theorem dX0_copyFrom_68 : decode cX0_copyFrom 68 = .ok (.aload_n 1, 1) := by decide +kernel
theorem dX0_copyFrom_69 : decode cX0_copyFrom 69 = .ok (.getfield 28, 3) := by decide +kernel
theorem dX0_copyFrom_72 : decode cX0_copyFrom 72 = .ok (.iconst 0, 1) := by decide +kernel
theorem dX0_copyFrom_73 : decode cX0_copyFrom 73 = .ok (.aload_n 0, 1) := by decide +kernel
theorem dX0_copyFrom_74 : decode cX0_copyFrom 74 = .ok (.getfield 28, 3) := by decide +kernel
theorem dX0_copyFrom_77 : decode cX0_copyFrom 77 = .ok (.iconst 0, 1) := by decide +kernel
theorem dX0_copyFrom_78 : decode cX0_copyFrom 78 = .ok (.bipush 48, 2) := by decide +kernel
theorem dX0_copyFrom_80 : decode cX0_copyFrom 80 = .ok (.invokestatic 31, 3) := by decide +kernel
theorem dX0_copyFrom_83 : decode cX0_copyFrom 83 = .ok (.return_, 1) := by decide +kernel
theorem dX0_partFor_0 : decode cX0_partFor 0 = .ok (.iconst 0, 1) := by decide +kernel
theorem dX0_partFor_1 : decode cX0_partFor 1 = .ok (.istore_n 2, 1) := by decide +kernel
theorem dX0_partFor_2 : decode cX0_partFor 2 = .ok (.iload_n 2, 1) := by decide +kernel
theorem dX0_partFor_3 : decode cX0_partFor 3 = .ok (.aload_n 0, 1) := by decide +kernel
theorem dX0_partFor_4 : decode cX0_partFor 4 = .ok (.getfield 9, 3) := by decide +kernel
theorem dX0_partFor_7 : decode cX0_partFor 7 = .ok (.if_icmp .ge 25, 3) := by decide +kernel
theorem dX0_partFor_10 : decode cX0_partFor 10 = .ok (.aload_n 0, 1) := by decide +kernel
theorem dX0_partFor_11 : decode cX0_partFor 11 = .ok (.iload_n 2, 1) := by decide +kernel
theorem dX0_partFor_12 : decode cX0_partFor 12 = .ok (.aload_n 1, 1) := by decide +kernel
theorem dX0_partFor_13 : decode cX0_partFor 13 = .ok (.invokevirtual 37, 3) := by decide +kernel
theorem dX0_partFor_16 : decode cX0_partFor 16 = .ok (.ifCond .eq 10, 3) := by decide +kernel
theorem dX0_partFor_19 : decode cX0_partFor 19 = .ok (.aload_n 0, 1) := by decide +kernel
theorem dX0_partFor_20 : decode cX0_partFor 20 = .ok (.getfield 15, 3) := by decide +kernel
theorem dX0_partFor_23 : decode cX0_partFor 23 = .ok (.iload_n 2, 1) := by decide +kernel
theorem dX0_partFor_24 : decode cX0_partFor 24 = .ok (.iaload, 1) := by decide +kernel
theorem dX0_partFor_25 : decode cX0_partFor 25 = .ok (.ireturn, 1) := by decide +kernel
theorem dX0_partFor_26 : decode cX0_partFor 26 = .ok (.iinc 2 1, 3) := by decide +kernel
theorem dX0_partFor_29 : decode cX0_partFor 29 = .ok (.goto (-27), 3) := by decide +kernel
theorem dX0_partFor_32 : decode cX0_partFor 32 = .ok (.iconst 0, 1) := by decide +kernel
theorem dX0_partFor_33 : decode cX0_partFor 33 = .ok (.ireturn, 1) := by decide +kernel
theorem dX0_allHold_0 : decode cX0_allHold 0 = .ok (.iconst 0, 1) := by decide +kernel
theorem dX0_allHold_1 : decode cX0_allHold 1 = .ok (.istore_n 3, 1) := by decide +kernel
theorem dX0_allHold_2 : decode cX0_allHold 2 = .ok (.iload_n 3, 1) := by decide +kernel
theorem dX0_allHold_3 : decode cX0_allHold 3 = .ok (.aload_n 0, 1) := by decide +kernel
theorem dX0_allHold_4 : decode cX0_allHold 4 = .ok (.getfield 19, 3) := by decide +kernel
theorem dX0_allHold_7 : decode cX0_allHold 7 = .ok (.iload_n 1, 1) := by decide +kernel
theorem dX0_allHold_8 : decode cX0_allHold 8 = .ok (.iaload, 1) := by decide +kernel
theorem dX0_allHold_9 : decode cX0_allHold 9 = .ok (.if_icmp .ge 24, 3) := by decide +kernel
theorem dX0_allHold_12 : decode cX0_allHold 12 = .ok (.aload_n 0, 1) := by decide +kernel
theorem dX0_allHold_13 : decode cX0_allHold 13 = .ok (.iload_n 1, 1) := by decide +kernel
theorem dX0_allHold_14 : decode cX0_allHold 14 = .ok (.iconst 4, 1) := by decide +kernel
theorem dX0_allHold_15 : decode cX0_allHold 15 = .ok (.imul, 1) := by decide +kernel
theorem dX0_allHold_16 : decode cX0_allHold 16 = .ok (.iload_n 3, 1) := by decide +kernel
theorem dX0_allHold_17 : decode cX0_allHold 17 = .ok (.iadd, 1) := by decide +kernel
theorem dX0_allHold_18 : decode cX0_allHold 18 = .ok (.aload_n 2, 1) := by decide +kernel
theorem dX0_allHold_19 : decode cX0_allHold 19 = .ok (.invokevirtual 41, 3) := by decide +kernel
theorem dX0_allHold_22 : decode cX0_allHold 22 = .ok (.ifCond .ne 5, 3) := by decide +kernel
theorem dX0_allHold_25 : decode cX0_allHold 25 = .ok (.iconst 0, 1) := by decide +kernel
theorem dX0_allHold_26 : decode cX0_allHold 26 = .ok (.ireturn, 1) := by decide +kernel
theorem dX0_allHold_27 : decode cX0_allHold 27 = .ok (.iinc 3 1, 3) := by decide +kernel
theorem dX0_allHold_30 : decode cX0_allHold 30 = .ok (.goto (-28), 3) := by decide +kernel
theorem dX0_allHold_33 : decode cX0_allHold 33 = .ok (.iconst 1, 1) := by decide +kernel
theorem dX0_allHold_34 : decode cX0_allHold 34 = .ok (.ireturn, 1) := by decide +kernel
theorem dX0_holds_0 : decode cX0_holds 0 = .ok (.aload_n 2, 1) := by decide +kernel
theorem dX0_holds_1 : decode cX0_holds 1 = .ok (.aload_n 0, 1) := by decide +kernel
theorem dX0_holds_2 : decode cX0_holds 2 = .ok (.getfield 22, 3) := by decide +kernel
theorem dX0_holds_5 : decode cX0_holds 5 = .ok (.iload_n 1, 1) := by decide +kernel
theorem dX0_holds_6 : decode cX0_holds 6 = .ok (.iaload, 1) := by decide +kernel
theorem dX0_holds_7 : decode cX0_holds 7 = .ok (.invokevirtual 44, 3) := by decide +kernel
theorem dX0_holds_10 : decode cX0_holds 10 = .ok (.istore_n 3, 1) := by decide +kernel
theorem dX0_holds_11 : decode cX0_holds 11 = .ok (.aload_n 0, 1) := by decide +kernel
theorem dX0_holds_12 : decode cX0_holds 12 = .ok (.getfield 28, 3) := by decide +kernel
theorem dX0_holds_15 : decode cX0_holds 15 = .ok (.iload_n 1, 1) := by decide +kernel
theorem dX0_holds_16 : decode cX0_holds 16 = .ok (.iaload, 1) := by decide +kernel
theorem dX0_holds_17 : decode cX0_holds 17 = .ok (.istore 4, 2) := by decide +kernel
theorem dX0_holds_19 : decode cX0_holds 19 = .ok (.iload_n 3, 1) := by decide +kernel
theorem dX0_holds_20 : decode cX0_holds 20 = .ok (.iload 4, 2) := by decide +kernel
theorem dX0_holds_22 : decode cX0_holds 22 = .ok (.if_icmp .ge 7, 3) := by decide +kernel
theorem dX0_holds_25 : decode cX0_holds 25 = .ok (.iconst 1, 1) := by decide +kernel
theorem dX0_holds_26 : decode cX0_holds 26 = .ok (.goto 14, 3) := by decide +kernel
theorem dX0_holds_29 : decode cX0_holds 29 = .ok (.iload_n 3, 1) := by decide +kernel
theorem dX0_holds_30 : decode cX0_holds 30 = .ok (.iload 4, 2) := by decide +kernel
theorem dX0_holds_32 : decode cX0_holds 32 = .ok (.if_icmp .le 7, 3) := by decide +kernel
theorem dX0_holds_35 : decode cX0_holds 35 = .ok (.iconst 4, 1) := by decide +kernel
theorem dX0_holds_36 : decode cX0_holds 36 = .ok (.goto 4, 3) := by decide +kernel
theorem dX0_holds_39 : decode cX0_holds 39 = .ok (.iconst 2, 1) := by decide +kernel
theorem dX0_holds_40 : decode cX0_holds 40 = .ok (.istore 5, 2) := by decide +kernel
theorem dX0_holds_42 : decode cX0_holds 42 = .ok (.aload_n 0, 1) := by decide +kernel
theorem dX0_holds_43 : decode cX0_holds 43 = .ok (.getfield 25, 3) := by decide +kernel
theorem dX0_holds_46 : decode cX0_holds 46 = .ok (.iload_n 1, 1) := by decide +kernel
theorem dX0_holds_47 : decode cX0_holds 47 = .ok (.iaload, 1) := by decide +kernel
theorem dX0_holds_48 : decode cX0_holds 48 = .ok (.iload 5, 2) := by decide +kernel
theorem dX0_holds_50 : decode cX0_holds 50 = .ok (.iand, 1) := by decide +kernel
theorem dX0_holds_51 : decode cX0_holds 51 = .ok (.ifCond .eq 7, 3) := by decide +kernel
theorem dX0_holds_54 : decode cX0_holds 54 = .ok (.iconst 1, 1) := by decide +kernel
theorem dX0_holds_55 : decode cX0_holds 55 = .ok (.goto 4, 3) := by decide +kernel
theorem dX0_holds_58 : decode cX0_holds 58 = .ok (.iconst 0, 1) := by decide +kernel
theorem dX0_holds_59 : decode cX0_holds 59 = .ok (.ireturn, 1) := by decide +kernel
theorem dX1_init_0 : decode cX1_init 0 = .ok (.aload_n 0, 1) := by decide +kernel
theorem dX1_init_1 : decode cX1_init 1 = .ok (.invokespecial 3, 3) := by decide +kernel
theorem dX1_init_4 : decode cX1_init 4 = .ok (.aload_n 0, 1) := by decide +kernel
theorem dX1_init_5 : decode cX1_init 5 = .ok (.iconst 0, 1) := by decide +kernel
theorem dX1_init_6 : decode cX1_init 6 = .ok (.putfield 9, 3) := by decide +kernel
theorem dX1_init_9 : decode cX1_init 9 = .ok (.aload_n 0, 1) := by decide +kernel
theorem dX1_init_10 : decode cX1_init 10 = .ok (.iconst 0, 1) := by decide +kernel
theorem dX1_init_11 : decode cX1_init 11 = .ok (.putfield 15, 3) := by decide +kernel
theorem dX1_init_14 : decode cX1_init 14 = .ok (.aload_n 0, 1) := by decide +kernel
theorem dX1_init_15 : decode cX1_init 15 = .ok (.iconst 0, 1) := by decide +kernel
theorem dX1_init_16 : decode cX1_init 16 = .ok (.putfield 18, 3) := by decide +kernel
theorem dX1_init_19 : decode cX1_init 19 = .ok (.aload_n 0, 1) := by decide +kernel
theorem dX1_init_20 : decode cX1_init 20 = .ok (.iconst 0, 1) := by decide +kernel
theorem dX1_init_21 : decode cX1_init 21 = .ok (.putfield 22, 3) := by decide +kernel
theorem dX1_init_24 : decode cX1_init 24 = .ok (.aload_n 0, 1) := by decide +kernel
theorem dX1_init_25 : decode cX1_init 25 = .ok (.iconst 0, 1) := by decide +kernel
theorem dX1_init_26 : decode cX1_init 26 = .ok (.putfield 25, 3) := by decide +kernel
theorem dX1_init_29 : decode cX1_init 29 = .ok (.aload_n 0, 1) := by decide +kernel
theorem dX1_init_30 : decode cX1_init 30 = .ok (.bipush 8, 2) := by decide +kernel
theorem dX1_init_32 : decode cX1_init 32 = .ok (.newarray .int, 2) := by decide +kernel
theorem dX1_init_34 : decode cX1_init 34 = .ok (.putfield 28, 3) := by decide +kernel
theorem dX1_init_37 : decode cX1_init 37 = .ok (.aload_n 0, 1) := by decide +kernel
theorem dX1_init_38 : decode cX1_init 38 = .ok (.bipush 8, 2) := by decide +kernel
theorem dX1_init_40 : decode cX1_init 40 = .ok (.newarray .int, 2) := by decide +kernel
theorem dX1_init_42 : decode cX1_init 42 = .ok (.putfield 32, 3) := by decide +kernel
theorem dX1_init_45 : decode cX1_init 45 = .ok (.aload_n 0, 1) := by decide +kernel
theorem dX1_init_46 : decode cX1_init 46 = .ok (.bipush 8, 2) := by decide +kernel
theorem dX1_init_48 : decode cX1_init 48 = .ok (.newarray .int, 2) := by decide +kernel
theorem dX1_init_50 : decode cX1_init 50 = .ok (.putfield 35, 3) := by decide +kernel
theorem dX1_init_53 : decode cX1_init 53 = .ok (.aload_n 0, 1) := by decide +kernel
theorem dX1_init_54 : decode cX1_init 54 = .ok (.bipush 8, 2) := by decide +kernel
theorem dX1_init_56 : decode cX1_init 56 = .ok (.newarray .int, 2) := by decide +kernel
theorem dX1_init_58 : decode cX1_init 58 = .ok (.putfield 38, 3) := by decide +kernel
theorem dX1_init_61 : decode cX1_init 61 = .ok (.return_, 1) := by decide +kernel
theorem dX1_copyFrom_0 : decode cX1_copyFrom 0 = .ok (.aload_n 0, 1) := by decide +kernel
theorem dX1_copyFrom_1 : decode cX1_copyFrom 1 = .ok (.aload_n 1, 1) := by decide +kernel
theorem dX1_copyFrom_2 : decode cX1_copyFrom 2 = .ok (.getfield 9, 3) := by decide +kernel
theorem dX1_copyFrom_5 : decode cX1_copyFrom 5 = .ok (.putfield 9, 3) := by decide +kernel
theorem dX1_copyFrom_8 : decode cX1_copyFrom 8 = .ok (.aload_n 0, 1) := by decide +kernel
theorem dX1_copyFrom_9 : decode cX1_copyFrom 9 = .ok (.aload_n 1, 1) := by decide +kernel
theorem dX1_copyFrom_10 : decode cX1_copyFrom 10 = .ok (.getfield 15, 3) := by decide +kernel
theorem dX1_copyFrom_13 : decode cX1_copyFrom 13 = .ok (.putfield 15, 3) := by decide +kernel
theorem dX1_copyFrom_16 : decode cX1_copyFrom 16 = .ok (.aload_n 0, 1) := by decide +kernel
theorem dX1_copyFrom_17 : decode cX1_copyFrom 17 = .ok (.aload_n 1, 1) := by decide +kernel
theorem dX1_copyFrom_18 : decode cX1_copyFrom 18 = .ok (.getfield 18, 3) := by decide +kernel
theorem dX1_copyFrom_21 : decode cX1_copyFrom 21 = .ok (.putfield 18, 3) := by decide +kernel
theorem dX1_copyFrom_24 : decode cX1_copyFrom 24 = .ok (.aload_n 0, 1) := by decide +kernel
theorem dX1_copyFrom_25 : decode cX1_copyFrom 25 = .ok (.aload_n 1, 1) := by decide +kernel
theorem dX1_copyFrom_26 : decode cX1_copyFrom 26 = .ok (.getfield 22, 3) := by decide +kernel
theorem dX1_copyFrom_29 : decode cX1_copyFrom 29 = .ok (.putfield 22, 3) := by decide +kernel
theorem dX1_copyFrom_32 : decode cX1_copyFrom 32 = .ok (.aload_n 0, 1) := by decide +kernel
theorem dX1_copyFrom_33 : decode cX1_copyFrom 33 = .ok (.aload_n 1, 1) := by decide +kernel
theorem dX1_copyFrom_34 : decode cX1_copyFrom 34 = .ok (.getfield 25, 3) := by decide +kernel
theorem dX1_copyFrom_37 : decode cX1_copyFrom 37 = .ok (.putfield 25, 3) := by decide +kernel
theorem dX1_copyFrom_40 : decode cX1_copyFrom 40 = .ok (.aload_n 1, 1) := by decide +kernel
theorem dX1_copyFrom_41 : decode cX1_copyFrom 41 = .ok (.getfield 28, 3) := by decide +kernel
theorem dX1_copyFrom_44 : decode cX1_copyFrom 44 = .ok (.iconst 0, 1) := by decide +kernel
theorem dX1_copyFrom_45 : decode cX1_copyFrom 45 = .ok (.aload_n 0, 1) := by decide +kernel
theorem dX1_copyFrom_46 : decode cX1_copyFrom 46 = .ok (.getfield 28, 3) := by decide +kernel
theorem dX1_copyFrom_49 : decode cX1_copyFrom 49 = .ok (.iconst 0, 1) := by decide +kernel
theorem dX1_copyFrom_50 : decode cX1_copyFrom 50 = .ok (.bipush 8, 2) := by decide +kernel
theorem dX1_copyFrom_52 : decode cX1_copyFrom 52 = .ok (.invokestatic 41, 3) := by decide +kernel
theorem dX1_copyFrom_55 : decode cX1_copyFrom 55 = .ok (.aload_n 1, 1) := by decide +kernel
theorem dX1_copyFrom_56 : decode cX1_copyFrom 56 = .ok (.getfield 32, 3) := by decide +kernel
theorem dX1_copyFrom_59 : decode cX1_copyFrom 59 = .ok (.iconst 0, 1) := by decide +kernel
theorem dX1_copyFrom_60 : decode cX1_copyFrom 60 = .ok (.aload_n 0, 1) := by decide +kernel
theorem dX1_copyFrom_61 : decode cX1_copyFrom 61 = .ok (.getfield 32, 3) := by decide +kernel
theorem dX1_copyFrom_64 : decode cX1_copyFrom 64 = .ok (.iconst 0, 1) := by decide +kernel
theorem dX1_copyFrom_65 : decode cX1_copyFrom 65 = .ok (.bipush 8, 2) := by decide +kernel
theorem dX1_copyFrom_67 : decode cX1_copyFrom 67 = .ok (.invokestatic 41, 3) := by decide +kernel
theorem dX1_copyFrom_70 : decode cX1_copyFrom 70 = .ok (.aload_n 1, 1) := by decide +kernel
theorem dX1_copyFrom_71 : decode cX1_copyFrom 71 = .ok (.getfield 35, 3) := by decide +kernel
theorem dX1_copyFrom_74 : decode cX1_copyFrom 74 = .ok (.iconst 0, 1) := by decide +kernel
theorem dX1_copyFrom_75 : decode cX1_copyFrom 75 = .ok (.aload_n 0, 1) := by decide +kernel
theorem dX1_copyFrom_76 : decode cX1_copyFrom 76 = .ok (.getfield 35, 3) := by decide +kernel
theorem dX1_copyFrom_79 : decode cX1_copyFrom 79 = .ok (.iconst 0, 1) := by decide +kernel
theorem dX1_copyFrom_80 : decode cX1_copyFrom 80 = .ok (.bipush 8, 2) := by decide +kernel
theorem dX1_copyFrom_82 : decode cX1_copyFrom 82 = .ok (.invokestatic 41, 3) := by decide +kernel
theorem dX1_copyFrom_85 : decode cX1_copyFrom 85 = .ok (.aload_n 1, 1) := by decide +kernel
theorem dX1_copyFrom_86 : decode cX1_copyFrom 86 = .ok (.getfield 38, 3) := by decide +kernel
theorem dX1_copyFrom_89 : decode cX1_copyFrom 89 = .ok (.iconst 0, 1) := by decide +kernel
theorem dX1_copyFrom_90 : decode cX1_copyFrom 90 = .ok (.aload_n 0, 1) := by decide +kernel
theorem dX1_copyFrom_91 : decode cX1_copyFrom 91 = .ok (.getfield 38, 3) := by decide +kernel
theorem dX1_copyFrom_94 : decode cX1_copyFrom 94 = .ok (.iconst 0, 1) := by decide +kernel
theorem dX1_copyFrom_95 : decode cX1_copyFrom 95 = .ok (.bipush 8, 2) := by decide +kernel
theorem dX1_copyFrom_97 : decode cX1_copyFrom 97 = .ok (.invokestatic 41, 3) := by decide +kernel
theorem dX1_copyFrom_100 : decode cX1_copyFrom 100 = .ok (.return_, 1) := by decide +kernel
theorem dX1_takeOrder_0 : decode cX1_takeOrder 0 = .ok (.aload_n 0, 1) := by decide +kernel
theorem dX1_takeOrder_1 : decode cX1_takeOrder 1 = .ok (.getfield 25, 3) := by decide +kernel
theorem dX1_takeOrder_4 : decode cX1_takeOrder 4 = .ok (.bipush 8, 2) := by decide +kernel
theorem dX1_takeOrder_6 : decode cX1_takeOrder 6 = .ok (.if_icmp .lt 4, 3) := by decide +kernel
theorem dX1_takeOrder_9 : decode cX1_takeOrder 9 = .ok (.return_, 1) := by decide +kernel
theorem dX1_takeOrder_10 : decode cX1_takeOrder 10 = .ok (.aload_n 0, 1) := by decide +kernel
theorem dX1_takeOrder_11 : decode cX1_takeOrder 11 = .ok (.getfield 28, 3) := by decide +kernel
theorem dX1_takeOrder_14 : decode cX1_takeOrder 14 = .ok (.aload_n 0, 1) := by decide +kernel
theorem dX1_takeOrder_15 : decode cX1_takeOrder 15 = .ok (.getfield 25, 3) := by decide +kernel
theorem dX1_takeOrder_18 : decode cX1_takeOrder 18 = .ok (.iload_n 1, 1) := by decide +kernel
theorem dX1_takeOrder_19 : decode cX1_takeOrder 19 = .ok (.iastore, 1) := by decide +kernel
theorem dX1_takeOrder_20 : decode cX1_takeOrder 20 = .ok (.aload_n 0, 1) := by decide +kernel
theorem dX1_takeOrder_21 : decode cX1_takeOrder 21 = .ok (.getfield 32, 3) := by decide +kernel
theorem dX1_takeOrder_24 : decode cX1_takeOrder 24 = .ok (.aload_n 0, 1) := by decide +kernel
theorem dX1_takeOrder_25 : decode cX1_takeOrder 25 = .ok (.getfield 25, 3) := by decide +kernel
theorem dX1_takeOrder_28 : decode cX1_takeOrder 28 = .ok (.iload_n 2, 1) := by decide +kernel
theorem dX1_takeOrder_29 : decode cX1_takeOrder 29 = .ok (.iastore, 1) := by decide +kernel
theorem dX1_takeOrder_30 : decode cX1_takeOrder 30 = .ok (.aload_n 0, 1) := by decide +kernel
theorem dX1_takeOrder_31 : decode cX1_takeOrder 31 = .ok (.getfield 35, 3) := by decide +kernel
theorem dX1_takeOrder_34 : decode cX1_takeOrder 34 = .ok (.aload_n 0, 1) := by decide +kernel
theorem dX1_takeOrder_35 : decode cX1_takeOrder 35 = .ok (.getfield 25, 3) := by decide +kernel
theorem dX1_takeOrder_38 : decode cX1_takeOrder 38 = .ok (.iload_n 3, 1) := by decide +kernel
theorem dX1_takeOrder_39 : decode cX1_takeOrder 39 = .ok (.iastore, 1) := by decide +kernel
theorem dX1_takeOrder_40 : decode cX1_takeOrder 40 = .ok (.aload_n 0, 1) := by decide +kernel
theorem dX1_takeOrder_41 : decode cX1_takeOrder 41 = .ok (.getfield 25, 3) := by decide +kernel
theorem dX1_takeOrder_44 : decode cX1_takeOrder 44 = .ok (.istore 4, 2) := by decide +kernel
theorem dX1_takeOrder_46 : decode cX1_takeOrder 46 = .ok (.iload 4, 2) := by decide +kernel
theorem dX1_takeOrder_48 : decode cX1_takeOrder 48 = .ok (.ifCond .le 43, 3) := by decide +kernel
theorem dX1_takeOrder_51 : decode cX1_takeOrder 51 = .ok (.aload_n 0, 1) := by decide +kernel
theorem dX1_takeOrder_52 : decode cX1_takeOrder 52 = .ok (.getfield 32, 3) := by decide +kernel
theorem dX1_takeOrder_55 : decode cX1_takeOrder 55 = .ok (.aload_n 0, 1) := by decide +kernel
theorem dX1_takeOrder_56 : decode cX1_takeOrder 56 = .ok (.getfield 38, 3) := by decide +kernel
theorem dX1_takeOrder_59 : decode cX1_takeOrder 59 = .ok (.iload 4, 2) := by decide +kernel
theorem dX1_takeOrder_61 : decode cX1_takeOrder 61 = .ok (.iconst 1, 1) := by decide +kernel
theorem dX1_takeOrder_62 : decode cX1_takeOrder 62 = .ok (.isub, 1) := by decide +kernel
theorem dX1_takeOrder_63 : decode cX1_takeOrder 63 = .ok (.iaload, 1) := by decide +kernel
theorem dX1_takeOrder_64 : decode cX1_takeOrder 64 = .ok (.iaload, 1) := by decide +kernel
theorem dX1_takeOrder_65 : decode cX1_takeOrder 65 = .ok (.iload_n 2, 1) := by decide +kernel
theorem dX1_takeOrder_66 : decode cX1_takeOrder 66 = .ok (.if_icmp .le 25, 3) := by decide +kernel
theorem dX1_takeOrder_69 : decode cX1_takeOrder 69 = .ok (.aload_n 0, 1) := by decide +kernel
theorem dX1_takeOrder_70 : decode cX1_takeOrder 70 = .ok (.getfield 38, 3) := by decide +kernel
theorem dX1_takeOrder_73 : decode cX1_takeOrder 73 = .ok (.iload 4, 2) := by decide +kernel
theorem dX1_takeOrder_75 : decode cX1_takeOrder 75 = .ok (.aload_n 0, 1) := by decide +kernel
theorem dX1_takeOrder_76 : decode cX1_takeOrder 76 = .ok (.getfield 38, 3) := by decide +kernel
theorem dX1_takeOrder_79 : decode cX1_takeOrder 79 = .ok (.iload 4, 2) := by decide +kernel
theorem dX1_takeOrder_81 : decode cX1_takeOrder 81 = .ok (.iconst 1, 1) := by decide +kernel
theorem dX1_takeOrder_82 : decode cX1_takeOrder 82 = .ok (.isub, 1) := by decide +kernel
theorem dX1_takeOrder_83 : decode cX1_takeOrder 83 = .ok (.iaload, 1) := by decide +kernel
theorem dX1_takeOrder_84 : decode cX1_takeOrder 84 = .ok (.iastore, 1) := by decide +kernel
theorem dX1_takeOrder_85 : decode cX1_takeOrder 85 = .ok (.iinc 4 (-1), 3) := by decide +kernel
theorem dX1_takeOrder_88 : decode cX1_takeOrder 88 = .ok (.goto (-42), 3) := by decide +kernel
theorem dX1_takeOrder_91 : decode cX1_takeOrder 91 = .ok (.aload_n 0, 1) := by decide +kernel
theorem dX1_takeOrder_92 : decode cX1_takeOrder 92 = .ok (.getfield 38, 3) := by decide +kernel
theorem dX1_takeOrder_95 : decode cX1_takeOrder 95 = .ok (.iload 4, 2) := by decide +kernel
theorem dX1_takeOrder_97 : decode cX1_takeOrder 97 = .ok (.aload_n 0, 1) := by decide +kernel
theorem dX1_takeOrder_98 : decode cX1_takeOrder 98 = .ok (.getfield 25, 3) := by decide +kernel
theorem dX1_takeOrder_101 : decode cX1_takeOrder 101 = .ok (.iastore, 1) := by decide +kernel
theorem dX1_takeOrder_102 : decode cX1_takeOrder 102 = .ok (.aload_n 0, 1) := by decide +kernel
theorem dX1_takeOrder_103 : decode cX1_takeOrder 103 = .ok (.dup, 1) := by decide +kernel
theorem dX1_takeOrder_104 : decode cX1_takeOrder 104 = .ok (.getfield 25, 3) := by decide +kernel
theorem dX1_takeOrder_107 : decode cX1_takeOrder 107 = .ok (.iconst 1, 1) := by decide +kernel
theorem dX1_takeOrder_108 : decode cX1_takeOrder 108 = .ok (.iadd, 1) := by decide +kernel
theorem dX1_takeOrder_109 : decode cX1_takeOrder 109 = .ok (.putfield 25, 3) := by decide +kernel
theorem dX1_takeOrder_112 : decode cX1_takeOrder 112 = .ok (.return_, 1) := by decide +kernel
theorem dX1_hasOrders_0 : decode cX1_hasOrders 0 = .ok (.iload_n 1, 1) := by decide +kernel
theorem dX1_hasOrders_1 : decode cX1_hasOrders 1 = .ok (.aload_n 0, 1) := by decide +kernel
theorem dX1_hasOrders_2 : decode cX1_hasOrders 2 = .ok (.getfield 25, 3) := by decide +kernel
theorem dX1_hasOrders_5 : decode cX1_hasOrders 5 = .ok (.iushr, 1) := by decide +kernel
theorem dX1_hasOrders_6 : decode cX1_hasOrders 6 = .ok (.ifCond .ne 7, 3) := by decide +kernel
theorem dX1_hasOrders_9 : decode cX1_hasOrders 9 = .ok (.iconst 1, 1) := by decide +kernel
theorem dX1_hasOrders_10 : decode cX1_hasOrders 10 = .ok (.goto 4, 3) := by decide +kernel
theorem dX1_hasOrders_13 : decode cX1_hasOrders 13 = .ok (.iconst 0, 1) := by decide +kernel
theorem dX1_hasOrders_14 : decode cX1_hasOrders 14 = .ok (.ireturn, 1) := by decide +kernel
theorem dX1_canDo_0 : decode cX1_canDo 0 = .ok (.iconst 0, 1) := by decide +kernel
theorem dX1_canDo_1 : decode cX1_canDo 1 = .ok (.istore_n 2, 1) := by decide +kernel
theorem dX1_canDo_2 : decode cX1_canDo 2 = .ok (.iconst 0, 1) := by decide +kernel
theorem dX1_canDo_3 : decode cX1_canDo 3 = .ok (.istore_n 3, 1) := by decide +kernel
theorem dX1_canDo_4 : decode cX1_canDo 4 = .ok (.iload_n 3, 1) := by decide +kernel
theorem dX1_canDo_5 : decode cX1_canDo 5 = .ok (.aload_n 0, 1) := by decide +kernel
theorem dX1_canDo_6 : decode cX1_canDo 6 = .ok (.getfield 25, 3) := by decide +kernel
theorem dX1_canDo_9 : decode cX1_canDo 9 = .ok (.if_icmp .ge 49, 3) := by decide +kernel
theorem dX1_canDo_12 : decode cX1_canDo 12 = .ok (.aload_n 0, 1) := by decide +kernel
theorem dX1_canDo_13 : decode cX1_canDo 13 = .ok (.getfield 38, 3) := by decide +kernel
theorem dX1_canDo_16 : decode cX1_canDo 16 = .ok (.iload_n 3, 1) := by decide +kernel
theorem dX1_canDo_17 : decode cX1_canDo 17 = .ok (.iaload, 1) := by decide +kernel
theorem dX1_canDo_18 : decode cX1_canDo 18 = .ok (.istore 4, 2) := by decide +kernel
theorem dX1_canDo_20 : decode cX1_canDo 20 = .ok (.iload_n 1, 1) := by decide +kernel
theorem dX1_canDo_21 : decode cX1_canDo 21 = .ok (.iload 4, 2) := by decide +kernel
theorem dX1_canDo_23 : decode cX1_canDo 23 = .ok (.ishr, 1) := by decide +kernel
theorem dX1_canDo_24 : decode cX1_canDo 24 = .ok (.iconst 1, 1) := by decide +kernel
theorem dX1_canDo_25 : decode cX1_canDo 25 = .ok (.iand, 1) := by decide +kernel
theorem dX1_canDo_26 : decode cX1_canDo 26 = .ok (.ifCond .eq 26, 3) := by decide +kernel
theorem dX1_canDo_29 : decode cX1_canDo 29 = .ok (.iload_n 2, 1) := by decide +kernel
theorem dX1_canDo_30 : decode cX1_canDo 30 = .ok (.aload_n 0, 1) := by decide +kernel
theorem dX1_canDo_31 : decode cX1_canDo 31 = .ok (.getfield 28, 3) := by decide +kernel
theorem dX1_canDo_34 : decode cX1_canDo 34 = .ok (.iload 4, 2) := by decide +kernel
theorem dX1_canDo_36 : decode cX1_canDo 36 = .ok (.iaload, 1) := by decide +kernel
theorem dX1_canDo_37 : decode cX1_canDo 37 = .ok (.iadd, 1) := by decide +kernel
theorem dX1_canDo_38 : decode cX1_canDo 38 = .ok (.istore_n 2, 1) := by decide +kernel
theorem dX1_canDo_39 : decode cX1_canDo 39 = .ok (.iload_n 2, 1) := by decide +kernel
theorem dX1_canDo_40 : decode cX1_canDo 40 = .ok (.aload_n 0, 1) := by decide +kernel
theorem dX1_canDo_41 : decode cX1_canDo 41 = .ok (.getfield 32, 3) := by decide +kernel
theorem dX1_canDo_44 : decode cX1_canDo 44 = .ok (.iload 4, 2) := by decide +kernel
theorem dX1_canDo_46 : decode cX1_canDo 46 = .ok (.iaload, 1) := by decide +kernel
theorem dX1_canDo_47 : decode cX1_canDo 47 = .ok (.if_icmp .le 5, 3) := by decide +kernel
theorem dX1_canDo_50 : decode cX1_canDo 50 = .ok (.iconst 0, 1) := by decide +kernel
theorem dX1_canDo_51 : decode cX1_canDo 51 = .ok (.ireturn, 1) := by decide +kernel
theorem dX1_canDo_52 : decode cX1_canDo 52 = .ok (.iinc 3 1, 3) := by decide +kernel
theorem dX1_canDo_55 : decode cX1_canDo 55 = .ok (.goto (-51), 3) := by decide +kernel
theorem dX1_canDo_58 : decode cX1_canDo 58 = .ok (.iconst 1, 1) := by decide +kernel
theorem dX1_canDo_59 : decode cX1_canDo 59 = .ok (.ireturn, 1) := by decide +kernel
theorem dX1_worthOf_0 : decode cX1_worthOf 0 = .ok (.iconst 0, 1) := by decide +kernel
theorem dX1_worthOf_1 : decode cX1_worthOf 1 = .ok (.istore_n 2, 1) := by decide +kernel
theorem dX1_worthOf_2 : decode cX1_worthOf 2 = .ok (.iconst 0, 1) := by decide +kernel
theorem dX1_worthOf_3 : decode cX1_worthOf 3 = .ok (.istore_n 3, 1) := by decide +kernel
theorem dX1_worthOf_4 : decode cX1_worthOf 4 = .ok (.iload_n 3, 1) := by decide +kernel
theorem dX1_worthOf_5 : decode cX1_worthOf 5 = .ok (.aload_n 0, 1) := by decide +kernel
theorem dX1_worthOf_6 : decode cX1_worthOf 6 = .ok (.getfield 25, 3) := by decide +kernel
theorem dX1_worthOf_9 : decode cX1_worthOf 9 = .ok (.if_icmp .ge 26, 3) := by decide +kernel
theorem dX1_worthOf_12 : decode cX1_worthOf 12 = .ok (.iload_n 1, 1) := by decide +kernel
theorem dX1_worthOf_13 : decode cX1_worthOf 13 = .ok (.iload_n 3, 1) := by decide +kernel
theorem dX1_worthOf_14 : decode cX1_worthOf 14 = .ok (.ishr, 1) := by decide +kernel
theorem dX1_worthOf_15 : decode cX1_worthOf 15 = .ok (.iconst 1, 1) := by decide +kernel
theorem dX1_worthOf_16 : decode cX1_worthOf 16 = .ok (.iand, 1) := by decide +kernel
theorem dX1_worthOf_17 : decode cX1_worthOf 17 = .ok (.ifCond .eq 12, 3) := by decide +kernel
theorem dX1_worthOf_20 : decode cX1_worthOf 20 = .ok (.iload_n 2, 1) := by decide +kernel
theorem dX1_worthOf_21 : decode cX1_worthOf 21 = .ok (.aload_n 0, 1) := by decide +kernel
theorem dX1_worthOf_22 : decode cX1_worthOf 22 = .ok (.getfield 35, 3) := by decide +kernel
theorem dX1_worthOf_25 : decode cX1_worthOf 25 = .ok (.iload_n 3, 1) := by decide +kernel
theorem dX1_worthOf_26 : decode cX1_worthOf 26 = .ok (.iaload, 1) := by decide +kernel
theorem dX1_worthOf_27 : decode cX1_worthOf 27 = .ok (.iadd, 1) := by decide +kernel
theorem dX1_worthOf_28 : decode cX1_worthOf 28 = .ok (.istore_n 2, 1) := by decide +kernel
theorem dX1_worthOf_29 : decode cX1_worthOf 29 = .ok (.iinc 3 1, 3) := by decide +kernel
theorem dX1_worthOf_32 : decode cX1_worthOf 32 = .ok (.goto (-28), 3) := by decide +kernel
theorem dX1_worthOf_35 : decode cX1_worthOf 35 = .ok (.iload_n 2, 1) := by decide +kernel
theorem dX1_worthOf_36 : decode cX1_worthOf 36 = .ok (.ireturn, 1) := by decide +kernel
theorem dX1_bestOrders_0 : decode cX1_bestOrders 0 = .ok (.iconst 0, 1) := by decide +kernel
theorem dX1_bestOrders_1 : decode cX1_bestOrders 1 = .ok (.istore_n 1, 1) := by decide +kernel
theorem dX1_bestOrders_2 : decode cX1_bestOrders 2 = .ok (.iconst 0, 1) := by decide +kernel
theorem dX1_bestOrders_3 : decode cX1_bestOrders 3 = .ok (.istore_n 2, 1) := by decide +kernel
theorem dX1_bestOrders_4 : decode cX1_bestOrders 4 = .ok (.iconst 1, 1) := by decide +kernel
theorem dX1_bestOrders_5 : decode cX1_bestOrders 5 = .ok (.istore_n 3, 1) := by decide +kernel
theorem dX1_bestOrders_6 : decode cX1_bestOrders 6 = .ok (.iload_n 3, 1) := by decide +kernel
theorem dX1_bestOrders_7 : decode cX1_bestOrders 7 = .ok (.iconst 1, 1) := by decide +kernel
theorem dX1_bestOrders_8 : decode cX1_bestOrders 8 = .ok (.aload_n 0, 1) := by decide +kernel
theorem dX1_bestOrders_9 : decode cX1_bestOrders 9 = .ok (.getfield 25, 3) := by decide +kernel
theorem dX1_bestOrders_12 : decode cX1_bestOrders 12 = .ok (.ishl, 1) := by decide +kernel
theorem dX1_bestOrders_13 : decode cX1_bestOrders 13 = .ok (.if_icmp .ge 35, 3) := by decide +kernel
theorem dX1_bestOrders_16 : decode cX1_bestOrders 16 = .ok (.aload_n 0, 1) := by decide +kernel
theorem dX1_bestOrders_17 : decode cX1_bestOrders 17 = .ok (.iload_n 3, 1) := by decide +kernel
theorem dX1_bestOrders_18 : decode cX1_bestOrders 18 = .ok (.invokevirtual 47, 3) := by decide +kernel
theorem dX1_bestOrders_21 : decode cX1_bestOrders 21 = .ok (.istore 4, 2) := by decide +kernel
theorem dX1_bestOrders_23 : decode cX1_bestOrders 23 = .ok (.iload 4, 2) := by decide +kernel
theorem dX1_bestOrders_25 : decode cX1_bestOrders 25 = .ok (.iload_n 2, 1) := by decide +kernel
theorem dX1_bestOrders_26 : decode cX1_bestOrders 26 = .ok (.if_icmp .le 16, 3) := by decide +kernel
theorem dX1_bestOrders_29 : decode cX1_bestOrders 29 = .ok (.aload_n 0, 1) := by decide +kernel
theorem dX1_bestOrders_30 : decode cX1_bestOrders 30 = .ok (.iload_n 3, 1) := by decide +kernel
theorem dX1_bestOrders_31 : decode cX1_bestOrders 31 = .ok (.invokevirtual 51, 3) := by decide +kernel
theorem dX1_bestOrders_34 : decode cX1_bestOrders 34 = .ok (.ifCond .eq 8, 3) := by decide +kernel
theorem dX1_bestOrders_37 : decode cX1_bestOrders 37 = .ok (.iload_n 3, 1) := by decide +kernel
theorem dX1_bestOrders_38 : decode cX1_bestOrders 38 = .ok (.istore_n 1, 1) := by decide +kernel
theorem dX1_bestOrders_39 : decode cX1_bestOrders 39 = .ok (.iload 4, 2) := by decide +kernel
theorem dX1_bestOrders_41 : decode cX1_bestOrders 41 = .ok (.istore_n 2, 1) := by decide +kernel
theorem dX1_bestOrders_42 : decode cX1_bestOrders 42 = .ok (.iinc 3 1, 3) := by decide +kernel
theorem dX1_bestOrders_45 : decode cX1_bestOrders 45 = .ok (.goto (-39), 3) := by decide +kernel
theorem dX1_bestOrders_48 : decode cX1_bestOrders 48 = .ok (.iload_n 1, 1) := by decide +kernel
theorem dX1_bestOrders_49 : decode cX1_bestOrders 49 = .ok (.ireturn, 1) := by decide +kernel
theorem dX2_init_0 : decode cX2_init 0 = .ok (.aload_n 0, 1) := by decide +kernel
theorem dX2_init_1 : decode cX2_init 1 = .ok (.invokespecial 3, 3) := by decide +kernel
theorem dX2_init_4 : decode cX2_init 4 = .ok (.aload_n 0, 1) := by decide +kernel
theorem dX2_init_5 : decode cX2_init 5 = .ok (.iconst 0, 1) := by decide +kernel
theorem dX2_init_6 : decode cX2_init 6 = .ok (.putfield 9, 3) := by decide +kernel
theorem dX2_init_9 : decode cX2_init 9 = .ok (.aload_n 0, 1) := by decide +kernel
theorem dX2_init_10 : decode cX2_init 10 = .ok (.iconst 0, 1) := by decide +kernel
theorem dX2_init_11 : decode cX2_init 11 = .ok (.putfield 15, 3) := by decide +kernel
theorem dX2_init_14 : decode cX2_init 14 = .ok (.aload_n 0, 1) := by decide +kernel
theorem dX2_init_15 : decode cX2_init 15 = .ok (.iconst 0, 1) := by decide +kernel
theorem dX2_init_16 : decode cX2_init 16 = .ok (.putfield 18, 3) := by decide +kernel
theorem dX2_init_19 : decode cX2_init 19 = .ok (.aload_n 0, 1) := by decide +kernel
theorem dX2_init_20 : decode cX2_init 20 = .ok (.bipush 6, 2) := by decide +kernel
theorem dX2_init_22 : decode cX2_init 22 = .ok (.newarray .int, 2) := by decide +kernel
theorem dX2_init_24 : decode cX2_init 24 = .ok (.putfield 21, 3) := by decide +kernel
theorem dX2_init_27 : decode cX2_init 27 = .ok (.aload_n 0, 1) := by decide +kernel
theorem dX2_init_28 : decode cX2_init 28 = .ok (.bipush 6, 2) := by decide +kernel
theorem dX2_init_30 : decode cX2_init 30 = .ok (.newarray .int, 2) := by decide +kernel
theorem dX2_init_32 : decode cX2_init 32 = .ok (.putfield 25, 3) := by decide +kernel
theorem dX2_init_35 : decode cX2_init 35 = .ok (.aload_n 0, 1) := by decide +kernel
theorem dX2_init_36 : decode cX2_init 36 = .ok (.bipush 24, 2) := by decide +kernel
theorem dX2_init_38 : decode cX2_init 38 = .ok (.newarray .int, 2) := by decide +kernel
theorem dX2_init_40 : decode cX2_init 40 = .ok (.putfield 28, 3) := by decide +kernel
theorem dX2_init_43 : decode cX2_init 43 = .ok (.aload_n 0, 1) := by decide +kernel
theorem dX2_init_44 : decode cX2_init 44 = .ok (.bipush 24, 2) := by decide +kernel
theorem dX2_init_46 : decode cX2_init 46 = .ok (.newarray .int, 2) := by decide +kernel
theorem dX2_init_48 : decode cX2_init 48 = .ok (.putfield 31, 3) := by decide +kernel
theorem dX2_init_51 : decode cX2_init 51 = .ok (.aload_n 0, 1) := by decide +kernel
theorem dX2_init_52 : decode cX2_init 52 = .ok (.iconst 3, 1) := by decide +kernel
theorem dX2_init_53 : decode cX2_init 53 = .ok (.invokevirtual 34, 3) := by decide +kernel
theorem dX2_init_56 : decode cX2_init 56 = .ok (.aload_n 0, 1) := by decide +kernel
theorem dX2_init_57 : decode cX2_init 57 = .ok (.invokevirtual 38, 3) := by decide +kernel
theorem dX2_init_60 : decode cX2_init 60 = .ok (.return_, 1) := by decide +kernel
theorem dX2_build_0 : decode cX2_build 0 = .ok (.aload_n 0, 1) := by decide +kernel
theorem dX2_build_1 : decode cX2_build 1 = .ok (.iload_n 1, 1) := by decide +kernel
theorem dX2_build_2 : decode cX2_build 2 = .ok (.putfield 9, 3) := by decide +kernel
theorem dX2_build_5 : decode cX2_build 5 = .ok (.iconst 0, 1) := by decide +kernel
theorem dX2_build_6 : decode cX2_build 6 = .ok (.istore_n 2, 1) := by decide +kernel
theorem dX2_build_7 : decode cX2_build 7 = .ok (.iload_n 2, 1) := by decide +kernel
theorem dX2_build_8 : decode cX2_build 8 = .ok (.bipush 6, 2) := by decide +kernel
theorem dX2_build_10 : decode cX2_build 10 = .ok (.if_icmp .ge 17, 3) := by decide +kernel
theorem dX2_build_13 : decode cX2_build 13 = .ok (.aload_n 0, 1) := by decide +kernel
theorem dX2_build_14 : decode cX2_build 14 = .ok (.getfield 21, 3) := by decide +kernel
theorem dX2_build_17 : decode cX2_build 17 = .ok (.iload_n 2, 1) := by decide +kernel
theorem dX2_build_18 : decode cX2_build 18 = .ok (.bipush 20, 2) := by decide +kernel
theorem dX2_build_20 : decode cX2_build 20 = .ok (.iastore, 1) := by decide +kernel
theorem dX2_build_21 : decode cX2_build 21 = .ok (.iinc 2 1, 3) := by decide +kernel
theorem dX2_build_24 : decode cX2_build 24 = .ok (.goto (-17), 3) := by decide +kernel
theorem dX2_build_27 : decode cX2_build 27 = .ok (.iconst 0, 1) := by decide +kernel
theorem dX2_build_28 : decode cX2_build 28 = .ok (.istore_n 2, 1) := by decide +kernel
theorem dX2_build_29 : decode cX2_build 29 = .ok (.iload_n 2, 1) := by decide +kernel
theorem dX2_build_30 : decode cX2_build 30 = .ok (.bipush 24, 2) := by decide +kernel
theorem dX2_build_32 : decode cX2_build 32 = .ok (.if_icmp .ge 25, 3) := by decide +kernel
theorem dX2_build_35 : decode cX2_build 35 = .ok (.aload_n 0, 1) := by decide +kernel
theorem dX2_build_36 : decode cX2_build 36 = .ok (.getfield 28, 3) := by decide +kernel
theorem dX2_build_39 : decode cX2_build 39 = .ok (.iload_n 2, 1) := by decide +kernel
theorem dX2_build_40 : decode cX2_build 40 = .ok (.bipush 10, 2) := by decide +kernel
theorem dX2_build_42 : decode cX2_build 42 = .ok (.iload_n 2, 1) := by decide +kernel
theorem dX2_build_43 : decode cX2_build 43 = .ok (.iconst 4, 1) := by decide +kernel
theorem dX2_build_44 : decode cX2_build 44 = .ok (.idiv, 1) := by decide +kernel
theorem dX2_build_45 : decode cX2_build 45 = .ok (.isub, 1) := by decide +kernel
theorem dX2_build_46 : decode cX2_build 46 = .ok (.iload_n 2, 1) := by decide +kernel
theorem dX2_build_47 : decode cX2_build 47 = .ok (.iconst 4, 1) := by decide +kernel
theorem dX2_build_48 : decode cX2_build 48 = .ok (.irem, 1) := by decide +kernel
theorem dX2_build_49 : decode cX2_build 49 = .ok (.iadd, 1) := by decide +kernel
theorem dX2_build_50 : decode cX2_build 50 = .ok (.iastore, 1) := by decide +kernel
theorem dX2_build_51 : decode cX2_build 51 = .ok (.iinc 2 1, 3) := by decide +kernel
theorem dX2_build_54 : decode cX2_build 54 = .ok (.goto (-25), 3) := by decide +kernel
theorem dX2_build_57 : decode cX2_build 57 = .ok (.return_, 1) := by decide +kernel
theorem dX2_clear_0 : decode cX2_clear 0 = .ok (.iconst 0, 1) := by decide +kernel
theorem dX2_clear_1 : decode cX2_clear 1 = .ok (.istore_n 1, 1) := by decide +kernel
theorem dX2_clear_2 : decode cX2_clear 2 = .ok (.iload_n 1, 1) := by decide +kernel
theorem dX2_clear_3 : decode cX2_clear 3 = .ok (.bipush 24, 2) := by decide +kernel
theorem dX2_clear_5 : decode cX2_clear 5 = .ok (.if_icmp .ge 16, 3) := by decide +kernel
theorem dX2_clear_8 : decode cX2_clear 8 = .ok (.aload_n 0, 1) := by decide +kernel
theorem dX2_clear_9 : decode cX2_clear 9 = .ok (.getfield 31, 3) := by decide +kernel
theorem dX2_clear_12 : decode cX2_clear 12 = .ok (.iload_n 1, 1) := by decide +kernel
theorem dX2_clear_13 : decode cX2_clear 13 = .ok (.iconst (-1), 1) := by decide +kernel
theorem dX2_clear_14 : decode cX2_clear 14 = .ok (.iastore, 1) := by decide +kernel
theorem dX2_clear_15 : decode cX2_clear 15 = .ok (.iinc 1 1, 3) := by decide +kernel
theorem dX2_clear_18 : decode cX2_clear 18 = .ok (.goto (-16), 3) := by decide +kernel
theorem dX2_clear_21 : decode cX2_clear 21 = .ok (.return_, 1) := by decide +kernel
theorem dX2_copyFrom_0 : decode cX2_copyFrom 0 = .ok (.aload_n 0, 1) := by decide +kernel
theorem dX2_copyFrom_1 : decode cX2_copyFrom 1 = .ok (.aload_n 1, 1) := by decide +kernel
theorem dX2_copyFrom_2 : decode cX2_copyFrom 2 = .ok (.getfield 9, 3) := by decide +kernel
theorem dX2_copyFrom_5 : decode cX2_copyFrom 5 = .ok (.putfield 9, 3) := by decide +kernel
theorem dX2_copyFrom_8 : decode cX2_copyFrom 8 = .ok (.aload_n 0, 1) := by decide +kernel
theorem dX2_copyFrom_9 : decode cX2_copyFrom 9 = .ok (.aload_n 1, 1) := by decide +kernel
theorem dX2_copyFrom_10 : decode cX2_copyFrom 10 = .ok (.getfield 15, 3) := by decide +kernel
theorem dX2_copyFrom_13 : decode cX2_copyFrom 13 = .ok (.putfield 15, 3) := by decide +kernel
theorem dX2_copyFrom_16 : decode cX2_copyFrom 16 = .ok (.aload_n 0, 1) := by decide +kernel
theorem dX2_copyFrom_17 : decode cX2_copyFrom 17 = .ok (.aload_n 1, 1) := by decide +kernel
theorem dX2_copyFrom_18 : decode cX2_copyFrom 18 = .ok (.getfield 18, 3) := by decide +kernel
theorem dX2_copyFrom_21 : decode cX2_copyFrom 21 = .ok (.putfield 18, 3) := by decide +kernel
theorem dX2_copyFrom_24 : decode cX2_copyFrom 24 = .ok (.aload_n 1, 1) := by decide +kernel
theorem dX2_copyFrom_25 : decode cX2_copyFrom 25 = .ok (.getfield 21, 3) := by decide +kernel
theorem dX2_copyFrom_28 : decode cX2_copyFrom 28 = .ok (.iconst 0, 1) := by decide +kernel
theorem dX2_copyFrom_29 : decode cX2_copyFrom 29 = .ok (.aload_n 0, 1) := by decide +kernel
theorem dX2_copyFrom_30 : decode cX2_copyFrom 30 = .ok (.getfield 21, 3) := by decide +kernel
theorem dX2_copyFrom_33 : decode cX2_copyFrom 33 = .ok (.iconst 0, 1) := by decide +kernel
theorem dX2_copyFrom_34 : decode cX2_copyFrom 34 = .ok (.bipush 6, 2) := by decide +kernel
theorem dX2_copyFrom_36 : decode cX2_copyFrom 36 = .ok (.invokestatic 41, 3) := by decide +kernel
theorem dX2_copyFrom_39 : decode cX2_copyFrom 39 = .ok (.aload_n 1, 1) := by decide +kernel
theorem dX2_copyFrom_40 : decode cX2_copyFrom 40 = .ok (.getfield 28, 3) := by decide +kernel
theorem dX2_copyFrom_43 : decode cX2_copyFrom 43 = .ok (.iconst 0, 1) := by decide +kernel
theorem dX2_copyFrom_44 : decode cX2_copyFrom 44 = .ok (.aload_n 0, 1) := by decide +kernel
theorem dX2_copyFrom_45 : decode cX2_copyFrom 45 = .ok (.getfield 28, 3) := by decide +kernel
theorem dX2_copyFrom_48 : decode cX2_copyFrom 48 = .ok (.iconst 0, 1) := by decide +kernel
theorem dX2_copyFrom_49 : decode cX2_copyFrom 49 = .ok (.bipush 24, 2) := by decide +kernel
theorem dX2_copyFrom_51 : decode cX2_copyFrom 51 = .ok (.invokestatic 41, 3) := by decide +kernel
theorem dX2_copyFrom_54 : decode cX2_copyFrom 54 = .ok (.aload_n 1, 1) := by decide +kernel
theorem dX2_copyFrom_55 : decode cX2_copyFrom 55 = .ok (.getfield 31, 3) := by decide +kernel
theorem dX2_copyFrom_58 : decode cX2_copyFrom 58 = .ok (.iconst 0, 1) := by decide +kernel
theorem dX2_copyFrom_59 : decode cX2_copyFrom 59 = .ok (.aload_n 0, 1) := by decide +kernel
theorem dX2_copyFrom_60 : decode cX2_copyFrom 60 = .ok (.getfield 31, 3) := by decide +kernel
theorem dX2_copyFrom_63 : decode cX2_copyFrom 63 = .ok (.iconst 0, 1) := by decide +kernel
theorem dX2_copyFrom_64 : decode cX2_copyFrom 64 = .ok (.bipush 24, 2) := by decide +kernel
theorem dX2_copyFrom_66 : decode cX2_copyFrom 66 = .ok (.invokestatic 41, 3) := by decide +kernel
theorem dX2_copyFrom_69 : decode cX2_copyFrom 69 = .ok (.return_, 1) := by decide +kernel
theorem dX2_hasChamber_0 : decode cX2_hasChamber 0 = .ok (.iload_n 1, 1) := by decide +kernel
theorem dX2_hasChamber_1 : decode cX2_hasChamber 1 = .ok (.iconst 0, 1) := by decide +kernel
theorem dX2_hasChamber_2 : decode cX2_hasChamber 2 = .ok (.aload_n 0, 1) := by decide +kernel
theorem dX2_hasChamber_3 : decode cX2_hasChamber 3 = .ok (.getfield 9, 3) := by decide +kernel
theorem dX2_hasChamber_6 : decode cX2_hasChamber 6 = .ok (.iconst 1, 1) := by decide +kernel
theorem dX2_hasChamber_7 : decode cX2_hasChamber 7 = .ok (.isub, 1) := by decide +kernel
theorem dX2_hasChamber_8 : decode cX2_hasChamber 8 = .ok (.invokestatic 47, 3) := by decide +kernel
theorem dX2_hasChamber_11 : decode cX2_hasChamber 11 = .ok (.ireturn, 1) := by decide +kernel
theorem dX2_hasPlace_0 : decode cX2_hasPlace 0 = .ok (.aload_n 0, 1) := by decide +kernel
theorem dX2_hasPlace_1 : decode cX2_hasPlace 1 = .ok (.iload_n 1, 1) := by decide +kernel
theorem dX2_hasPlace_2 : decode cX2_hasPlace 2 = .ok (.invokevirtual 51, 3) := by decide +kernel
theorem dX2_hasPlace_5 : decode cX2_hasPlace 5 = .ok (.ifCond .eq 16, 3) := by decide +kernel
theorem dX2_hasPlace_8 : decode cX2_hasPlace 8 = .ok (.iload_n 2, 1) := by decide +kernel
theorem dX2_hasPlace_9 : decode cX2_hasPlace 9 = .ok (.iconst 0, 1) := by decide +kernel
theorem dX2_hasPlace_10 : decode cX2_hasPlace 10 = .ok (.iconst 3, 1) := by decide +kernel
theorem dX2_hasPlace_11 : decode cX2_hasPlace 11 = .ok (.invokestatic 47, 3) := by decide +kernel
theorem dX2_hasPlace_14 : decode cX2_hasPlace 14 = .ok (.ifCond .eq 7, 3) := by decide +kernel
theorem dX2_hasPlace_17 : decode cX2_hasPlace 17 = .ok (.iconst 1, 1) := by decide +kernel
theorem dX2_hasPlace_18 : decode cX2_hasPlace 18 = .ok (.goto 4, 3) := by decide +kernel
theorem dX2_hasPlace_21 : decode cX2_hasPlace 21 = .ok (.iconst 0, 1) := by decide +kernel
theorem dX2_hasPlace_22 : decode cX2_hasPlace 22 = .ok (.ireturn, 1) := by decide +kernel
theorem dX2_burn_0 : decode cX2_burn 0 = .ok (.aload_n 0, 1) := by decide +kernel
theorem dX2_burn_1 : decode cX2_burn 1 = .ok (.getfield 21, 3) := by decide +kernel
theorem dX2_burn_4 : decode cX2_burn 4 = .ok (.iconst 0, 1) := by decide +kernel
theorem dX2_burn_5 : decode cX2_burn 5 = .ok (.aload_n 0, 1) := by decide +kernel
theorem dX2_burn_6 : decode cX2_burn 6 = .ok (.getfield 25, 3) := by decide +kernel
theorem dX2_burn_9 : decode cX2_burn 9 = .ok (.iconst 0, 1) := by decide +kernel
theorem dX2_burn_10 : decode cX2_burn 10 = .ok (.bipush 6, 2) := by decide +kernel
theorem dX2_burn_12 : decode cX2_burn 12 = .ok (.invokestatic 41, 3) := by decide +kernel
theorem dX2_burn_15 : decode cX2_burn 15 = .ok (.iconst 0, 1) := by decide +kernel
theorem dX2_burn_16 : decode cX2_burn 16 = .ok (.istore_n 3, 1) := by decide +kernel
theorem dX2_burn_17 : decode cX2_burn 17 = .ok (.iload_n 3, 1) := by decide +kernel
theorem dX2_burn_18 : decode cX2_burn 18 = .ok (.aload_n 0, 1) := by decide +kernel
theorem dX2_burn_19 : decode cX2_burn 19 = .ok (.getfield 9, 3) := by decide +kernel
theorem dX2_burn_22 : decode cX2_burn 22 = .ok (.if_icmp .ge 30, 3) := by decide +kernel
theorem dX2_burn_25 : decode cX2_burn 25 = .ok (.aload_n 0, 1) := by decide +kernel
theorem dX2_burn_26 : decode cX2_burn 26 = .ok (.getfield 21, 3) := by decide +kernel
theorem dX2_burn_29 : decode cX2_burn 29 = .ok (.iload_n 3, 1) := by decide +kernel
theorem dX2_burn_30 : decode cX2_burn 30 = .ok (.dup2, 1) := by decide +kernel
theorem dX2_burn_31 : decode cX2_burn 31 = .ok (.iaload, 1) := by decide +kernel
theorem dX2_burn_32 : decode cX2_burn 32 = .ok (.aload_n 0, 1) := by decide +kernel
theorem dX2_burn_33 : decode cX2_burn 33 = .ok (.getfield 25, 3) := by decide +kernel
theorem dX2_burn_36 : decode cX2_burn 36 = .ok (.iload_n 3, 1) := by decide +kernel
theorem dX2_burn_37 : decode cX2_burn 37 = .ok (.iaload, 1) := by decide +kernel
theorem dX2_burn_38 : decode cX2_burn 38 = .ok (.bipush 20, 2) := by decide +kernel
theorem dX2_burn_40 : decode cX2_burn 40 = .ok (.isub, 1) := by decide +kernel
theorem dX2_burn_41 : decode cX2_burn 41 = .ok (.bipush 16, 2) := by decide +kernel
theorem dX2_burn_43 : decode cX2_burn 43 = .ok (.idiv, 1) := by decide +kernel
theorem dX2_burn_44 : decode cX2_burn 44 = .ok (.isub, 1) := by decide +kernel
theorem dX2_burn_45 : decode cX2_burn 45 = .ok (.iastore, 1) := by decide +kernel
theorem dX2_burn_46 : decode cX2_burn 46 = .ok (.iinc 3 1, 3) := by decide +kernel
theorem dX2_burn_49 : decode cX2_burn 49 = .ok (.goto (-32), 3) := by decide +kernel
theorem dX2_burn_52 : decode cX2_burn 52 = .ok (.iconst 0, 1) := by decide +kernel
theorem dX2_burn_53 : decode cX2_burn 53 = .ok (.istore_n 3, 1) := by decide +kernel
theorem dX2_burn_54 : decode cX2_burn 54 = .ok (.iload_n 3, 1) := by decide +kernel
theorem dX2_burn_55 : decode cX2_burn 55 = .ok (.iconst 1, 1) := by decide +kernel
theorem dX2_burn_56 : decode cX2_burn 56 = .ok (.iadd, 1) := by decide +kernel
theorem dX2_burn_57 : decode cX2_burn 57 = .ok (.aload_n 0, 1) := by decide +kernel
theorem dX2_burn_58 : decode cX2_burn 58 = .ok (.getfield 9, 3) := by decide +kernel
theorem dX2_burn_61 : decode cX2_burn 61 = .ok (.if_icmp .ge 52, 3) := by decide +kernel
theorem dX2_burn_64 : decode cX2_burn 64 = .ok (.aload_n 0, 1) := by decide +kernel
theorem dX2_burn_65 : decode cX2_burn 65 = .ok (.getfield 25, 3) := by decide +kernel
theorem dX2_burn_68 : decode cX2_burn 68 = .ok (.iload_n 3, 1) := by decide +kernel
theorem dX2_burn_69 : decode cX2_burn 69 = .ok (.iaload, 1) := by decide +kernel
theorem dX2_burn_70 : decode cX2_burn 70 = .ok (.aload_n 0, 1) := by decide +kernel
theorem dX2_burn_71 : decode cX2_burn 71 = .ok (.getfield 25, 3) := by decide +kernel
theorem dX2_burn_74 : decode cX2_burn 74 = .ok (.iload_n 3, 1) := by decide +kernel
theorem dX2_burn_75 : decode cX2_burn 75 = .ok (.iconst 1, 1) := by decide +kernel
theorem dX2_burn_76 : decode cX2_burn 76 = .ok (.iadd, 1) := by decide +kernel
theorem dX2_burn_77 : decode cX2_burn 77 = .ok (.iaload, 1) := by decide +kernel
theorem dX2_burn_78 : decode cX2_burn 78 = .ok (.isub, 1) := by decide +kernel
theorem dX2_burn_79 : decode cX2_burn 79 = .ok (.iconst 4, 1) := by decide +kernel
theorem dX2_burn_80 : decode cX2_burn 80 = .ok (.idiv, 1) := by decide +kernel
theorem dX2_burn_81 : decode cX2_burn 81 = .ok (.istore 4, 2) := by decide +kernel
theorem dX2_burn_83 : decode cX2_burn 83 = .ok (.aload_n 0, 1) := by decide +kernel
theorem dX2_burn_84 : decode cX2_burn 84 = .ok (.getfield 21, 3) := by decide +kernel
theorem dX2_burn_87 : decode cX2_burn 87 = .ok (.iload_n 3, 1) := by decide +kernel
theorem dX2_burn_88 : decode cX2_burn 88 = .ok (.dup2, 1) := by decide +kernel
theorem dX2_burn_89 : decode cX2_burn 89 = .ok (.iaload, 1) := by decide +kernel
theorem dX2_burn_90 : decode cX2_burn 90 = .ok (.iload 4, 2) := by decide +kernel
theorem dX2_burn_92 : decode cX2_burn 92 = .ok (.isub, 1) := by decide +kernel
theorem dX2_burn_93 : decode cX2_burn 93 = .ok (.iastore, 1) := by decide +kernel
theorem dX2_burn_94 : decode cX2_burn 94 = .ok (.aload_n 0, 1) := by decide +kernel
theorem dX2_burn_95 : decode cX2_burn 95 = .ok (.getfield 21, 3) := by decide +kernel
theorem dX2_burn_98 : decode cX2_burn 98 = .ok (.iload_n 3, 1) := by decide +kernel
theorem dX2_burn_99 : decode cX2_burn 99 = .ok (.iconst 1, 1) := by decide +kernel
theorem dX2_burn_100 : decode cX2_burn 100 = .ok (.iadd, 1) := by decide +kernel
theorem dX2_burn_101 : decode cX2_burn 101 = .ok (.dup2, 1) := by decide +kernel
theorem dX2_burn_102 : decode cX2_burn 102 = .ok (.iaload, 1) := by decide +kernel
theorem dX2_burn_103 : decode cX2_burn 103 = .ok (.iload 4, 2) := by decide +kernel
theorem dX2_burn_105 : decode cX2_burn 105 = .ok (.iadd, 1) := by decide +kernel
theorem dX2_burn_106 : decode cX2_burn 106 = .ok (.iastore, 1) := by decide +kernel
theorem dX2_burn_107 : decode cX2_burn 107 = .ok (.iinc 3 1, 3) := by decide +kernel
theorem dX2_burn_110 : decode cX2_burn 110 = .ok (.goto (-56), 3) := by decide +kernel
theorem dX2_burn_113 : decode cX2_burn 113 = .ok (.aload_n 0, 1) := by decide +kernel
theorem dX2_burn_114 : decode cX2_burn 114 = .ok (.getfield 21, 3) := by decide +kernel
theorem dX2_burn_117 : decode cX2_burn 117 = .ok (.iload_n 1, 1) := by decide +kernel
theorem dX2_burn_118 : decode cX2_burn 118 = .ok (.dup2, 1) := by decide +kernel
theorem dX2_burn_119 : decode cX2_burn 119 = .ok (.iaload, 1) := by decide +kernel
theorem dX2_burn_120 : decode cX2_burn 120 = .ok (.bipush 60, 2) := by decide +kernel
theorem dX2_burn_122 : decode cX2_burn 122 = .ok (.iload_n 2, 1) := by decide +kernel
theorem dX2_burn_123 : decode cX2_burn 123 = .ok (.imul, 1) := by decide +kernel
theorem dX2_burn_124 : decode cX2_burn 124 = .ok (.iadd, 1) := by decide +kernel
theorem dX2_burn_125 : decode cX2_burn 125 = .ok (.iastore, 1) := by decide +kernel
theorem dX2_burn_126 : decode cX2_burn 126 = .ok (.aload_n 0, 1) := by decide +kernel
theorem dX2_burn_127 : decode cX2_burn 127 = .ok (.dup, 1) := by decide +kernel
theorem dX2_burn_128 : decode cX2_burn 128 = .ok (.getfield 15, 3) := by decide +kernel
theorem dX2_burn_131 : decode cX2_burn 131 = .ok (.iconst 1, 1) := by decide +kernel
theorem dX2_burn_132 : decode cX2_burn 132 = .ok (.iadd, 1) := by decide +kernel
theorem dX2_burn_133 : decode cX2_burn 133 = .ok (.putfield 15, 3) := by decide +kernel
theorem dX2_burn_136 : decode cX2_burn 136 = .ok (.aload_n 0, 1) := by decide +kernel
theorem dX2_burn_137 : decode cX2_burn 137 = .ok (.dup, 1) := by decide +kernel
theorem dX2_burn_138 : decode cX2_burn 138 = .ok (.getfield 18, 3) := by decide +kernel
theorem dX2_burn_141 : decode cX2_burn 141 = .ok (.iload_n 2, 1) := by decide +kernel
theorem dX2_burn_142 : decode cX2_burn 142 = .ok (.iadd, 1) := by decide +kernel
theorem dX2_burn_143 : decode cX2_burn 143 = .ok (.putfield 18, 3) := by decide +kernel
theorem dX2_burn_146 : decode cX2_burn 146 = .ok (.return_, 1) := by decide +kernel
theorem dX2_changeOf_0 : decode cX2_changeOf 0 = .ok (.aload_n 0, 1) := by decide +kernel
theorem dX2_changeOf_1 : decode cX2_changeOf 1 = .ok (.getfield 21, 3) := by decide +kernel
theorem dX2_changeOf_4 : decode cX2_changeOf 4 = .ok (.iload_n 1, 1) := by decide +kernel
theorem dX2_changeOf_5 : decode cX2_changeOf 5 = .ok (.iaload, 1) := by decide +kernel
theorem dX2_changeOf_6 : decode cX2_changeOf 6 = .ok (.aload_n 0, 1) := by decide +kernel
theorem dX2_changeOf_7 : decode cX2_changeOf 7 = .ok (.getfield 25, 3) := by decide +kernel
theorem dX2_changeOf_10 : decode cX2_changeOf 10 = .ok (.iload_n 1, 1) := by decide +kernel
theorem dX2_changeOf_11 : decode cX2_changeOf 11 = .ok (.iaload, 1) := by decide +kernel
theorem dX2_changeOf_12 : decode cX2_changeOf 12 = .ok (.isub, 1) := by decide +kernel
theorem dX2_changeOf_13 : decode cX2_changeOf 13 = .ok (.invokestatic 55, 3) := by decide +kernel
theorem dX2_changeOf_16 : decode cX2_changeOf 16 = .ok (.ireturn, 1) := by decide +kernel
theorem dX2_greatestHeat_0 : decode cX2_greatestHeat 0 = .ok (.aload_n 0, 1) := by decide +kernel
theorem dX2_greatestHeat_1 : decode cX2_greatestHeat 1 = .ok (.getfield 21, 3) := by decide +kernel
theorem dX2_greatestHeat_4 : decode cX2_greatestHeat 4 = .ok (.iconst 0, 1) := by decide +kernel
theorem dX2_greatestHeat_5 : decode cX2_greatestHeat 5 = .ok (.iaload, 1) := by decide +kernel
theorem dX2_greatestHeat_6 : decode cX2_greatestHeat 6 = .ok (.istore_n 1, 1) := by decide +kernel
theorem dX2_greatestHeat_7 : decode cX2_greatestHeat 7 = .ok (.iconst 1, 1) := by decide +kernel
theorem dX2_greatestHeat_8 : decode cX2_greatestHeat 8 = .ok (.istore_n 2, 1) := by decide +kernel
theorem dX2_greatestHeat_9 : decode cX2_greatestHeat 9 = .ok (.iload_n 2, 1) := by decide +kernel
theorem dX2_greatestHeat_10 : decode cX2_greatestHeat 10 = .ok (.aload_n 0, 1) := by decide +kernel
theorem dX2_greatestHeat_11 : decode cX2_greatestHeat 11 = .ok (.getfield 9, 3) := by decide +kernel
theorem dX2_greatestHeat_14 : decode cX2_greatestHeat 14 = .ok (.if_icmp .ge 20, 3) := by decide +kernel
theorem dX2_greatestHeat_17 : decode cX2_greatestHeat 17 = .ok (.iload_n 1, 1) := by decide +kernel
theorem dX2_greatestHeat_18 : decode cX2_greatestHeat 18 = .ok (.aload_n 0, 1) := by decide +kernel
theorem dX2_greatestHeat_19 : decode cX2_greatestHeat 19 = .ok (.getfield 21, 3) := by decide +kernel
theorem dX2_greatestHeat_22 : decode cX2_greatestHeat 22 = .ok (.iload_n 2, 1) := by decide +kernel
theorem dX2_greatestHeat_23 : decode cX2_greatestHeat 23 = .ok (.iaload, 1) := by decide +kernel
theorem dX2_greatestHeat_24 : decode cX2_greatestHeat 24 = .ok (.invokestatic 61, 3) := by decide +kernel
theorem dX2_greatestHeat_27 : decode cX2_greatestHeat 27 = .ok (.istore_n 1, 1) := by decide +kernel
theorem dX2_greatestHeat_28 : decode cX2_greatestHeat 28 = .ok (.iinc 2 1, 3) := by decide +kernel
theorem dX2_greatestHeat_31 : decode cX2_greatestHeat 31 = .ok (.goto (-22), 3) := by decide +kernel
theorem dX2_greatestHeat_34 : decode cX2_greatestHeat 34 = .ok (.iload_n 1, 1) := by decide +kernel
theorem dX2_greatestHeat_35 : decode cX2_greatestHeat 35 = .ok (.ireturn, 1) := by decide +kernel
theorem dX2_heatsTogether_0 : decode cX2_heatsTogether 0 = .ok (.iconst 0, 1) := by decide +kernel
theorem dX2_heatsTogether_1 : decode cX2_heatsTogether 1 = .ok (.istore_n 1, 1) := by decide +kernel
theorem dX2_heatsTogether_2 : decode cX2_heatsTogether 2 = .ok (.iconst 0, 1) := by decide +kernel
theorem dX2_heatsTogether_3 : decode cX2_heatsTogether 3 = .ok (.istore_n 2, 1) := by decide +kernel
theorem dX2_heatsTogether_4 : decode cX2_heatsTogether 4 = .ok (.iload_n 2, 1) := by decide +kernel
theorem dX2_heatsTogether_5 : decode cX2_heatsTogether 5 = .ok (.aload_n 0, 1) := by decide +kernel
theorem dX2_heatsTogether_6 : decode cX2_heatsTogether 6 = .ok (.getfield 9, 3) := by decide +kernel
theorem dX2_heatsTogether_9 : decode cX2_heatsTogether 9 = .ok (.if_icmp .ge 18, 3) := by decide +kernel
theorem dX2_heatsTogether_12 : decode cX2_heatsTogether 12 = .ok (.iload_n 1, 1) := by decide +kernel
theorem dX2_heatsTogether_13 : decode cX2_heatsTogether 13 = .ok (.aload_n 0, 1) := by decide +kernel
theorem dX2_heatsTogether_14 : decode cX2_heatsTogether 14 = .ok (.getfield 21, 3) := by decide +kernel
theorem dX2_heatsTogether_17 : decode cX2_heatsTogether 17 = .ok (.iload_n 2, 1) := by decide +kernel
theorem dX2_heatsTogether_18 : decode cX2_heatsTogether 18 = .ok (.iaload, 1) := by decide +kernel
theorem dX2_heatsTogether_19 : decode cX2_heatsTogether 19 = .ok (.iadd, 1) := by decide +kernel
theorem dX2_heatsTogether_20 : decode cX2_heatsTogether 20 = .ok (.istore_n 1, 1) := by decide +kernel
theorem dX2_heatsTogether_21 : decode cX2_heatsTogether 21 = .ok (.iinc 2 1, 3) := by decide +kernel
theorem dX2_heatsTogether_24 : decode cX2_heatsTogether 24 = .ok (.goto (-20), 3) := by decide +kernel
theorem dX2_heatsTogether_27 : decode cX2_heatsTogether 27 = .ok (.iload_n 1, 1) := by decide +kernel
theorem dX2_heatsTogether_28 : decode cX2_heatsTogether 28 = .ok (.ireturn, 1) := by decide +kernel
theorem dX2_bestFreePlace_0 : decode cX2_bestFreePlace 0 = .ok (.iconst (-1), 1) := by decide +kernel
theorem dX2_bestFreePlace_1 : decode cX2_bestFreePlace 1 = .ok (.istore_n 1, 1) := by decide +kernel
theorem dX2_bestFreePlace_2 : decode cX2_bestFreePlace 2 = .ok (.iconst 0, 1) := by decide +kernel
theorem dX2_bestFreePlace_3 : decode cX2_bestFreePlace 3 = .ok (.istore_n 2, 1) := by decide +kernel
theorem dX2_bestFreePlace_4 : decode cX2_bestFreePlace 4 = .ok (.iload_n 2, 1) := by decide +kernel
theorem dX2_bestFreePlace_5 : decode cX2_bestFreePlace 5 = .ok (.aload_n 0, 1) := by decide +kernel
theorem dX2_bestFreePlace_6 : decode cX2_bestFreePlace 6 = .ok (.getfield 9, 3) := by decide +kernel
theorem dX2_bestFreePlace_9 : decode cX2_bestFreePlace 9 = .ok (.iconst 4, 1) := by decide +kernel
theorem dX2_bestFreePlace_10 : decode cX2_bestFreePlace 10 = .ok (.imul, 1) := by decide +kernel
theorem dX2_bestFreePlace_11 : decode cX2_bestFreePlace 11 = .ok (.if_icmp .ge 51, 3) := by decide +kernel
theorem dX2_bestFreePlace_14 : decode cX2_bestFreePlace 14 = .ok (.iload_n 1, 1) := by decide +kernel
theorem dX2_bestFreePlace_15 : decode cX2_bestFreePlace 15 = .ok (.iconst (-1), 1) := by decide +kernel
theorem dX2_bestFreePlace_16 : decode cX2_bestFreePlace 16 = .ok (.if_icmp .eq 18, 3) := by decide +kernel
theorem dX2_bestFreePlace_19 : decode cX2_bestFreePlace 19 = .ok (.aload_n 0, 1) := by decide +kernel
theorem dX2_bestFreePlace_20 : decode cX2_bestFreePlace 20 = .ok (.getfield 28, 3) := by decide +kernel
theorem dX2_bestFreePlace_23 : decode cX2_bestFreePlace 23 = .ok (.iload_n 2, 1) := by decide +kernel
theorem dX2_bestFreePlace_24 : decode cX2_bestFreePlace 24 = .ok (.iaload, 1) := by decide +kernel
theorem dX2_bestFreePlace_25 : decode cX2_bestFreePlace 25 = .ok (.aload_n 0, 1) := by decide +kernel
theorem dX2_bestFreePlace_26 : decode cX2_bestFreePlace 26 = .ok (.getfield 28, 3) := by decide +kernel
theorem dX2_bestFreePlace_29 : decode cX2_bestFreePlace 29 = .ok (.iload_n 1, 1) := by decide +kernel
theorem dX2_bestFreePlace_30 : decode cX2_bestFreePlace 30 = .ok (.iaload, 1) := by decide +kernel
theorem dX2_bestFreePlace_31 : decode cX2_bestFreePlace 31 = .ok (.if_icmp .le 7, 3) := by decide +kernel
theorem dX2_bestFreePlace_34 : decode cX2_bestFreePlace 34 = .ok (.iconst 1, 1) := by decide +kernel
theorem dX2_bestFreePlace_35 : decode cX2_bestFreePlace 35 = .ok (.goto 4, 3) := by decide +kernel
theorem dX2_bestFreePlace_38 : decode cX2_bestFreePlace 38 = .ok (.iconst 0, 1) := by decide +kernel
theorem dX2_bestFreePlace_39 : decode cX2_bestFreePlace 39 = .ok (.istore_n 3, 1) := by decide +kernel
theorem dX2_bestFreePlace_40 : decode cX2_bestFreePlace 40 = .ok (.iload_n 3, 1) := by decide +kernel
theorem dX2_bestFreePlace_41 : decode cX2_bestFreePlace 41 = .ok (.ifCond .eq 15, 3) := by decide +kernel
theorem dX2_bestFreePlace_44 : decode cX2_bestFreePlace 44 = .ok (.aload_n 0, 1) := by decide +kernel
theorem dX2_bestFreePlace_45 : decode cX2_bestFreePlace 45 = .ok (.getfield 31, 3) := by decide +kernel
theorem dX2_bestFreePlace_48 : decode cX2_bestFreePlace 48 = .ok (.iload_n 2, 1) := by decide +kernel
theorem dX2_bestFreePlace_49 : decode cX2_bestFreePlace 49 = .ok (.iaload, 1) := by decide +kernel
theorem dX2_bestFreePlace_50 : decode cX2_bestFreePlace 50 = .ok (.iconst (-1), 1) := by decide +kernel
theorem dX2_bestFreePlace_51 : decode cX2_bestFreePlace 51 = .ok (.if_icmp .ne 5, 3) := by decide +kernel
theorem dX2_bestFreePlace_54 : decode cX2_bestFreePlace 54 = .ok (.iload_n 2, 1) := by decide +kernel
theorem dX2_bestFreePlace_55 : decode cX2_bestFreePlace 55 = .ok (.istore_n 1, 1) := by decide +kernel
theorem dX2_bestFreePlace_56 : decode cX2_bestFreePlace 56 = .ok (.iinc 2 1, 3) := by decide +kernel
theorem dX2_bestFreePlace_59 : decode cX2_bestFreePlace 59 = .ok (.goto (-55), 3) := by decide +kernel
theorem dX2_bestFreePlace_62 : decode cX2_bestFreePlace 62 = .ok (.iload_n 1, 1) := by decide +kernel
theorem dX2_bestFreePlace_63 : decode cX2_bestFreePlace 63 = .ok (.ireturn, 1) := by decide +kernel
theorem dX3_init_0 : decode cX3_init 0 = .ok (.aload_n 0, 1) := by decide +kernel
theorem dX3_init_1 : decode cX3_init 1 = .ok (.invokespecial 3, 3) := by decide +kernel
theorem dX3_init_4 : decode cX3_init 4 = .ok (.aload_n 0, 1) := by decide +kernel
theorem dX3_init_5 : decode cX3_init 5 = .ok (.iconst 0, 1) := by decide +kernel
theorem dX3_init_6 : decode cX3_init 6 = .ok (.putfield 9, 3) := by decide +kernel
theorem dX3_init_9 : decode cX3_init 9 = .ok (.aload_n 0, 1) := by decide +kernel
theorem dX3_init_10 : decode cX3_init 10 = .ok (.iconst 0, 1) := by decide +kernel
theorem dX3_init_11 : decode cX3_init 11 = .ok (.putfield 15, 3) := by decide +kernel
theorem dX3_init_14 : decode cX3_init 14 = .ok (.aload_n 0, 1) := by decide +kernel
theorem dX3_init_15 : decode cX3_init 15 = .ok (.iconst 0, 1) := by decide +kernel
theorem dX3_init_16 : decode cX3_init 16 = .ok (.putfield 18, 3) := by decide +kernel
theorem dX3_init_19 : decode cX3_init 19 = .ok (.aload_n 0, 1) := by decide +kernel
theorem dX3_init_20 : decode cX3_init 20 = .ok (.iconst 0, 1) := by decide +kernel
theorem dX3_init_21 : decode cX3_init 21 = .ok (.putfield 21, 3) := by decide +kernel
theorem dX3_init_24 : decode cX3_init 24 = .ok (.aload_n 0, 1) := by decide +kernel
theorem dX3_init_25 : decode cX3_init 25 = .ok (.iconst (-1), 1) := by decide +kernel
theorem dX3_init_26 : decode cX3_init 26 = .ok (.putfield 24, 3) := by decide +kernel
theorem dX3_init_29 : decode cX3_init 29 = .ok (.aload_n 0, 1) := by decide +kernel
theorem dX3_init_30 : decode cX3_init 30 = .ok (.iconst (-1), 1) := by decide +kernel
theorem dX3_init_31 : decode cX3_init 31 = .ok (.putfield 27, 3) := by decide +kernel
theorem dX3_init_34 : decode cX3_init 34 = .ok (.aload_n 0, 1) := by decide +kernel
theorem dX3_init_35 : decode cX3_init 35 = .ok (.iconst 0, 1) := by decide +kernel
theorem dX3_init_36 : decode cX3_init 36 = .ok (.putfield 30, 3) := by decide +kernel
theorem dX3_init_39 : decode cX3_init 39 = .ok (.aload_n 0, 1) := by decide +kernel
theorem dX3_init_40 : decode cX3_init 40 = .ok (.iconst 0, 1) := by decide +kernel
theorem dX3_init_41 : decode cX3_init 41 = .ok (.putfield 34, 3) := by decide +kernel
theorem dX3_init_44 : decode cX3_init 44 = .ok (.return_, 1) := by decide +kernel
theorem dX3_turn_0 : decode cX3_turn 0 = .ok (.aload_n 0, 1) := by decide +kernel
theorem dX3_turn_1 : decode cX3_turn 1 = .ok (.iload_n 1, 1) := by decide +kernel
theorem dX3_turn_2 : decode cX3_turn 2 = .ok (.putfield 9, 3) := by decide +kernel
theorem dX3_turn_5 : decode cX3_turn 5 = .ok (.aload_n 0, 1) := by decide +kernel
theorem dX3_turn_6 : decode cX3_turn 6 = .ok (.iload_n 2, 1) := by decide +kernel
theorem dX3_turn_7 : decode cX3_turn 7 = .ok (.putfield 15, 3) := by decide +kernel
theorem dX3_turn_10 : decode cX3_turn 10 = .ok (.aload_n 0, 1) := by decide +kernel
theorem dX3_turn_11 : decode cX3_turn 11 = .ok (.iload_n 3, 1) := by decide +kernel
theorem dX3_turn_12 : decode cX3_turn 12 = .ok (.putfield 18, 3) := by decide +kernel
theorem dX3_turn_15 : decode cX3_turn 15 = .ok (.aload_n 0, 1) := by decide +kernel
theorem dX3_turn_16 : decode cX3_turn 16 = .ok (.iload 4, 2) := by decide +kernel
theorem dX3_turn_18 : decode cX3_turn 18 = .ok (.putfield 21, 3) := by decide +kernel
theorem dX3_turn_21 : decode cX3_turn 21 = .ok (.aload_n 0, 1) := by decide +kernel
theorem dX3_turn_22 : decode cX3_turn 22 = .ok (.iconst (-1), 1) := by decide +kernel
theorem dX3_turn_23 : decode cX3_turn 23 = .ok (.putfield 24, 3) := by decide +kernel
theorem dX3_turn_26 : decode cX3_turn 26 = .ok (.aload_n 0, 1) := by decide +kernel
theorem dX3_turn_27 : decode cX3_turn 27 = .ok (.iconst (-1), 1) := by decide +kernel
theorem dX3_turn_28 : decode cX3_turn 28 = .ok (.putfield 27, 3) := by decide +kernel
theorem dX3_turn_31 : decode cX3_turn 31 = .ok (.aload_n 0, 1) := by decide +kernel
theorem dX3_turn_32 : decode cX3_turn 32 = .ok (.iconst 0, 1) := by decide +kernel
theorem dX3_turn_33 : decode cX3_turn 33 = .ok (.putfield 30, 3) := by decide +kernel
theorem dX3_turn_36 : decode cX3_turn 36 = .ok (.aload_n 0, 1) := by decide +kernel
theorem dX3_turn_37 : decode cX3_turn 37 = .ok (.iconst 0, 1) := by decide +kernel
theorem dX3_turn_38 : decode cX3_turn 38 = .ok (.putfield 34, 3) := by decide +kernel
theorem dX3_turn_41 : decode cX3_turn 41 = .ok (.return_, 1) := by decide +kernel
theorem dX3_copyFrom_0 : decode cX3_copyFrom 0 = .ok (.aload_n 0, 1) := by decide +kernel
theorem dX3_copyFrom_1 : decode cX3_copyFrom 1 = .ok (.aload_n 1, 1) := by decide +kernel
theorem dX3_copyFrom_2 : decode cX3_copyFrom 2 = .ok (.getfield 9, 3) := by decide +kernel
theorem dX3_copyFrom_5 : decode cX3_copyFrom 5 = .ok (.putfield 9, 3) := by decide +kernel
theorem dX3_copyFrom_8 : decode cX3_copyFrom 8 = .ok (.aload_n 0, 1) := by decide +kernel
theorem dX3_copyFrom_9 : decode cX3_copyFrom 9 = .ok (.aload_n 1, 1) := by decide +kernel
theorem dX3_copyFrom_10 : decode cX3_copyFrom 10 = .ok (.getfield 15, 3) := by decide +kernel
theorem dX3_copyFrom_13 : decode cX3_copyFrom 13 = .ok (.putfield 15, 3) := by decide +kernel
theorem dX3_copyFrom_16 : decode cX3_copyFrom 16 = .ok (.aload_n 0, 1) := by decide +kernel
theorem dX3_copyFrom_17 : decode cX3_copyFrom 17 = .ok (.aload_n 1, 1) := by decide +kernel
theorem dX3_copyFrom_18 : decode cX3_copyFrom 18 = .ok (.getfield 18, 3) := by decide +kernel
theorem dX3_copyFrom_21 : decode cX3_copyFrom 21 = .ok (.putfield 18, 3) := by decide +kernel
theorem dX3_copyFrom_24 : decode cX3_copyFrom 24 = .ok (.aload_n 0, 1) := by decide +kernel
theorem dX3_copyFrom_25 : decode cX3_copyFrom 25 = .ok (.aload_n 1, 1) := by decide +kernel
theorem dX3_copyFrom_26 : decode cX3_copyFrom 26 = .ok (.getfield 21, 3) := by decide +kernel
theorem dX3_copyFrom_29 : decode cX3_copyFrom 29 = .ok (.putfield 21, 3) := by decide +kernel
theorem dX3_copyFrom_32 : decode cX3_copyFrom 32 = .ok (.aload_n 0, 1) := by decide +kernel
theorem dX3_copyFrom_33 : decode cX3_copyFrom 33 = .ok (.aload_n 1, 1) := by decide +kernel
theorem dX3_copyFrom_34 : decode cX3_copyFrom 34 = .ok (.getfield 24, 3) := by decide +kernel
theorem dX3_copyFrom_37 : decode cX3_copyFrom 37 = .ok (.putfield 24, 3) := by decide +kernel
theorem dX3_copyFrom_40 : decode cX3_copyFrom 40 = .ok (.aload_n 0, 1) := by decide +kernel
theorem dX3_copyFrom_41 : decode cX3_copyFrom 41 = .ok (.aload_n 1, 1) := by decide +kernel
theorem dX3_copyFrom_42 : decode cX3_copyFrom 42 = .ok (.getfield 27, 3) := by decide +kernel
theorem dX3_copyFrom_45 : decode cX3_copyFrom 45 = .ok (.putfield 27, 3) := by decide +kernel
theorem dX3_copyFrom_48 : decode cX3_copyFrom 48 = .ok (.aload_n 0, 1) := by decide +kernel
theorem dX3_copyFrom_49 : decode cX3_copyFrom 49 = .ok (.aload_n 1, 1) := by decide +kernel
theorem dX3_copyFrom_50 : decode cX3_copyFrom 50 = .ok (.getfield 30, 3) := by decide +kernel
theorem dX3_copyFrom_53 : decode cX3_copyFrom 53 = .ok (.putfield 30, 3) := by decide +kernel
theorem dX3_copyFrom_56 : decode cX3_copyFrom 56 = .ok (.aload_n 0, 1) := by decide +kernel
theorem dX3_copyFrom_57 : decode cX3_copyFrom 57 = .ok (.aload_n 1, 1) := by decide +kernel
theorem dX3_copyFrom_58 : decode cX3_copyFrom 58 = .ok (.getfield 34, 3) := by decide +kernel
theorem dX3_copyFrom_61 : decode cX3_copyFrom 61 = .ok (.putfield 34, 3) := by decide +kernel
theorem dX3_copyFrom_64 : decode cX3_copyFrom 64 = .ok (.return_, 1) := by decide +kernel
theorem dX3_stands_0 : decode cX3_stands 0 = .ok (.aload_n 0, 1) := by decide +kernel
theorem dX3_stands_1 : decode cX3_stands 1 = .ok (.getfield 24, 3) := by decide +kernel
theorem dX3_stands_4 : decode cX3_stands 4 = .ok (.iconst (-1), 1) := by decide +kernel
theorem dX3_stands_5 : decode cX3_stands 5 = .ok (.if_icmp .eq 7, 3) := by decide +kernel
theorem dX3_stands_8 : decode cX3_stands 8 = .ok (.iconst 1, 1) := by decide +kernel
theorem dX3_stands_9 : decode cX3_stands 9 = .ok (.goto 4, 3) := by decide +kernel
theorem dX3_stands_12 : decode cX3_stands 12 = .ok (.iconst 0, 1) := by decide +kernel
theorem dX3_stands_13 : decode cX3_stands 13 = .ok (.ireturn, 1) := by decide +kernel
theorem dX3_bear_0 : decode cX3_bear 0 = .ok (.iload_n 2, 1) := by decide +kernel
theorem dX3_bear_1 : decode cX3_bear 1 = .ok (.iload_n 3, 1) := by decide +kernel
theorem dX3_bear_2 : decode cX3_bear 2 = .ok (.bipush 10, 2) := by decide +kernel
theorem dX3_bear_4 : decode cX3_bear 4 = .ok (.aload_n 0, 1) := by decide +kernel
theorem dX3_bear_5 : decode cX3_bear 5 = .ok (.getfield 21, 3) := by decide +kernel
theorem dX3_bear_8 : decode cX3_bear 8 = .ok (.imul, 1) := by decide +kernel
theorem dX3_bear_9 : decode cX3_bear 9 = .ok (.isub, 1) := by decide +kernel
theorem dX3_bear_10 : decode cX3_bear 10 = .ok (.if_icmp .le 9, 3) := by decide +kernel
theorem dX3_bear_13 : decode cX3_bear 13 = .ok (.aload_n 0, 1) := by decide +kernel
theorem dX3_bear_14 : decode cX3_bear 14 = .ok (.iconst 1, 1) := by decide +kernel
theorem dX3_bear_15 : decode cX3_bear 15 = .ok (.putfield 30, 3) := by decide +kernel
theorem dX3_bear_18 : decode cX3_bear 18 = .ok (.return_, 1) := by decide +kernel
theorem dX3_bear_19 : decode cX3_bear 19 = .ok (.iload_n 1, 1) := by decide +kernel
theorem dX3_bear_20 : decode cX3_bear 20 = .ok (.sipush 600, 3) := by decide +kernel
theorem dX3_bear_23 : decode cX3_bear 23 = .ok (.if_icmp .lt 20, 3) := by decide +kernel
theorem dX3_bear_26 : decode cX3_bear 26 = .ok (.aload_n 0, 1) := by decide +kernel
theorem dX3_bear_27 : decode cX3_bear 27 = .ok (.dup, 1) := by decide +kernel
theorem dX3_bear_28 : decode cX3_bear 28 = .ok (.getfield 34, 3) := by decide +kernel
theorem dX3_bear_31 : decode cX3_bear 31 = .ok (.iload_n 1, 1) := by decide +kernel
theorem dX3_bear_32 : decode cX3_bear 32 = .ok (.sipush 600, 3) := by decide +kernel
theorem dX3_bear_35 : decode cX3_bear 35 = .ok (.isub, 1) := by decide +kernel
theorem dX3_bear_36 : decode cX3_bear 36 = .ok (.bipush 50, 2) := by decide +kernel
theorem dX3_bear_38 : decode cX3_bear 38 = .ok (.idiv, 1) := by decide +kernel
theorem dX3_bear_39 : decode cX3_bear 39 = .ok (.iadd, 1) := by decide +kernel
theorem dX3_bear_40 : decode cX3_bear 40 = .ok (.putfield 34, 3) := by decide +kernel
theorem dX3_bear_43 : decode cX3_bear 43 = .ok (.iload_n 1, 1) := by decide +kernel
theorem dX3_bear_44 : decode cX3_bear 44 = .ok (.bipush 100, 2) := by decide +kernel
theorem dX3_bear_46 : decode cX3_bear 46 = .ok (.if_icmp .lt 20, 3) := by decide +kernel
theorem dX3_bear_49 : decode cX3_bear 49 = .ok (.aload_n 0, 1) := by decide +kernel
theorem dX3_bear_50 : decode cX3_bear 50 = .ok (.getfield 21, 3) := by decide +kernel
theorem dX3_bear_53 : decode cX3_bear 53 = .ok (.ifCond .le 13, 3) := by decide +kernel
theorem dX3_bear_56 : decode cX3_bear 56 = .ok (.aload_n 0, 1) := by decide +kernel
theorem dX3_bear_57 : decode cX3_bear 57 = .ok (.dup, 1) := by decide +kernel
theorem dX3_bear_58 : decode cX3_bear 58 = .ok (.getfield 21, 3) := by decide +kernel
theorem dX3_bear_61 : decode cX3_bear 61 = .ok (.iconst 1, 1) := by decide +kernel
theorem dX3_bear_62 : decode cX3_bear 62 = .ok (.isub, 1) := by decide +kernel
theorem dX3_bear_63 : decode cX3_bear 63 = .ok (.putfield 21, 3) := by decide +kernel
theorem dX3_bear_66 : decode cX3_bear 66 = .ok (.return_, 1) := by decide +kernel
theorem dX3_subject_0 : decode cX3_subject 0 = .ok (.iload_n 1, 1) := by decide +kernel
theorem dX3_subject_1 : decode cX3_subject 1 = .ok (.tableswitch 102 0 6 #[43, 60, 77, 82, 87, 92, 97], 43) := by decide +kernel
theorem dX3_subject_44 : decode cX3_subject 44 = .ok (.aload_n 0, 1) := by decide +kernel
theorem dX3_subject_45 : decode cX3_subject 45 = .ok (.getfield 24, 3) := by decide +kernel
theorem dX3_subject_48 : decode cX3_subject 48 = .ok (.iconst (-1), 1) := by decide +kernel
theorem dX3_subject_49 : decode cX3_subject 49 = .ok (.if_icmp .ne 7, 3) := by decide +kernel
theorem dX3_subject_52 : decode cX3_subject 52 = .ok (.iconst 0, 1) := by decide +kernel
theorem dX3_subject_53 : decode cX3_subject 53 = .ok (.goto 7, 3) := by decide +kernel
theorem dX3_subject_56 : decode cX3_subject 56 = .ok (.aload_n 0, 1) := by decide +kernel
theorem dX3_subject_57 : decode cX3_subject 57 = .ok (.getfield 24, 3) := by decide +kernel
theorem dX3_subject_60 : decode cX3_subject 60 = .ok (.ireturn, 1) := by decide +kernel
theorem dX3_subject_61 : decode cX3_subject 61 = .ok (.aload_n 0, 1) := by decide +kernel
theorem dX3_subject_62 : decode cX3_subject 62 = .ok (.getfield 27, 3) := by decide +kernel
theorem dX3_subject_65 : decode cX3_subject 65 = .ok (.iconst (-1), 1) := by decide +kernel
theorem dX3_subject_66 : decode cX3_subject 66 = .ok (.if_icmp .ne 7, 3) := by decide +kernel
theorem dX3_subject_69 : decode cX3_subject 69 = .ok (.iconst 0, 1) := by decide +kernel
theorem dX3_subject_70 : decode cX3_subject 70 = .ok (.goto 7, 3) := by decide +kernel
theorem dX3_subject_73 : decode cX3_subject 73 = .ok (.aload_n 0, 1) := by decide +kernel
theorem dX3_subject_74 : decode cX3_subject 74 = .ok (.getfield 27, 3) := by decide +kernel
theorem dX3_subject_77 : decode cX3_subject 77 = .ok (.ireturn, 1) := by decide +kernel
theorem dX3_subject_78 : decode cX3_subject 78 = .ok (.aload_n 0, 1) := by decide +kernel
theorem dX3_subject_79 : decode cX3_subject 79 = .ok (.getfield 15, 3) := by decide +kernel
theorem dX3_subject_82 : decode cX3_subject 82 = .ok (.ireturn, 1) := by decide +kernel
theorem dX3_subject_83 : decode cX3_subject 83 = .ok (.aload_n 0, 1) := by decide +kernel
theorem dX3_subject_84 : decode cX3_subject 84 = .ok (.getfield 18, 3) := by decide +kernel
theorem dX3_subject_87 : decode cX3_subject 87 = .ok (.ireturn, 1) := by decide +kernel
theorem dX3_subject_88 : decode cX3_subject 88 = .ok (.aload_n 0, 1) := by decide +kernel
theorem dX3_subject_89 : decode cX3_subject 89 = .ok (.getfield 9, 3) := by decide +kernel
theorem dX3_subject_92 : decode cX3_subject 92 = .ok (.ireturn, 1) := by decide +kernel
theorem dX3_subject_93 : decode cX3_subject 93 = .ok (.aload_n 0, 1) := by decide +kernel
theorem dX3_subject_94 : decode cX3_subject 94 = .ok (.getfield 21, 3) := by decide +kernel
theorem dX3_subject_97 : decode cX3_subject 97 = .ok (.ireturn, 1) := by decide +kernel
theorem dX3_subject_98 : decode cX3_subject 98 = .ok (.aload_n 0, 1) := by decide +kernel
theorem dX3_subject_99 : decode cX3_subject 99 = .ok (.getfield 34, 3) := by decide +kernel
theorem dX3_subject_102 : decode cX3_subject 102 = .ok (.ireturn, 1) := by decide +kernel
theorem dX3_subject_103 : decode cX3_subject 103 = .ok (.iconst 0, 1) := by decide +kernel
theorem dX3_subject_104 : decode cX3_subject 104 = .ok (.ireturn, 1) := by decide +kernel
theorem dX4_init_0 : decode cX4_init 0 = .ok (.aload_n 0, 1) := by decide +kernel
theorem dX4_init_1 : decode cX4_init 1 = .ok (.invokespecial 3, 3) := by decide +kernel
theorem dX4_init_4 : decode cX4_init 4 = .ok (.aload_n 0, 1) := by decide +kernel
theorem dX4_init_5 : decode cX4_init 5 = .ok (.new 9, 3) := by decide +kernel
theorem dX4_init_8 : decode cX4_init 8 = .ok (.dup, 1) := by decide +kernel
theorem dX4_init_9 : decode cX4_init 9 = .ok (.invokespecial 11, 3) := by decide +kernel
theorem dX4_init_12 : decode cX4_init 12 = .ok (.putfield 12, 3) := by decide +kernel
theorem dX4_init_15 : decode cX4_init 15 = .ok (.aload_n 0, 1) := by decide +kernel
theorem dX4_init_16 : decode cX4_init 16 = .ok (.iconst 0, 1) := by decide +kernel
theorem dX4_init_17 : decode cX4_init 17 = .ok (.putfield 18, 3) := by decide +kernel
theorem dX4_init_20 : decode cX4_init 20 = .ok (.aload_n 0, 1) := by decide +kernel
theorem dX4_init_21 : decode cX4_init 21 = .ok (.iconst (-1), 1) := by decide +kernel
theorem dX4_init_22 : decode cX4_init 22 = .ok (.putfield 22, 3) := by decide +kernel
theorem dX4_init_25 : decode cX4_init 25 = .ok (.aload_n 0, 1) := by decide +kernel
theorem dX4_init_26 : decode cX4_init 26 = .ok (.iconst 0, 1) := by decide +kernel
theorem dX4_init_27 : decode cX4_init 27 = .ok (.putfield 25, 3) := by decide +kernel
theorem dX4_init_30 : decode cX4_init 30 = .ok (.aload_n 0, 1) := by decide +kernel
theorem dX4_init_31 : decode cX4_init 31 = .ok (.new 28, 3) := by decide +kernel
theorem dX4_init_34 : decode cX4_init 34 = .ok (.dup, 1) := by decide +kernel
theorem dX4_init_35 : decode cX4_init 35 = .ok (.aload_n 1, 1) := by decide +kernel
theorem dX4_init_36 : decode cX4_init 36 = .ok (.invokespecial 30, 3) := by decide +kernel
theorem dX4_init_39 : decode cX4_init 39 = .ok (.putfield 33, 3) := by decide +kernel
theorem dX4_init_42 : decode cX4_init 42 = .ok (.return_, 1) := by decide +kernel
theorem dX4_read_0 : decode cX4_read 0 = .ok (.aload_n 0, 1) := by decide +kernel
theorem dX4_read_1 : decode cX4_read 1 = .ok (.getfield 33, 3) := by decide +kernel
theorem dX4_read_4 : decode cX4_read 4 = .ok (.invokevirtual 37, 3) := by decide +kernel
theorem dX4_read_7 : decode cX4_read 7 = .ok (.aload_n 0, 1) := by decide +kernel
theorem dX4_read_8 : decode cX4_read 8 = .ok (.iconst 0, 1) := by decide +kernel
theorem dX4_read_9 : decode cX4_read 9 = .ok (.putfield 25, 3) := by decide +kernel
theorem dX4_read_12 : decode cX4_read 12 = .ok (.aload_n 0, 1) := by decide +kernel
theorem dX4_read_13 : decode cX4_read 13 = .ok (.iconst 0, 1) := by decide +kernel
theorem dX4_read_14 : decode cX4_read 14 = .ok (.putfield 18, 3) := by decide +kernel
theorem dX4_read_17 : decode cX4_read 17 = .ok (.aload_n 0, 1) := by decide +kernel
theorem dX4_read_18 : decode cX4_read 18 = .ok (.iconst (-1), 1) := by decide +kernel
theorem dX4_read_19 : decode cX4_read 19 = .ok (.putfield 22, 3) := by decide +kernel
theorem dX4_read_22 : decode cX4_read 22 = .ok (.aload_n 0, 1) := by decide +kernel
theorem dX4_read_23 : decode cX4_read 23 = .ok (.getfield 12, 3) := by decide +kernel
theorem dX4_read_26 : decode cX4_read 26 = .ok (.iconst 0, 1) := by decide +kernel
theorem dX4_read_27 : decode cX4_read 27 = .ok (.putfield 40, 3) := by decide +kernel
theorem dX4_read_30 : decode cX4_read 30 = .ok (.iconst 1, 1) := by decide +kernel
theorem dX4_read_31 : decode cX4_read 31 = .ok (.istore_n 1, 1) := by decide +kernel
theorem dX4_read_32 : decode cX4_read 32 = .ok (.iconst 0, 1) := by decide +kernel
theorem dX4_read_33 : decode cX4_read 33 = .ok (.istore_n 2, 1) := by decide +kernel
theorem dX4_read_34 : decode cX4_read 34 = .ok (.iload_n 2, 1) := by decide +kernel
theorem dX4_read_35 : decode cX4_read 35 = .ok (.sipush 300, 3) := by decide +kernel
theorem dX4_read_38 : decode cX4_read 38 = .ok (.if_icmp .ge 27, 3) := by decide +kernel
theorem dX4_read_41 : decode cX4_read 41 = .ok (.iload_n 1, 1) := by decide +kernel
theorem dX4_read_42 : decode cX4_read 42 = .ok (.ifCond .eq 23, 3) := by decide +kernel
theorem dX4_read_45 : decode cX4_read 45 = .ok (.aload_n 0, 1) := by decide +kernel
theorem dX4_read_46 : decode cX4_read 46 = .ok (.iconst 0, 1) := by decide +kernel
theorem dX4_read_47 : decode cX4_read 47 = .ok (.invokevirtual 43, 3) := by decide +kernel
theorem dX4_read_50 : decode cX4_read 50 = .ok (.ifCond .ne 15, 3) := by decide +kernel
theorem dX4_read_53 : decode cX4_read 53 = .ok (.aload_n 0, 1) := by decide +kernel
theorem dX4_read_54 : decode cX4_read 54 = .ok (.iload_n 2, 1) := by decide +kernel
theorem dX4_read_55 : decode cX4_read 55 = .ok (.invokevirtual 47, 3) := by decide +kernel
theorem dX4_read_58 : decode cX4_read 58 = .ok (.istore_n 1, 1) := by decide +kernel
theorem dX4_read_59 : decode cX4_read 59 = .ok (.iinc 2 1, 3) := by decide +kernel
theorem dX4_read_62 : decode cX4_read 62 = .ok (.goto (-28), 3) := by decide +kernel
theorem dX4_read_65 : decode cX4_read 65 = .ok (.iload_n 1, 1) := by decide +kernel
theorem dX4_read_66 : decode cX4_read 66 = .ok (.ifCond .ne 24, 3) := by decide +kernel
theorem dX4_read_69 : decode cX4_read 69 = .ok (.aload_n 0, 1) := by decide +kernel
theorem dX4_read_70 : decode cX4_read 70 = .ok (.iconst 1, 1) := by decide +kernel
theorem dX4_read_71 : decode cX4_read 71 = .ok (.putfield 18, 3) := by decide +kernel
theorem dX4_read_74 : decode cX4_read 74 = .ok (.aload_n 0, 1) := by decide +kernel
theorem dX4_read_75 : decode cX4_read 75 = .ok (.aload_n 0, 1) := by decide +kernel
theorem dX4_read_76 : decode cX4_read 76 = .ok (.getfield 33, 3) := by decide +kernel
theorem dX4_read_79 : decode cX4_read 79 = .ok (.getfield 50, 3) := by decide +kernel
theorem dX4_read_82 : decode cX4_read 82 = .ok (.aload_n 0, 1) := by decide +kernel
theorem dX4_read_83 : decode cX4_read 83 = .ok (.getfield 25, 3) := by decide +kernel
theorem dX4_read_86 : decode cX4_read 86 = .ok (.iaload, 1) := by decide +kernel
theorem dX4_read_87 : decode cX4_read 87 = .ok (.putfield 22, 3) := by decide +kernel
theorem dX4_read_90 : decode cX4_read 90 = .ok (.return_, 1) := by decide +kernel
theorem dX4_readLine_0 : decode cX4_readLine 0 = .ok (.iload_n 1, 1) := by decide +kernel
theorem dX4_readLine_1 : decode cX4_readLine 1 = .ok (.bipush 12, 2) := by decide +kernel
theorem dX4_readLine_3 : decode cX4_readLine 3 = .ok (.if_icmp .ge 36, 3) := by decide +kernel
theorem dX4_readLine_6 : decode cX4_readLine 6 = .ok (.aload_n 0, 1) := by decide +kernel
theorem dX4_readLine_7 : decode cX4_readLine 7 = .ok (.getfield 12, 3) := by decide +kernel
theorem dX4_readLine_10 : decode cX4_readLine 10 = .ok (.iload_n 1, 1) := by decide +kernel
theorem dX4_readLine_11 : decode cX4_readLine 11 = .ok (.iconst 1, 1) := by decide +kernel
theorem dX4_readLine_12 : decode cX4_readLine 12 = .ok (.iadd, 1) := by decide +kernel
theorem dX4_readLine_13 : decode cX4_readLine 13 = .ok (.putfield 40, 3) := by decide +kernel
theorem dX4_readLine_16 : decode cX4_readLine 16 = .ok (.aload_n 0, 1) := by decide +kernel
theorem dX4_readLine_17 : decode cX4_readLine 17 = .ok (.getfield 12, 3) := by decide +kernel
theorem dX4_readLine_20 : decode cX4_readLine 20 = .ok (.getfield 54, 3) := by decide +kernel
theorem dX4_readLine_23 : decode cX4_readLine 23 = .ok (.iload_n 1, 1) := by decide +kernel
theorem dX4_readLine_24 : decode cX4_readLine 24 = .ok (.iconst 0, 1) := by decide +kernel
theorem dX4_readLine_25 : decode cX4_readLine 25 = .ok (.iastore, 1) := by decide +kernel
theorem dX4_readLine_26 : decode cX4_readLine 26 = .ok (.aload_n 0, 1) := by decide +kernel
theorem dX4_readLine_27 : decode cX4_readLine 27 = .ok (.getfield 12, 3) := by decide +kernel
theorem dX4_readLine_30 : decode cX4_readLine 30 = .ok (.getfield 57, 3) := by decide +kernel
theorem dX4_readLine_33 : decode cX4_readLine 33 = .ok (.iload_n 1, 1) := by decide +kernel
theorem dX4_readLine_34 : decode cX4_readLine 34 = .ok (.iconst 0, 1) := by decide +kernel
theorem dX4_readLine_35 : decode cX4_readLine 35 = .ok (.iastore, 1) := by decide +kernel
theorem dX4_readLine_36 : decode cX4_readLine 36 = .ok (.goto 8, 3) := by decide +kernel
theorem dX4_readLine_39 : decode cX4_readLine 39 = .ok (.aload_n 0, 1) := by decide +kernel
theorem dX4_readLine_40 : decode cX4_readLine 40 = .ok (.iconst 3, 1) := by decide +kernel
theorem dX4_readLine_41 : decode cX4_readLine 41 = .ok (.invokevirtual 60, 3) := by decide +kernel
theorem dX4_readLine_44 : decode cX4_readLine 44 = .ok (.aload_n 0, 1) := by decide +kernel
theorem dX4_readLine_45 : decode cX4_readLine 45 = .ok (.bipush 7, 2) := by decide +kernel
theorem dX4_readLine_47 : decode cX4_readLine 47 = .ok (.invokevirtual 43, 3) := by decide +kernel
theorem dX4_readLine_50 : decode cX4_readLine 50 = .ok (.ifCond .eq 13, 3) := by decide +kernel
theorem dX4_readLine_53 : decode cX4_readLine 53 = .ok (.aload_n 0, 1) := by decide +kernel
theorem dX4_readLine_54 : decode cX4_readLine 54 = .ok (.iload_n 1, 1) := by decide +kernel
theorem dX4_readLine_55 : decode cX4_readLine 55 = .ok (.invokevirtual 64, 3) := by decide +kernel
theorem dX4_readLine_58 : decode cX4_readLine 58 = .ok (.ifCond .ne 5, 3) := by decide +kernel
theorem dX4_readLine_61 : decode cX4_readLine 61 = .ok (.iconst 0, 1) := by decide +kernel
theorem dX4_readLine_62 : decode cX4_readLine 62 = .ok (.ireturn, 1) := by decide +kernel
theorem dX4_readLine_63 : decode cX4_readLine 63 = .ok (.aload_n 0, 1) := by decide +kernel
theorem dX4_readLine_64 : decode cX4_readLine 64 = .ok (.iload_n 1, 1) := by decide +kernel
theorem dX4_readLine_65 : decode cX4_readLine 65 = .ok (.invokevirtual 67, 3) := by decide +kernel
theorem dX4_readLine_68 : decode cX4_readLine 68 = .ok (.ifCond .eq 16, 3) := by decide +kernel
theorem dX4_readLine_71 : decode cX4_readLine 71 = .ok (.aload_n 0, 1) := by decide +kernel
theorem dX4_readLine_72 : decode cX4_readLine 72 = .ok (.bipush 6, 2) := by decide +kernel
theorem dX4_readLine_74 : decode cX4_readLine 74 = .ok (.invokevirtual 70, 3) := by decide +kernel
theorem dX4_readLine_77 : decode cX4_readLine 77 = .ok (.ifCond .eq 7, 3) := by decide +kernel
theorem dX4_readLine_80 : decode cX4_readLine 80 = .ok (.iconst 1, 1) := by decide +kernel
theorem dX4_readLine_81 : decode cX4_readLine 81 = .ok (.goto 4, 3) := by decide +kernel
theorem dX4_readLine_84 : decode cX4_readLine 84 = .ok (.iconst 0, 1) := by decide +kernel
theorem dX4_readLine_85 : decode cX4_readLine 85 = .ok (.ireturn, 1) := by decide +kernel
theorem dX4_readCondition_0 : decode cX4_readCondition 0 = .ok (.aload_n 0, 1) := by decide +kernel
theorem dX4_readCondition_1 : decode cX4_readCondition 1 = .ok (.bipush 7, 2) := by decide +kernel
theorem dX4_readCondition_3 : decode cX4_readCondition 3 = .ok (.invokevirtual 70, 3) := by decide +kernel
theorem dX4_readCondition_6 : decode cX4_readCondition 6 = .ok (.istore_n 2, 1) := by decide +kernel
theorem dX4_readCondition_7 : decode cX4_readCondition 7 = .ok (.iconst 0, 1) := by decide +kernel
theorem dX4_readCondition_8 : decode cX4_readCondition 8 = .ok (.istore_n 3, 1) := by decide +kernel
theorem dX4_readCondition_9 : decode cX4_readCondition 9 = .ok (.iload_n 3, 1) := by decide +kernel
theorem dX4_readCondition_10 : decode cX4_readCondition 10 = .ok (.sipush 300, 3) := by decide +kernel
theorem dX4_readCondition_13 : decode cX4_readCondition 13 = .ok (.if_icmp .ge 31, 3) := by decide +kernel
theorem dX4_readCondition_16 : decode cX4_readCondition 16 = .ok (.iload_n 2, 1) := by decide +kernel
theorem dX4_readCondition_17 : decode cX4_readCondition 17 = .ok (.ifCond .eq 27, 3) := by decide +kernel
theorem dX4_readCondition_20 : decode cX4_readCondition 20 = .ok (.aload_n 0, 1) := by decide +kernel
theorem dX4_readCondition_21 : decode cX4_readCondition 21 = .ok (.iload_n 1, 1) := by decide +kernel
theorem dX4_readCondition_22 : decode cX4_readCondition 22 = .ok (.iload_n 3, 1) := by decide +kernel
theorem dX4_readCondition_23 : decode cX4_readCondition 23 = .ok (.invokevirtual 73, 3) := by decide +kernel
theorem dX4_readCondition_26 : decode cX4_readCondition 26 = .ok (.ifCond .ne 5, 3) := by decide +kernel
theorem dX4_readCondition_29 : decode cX4_readCondition 29 = .ok (.iconst 0, 1) := by decide +kernel
theorem dX4_readCondition_30 : decode cX4_readCondition 30 = .ok (.ireturn, 1) := by decide +kernel
theorem dX4_readCondition_31 : decode cX4_readCondition 31 = .ok (.aload_n 0, 1) := by decide +kernel
theorem dX4_readCondition_32 : decode cX4_readCondition 32 = .ok (.bipush 8, 2) := by decide +kernel
theorem dX4_readCondition_34 : decode cX4_readCondition 34 = .ok (.invokevirtual 70, 3) := by decide +kernel
theorem dX4_readCondition_37 : decode cX4_readCondition 37 = .ok (.istore_n 2, 1) := by decide +kernel
theorem dX4_readCondition_38 : decode cX4_readCondition 38 = .ok (.iinc 3 1, 3) := by decide +kernel
theorem dX4_readCondition_41 : decode cX4_readCondition 41 = .ok (.goto (-32), 3) := by decide +kernel
theorem dX4_readCondition_44 : decode cX4_readCondition 44 = .ok (.aload_n 0, 1) := by decide +kernel
theorem dX4_readCondition_45 : decode cX4_readCondition 45 = .ok (.iconst 5, 1) := by decide +kernel
theorem dX4_readCondition_46 : decode cX4_readCondition 46 = .ok (.invokevirtual 70, 3) := by decide +kernel
theorem dX4_readCondition_49 : decode cX4_readCondition 49 = .ok (.ireturn, 1) := by decide +kernel
theorem dX4_readTest_0 : decode cX4_readTest 0 = .ok (.iload_n 2, 1) := by decide +kernel
theorem dX4_readTest_1 : decode cX4_readTest 1 = .ok (.iconst 4, 1) := by decide +kernel
theorem dX4_readTest_2 : decode cX4_readTest 2 = .ok (.if_icmp .lt 8, 3) := by decide +kernel
theorem dX4_readTest_5 : decode cX4_readTest 5 = .ok (.aload_n 0, 1) := by decide +kernel
theorem dX4_readTest_6 : decode cX4_readTest 6 = .ok (.iconst 3, 1) := by decide +kernel
theorem dX4_readTest_7 : decode cX4_readTest 7 = .ok (.invokevirtual 60, 3) := by decide +kernel
theorem dX4_readTest_10 : decode cX4_readTest 10 = .ok (.aload_n 0, 1) := by decide +kernel
theorem dX4_readTest_11 : decode cX4_readTest 11 = .ok (.bipush 9, 2) := by decide +kernel
theorem dX4_readTest_13 : decode cX4_readTest 13 = .ok (.invokevirtual 70, 3) := by decide +kernel
theorem dX4_readTest_16 : decode cX4_readTest 16 = .ok (.istore_n 3, 1) := by decide +kernel
theorem dX4_readTest_17 : decode cX4_readTest 17 = .ok (.aload_n 0, 1) := by decide +kernel
theorem dX4_readTest_18 : decode cX4_readTest 18 = .ok (.getfield 25, 3) := by decide +kernel
theorem dX4_readTest_21 : decode cX4_readTest 21 = .ok (.istore 4, 2) := by decide +kernel
theorem dX4_readTest_23 : decode cX4_readTest 23 = .ok (.aload_n 0, 1) := by decide +kernel
theorem dX4_readTest_24 : decode cX4_readTest 24 = .ok (.iconst 3, 1) := by decide +kernel
theorem dX4_readTest_25 : decode cX4_readTest 25 = .ok (.invokevirtual 70, 3) := by decide +kernel
theorem dX4_readTest_28 : decode cX4_readTest 28 = .ok (.ifCond .eq 23, 3) := by decide +kernel
theorem dX4_readTest_31 : decode cX4_readTest 31 = .ok (.aload_n 0, 1) := by decide +kernel
theorem dX4_readTest_32 : decode cX4_readTest 32 = .ok (.iconst 4, 1) := by decide +kernel
theorem dX4_readTest_33 : decode cX4_readTest 33 = .ok (.invokevirtual 70, 3) := by decide +kernel
theorem dX4_readTest_36 : decode cX4_readTest 36 = .ok (.ifCond .eq 15, 3) := by decide +kernel
theorem dX4_readTest_39 : decode cX4_readTest 39 = .ok (.aload_n 0, 1) := by decide +kernel
theorem dX4_readTest_40 : decode cX4_readTest 40 = .ok (.iconst 2, 1) := by decide +kernel
theorem dX4_readTest_41 : decode cX4_readTest 41 = .ok (.invokevirtual 70, 3) := by decide +kernel
theorem dX4_readTest_44 : decode cX4_readTest 44 = .ok (.ifCond .eq 7, 3) := by decide +kernel
theorem dX4_readTest_47 : decode cX4_readTest 47 = .ok (.iconst 1, 1) := by decide +kernel
theorem dX4_readTest_48 : decode cX4_readTest 48 = .ok (.goto 4, 3) := by decide +kernel
theorem dX4_readTest_51 : decode cX4_readTest 51 = .ok (.iconst 0, 1) := by decide +kernel
theorem dX4_readTest_52 : decode cX4_readTest 52 = .ok (.istore 5, 2) := by decide +kernel
theorem dX4_readTest_54 : decode cX4_readTest 54 = .ok (.iload 5, 2) := by decide +kernel
theorem dX4_readTest_56 : decode cX4_readTest 56 = .ok (.ifCond .eq 23, 3) := by decide +kernel
theorem dX4_readTest_59 : decode cX4_readTest 59 = .ok (.iload_n 1, 1) := by decide +kernel
theorem dX4_readTest_60 : decode cX4_readTest 60 = .ok (.bipush 12, 2) := by decide +kernel
theorem dX4_readTest_62 : decode cX4_readTest 62 = .ok (.if_icmp .ge 17, 3) := by decide +kernel
theorem dX4_readTest_65 : decode cX4_readTest 65 = .ok (.iload_n 2, 1) := by decide +kernel
theorem dX4_readTest_66 : decode cX4_readTest 66 = .ok (.iconst 4, 1) := by decide +kernel
theorem dX4_readTest_67 : decode cX4_readTest 67 = .ok (.if_icmp .ge 12, 3) := by decide +kernel
theorem dX4_readTest_70 : decode cX4_readTest 70 = .ok (.aload_n 0, 1) := by decide +kernel
theorem dX4_readTest_71 : decode cX4_readTest 71 = .ok (.iload_n 1, 1) := by decide +kernel
theorem dX4_readTest_72 : decode cX4_readTest 72 = .ok (.iload_n 2, 1) := by decide +kernel
theorem dX4_readTest_73 : decode cX4_readTest 73 = .ok (.iload 4, 2) := by decide +kernel
theorem dX4_readTest_75 : decode cX4_readTest 75 = .ok (.iload_n 3, 1) := by decide +kernel
theorem dX4_readTest_76 : decode cX4_readTest 76 = .ok (.invokevirtual 77, 3) := by decide +kernel
theorem dX4_readTest_79 : decode cX4_readTest 79 = .ok (.iload 5, 2) := by decide +kernel
theorem dX4_readTest_81 : decode cX4_readTest 81 = .ok (.ireturn, 1) := by decide +kernel
theorem dX4_keepTest_0 : decode cX4_keepTest 0 = .ok (.iload_n 1, 1) := by decide +kernel
theorem dX4_keepTest_1 : decode cX4_keepTest 1 = .ok (.iconst 4, 1) := by decide +kernel
theorem dX4_keepTest_2 : decode cX4_keepTest 2 = .ok (.imul, 1) := by decide +kernel
theorem dX4_keepTest_3 : decode cX4_keepTest 3 = .ok (.iload_n 2, 1) := by decide +kernel
theorem dX4_keepTest_4 : decode cX4_keepTest 4 = .ok (.iadd, 1) := by decide +kernel
theorem dX4_keepTest_5 : decode cX4_keepTest 5 = .ok (.istore 5, 2) := by decide +kernel
theorem dX4_keepTest_7 : decode cX4_keepTest 7 = .ok (.aload_n 0, 1) := by decide +kernel
theorem dX4_keepTest_8 : decode cX4_keepTest 8 = .ok (.getfield 33, 3) := by decide +kernel
theorem dX4_keepTest_11 : decode cX4_keepTest 11 = .ok (.getfield 81, 3) := by decide +kernel
theorem dX4_keepTest_14 : decode cX4_keepTest 14 = .ok (.iload_n 3, 1) := by decide +kernel
theorem dX4_keepTest_15 : decode cX4_keepTest 15 = .ok (.iconst 1, 1) := by decide +kernel
theorem dX4_keepTest_16 : decode cX4_keepTest 16 = .ok (.iadd, 1) := by decide +kernel
theorem dX4_keepTest_17 : decode cX4_keepTest 17 = .ok (.iaload, 1) := by decide +kernel
theorem dX4_keepTest_18 : decode cX4_keepTest 18 = .ok (.istore 6, 2) := by decide +kernel
theorem dX4_keepTest_20 : decode cX4_keepTest 20 = .ok (.aload_n 0, 1) := by decide +kernel
theorem dX4_keepTest_21 : decode cX4_keepTest 21 = .ok (.getfield 12, 3) := by decide +kernel
theorem dX4_keepTest_24 : decode cX4_keepTest 24 = .ok (.getfield 84, 3) := by decide +kernel
theorem dX4_keepTest_27 : decode cX4_keepTest 27 = .ok (.iload 5, 2) := by decide +kernel
theorem dX4_keepTest_29 : decode cX4_keepTest 29 = .ok (.aload_n 0, 1) := by decide +kernel
theorem dX4_keepTest_30 : decode cX4_keepTest 30 = .ok (.getfield 33, 3) := by decide +kernel
theorem dX4_keepTest_33 : decode cX4_keepTest 33 = .ok (.getfield 81, 3) := by decide +kernel
theorem dX4_keepTest_36 : decode cX4_keepTest 36 = .ok (.iload_n 3, 1) := by decide +kernel
theorem dX4_keepTest_37 : decode cX4_keepTest 37 = .ok (.iaload, 1) := by decide +kernel
theorem dX4_keepTest_38 : decode cX4_keepTest 38 = .ok (.iastore, 1) := by decide +kernel
theorem dX4_keepTest_39 : decode cX4_keepTest 39 = .ok (.aload_n 0, 1) := by decide +kernel
theorem dX4_keepTest_40 : decode cX4_keepTest 40 = .ok (.getfield 12, 3) := by decide +kernel
theorem dX4_keepTest_43 : decode cX4_keepTest 43 = .ok (.getfield 87, 3) := by decide +kernel
theorem dX4_keepTest_46 : decode cX4_keepTest 46 = .ok (.iload 5, 2) := by decide +kernel
theorem dX4_keepTest_48 : decode cX4_keepTest 48 = .ok (.iload 4, 2) := by decide +kernel
theorem dX4_keepTest_50 : decode cX4_keepTest 50 = .ok (.ifCond .eq 11, 3) := by decide +kernel
theorem dX4_keepTest_53 : decode cX4_keepTest 53 = .ok (.bipush 7, 2) := by decide +kernel
theorem dX4_keepTest_55 : decode cX4_keepTest 55 = .ok (.iload 6, 2) := by decide +kernel
theorem dX4_keepTest_57 : decode cX4_keepTest 57 = .ok (.isub, 1) := by decide +kernel
theorem dX4_keepTest_58 : decode cX4_keepTest 58 = .ok (.goto 5, 3) := by decide +kernel
theorem dX4_keepTest_61 : decode cX4_keepTest 61 = .ok (.iload 6, 2) := by decide +kernel
theorem dX4_keepTest_63 : decode cX4_keepTest 63 = .ok (.iastore, 1) := by decide +kernel
theorem dX4_keepTest_64 : decode cX4_keepTest 64 = .ok (.aload_n 0, 1) := by decide +kernel
theorem dX4_keepTest_65 : decode cX4_keepTest 65 = .ok (.getfield 12, 3) := by decide +kernel
theorem dX4_keepTest_68 : decode cX4_keepTest 68 = .ok (.getfield 90, 3) := by decide +kernel
theorem dX4_keepTest_71 : decode cX4_keepTest 71 = .ok (.iload 5, 2) := by decide +kernel
theorem dX4_keepTest_73 : decode cX4_keepTest 73 = .ok (.aload_n 0, 1) := by decide +kernel
theorem dX4_keepTest_74 : decode cX4_keepTest 74 = .ok (.getfield 33, 3) := by decide +kernel
theorem dX4_keepTest_77 : decode cX4_keepTest 77 = .ok (.getfield 81, 3) := by decide +kernel
theorem dX4_keepTest_80 : decode cX4_keepTest 80 = .ok (.iload_n 3, 1) := by decide +kernel
theorem dX4_keepTest_81 : decode cX4_keepTest 81 = .ok (.iconst 2, 1) := by decide +kernel
theorem dX4_keepTest_82 : decode cX4_keepTest 82 = .ok (.iadd, 1) := by decide +kernel
theorem dX4_keepTest_83 : decode cX4_keepTest 83 = .ok (.iaload, 1) := by decide +kernel
theorem dX4_keepTest_84 : decode cX4_keepTest 84 = .ok (.iastore, 1) := by decide +kernel
theorem dX4_keepTest_85 : decode cX4_keepTest 85 = .ok (.aload_n 0, 1) := by decide +kernel
theorem dX4_keepTest_86 : decode cX4_keepTest 86 = .ok (.getfield 12, 3) := by decide +kernel
theorem dX4_keepTest_89 : decode cX4_keepTest 89 = .ok (.getfield 54, 3) := by decide +kernel
theorem dX4_keepTest_92 : decode cX4_keepTest 92 = .ok (.iload_n 1, 1) := by decide +kernel
theorem dX4_keepTest_93 : decode cX4_keepTest 93 = .ok (.iload_n 2, 1) := by decide +kernel
theorem dX4_keepTest_94 : decode cX4_keepTest 94 = .ok (.iconst 1, 1) := by decide +kernel
theorem dX4_keepTest_95 : decode cX4_keepTest 95 = .ok (.iadd, 1) := by decide +kernel
theorem dX4_keepTest_96 : decode cX4_keepTest 96 = .ok (.iastore, 1) := by decide +kernel
theorem dX4_keepTest_97 : decode cX4_keepTest 97 = .ok (.return_, 1) := by decide +kernel
theorem dX4_readDuty_0 : decode cX4_readDuty 0 = .ok (.aload_n 0, 1) := by decide +kernel
theorem dX4_readDuty_1 : decode cX4_readDuty 1 = .ok (.bipush 11, 2) := by decide +kernel
theorem dX4_readDuty_3 : decode cX4_readDuty 3 = .ok (.invokevirtual 70, 3) := by decide +kernel
theorem dX4_readDuty_6 : decode cX4_readDuty 6 = .ok (.ifCond .ne 10, 3) := by decide +kernel
theorem dX4_readDuty_9 : decode cX4_readDuty 9 = .ok (.aload_n 0, 1) := by decide +kernel
theorem dX4_readDuty_10 : decode cX4_readDuty 10 = .ok (.bipush 10, 2) := by decide +kernel
theorem dX4_readDuty_12 : decode cX4_readDuty 12 = .ok (.invokevirtual 70, 3) := by decide +kernel
theorem dX4_readDuty_15 : decode cX4_readDuty 15 = .ok (.ireturn, 1) := by decide +kernel
theorem dX4_readDuty_16 : decode cX4_readDuty 16 = .ok (.aload_n 0, 1) := by decide +kernel
theorem dX4_readDuty_17 : decode cX4_readDuty 17 = .ok (.getfield 33, 3) := by decide +kernel
theorem dX4_readDuty_20 : decode cX4_readDuty 20 = .ok (.getfield 81, 3) := by decide +kernel
theorem dX4_readDuty_23 : decode cX4_readDuty 23 = .ok (.aload_n 0, 1) := by decide +kernel
theorem dX4_readDuty_24 : decode cX4_readDuty 24 = .ok (.getfield 25, 3) := by decide +kernel
theorem dX4_readDuty_27 : decode cX4_readDuty 27 = .ok (.iaload, 1) := by decide +kernel
theorem dX4_readDuty_28 : decode cX4_readDuty 28 = .ok (.istore_n 2, 1) := by decide +kernel
theorem dX4_readDuty_29 : decode cX4_readDuty 29 = .ok (.aload_n 0, 1) := by decide +kernel
theorem dX4_readDuty_30 : decode cX4_readDuty 30 = .ok (.iconst 2, 1) := by decide +kernel
theorem dX4_readDuty_31 : decode cX4_readDuty 31 = .ok (.invokevirtual 43, 3) := by decide +kernel
theorem dX4_readDuty_34 : decode cX4_readDuty 34 = .ok (.ifCond .eq 14, 3) := by decide +kernel
theorem dX4_readDuty_37 : decode cX4_readDuty 37 = .ok (.iload_n 2, 1) := by decide +kernel
theorem dX4_readDuty_38 : decode cX4_readDuty 38 = .ok (.bipush 100, 2) := by decide +kernel
theorem dX4_readDuty_40 : decode cX4_readDuty 40 = .ok (.if_icmp .le 8, 3) := by decide +kernel
theorem dX4_readDuty_43 : decode cX4_readDuty 43 = .ok (.aload_n 0, 1) := by decide +kernel
theorem dX4_readDuty_44 : decode cX4_readDuty 44 = .ok (.iconst 2, 1) := by decide +kernel
theorem dX4_readDuty_45 : decode cX4_readDuty 45 = .ok (.invokevirtual 60, 3) := by decide +kernel
theorem dX4_readDuty_48 : decode cX4_readDuty 48 = .ok (.iload_n 1, 1) := by decide +kernel
theorem dX4_readDuty_49 : decode cX4_readDuty 49 = .ok (.bipush 12, 2) := by decide +kernel
theorem dX4_readDuty_51 : decode cX4_readDuty 51 = .ok (.if_icmp .ge 13, 3) := by decide +kernel
theorem dX4_readDuty_54 : decode cX4_readDuty 54 = .ok (.aload_n 0, 1) := by decide +kernel
theorem dX4_readDuty_55 : decode cX4_readDuty 55 = .ok (.getfield 12, 3) := by decide +kernel
theorem dX4_readDuty_58 : decode cX4_readDuty 58 = .ok (.getfield 57, 3) := by decide +kernel
theorem dX4_readDuty_61 : decode cX4_readDuty 61 = .ok (.iload_n 1, 1) := by decide +kernel
theorem dX4_readDuty_62 : decode cX4_readDuty 62 = .ok (.iload_n 2, 1) := by decide +kernel
theorem dX4_readDuty_63 : decode cX4_readDuty 63 = .ok (.iastore, 1) := by decide +kernel
theorem dX4_readDuty_64 : decode cX4_readDuty 64 = .ok (.aload_n 0, 1) := by decide +kernel
theorem dX4_readDuty_65 : decode cX4_readDuty 65 = .ok (.iconst 2, 1) := by decide +kernel
theorem dX4_readDuty_66 : decode cX4_readDuty 66 = .ok (.invokevirtual 70, 3) := by decide +kernel
theorem dX4_readDuty_69 : decode cX4_readDuty 69 = .ok (.ireturn, 1) := by decide +kernel
theorem dX4_note_0 : decode cX4_note 0 = .ok (.aload_n 0, 1) := by decide +kernel
theorem dX4_note_1 : decode cX4_note 1 = .ok (.getfield 18, 3) := by decide +kernel
theorem dX4_note_4 : decode cX4_note 4 = .ok (.ifCond .ne 24, 3) := by decide +kernel
theorem dX4_note_7 : decode cX4_note 7 = .ok (.aload_n 0, 1) := by decide +kernel
theorem dX4_note_8 : decode cX4_note 8 = .ok (.iload_n 1, 1) := by decide +kernel
theorem dX4_note_9 : decode cX4_note 9 = .ok (.putfield 18, 3) := by decide +kernel
theorem dX4_note_12 : decode cX4_note 12 = .ok (.aload_n 0, 1) := by decide +kernel
theorem dX4_note_13 : decode cX4_note 13 = .ok (.aload_n 0, 1) := by decide +kernel
theorem dX4_note_14 : decode cX4_note 14 = .ok (.getfield 33, 3) := by decide +kernel
theorem dX4_note_17 : decode cX4_note 17 = .ok (.getfield 50, 3) := by decide +kernel
theorem dX4_note_20 : decode cX4_note 20 = .ok (.aload_n 0, 1) := by decide +kernel
theorem dX4_note_21 : decode cX4_note 21 = .ok (.getfield 25, 3) := by decide +kernel
theorem dX4_note_24 : decode cX4_note 24 = .ok (.iaload, 1) := by decide +kernel
theorem dX4_note_25 : decode cX4_note 25 = .ok (.putfield 22, 3) := by decide +kernel
theorem dX4_note_28 : decode cX4_note 28 = .ok (.return_, 1) := by decide +kernel
theorem dX4_isAt_0 : decode cX4_isAt 0 = .ok (.aload_n 0, 1) := by decide +kernel
theorem dX4_isAt_1 : decode cX4_isAt 1 = .ok (.getfield 33, 3) := by decide +kernel
theorem dX4_isAt_4 : decode cX4_isAt 4 = .ok (.getfield 93, 3) := by decide +kernel
theorem dX4_isAt_7 : decode cX4_isAt 7 = .ok (.aload_n 0, 1) := by decide +kernel
theorem dX4_isAt_8 : decode cX4_isAt 8 = .ok (.getfield 25, 3) := by decide +kernel
theorem dX4_isAt_11 : decode cX4_isAt 11 = .ok (.iaload, 1) := by decide +kernel
theorem dX4_isAt_12 : decode cX4_isAt 12 = .ok (.iload_n 1, 1) := by decide +kernel
theorem dX4_isAt_13 : decode cX4_isAt 13 = .ok (.if_icmp .ne 7, 3) := by decide +kernel
theorem dX4_isAt_16 : decode cX4_isAt 16 = .ok (.iconst 1, 1) := by decide +kernel
theorem dX4_isAt_17 : decode cX4_isAt 17 = .ok (.goto 4, 3) := by decide +kernel
theorem dX4_isAt_20 : decode cX4_isAt 20 = .ok (.iconst 0, 1) := by decide +kernel
theorem dX4_isAt_21 : decode cX4_isAt 21 = .ok (.ireturn, 1) := by decide +kernel
theorem dX4_take_0 : decode cX4_take 0 = .ok (.aload_n 0, 1) := by decide +kernel
theorem dX4_take_1 : decode cX4_take 1 = .ok (.iload_n 1, 1) := by decide +kernel
theorem dX4_take_2 : decode cX4_take 2 = .ok (.invokevirtual 43, 3) := by decide +kernel
theorem dX4_take_5 : decode cX4_take 5 = .ok (.ifCond .eq 13, 3) := by decide +kernel
theorem dX4_take_8 : decode cX4_take 8 = .ok (.aload_n 0, 1) := by decide +kernel
theorem dX4_take_9 : decode cX4_take 9 = .ok (.getfield 25, 3) := by decide +kernel
theorem dX4_take_12 : decode cX4_take 12 = .ok (.sipush 300, 3) := by decide +kernel
theorem dX4_take_15 : decode cX4_take 15 = .ok (.if_icmp .lt 5, 3) := by decide +kernel
theorem dX4_take_18 : decode cX4_take 18 = .ok (.iconst 0, 1) := by decide +kernel
theorem dX4_take_19 : decode cX4_take 19 = .ok (.ireturn, 1) := by decide +kernel
theorem dX4_take_20 : decode cX4_take 20 = .ok (.aload_n 0, 1) := by decide +kernel
theorem dX4_take_21 : decode cX4_take 21 = .ok (.dup, 1) := by decide +kernel
theorem dX4_take_22 : decode cX4_take 22 = .ok (.getfield 25, 3) := by decide +kernel
theorem dX4_take_25 : decode cX4_take 25 = .ok (.iconst 1, 1) := by decide +kernel
theorem dX4_take_26 : decode cX4_take 26 = .ok (.iadd, 1) := by decide +kernel
theorem dX4_take_27 : decode cX4_take 27 = .ok (.putfield 25, 3) := by decide +kernel
theorem dX4_take_30 : decode cX4_take 30 = .ok (.iconst 1, 1) := by decide +kernel
theorem dX4_take_31 : decode cX4_take 31 = .ok (.ireturn, 1) := by decide +kernel
theorem dX5_init_0 : decode cX5_init 0 = .ok (.aload_n 0, 1) := by decide +kernel
theorem dX5_init_1 : decode cX5_init 1 = .ok (.invokespecial 3, 3) := by decide +kernel
theorem dX5_init_4 : decode cX5_init 4 = .ok (.aload_n 0, 1) := by decide +kernel
theorem dX5_init_5 : decode cX5_init 5 = .ok (.sipush 300, 3) := by decide +kernel
theorem dX5_init_8 : decode cX5_init 8 = .ok (.newarray .byte, 2) := by decide +kernel
theorem dX5_init_10 : decode cX5_init 10 = .ok (.putfield 9, 3) := by decide +kernel
theorem dX5_init_13 : decode cX5_init 13 = .ok (.aload_n 0, 1) := by decide +kernel
theorem dX5_init_14 : decode cX5_init 14 = .ok (.iconst 0, 1) := by decide +kernel
theorem dX5_init_15 : decode cX5_init 15 = .ok (.putfield 15, 3) := by decide +kernel
theorem dX5_init_18 : decode cX5_init 18 = .ok (.return_, 1) := by decide +kernel
theorem dX5_copyFrom_0 : decode cX5_copyFrom 0 = .ok (.aload_n 1, 1) := by decide +kernel
theorem dX5_copyFrom_1 : decode cX5_copyFrom 1 = .ok (.getfield 9, 3) := by decide +kernel
theorem dX5_copyFrom_4 : decode cX5_copyFrom 4 = .ok (.iconst 0, 1) := by decide +kernel
theorem dX5_copyFrom_5 : decode cX5_copyFrom 5 = .ok (.aload_n 0, 1) := by decide +kernel
theorem dX5_copyFrom_6 : decode cX5_copyFrom 6 = .ok (.getfield 9, 3) := by decide +kernel
theorem dX5_copyFrom_9 : decode cX5_copyFrom 9 = .ok (.iconst 0, 1) := by decide +kernel
theorem dX5_copyFrom_10 : decode cX5_copyFrom 10 = .ok (.sipush 300, 3) := by decide +kernel
theorem dX5_copyFrom_13 : decode cX5_copyFrom 13 = .ok (.invokestatic 19, 3) := by decide +kernel
theorem dX5_copyFrom_16 : decode cX5_copyFrom 16 = .ok (.aload_n 0, 1) := by decide +kernel
theorem dX5_copyFrom_17 : decode cX5_copyFrom 17 = .ok (.aload_n 1, 1) := by decide +kernel
theorem dX5_copyFrom_18 : decode cX5_copyFrom 18 = .ok (.getfield 15, 3) := by decide +kernel
theorem dX5_copyFrom_21 : decode cX5_copyFrom 21 = .ok (.putfield 15, 3) := by decide +kernel
theorem dX5_copyFrom_24 : decode cX5_copyFrom 24 = .ok (.return_, 1) := by decide +kernel
theorem dX5_append_0 : decode cX5_append 0 = .ok (.bipush 24, 2) := by decide +kernel
theorem dX5_append_2 : decode cX5_append 2 = .ok (.istore_n 2, 1) := by decide +kernel
theorem dX5_append_3 : decode cX5_append 3 = .ok (.iload_n 2, 1) := by decide +kernel
theorem dX5_append_4 : decode cX5_append 4 = .ok (.ifCond .lt 42, 3) := by decide +kernel
theorem dX5_append_7 : decode cX5_append 7 = .ok (.aload_n 0, 1) := by decide +kernel
theorem dX5_append_8 : decode cX5_append 8 = .ok (.getfield 15, 3) := by decide +kernel
theorem dX5_append_11 : decode cX5_append 11 = .ok (.sipush 300, 3) := by decide +kernel
theorem dX5_append_14 : decode cX5_append 14 = .ok (.if_icmp .ge 32, 3) := by decide +kernel
theorem dX5_append_17 : decode cX5_append 17 = .ok (.aload_n 0, 1) := by decide +kernel
theorem dX5_append_18 : decode cX5_append 18 = .ok (.getfield 9, 3) := by decide +kernel
theorem dX5_append_21 : decode cX5_append 21 = .ok (.aload_n 0, 1) := by decide +kernel
theorem dX5_append_22 : decode cX5_append 22 = .ok (.getfield 15, 3) := by decide +kernel
theorem dX5_append_25 : decode cX5_append 25 = .ok (.iload_n 1, 1) := by decide +kernel
theorem dX5_append_26 : decode cX5_append 26 = .ok (.iload_n 2, 1) := by decide +kernel
theorem dX5_append_27 : decode cX5_append 27 = .ok (.ishr, 1) := by decide +kernel
theorem dX5_append_28 : decode cX5_append 28 = .ok (.i2b, 1) := by decide +kernel
theorem dX5_append_29 : decode cX5_append 29 = .ok (.bastore, 1) := by decide +kernel
theorem dX5_append_30 : decode cX5_append 30 = .ok (.aload_n 0, 1) := by decide +kernel
theorem dX5_append_31 : decode cX5_append 31 = .ok (.dup, 1) := by decide +kernel
theorem dX5_append_32 : decode cX5_append 32 = .ok (.getfield 15, 3) := by decide +kernel
theorem dX5_append_35 : decode cX5_append 35 = .ok (.iconst 1, 1) := by decide +kernel
theorem dX5_append_36 : decode cX5_append 36 = .ok (.iadd, 1) := by decide +kernel
theorem dX5_append_37 : decode cX5_append 37 = .ok (.putfield 15, 3) := by decide +kernel
theorem dX5_append_40 : decode cX5_append 40 = .ok (.iinc 2 (-8), 3) := by decide +kernel
theorem dX5_append_43 : decode cX5_append 43 = .ok (.goto (-40), 3) := by decide +kernel
theorem dX5_append_46 : decode cX5_append 46 = .ok (.return_, 1) := by decide +kernel
theorem dX6_init_0 : decode cX6_init 0 = .ok (.aload_n 0, 1) := by decide +kernel
theorem dX6_init_1 : decode cX6_init 1 = .ok (.invokespecial 3, 3) := by decide +kernel
theorem dX6_init_4 : decode cX6_init 4 = .ok (.aload_n 0, 1) := by decide +kernel
theorem dX6_init_5 : decode cX6_init 5 = .ok (.sipush 301, 3) := by decide +kernel
theorem dX6_init_8 : decode cX6_init 8 = .ok (.newarray .int, 2) := by decide +kernel
theorem dX6_init_10 : decode cX6_init 10 = .ok (.putfield 9, 3) := by decide +kernel
theorem dX6_init_13 : decode cX6_init 13 = .ok (.aload_n 0, 1) := by decide +kernel
theorem dX6_init_14 : decode cX6_init 14 = .ok (.sipush 301, 3) := by decide +kernel
theorem dX6_init_17 : decode cX6_init 17 = .ok (.newarray .int, 2) := by decide +kernel
theorem dX6_init_19 : decode cX6_init 19 = .ok (.putfield 15, 3) := by decide +kernel
theorem dX6_init_22 : decode cX6_init 22 = .ok (.aload_n 0, 1) := by decide +kernel
theorem dX6_init_23 : decode cX6_init 23 = .ok (.sipush 301, 3) := by decide +kernel
theorem dX6_init_26 : decode cX6_init 26 = .ok (.newarray .int, 2) := by decide +kernel
theorem dX6_init_28 : decode cX6_init 28 = .ok (.putfield 18, 3) := by decide +kernel
theorem dX6_init_31 : decode cX6_init 31 = .ok (.aload_n 0, 1) := by decide +kernel
theorem dX6_init_32 : decode cX6_init 32 = .ok (.iconst 0, 1) := by decide +kernel
theorem dX6_init_33 : decode cX6_init 33 = .ok (.putfield 21, 3) := by decide +kernel
theorem dX6_init_36 : decode cX6_init 36 = .ok (.aload_n 0, 1) := by decide +kernel
theorem dX6_init_37 : decode cX6_init 37 = .ok (.iconst 0, 1) := by decide +kernel
theorem dX6_init_38 : decode cX6_init 38 = .ok (.putfield 25, 3) := by decide +kernel
theorem dX6_init_41 : decode cX6_init 41 = .ok (.aload_n 0, 1) := by decide +kernel
theorem dX6_init_42 : decode cX6_init 42 = .ok (.iconst 0, 1) := by decide +kernel
theorem dX6_init_43 : decode cX6_init 43 = .ok (.putfield 28, 3) := by decide +kernel
theorem dX6_init_46 : decode cX6_init 46 = .ok (.aload_n 0, 1) := by decide +kernel
theorem dX6_init_47 : decode cX6_init 47 = .ok (.aload_n 1, 1) := by decide +kernel
theorem dX6_init_48 : decode cX6_init 48 = .ok (.putfield 31, 3) := by decide +kernel
theorem dX6_init_51 : decode cX6_init 51 = .ok (.return_, 1) := by decide +kernel
theorem dX6_scan_0 : decode cX6_scan 0 = .ok (.aload_n 0, 1) := by decide +kernel
theorem dX6_scan_1 : decode cX6_scan 1 = .ok (.iconst 0, 1) := by decide +kernel
theorem dX6_scan_2 : decode cX6_scan 2 = .ok (.putfield 25, 3) := by decide +kernel
theorem dX6_scan_5 : decode cX6_scan 5 = .ok (.iconst 2, 1) := by decide +kernel
theorem dX6_scan_6 : decode cX6_scan 6 = .ok (.istore_n 1, 1) := by decide +kernel
theorem dX6_scan_7 : decode cX6_scan 7 = .ok (.iconst 0, 1) := by decide +kernel
theorem dX6_scan_8 : decode cX6_scan 8 = .ok (.istore_n 2, 1) := by decide +kernel
theorem dX6_scan_9 : decode cX6_scan 9 = .ok (.iload_n 2, 1) := by decide +kernel
theorem dX6_scan_10 : decode cX6_scan 10 = .ok (.sipush 300, 3) := by decide +kernel
theorem dX6_scan_13 : decode cX6_scan 13 = .ok (.if_icmp .gt 55, 3) := by decide +kernel
theorem dX6_scan_16 : decode cX6_scan 16 = .ok (.iload_n 1, 1) := by decide +kernel
theorem dX6_scan_17 : decode cX6_scan 17 = .ok (.ifCond .eq 51, 3) := by decide +kernel
theorem dX6_scan_20 : decode cX6_scan 20 = .ok (.iload_n 1, 1) := by decide +kernel
theorem dX6_scan_21 : decode cX6_scan 21 = .ok (.iconst 1, 1) := by decide +kernel
theorem dX6_scan_22 : decode cX6_scan 22 = .ok (.if_icmp .eq 46, 3) := by decide +kernel
theorem dX6_scan_25 : decode cX6_scan 25 = .ok (.aload_n 0, 1) := by decide +kernel
theorem dX6_scan_26 : decode cX6_scan 26 = .ok (.iconst 0, 1) := by decide +kernel
theorem dX6_scan_27 : decode cX6_scan 27 = .ok (.putfield 28, 3) := by decide +kernel
theorem dX6_scan_30 : decode cX6_scan 30 = .ok (.aload_n 0, 1) := by decide +kernel
theorem dX6_scan_31 : decode cX6_scan 31 = .ok (.invokevirtual 35, 3) := by decide +kernel
theorem dX6_scan_34 : decode cX6_scan 34 = .ok (.istore_n 1, 1) := by decide +kernel
theorem dX6_scan_35 : decode cX6_scan 35 = .ok (.aload_n 0, 1) := by decide +kernel
theorem dX6_scan_36 : decode cX6_scan 36 = .ok (.getfield 9, 3) := by decide +kernel
theorem dX6_scan_39 : decode cX6_scan 39 = .ok (.iload_n 2, 1) := by decide +kernel
theorem dX6_scan_40 : decode cX6_scan 40 = .ok (.iload_n 1, 1) := by decide +kernel
theorem dX6_scan_41 : decode cX6_scan 41 = .ok (.iastore, 1) := by decide +kernel
theorem dX6_scan_42 : decode cX6_scan 42 = .ok (.aload_n 0, 1) := by decide +kernel
theorem dX6_scan_43 : decode cX6_scan 43 = .ok (.getfield 15, 3) := by decide +kernel
theorem dX6_scan_46 : decode cX6_scan 46 = .ok (.iload_n 2, 1) := by decide +kernel
theorem dX6_scan_47 : decode cX6_scan 47 = .ok (.aload_n 0, 1) := by decide +kernel
theorem dX6_scan_48 : decode cX6_scan 48 = .ok (.getfield 28, 3) := by decide +kernel
theorem dX6_scan_51 : decode cX6_scan 51 = .ok (.iastore, 1) := by decide +kernel
theorem dX6_scan_52 : decode cX6_scan 52 = .ok (.aload_n 0, 1) := by decide +kernel
theorem dX6_scan_53 : decode cX6_scan 53 = .ok (.getfield 18, 3) := by decide +kernel
theorem dX6_scan_56 : decode cX6_scan 56 = .ok (.iload_n 2, 1) := by decide +kernel
theorem dX6_scan_57 : decode cX6_scan 57 = .ok (.aload_n 0, 1) := by decide +kernel
theorem dX6_scan_58 : decode cX6_scan 58 = .ok (.getfield 21, 3) := by decide +kernel
theorem dX6_scan_61 : decode cX6_scan 61 = .ok (.iastore, 1) := by decide +kernel
theorem dX6_scan_62 : decode cX6_scan 62 = .ok (.iinc 2 1, 3) := by decide +kernel
theorem dX6_scan_65 : decode cX6_scan 65 = .ok (.goto (-56), 3) := by decide +kernel
theorem dX6_scan_68 : decode cX6_scan 68 = .ok (.return_, 1) := by decide +kernel
theorem dX6_scanOne_0 : decode cX6_scanOne 0 = .ok (.aload_n 0, 1) := by decide +kernel
theorem dX6_scanOne_1 : decode cX6_scanOne 1 = .ok (.getfield 25, 3) := by decide +kernel
theorem dX6_scanOne_4 : decode cX6_scanOne 4 = .ok (.aload_n 0, 1) := by decide +kernel
theorem dX6_scanOne_5 : decode cX6_scanOne 5 = .ok (.getfield 31, 3) := by decide +kernel
theorem dX6_scanOne_8 : decode cX6_scanOne 8 = .ok (.getfield 39, 3) := by decide +kernel
theorem dX6_scanOne_11 : decode cX6_scanOne 11 = .ok (.if_icmp .ge 34, 3) := by decide +kernel
theorem dX6_scanOne_14 : decode cX6_scanOne 14 = .ok (.aload_n 0, 1) := by decide +kernel
theorem dX6_scanOne_15 : decode cX6_scanOne 15 = .ok (.getfield 31, 3) := by decide +kernel
theorem dX6_scanOne_18 : decode cX6_scanOne 18 = .ok (.getfield 44, 3) := by decide +kernel
theorem dX6_scanOne_21 : decode cX6_scanOne 21 = .ok (.aload_n 0, 1) := by decide +kernel
theorem dX6_scanOne_22 : decode cX6_scanOne 22 = .ok (.getfield 25, 3) := by decide +kernel
theorem dX6_scanOne_25 : decode cX6_scanOne 25 = .ok (.baload, 1) := by decide +kernel
theorem dX6_scanOne_26 : decode cX6_scanOne 26 = .ok (.invokestatic 48, 3) := by decide +kernel
theorem dX6_scanOne_29 : decode cX6_scanOne 29 = .ok (.ifCond .eq 16, 3) := by decide +kernel
theorem dX6_scanOne_32 : decode cX6_scanOne 32 = .ok (.aload_n 0, 1) := by decide +kernel
theorem dX6_scanOne_33 : decode cX6_scanOne 33 = .ok (.dup, 1) := by decide +kernel
theorem dX6_scanOne_34 : decode cX6_scanOne 34 = .ok (.getfield 25, 3) := by decide +kernel
theorem dX6_scanOne_37 : decode cX6_scanOne 37 = .ok (.iconst 1, 1) := by decide +kernel
theorem dX6_scanOne_38 : decode cX6_scanOne 38 = .ok (.iadd, 1) := by decide +kernel
theorem dX6_scanOne_39 : decode cX6_scanOne 39 = .ok (.putfield 25, 3) := by decide +kernel
theorem dX6_scanOne_42 : decode cX6_scanOne 42 = .ok (.goto (-42), 3) := by decide +kernel
theorem dX6_scanOne_45 : decode cX6_scanOne 45 = .ok (.aload_n 0, 1) := by decide +kernel
theorem dX6_scanOne_46 : decode cX6_scanOne 46 = .ok (.aload_n 0, 1) := by decide +kernel
theorem dX6_scanOne_47 : decode cX6_scanOne 47 = .ok (.getfield 25, 3) := by decide +kernel
theorem dX6_scanOne_50 : decode cX6_scanOne 50 = .ok (.putfield 21, 3) := by decide +kernel
theorem dX6_scanOne_53 : decode cX6_scanOne 53 = .ok (.aload_n 0, 1) := by decide +kernel
theorem dX6_scanOne_54 : decode cX6_scanOne 54 = .ok (.getfield 25, 3) := by decide +kernel
theorem dX6_scanOne_57 : decode cX6_scanOne 57 = .ok (.aload_n 0, 1) := by decide +kernel
theorem dX6_scanOne_58 : decode cX6_scanOne 58 = .ok (.getfield 31, 3) := by decide +kernel
theorem dX6_scanOne_61 : decode cX6_scanOne 61 = .ok (.getfield 39, 3) := by decide +kernel
theorem dX6_scanOne_64 : decode cX6_scanOne 64 = .ok (.if_icmp .lt 5, 3) := by decide +kernel
theorem dX6_scanOne_67 : decode cX6_scanOne 67 = .ok (.iconst 0, 1) := by decide +kernel
theorem dX6_scanOne_68 : decode cX6_scanOne 68 = .ok (.ireturn, 1) := by decide +kernel
theorem dX6_scanOne_69 : decode cX6_scanOne 69 = .ok (.aload_n 0, 1) := by decide +kernel
theorem dX6_scanOne_70 : decode cX6_scanOne 70 = .ok (.getfield 31, 3) := by decide +kernel
theorem dX6_scanOne_73 : decode cX6_scanOne 73 = .ok (.getfield 44, 3) := by decide +kernel
theorem dX6_scanOne_76 : decode cX6_scanOne 76 = .ok (.aload_n 0, 1) := by decide +kernel
theorem dX6_scanOne_77 : decode cX6_scanOne 77 = .ok (.getfield 25, 3) := by decide +kernel
theorem dX6_scanOne_80 : decode cX6_scanOne 80 = .ok (.baload, 1) := by decide +kernel
theorem dX6_scanOne_81 : decode cX6_scanOne 81 = .ok (.invokestatic 52, 3) := by decide +kernel
theorem dX6_scanOne_84 : decode cX6_scanOne 84 = .ok (.ifCond .eq 8, 3) := by decide +kernel
theorem dX6_scanOne_87 : decode cX6_scanOne 87 = .ok (.aload_n 0, 1) := by decide +kernel
theorem dX6_scanOne_88 : decode cX6_scanOne 88 = .ok (.invokevirtual 55, 3) := by decide +kernel
theorem dX6_scanOne_91 : decode cX6_scanOne 91 = .ok (.ireturn, 1) := by decide +kernel
theorem dX6_scanOne_92 : decode cX6_scanOne 92 = .ok (.aload_n 0, 1) := by decide +kernel
theorem dX6_scanOne_93 : decode cX6_scanOne 93 = .ok (.getfield 31, 3) := by decide +kernel
theorem dX6_scanOne_96 : decode cX6_scanOne 96 = .ok (.getfield 44, 3) := by decide +kernel
theorem dX6_scanOne_99 : decode cX6_scanOne 99 = .ok (.aload_n 0, 1) := by decide +kernel
theorem dX6_scanOne_100 : decode cX6_scanOne 100 = .ok (.getfield 25, 3) := by decide +kernel
theorem dX6_scanOne_103 : decode cX6_scanOne 103 = .ok (.baload, 1) := by decide +kernel
theorem dX6_scanOne_104 : decode cX6_scanOne 104 = .ok (.invokestatic 58, 3) := by decide +kernel
theorem dX6_scanOne_107 : decode cX6_scanOne 107 = .ok (.ifCond .eq 10, 3) := by decide +kernel
theorem dX6_scanOne_110 : decode cX6_scanOne 110 = .ok (.aload_n 0, 1) := by decide +kernel
theorem dX6_scanOne_111 : decode cX6_scanOne 111 = .ok (.invokevirtual 61, 3) := by decide +kernel
theorem dX6_scanOne_114 : decode cX6_scanOne 114 = .ok (.goto 7, 3) := by decide +kernel
theorem dX6_scanOne_117 : decode cX6_scanOne 117 = .ok (.aload_n 0, 1) := by decide +kernel
theorem dX6_scanOne_118 : decode cX6_scanOne 118 = .ok (.invokevirtual 64, 3) := by decide +kernel
theorem dX6_scanOne_121 : decode cX6_scanOne 121 = .ok (.ireturn, 1) := by decide +kernel
theorem dX6_scanWord_0 : decode cX6_scanWord 0 = .ok (.aload_n 0, 1) := by decide +kernel
theorem dX6_scanWord_1 : decode cX6_scanWord 1 = .ok (.getfield 25, 3) := by decide +kernel
theorem dX6_scanWord_4 : decode cX6_scanWord 4 = .ok (.aload_n 0, 1) := by decide +kernel
theorem dX6_scanWord_5 : decode cX6_scanWord 5 = .ok (.getfield 31, 3) := by decide +kernel
theorem dX6_scanWord_8 : decode cX6_scanWord 8 = .ok (.getfield 39, 3) := by decide +kernel
theorem dX6_scanWord_11 : decode cX6_scanWord 11 = .ok (.if_icmp .ge 34, 3) := by decide +kernel
theorem dX6_scanWord_14 : decode cX6_scanWord 14 = .ok (.aload_n 0, 1) := by decide +kernel
theorem dX6_scanWord_15 : decode cX6_scanWord 15 = .ok (.getfield 31, 3) := by decide +kernel
theorem dX6_scanWord_18 : decode cX6_scanWord 18 = .ok (.getfield 44, 3) := by decide +kernel
theorem dX6_scanWord_21 : decode cX6_scanWord 21 = .ok (.aload_n 0, 1) := by decide +kernel
theorem dX6_scanWord_22 : decode cX6_scanWord 22 = .ok (.getfield 25, 3) := by decide +kernel
theorem dX6_scanWord_25 : decode cX6_scanWord 25 = .ok (.baload, 1) := by decide +kernel
theorem dX6_scanWord_26 : decode cX6_scanWord 26 = .ok (.invokestatic 52, 3) := by decide +kernel
theorem dX6_scanWord_29 : decode cX6_scanWord 29 = .ok (.ifCond .eq 16, 3) := by decide +kernel
theorem dX6_scanWord_32 : decode cX6_scanWord 32 = .ok (.aload_n 0, 1) := by decide +kernel
theorem dX6_scanWord_33 : decode cX6_scanWord 33 = .ok (.dup, 1) := by decide +kernel
theorem dX6_scanWord_34 : decode cX6_scanWord 34 = .ok (.getfield 25, 3) := by decide +kernel
theorem dX6_scanWord_37 : decode cX6_scanWord 37 = .ok (.iconst 1, 1) := by decide +kernel
theorem dX6_scanWord_38 : decode cX6_scanWord 38 = .ok (.iadd, 1) := by decide +kernel
theorem dX6_scanWord_39 : decode cX6_scanWord 39 = .ok (.putfield 25, 3) := by decide +kernel
theorem dX6_scanWord_42 : decode cX6_scanWord 42 = .ok (.goto (-42), 3) := by decide +kernel
theorem dX6_scanWord_45 : decode cX6_scanWord 45 = .ok (.aload_n 0, 1) := by decide +kernel
theorem dX6_scanWord_46 : decode cX6_scanWord 46 = .ok (.ldc 67, 2) := by decide +kernel
theorem dX6_scanWord_48 : decode cX6_scanWord 48 = .ok (.invokevirtual 69, 3) := by decide +kernel
theorem dX6_scanWord_51 : decode cX6_scanWord 51 = .ok (.ifCond .eq 6, 3) := by decide +kernel
theorem dX6_scanWord_54 : decode cX6_scanWord 54 = .ok (.bipush 7, 2) := by decide +kernel
theorem dX6_scanWord_56 : decode cX6_scanWord 56 = .ok (.ireturn, 1) := by decide +kernel
theorem dX6_scanWord_57 : decode cX6_scanWord 57 = .ok (.aload_n 0, 1) := by decide +kernel
theorem dX6_scanWord_58 : decode cX6_scanWord 58 = .ok (.ldc 73, 2) := by decide +kernel
theorem dX6_scanWord_60 : decode cX6_scanWord 60 = .ok (.invokevirtual 69, 3) := by decide +kernel
theorem dX6_scanWord_63 : decode cX6_scanWord 63 = .ok (.ifCond .eq 6, 3) := by decide +kernel
theorem dX6_scanWord_66 : decode cX6_scanWord 66 = .ok (.bipush 8, 2) := by decide +kernel
theorem dX6_scanWord_68 : decode cX6_scanWord 68 = .ok (.ireturn, 1) := by decide +kernel
theorem dX6_scanWord_69 : decode cX6_scanWord 69 = .ok (.aload_n 0, 1) := by decide +kernel
theorem dX6_scanWord_70 : decode cX6_scanWord 70 = .ok (.ldc 75, 2) := by decide +kernel
theorem dX6_scanWord_72 : decode cX6_scanWord 72 = .ok (.invokevirtual 69, 3) := by decide +kernel
theorem dX6_scanWord_75 : decode cX6_scanWord 75 = .ok (.ifCond .eq 6, 3) := by decide +kernel
theorem dX6_scanWord_78 : decode cX6_scanWord 78 = .ok (.bipush 9, 2) := by decide +kernel
theorem dX6_scanWord_80 : decode cX6_scanWord 80 = .ok (.ireturn, 1) := by decide +kernel
theorem dX6_scanWord_81 : decode cX6_scanWord 81 = .ok (.aload_n 0, 1) := by decide +kernel
theorem dX6_scanWord_82 : decode cX6_scanWord 82 = .ok (.ldc 77, 2) := by decide +kernel
theorem dX6_scanWord_84 : decode cX6_scanWord 84 = .ok (.invokevirtual 69, 3) := by decide +kernel
theorem dX6_scanWord_87 : decode cX6_scanWord 87 = .ok (.ifCond .eq 6, 3) := by decide +kernel
theorem dX6_scanWord_90 : decode cX6_scanWord 90 = .ok (.bipush 10, 2) := by decide +kernel
theorem dX6_scanWord_92 : decode cX6_scanWord 92 = .ok (.ireturn, 1) := by decide +kernel
theorem dX6_scanWord_93 : decode cX6_scanWord 93 = .ok (.aload_n 0, 1) := by decide +kernel
theorem dX6_scanWord_94 : decode cX6_scanWord 94 = .ok (.ldc 79, 2) := by decide +kernel
theorem dX6_scanWord_96 : decode cX6_scanWord 96 = .ok (.invokevirtual 69, 3) := by decide +kernel
theorem dX6_scanWord_99 : decode cX6_scanWord 99 = .ok (.ifCond .eq 6, 3) := by decide +kernel
theorem dX6_scanWord_102 : decode cX6_scanWord 102 = .ok (.bipush 11, 2) := by decide +kernel
theorem dX6_scanWord_104 : decode cX6_scanWord 104 = .ok (.ireturn, 1) := by decide +kernel
theorem dX6_scanWord_105 : decode cX6_scanWord 105 = .ok (.aload_n 0, 1) := by decide +kernel
theorem dX6_scanWord_106 : decode cX6_scanWord 106 = .ok (.aload_n 0, 1) := by decide +kernel
theorem dX6_scanWord_107 : decode cX6_scanWord 107 = .ok (.invokevirtual 81, 3) := by decide +kernel
theorem dX6_scanWord_110 : decode cX6_scanWord 110 = .ok (.putfield 28, 3) := by decide +kernel
theorem dX6_scanWord_113 : decode cX6_scanWord 113 = .ok (.aload_n 0, 1) := by decide +kernel
theorem dX6_scanWord_114 : decode cX6_scanWord 114 = .ok (.getfield 28, 3) := by decide +kernel
theorem dX6_scanWord_117 : decode cX6_scanWord 117 = .ok (.iconst (-1), 1) := by decide +kernel
theorem dX6_scanWord_118 : decode cX6_scanWord 118 = .ok (.if_icmp .ne 7, 3) := by decide +kernel
theorem dX6_scanWord_121 : decode cX6_scanWord 121 = .ok (.iconst 1, 1) := by decide +kernel
theorem dX6_scanWord_122 : decode cX6_scanWord 122 = .ok (.goto 4, 3) := by decide +kernel
theorem dX6_scanWord_125 : decode cX6_scanWord 125 = .ok (.iconst 3, 1) := by decide +kernel
theorem dX6_scanWord_126 : decode cX6_scanWord 126 = .ok (.ireturn, 1) := by decide +kernel
theorem dX6_subjectOfWord_0 : decode cX6_subjectOfWord 0 = .ok (.aload_n 0, 1) := by decide +kernel
theorem dX6_subjectOfWord_1 : decode cX6_subjectOfWord 1 = .ok (.ldc 84, 2) := by decide +kernel
theorem dX6_subjectOfWord_3 : decode cX6_subjectOfWord 3 = .ok (.invokevirtual 69, 3) := by decide +kernel
end
section
theorem dX6_subjectOfWord_6 : decode cX6_subjectOfWord 6 = .ok (.ifCond .eq 5, 3) := by decide +kernel
theorem dX6_subjectOfWord_9 : decode cX6_subjectOfWord 9 = .ok (.iconst 0, 1) := by decide +kernel
theorem dX6_subjectOfWord_10 : decode cX6_subjectOfWord 10 = .ok (.ireturn, 1) := by decide +kernel
theorem dX6_subjectOfWord_11 : decode cX6_subjectOfWord 11 = .ok (.aload_n 0, 1) := by decide +kernel
theorem dX6_subjectOfWord_12 : decode cX6_subjectOfWord 12 = .ok (.ldc 86, 2) := by decide +kernel
theorem dX6_subjectOfWord_14 : decode cX6_subjectOfWord 14 = .ok (.invokevirtual 69, 3) := by decide +kernel
theorem dX6_subjectOfWord_17 : decode cX6_subjectOfWord 17 = .ok (.ifCond .eq 5, 3) := by decide +kernel
theorem dX6_subjectOfWord_20 : decode cX6_subjectOfWord 20 = .ok (.iconst 1, 1) := by decide +kernel
theorem dX6_subjectOfWord_21 : decode cX6_subjectOfWord 21 = .ok (.ireturn, 1) := by decide +kernel
theorem dX6_subjectOfWord_22 : decode cX6_subjectOfWord 22 = .ok (.aload_n 0, 1) := by decide +kernel
theorem dX6_subjectOfWord_23 : decode cX6_subjectOfWord 23 = .ok (.ldc 88, 2) := by decide +kernel
theorem dX6_subjectOfWord_25 : decode cX6_subjectOfWord 25 = .ok (.invokevirtual 69, 3) := by decide +kernel
theorem dX6_subjectOfWord_28 : decode cX6_subjectOfWord 28 = .ok (.ifCond .eq 5, 3) := by decide +kernel
theorem dX6_subjectOfWord_31 : decode cX6_subjectOfWord 31 = .ok (.iconst 2, 1) := by decide +kernel
theorem dX6_subjectOfWord_32 : decode cX6_subjectOfWord 32 = .ok (.ireturn, 1) := by decide +kernel
theorem dX6_subjectOfWord_33 : decode cX6_subjectOfWord 33 = .ok (.aload_n 0, 1) := by decide +kernel
theorem dX6_subjectOfWord_34 : decode cX6_subjectOfWord 34 = .ok (.ldc 90, 2) := by decide +kernel
theorem dX6_subjectOfWord_36 : decode cX6_subjectOfWord 36 = .ok (.invokevirtual 69, 3) := by decide +kernel
theorem dX6_subjectOfWord_39 : decode cX6_subjectOfWord 39 = .ok (.ifCond .eq 5, 3) := by decide +kernel
theorem dX6_subjectOfWord_42 : decode cX6_subjectOfWord 42 = .ok (.iconst 3, 1) := by decide +kernel
theorem dX6_subjectOfWord_43 : decode cX6_subjectOfWord 43 = .ok (.ireturn, 1) := by decide +kernel
theorem dX6_subjectOfWord_44 : decode cX6_subjectOfWord 44 = .ok (.aload_n 0, 1) := by decide +kernel
theorem dX6_subjectOfWord_45 : decode cX6_subjectOfWord 45 = .ok (.ldc 92, 2) := by decide +kernel
theorem dX6_subjectOfWord_47 : decode cX6_subjectOfWord 47 = .ok (.invokevirtual 69, 3) := by decide +kernel
theorem dX6_subjectOfWord_50 : decode cX6_subjectOfWord 50 = .ok (.ifCond .eq 5, 3) := by decide +kernel
theorem dX6_subjectOfWord_53 : decode cX6_subjectOfWord 53 = .ok (.iconst 4, 1) := by decide +kernel
theorem dX6_subjectOfWord_54 : decode cX6_subjectOfWord 54 = .ok (.ireturn, 1) := by decide +kernel
theorem dX6_subjectOfWord_55 : decode cX6_subjectOfWord 55 = .ok (.aload_n 0, 1) := by decide +kernel
theorem dX6_subjectOfWord_56 : decode cX6_subjectOfWord 56 = .ok (.ldc 94, 2) := by decide +kernel
theorem dX6_subjectOfWord_58 : decode cX6_subjectOfWord 58 = .ok (.invokevirtual 69, 3) := by decide +kernel
theorem dX6_subjectOfWord_61 : decode cX6_subjectOfWord 61 = .ok (.ifCond .eq 5, 3) := by decide +kernel
theorem dX6_subjectOfWord_64 : decode cX6_subjectOfWord 64 = .ok (.iconst 5, 1) := by decide +kernel
theorem dX6_subjectOfWord_65 : decode cX6_subjectOfWord 65 = .ok (.ireturn, 1) := by decide +kernel
theorem dX6_subjectOfWord_66 : decode cX6_subjectOfWord 66 = .ok (.aload_n 0, 1) := by decide +kernel
theorem dX6_subjectOfWord_67 : decode cX6_subjectOfWord 67 = .ok (.ldc 96, 2) := by decide +kernel
theorem dX6_subjectOfWord_69 : decode cX6_subjectOfWord 69 = .ok (.invokevirtual 69, 3) := by decide +kernel
theorem dX6_subjectOfWord_72 : decode cX6_subjectOfWord 72 = .ok (.ifCond .eq 8, 3) := by decide +kernel
theorem dX6_subjectOfWord_75 : decode cX6_subjectOfWord 75 = .ok (.bipush 6, 2) := by decide +kernel
theorem dX6_subjectOfWord_77 : decode cX6_subjectOfWord 77 = .ok (.goto 4, 3) := by decide +kernel
theorem dX6_subjectOfWord_80 : decode cX6_subjectOfWord 80 = .ok (.iconst (-1), 1) := by decide +kernel
theorem dX6_subjectOfWord_81 : decode cX6_subjectOfWord 81 = .ok (.ireturn, 1) := by decide +kernel
theorem dX6_wordIs_0 : decode cX6_wordIs 0 = .ok (.aload_n 1, 1) := by decide +kernel
theorem dX6_wordIs_1 : decode cX6_wordIs 1 = .ok (.invokevirtual 98, 3) := by decide +kernel
theorem dX6_wordIs_4 : decode cX6_wordIs 4 = .ok (.aload_n 0, 1) := by decide +kernel
theorem dX6_wordIs_5 : decode cX6_wordIs 5 = .ok (.getfield 25, 3) := by decide +kernel
theorem dX6_wordIs_8 : decode cX6_wordIs 8 = .ok (.aload_n 0, 1) := by decide +kernel
theorem dX6_wordIs_9 : decode cX6_wordIs 9 = .ok (.getfield 21, 3) := by decide +kernel
theorem dX6_wordIs_12 : decode cX6_wordIs 12 = .ok (.isub, 1) := by decide +kernel
theorem dX6_wordIs_13 : decode cX6_wordIs 13 = .ok (.if_icmp .eq 5, 3) := by decide +kernel
theorem dX6_wordIs_16 : decode cX6_wordIs 16 = .ok (.iconst 0, 1) := by decide +kernel
theorem dX6_wordIs_17 : decode cX6_wordIs 17 = .ok (.ireturn, 1) := by decide +kernel
theorem dX6_wordIs_18 : decode cX6_wordIs 18 = .ok (.iconst 0, 1) := by decide +kernel
theorem dX6_wordIs_19 : decode cX6_wordIs 19 = .ok (.istore_n 2, 1) := by decide +kernel
theorem dX6_wordIs_20 : decode cX6_wordIs 20 = .ok (.iload_n 2, 1) := by decide +kernel
theorem dX6_wordIs_21 : decode cX6_wordIs 21 = .ok (.aload_n 1, 1) := by decide +kernel
theorem dX6_wordIs_22 : decode cX6_wordIs 22 = .ok (.invokevirtual 98, 3) := by decide +kernel
theorem dX6_wordIs_25 : decode cX6_wordIs 25 = .ok (.if_icmp .ge 33, 3) := by decide +kernel
theorem dX6_wordIs_28 : decode cX6_wordIs 28 = .ok (.aload_n 1, 1) := by decide +kernel
theorem dX6_wordIs_29 : decode cX6_wordIs 29 = .ok (.iload_n 2, 1) := by decide +kernel
theorem dX6_wordIs_30 : decode cX6_wordIs 30 = .ok (.invokevirtual 102, 3) := by decide +kernel
theorem dX6_wordIs_33 : decode cX6_wordIs 33 = .ok (.aload_n 0, 1) := by decide +kernel
theorem dX6_wordIs_34 : decode cX6_wordIs 34 = .ok (.getfield 31, 3) := by decide +kernel
theorem dX6_wordIs_37 : decode cX6_wordIs 37 = .ok (.getfield 44, 3) := by decide +kernel
theorem dX6_wordIs_40 : decode cX6_wordIs 40 = .ok (.aload_n 0, 1) := by decide +kernel
theorem dX6_wordIs_41 : decode cX6_wordIs 41 = .ok (.getfield 21, 3) := by decide +kernel
theorem dX6_wordIs_44 : decode cX6_wordIs 44 = .ok (.iload_n 2, 1) := by decide +kernel
theorem dX6_wordIs_45 : decode cX6_wordIs 45 = .ok (.iadd, 1) := by decide +kernel
theorem dX6_wordIs_46 : decode cX6_wordIs 46 = .ok (.baload, 1) := by decide +kernel
theorem dX6_wordIs_47 : decode cX6_wordIs 47 = .ok (.if_icmp .eq 5, 3) := by decide +kernel
theorem dX6_wordIs_50 : decode cX6_wordIs 50 = .ok (.iconst 0, 1) := by decide +kernel
theorem dX6_wordIs_51 : decode cX6_wordIs 51 = .ok (.ireturn, 1) := by decide +kernel
theorem dX6_wordIs_52 : decode cX6_wordIs 52 = .ok (.iinc 2 1, 3) := by decide +kernel
theorem dX6_wordIs_55 : decode cX6_wordIs 55 = .ok (.goto (-35), 3) := by decide +kernel
theorem dX6_wordIs_58 : decode cX6_wordIs 58 = .ok (.iconst 1, 1) := by decide +kernel
theorem dX6_wordIs_59 : decode cX6_wordIs 59 = .ok (.ireturn, 1) := by decide +kernel
theorem dX6_scanNumber_0 : decode cX6_scanNumber 0 = .ok (.aload_n 0, 1) := by decide +kernel
theorem dX6_scanNumber_1 : decode cX6_scanNumber 1 = .ok (.getfield 25, 3) := by decide +kernel
theorem dX6_scanNumber_4 : decode cX6_scanNumber 4 = .ok (.aload_n 0, 1) := by decide +kernel
theorem dX6_scanNumber_5 : decode cX6_scanNumber 5 = .ok (.getfield 31, 3) := by decide +kernel
theorem dX6_scanNumber_8 : decode cX6_scanNumber 8 = .ok (.getfield 39, 3) := by decide +kernel
theorem dX6_scanNumber_11 : decode cX6_scanNumber 11 = .ok (.if_icmp .ge 61, 3) := by decide +kernel
theorem dX6_scanNumber_14 : decode cX6_scanNumber 14 = .ok (.aload_n 0, 1) := by decide +kernel
theorem dX6_scanNumber_15 : decode cX6_scanNumber 15 = .ok (.getfield 31, 3) := by decide +kernel
theorem dX6_scanNumber_18 : decode cX6_scanNumber 18 = .ok (.getfield 44, 3) := by decide +kernel
theorem dX6_scanNumber_21 : decode cX6_scanNumber 21 = .ok (.aload_n 0, 1) := by decide +kernel
theorem dX6_scanNumber_22 : decode cX6_scanNumber 22 = .ok (.getfield 25, 3) := by decide +kernel
theorem dX6_scanNumber_25 : decode cX6_scanNumber 25 = .ok (.baload, 1) := by decide +kernel
theorem dX6_scanNumber_26 : decode cX6_scanNumber 26 = .ok (.invokestatic 58, 3) := by decide +kernel
theorem dX6_scanNumber_29 : decode cX6_scanNumber 29 = .ok (.ifCond .eq 43, 3) := by decide +kernel
theorem dX6_scanNumber_32 : decode cX6_scanNumber 32 = .ok (.aload_n 0, 1) := by decide +kernel
theorem dX6_scanNumber_33 : decode cX6_scanNumber 33 = .ok (.bipush 10, 2) := by decide +kernel
theorem dX6_scanNumber_35 : decode cX6_scanNumber 35 = .ok (.aload_n 0, 1) := by decide +kernel
theorem dX6_scanNumber_36 : decode cX6_scanNumber 36 = .ok (.getfield 28, 3) := by decide +kernel
theorem dX6_scanNumber_39 : decode cX6_scanNumber 39 = .ok (.imul, 1) := by decide +kernel
theorem dX6_scanNumber_40 : decode cX6_scanNumber 40 = .ok (.aload_n 0, 1) := by decide +kernel
theorem dX6_scanNumber_41 : decode cX6_scanNumber 41 = .ok (.getfield 31, 3) := by decide +kernel
theorem dX6_scanNumber_44 : decode cX6_scanNumber 44 = .ok (.getfield 44, 3) := by decide +kernel
theorem dX6_scanNumber_47 : decode cX6_scanNumber 47 = .ok (.aload_n 0, 1) := by decide +kernel
theorem dX6_scanNumber_48 : decode cX6_scanNumber 48 = .ok (.getfield 25, 3) := by decide +kernel
theorem dX6_scanNumber_51 : decode cX6_scanNumber 51 = .ok (.baload, 1) := by decide +kernel
theorem dX6_scanNumber_52 : decode cX6_scanNumber 52 = .ok (.iadd, 1) := by decide +kernel
theorem dX6_scanNumber_53 : decode cX6_scanNumber 53 = .ok (.bipush 48, 2) := by decide +kernel
theorem dX6_scanNumber_55 : decode cX6_scanNumber 55 = .ok (.isub, 1) := by decide +kernel
theorem dX6_scanNumber_56 : decode cX6_scanNumber 56 = .ok (.putfield 28, 3) := by decide +kernel
theorem dX6_scanNumber_59 : decode cX6_scanNumber 59 = .ok (.aload_n 0, 1) := by decide +kernel
theorem dX6_scanNumber_60 : decode cX6_scanNumber 60 = .ok (.dup, 1) := by decide +kernel
theorem dX6_scanNumber_61 : decode cX6_scanNumber 61 = .ok (.getfield 25, 3) := by decide +kernel
theorem dX6_scanNumber_64 : decode cX6_scanNumber 64 = .ok (.iconst 1, 1) := by decide +kernel
theorem dX6_scanNumber_65 : decode cX6_scanNumber 65 = .ok (.iadd, 1) := by decide +kernel
theorem dX6_scanNumber_66 : decode cX6_scanNumber 66 = .ok (.putfield 25, 3) := by decide +kernel
theorem dX6_scanNumber_69 : decode cX6_scanNumber 69 = .ok (.goto (-69), 3) := by decide +kernel
theorem dX6_scanNumber_72 : decode cX6_scanNumber 72 = .ok (.aload_n 0, 1) := by decide +kernel
theorem dX6_scanNumber_73 : decode cX6_scanNumber 73 = .ok (.getfield 25, 3) := by decide +kernel
theorem dX6_scanNumber_76 : decode cX6_scanNumber 76 = .ok (.aload_n 0, 1) := by decide +kernel
theorem dX6_scanNumber_77 : decode cX6_scanNumber 77 = .ok (.getfield 21, 3) := by decide +kernel
theorem dX6_scanNumber_80 : decode cX6_scanNumber 80 = .ok (.isub, 1) := by decide +kernel
theorem dX6_scanNumber_81 : decode cX6_scanNumber 81 = .ok (.iconst 3, 1) := by decide +kernel
theorem dX6_scanNumber_82 : decode cX6_scanNumber 82 = .ok (.if_icmp .le 7, 3) := by decide +kernel
theorem dX6_scanNumber_85 : decode cX6_scanNumber 85 = .ok (.iconst 1, 1) := by decide +kernel
theorem dX6_scanNumber_86 : decode cX6_scanNumber 86 = .ok (.goto 4, 3) := by decide +kernel
theorem dX6_scanNumber_89 : decode cX6_scanNumber 89 = .ok (.iconst 2, 1) := by decide +kernel
theorem dX6_scanNumber_90 : decode cX6_scanNumber 90 = .ok (.ireturn, 1) := by decide +kernel
theorem dX6_scanSign_0 : decode cX6_scanSign 0 = .ok (.aload_n 0, 1) := by decide +kernel
theorem dX6_scanSign_1 : decode cX6_scanSign 1 = .ok (.getfield 31, 3) := by decide +kernel
theorem dX6_scanSign_4 : decode cX6_scanSign 4 = .ok (.getfield 44, 3) := by decide +kernel
theorem dX6_scanSign_7 : decode cX6_scanSign 7 = .ok (.aload_n 0, 1) := by decide +kernel
theorem dX6_scanSign_8 : decode cX6_scanSign 8 = .ok (.getfield 25, 3) := by decide +kernel
theorem dX6_scanSign_11 : decode cX6_scanSign 11 = .ok (.baload, 1) := by decide +kernel
theorem dX6_scanSign_12 : decode cX6_scanSign 12 = .ok (.istore_n 1, 1) := by decide +kernel
theorem dX6_scanSign_13 : decode cX6_scanSign 13 = .ok (.aload_n 0, 1) := by decide +kernel
theorem dX6_scanSign_14 : decode cX6_scanSign 14 = .ok (.dup, 1) := by decide +kernel
theorem dX6_scanSign_15 : decode cX6_scanSign 15 = .ok (.getfield 25, 3) := by decide +kernel
theorem dX6_scanSign_18 : decode cX6_scanSign 18 = .ok (.iconst 1, 1) := by decide +kernel
theorem dX6_scanSign_19 : decode cX6_scanSign 19 = .ok (.iadd, 1) := by decide +kernel
theorem dX6_scanSign_20 : decode cX6_scanSign 20 = .ok (.putfield 25, 3) := by decide +kernel
theorem dX6_scanSign_23 : decode cX6_scanSign 23 = .ok (.iload_n 1, 1) := by decide +kernel
theorem dX6_scanSign_24 : decode cX6_scanSign 24 = .ok (.tableswitch 62 58 62 #[36, 38, 41, 55, 48], 36) := by decide +kernel
theorem dX6_scanSign_60 : decode cX6_scanSign 60 = .ok (.iconst 5, 1) := by decide +kernel
theorem dX6_scanSign_61 : decode cX6_scanSign 61 = .ok (.ireturn, 1) := by decide +kernel
theorem dX6_scanSign_62 : decode cX6_scanSign 62 = .ok (.bipush 6, 2) := by decide +kernel
theorem dX6_scanSign_64 : decode cX6_scanSign 64 = .ok (.ireturn, 1) := by decide +kernel
theorem dX6_scanSign_65 : decode cX6_scanSign 65 = .ok (.aload_n 0, 1) := by decide +kernel
theorem dX6_scanSign_66 : decode cX6_scanSign 66 = .ok (.iconst 1, 1) := by decide +kernel
theorem dX6_scanSign_67 : decode cX6_scanSign 67 = .ok (.putfield 28, 3) := by decide +kernel
theorem dX6_scanSign_70 : decode cX6_scanSign 70 = .ok (.iconst 4, 1) := by decide +kernel
theorem dX6_scanSign_71 : decode cX6_scanSign 71 = .ok (.ireturn, 1) := by decide +kernel
theorem dX6_scanSign_72 : decode cX6_scanSign 72 = .ok (.aload_n 0, 1) := by decide +kernel
theorem dX6_scanSign_73 : decode cX6_scanSign 73 = .ok (.iconst 4, 1) := by decide +kernel
theorem dX6_scanSign_74 : decode cX6_scanSign 74 = .ok (.putfield 28, 3) := by decide +kernel
theorem dX6_scanSign_77 : decode cX6_scanSign 77 = .ok (.iconst 4, 1) := by decide +kernel
theorem dX6_scanSign_78 : decode cX6_scanSign 78 = .ok (.ireturn, 1) := by decide +kernel
theorem dX6_scanSign_79 : decode cX6_scanSign 79 = .ok (.aload_n 0, 1) := by decide +kernel
theorem dX6_scanSign_80 : decode cX6_scanSign 80 = .ok (.iconst 2, 1) := by decide +kernel
theorem dX6_scanSign_81 : decode cX6_scanSign 81 = .ok (.putfield 28, 3) := by decide +kernel
theorem dX6_scanSign_84 : decode cX6_scanSign 84 = .ok (.iconst 4, 1) := by decide +kernel
theorem dX6_scanSign_85 : decode cX6_scanSign 85 = .ok (.ireturn, 1) := by decide +kernel
theorem dX6_scanSign_86 : decode cX6_scanSign 86 = .ok (.iconst 1, 1) := by decide +kernel
theorem dX6_scanSign_87 : decode cX6_scanSign 87 = .ok (.ireturn, 1) := by decide +kernel
theorem dX6_isBlank_0 : decode cX6_isBlank 0 = .ok (.iload_n 0, 1) := by decide +kernel
theorem dX6_isBlank_1 : decode cX6_isBlank 1 = .ok (.bipush 10, 2) := by decide +kernel
theorem dX6_isBlank_3 : decode cX6_isBlank 3 = .ok (.if_icmp .eq 9, 3) := by decide +kernel
theorem dX6_isBlank_6 : decode cX6_isBlank 6 = .ok (.iload_n 0, 1) := by decide +kernel
theorem dX6_isBlank_7 : decode cX6_isBlank 7 = .ok (.bipush 32, 2) := by decide +kernel
theorem dX6_isBlank_9 : decode cX6_isBlank 9 = .ok (.if_icmp .ne 7, 3) := by decide +kernel
theorem dX6_isBlank_12 : decode cX6_isBlank 12 = .ok (.iconst 1, 1) := by decide +kernel
theorem dX6_isBlank_13 : decode cX6_isBlank 13 = .ok (.goto 4, 3) := by decide +kernel
theorem dX6_isBlank_16 : decode cX6_isBlank 16 = .ok (.iconst 0, 1) := by decide +kernel
theorem dX6_isBlank_17 : decode cX6_isBlank 17 = .ok (.ireturn, 1) := by decide +kernel
theorem dX6_isLetter_0 : decode cX6_isLetter 0 = .ok (.iload_n 0, 1) := by decide +kernel
theorem dX6_isLetter_1 : decode cX6_isLetter 1 = .ok (.bipush 97, 2) := by decide +kernel
theorem dX6_isLetter_3 : decode cX6_isLetter 3 = .ok (.if_icmp .lt 13, 3) := by decide +kernel
theorem dX6_isLetter_6 : decode cX6_isLetter 6 = .ok (.iload_n 0, 1) := by decide +kernel
theorem dX6_isLetter_7 : decode cX6_isLetter 7 = .ok (.bipush 122, 2) := by decide +kernel
theorem dX6_isLetter_9 : decode cX6_isLetter 9 = .ok (.if_icmp .gt 7, 3) := by decide +kernel
theorem dX6_isLetter_12 : decode cX6_isLetter 12 = .ok (.iconst 1, 1) := by decide +kernel
theorem dX6_isLetter_13 : decode cX6_isLetter 13 = .ok (.goto 4, 3) := by decide +kernel
theorem dX6_isLetter_16 : decode cX6_isLetter 16 = .ok (.iconst 0, 1) := by decide +kernel
theorem dX6_isLetter_17 : decode cX6_isLetter 17 = .ok (.ireturn, 1) := by decide +kernel
theorem dX6_isDigit_0 : decode cX6_isDigit 0 = .ok (.iload_n 0, 1) := by decide +kernel
theorem dX6_isDigit_1 : decode cX6_isDigit 1 = .ok (.bipush 48, 2) := by decide +kernel
theorem dX6_isDigit_3 : decode cX6_isDigit 3 = .ok (.if_icmp .lt 13, 3) := by decide +kernel
theorem dX6_isDigit_6 : decode cX6_isDigit 6 = .ok (.iload_n 0, 1) := by decide +kernel
theorem dX6_isDigit_7 : decode cX6_isDigit 7 = .ok (.bipush 57, 2) := by decide +kernel
theorem dX6_isDigit_9 : decode cX6_isDigit 9 = .ok (.if_icmp .gt 7, 3) := by decide +kernel
theorem dX6_isDigit_12 : decode cX6_isDigit 12 = .ok (.iconst 1, 1) := by decide +kernel
theorem dX6_isDigit_13 : decode cX6_isDigit 13 = .ok (.goto 4, 3) := by decide +kernel
theorem dX6_isDigit_16 : decode cX6_isDigit 16 = .ok (.iconst 0, 1) := by decide +kernel
theorem dX6_isDigit_17 : decode cX6_isDigit 17 = .ok (.ireturn, 1) := by decide +kernel
theorem dX7_init_0 : decode cX7_init 0 = .ok (.aload_n 0, 1) := by decide +kernel
theorem dX7_init_1 : decode cX7_init 1 = .ok (.invokespecial 3, 3) := by decide +kernel
theorem dX7_init_4 : decode cX7_init 4 = .ok (.aload_n 0, 1) := by decide +kernel
theorem dX7_init_5 : decode cX7_init 5 = .ok (.new 9, 3) := by decide +kernel
theorem dX7_init_8 : decode cX7_init 8 = .ok (.dup, 1) := by decide +kernel
theorem dX7_init_9 : decode cX7_init 9 = .ok (.invokespecial 11, 3) := by decide +kernel
theorem dX7_init_12 : decode cX7_init 12 = .ok (.putfield 12, 3) := by decide +kernel
theorem dX7_init_15 : decode cX7_init 15 = .ok (.aload_n 0, 1) := by decide +kernel
theorem dX7_init_16 : decode cX7_init 16 = .ok (.new 18, 3) := by decide +kernel
theorem dX7_init_19 : decode cX7_init 19 = .ok (.dup, 1) := by decide +kernel
theorem dX7_init_20 : decode cX7_init 20 = .ok (.invokespecial 20, 3) := by decide +kernel
theorem dX7_init_23 : decode cX7_init 23 = .ok (.putfield 21, 3) := by decide +kernel
theorem dX7_init_26 : decode cX7_init 26 = .ok (.aload_n 0, 1) := by decide +kernel
theorem dX7_init_27 : decode cX7_init 27 = .ok (.iconst 0, 1) := by decide +kernel
theorem dX7_init_28 : decode cX7_init 28 = .ok (.putfield 25, 3) := by decide +kernel
theorem dX7_init_31 : decode cX7_init 31 = .ok (.aload_n 0, 1) := by decide +kernel
theorem dX7_init_32 : decode cX7_init 32 = .ok (.iconst (-1), 1) := by decide +kernel
theorem dX7_init_33 : decode cX7_init 33 = .ok (.putfield 29, 3) := by decide +kernel
theorem dX7_init_36 : decode cX7_init 36 = .ok (.aload_n 0, 1) := by decide +kernel
theorem dX7_init_37 : decode cX7_init 37 = .ok (.bipush 8, 2) := by decide +kernel
theorem dX7_init_39 : decode cX7_init 39 = .ok (.anewarray 32, 3) := by decide +kernel
theorem dX7_init_42 : decode cX7_init 42 = .ok (.putfield 34, 3) := by decide +kernel
theorem dX7_init_45 : decode cX7_init 45 = .ok (.aload_n 0, 1) := by decide +kernel
theorem dX7_init_46 : decode cX7_init 46 = .ok (.iconst 0, 1) := by decide +kernel
theorem dX7_init_47 : decode cX7_init 47 = .ok (.putfield 38, 3) := by decide +kernel
theorem dX7_init_50 : decode cX7_init 50 = .ok (.aload_n 0, 1) := by decide +kernel
theorem dX7_init_51 : decode cX7_init 51 = .ok (.iconst 5, 1) := by decide +kernel
theorem dX7_init_52 : decode cX7_init 52 = .ok (.newarray .int, 2) := by decide +kernel
theorem dX7_init_54 : decode cX7_init 54 = .ok (.dup, 1) := by decide +kernel
theorem dX7_init_55 : decode cX7_init 55 = .ok (.iconst 0, 1) := by decide +kernel
theorem dX7_init_56 : decode cX7_init 56 = .ok (.bipush 10, 2) := by decide +kernel
theorem dX7_init_58 : decode cX7_init 58 = .ok (.iastore, 1) := by decide +kernel
theorem dX7_init_59 : decode cX7_init 59 = .ok (.dup, 1) := by decide +kernel
theorem dX7_init_60 : decode cX7_init 60 = .ok (.iconst 1, 1) := by decide +kernel
theorem dX7_init_61 : decode cX7_init 61 = .ok (.bipush 10, 2) := by decide +kernel
theorem dX7_init_63 : decode cX7_init 63 = .ok (.iastore, 1) := by decide +kernel
theorem dX7_init_64 : decode cX7_init 64 = .ok (.dup, 1) := by decide +kernel
theorem dX7_init_65 : decode cX7_init 65 = .ok (.iconst 2, 1) := by decide +kernel
theorem dX7_init_66 : decode cX7_init 66 = .ok (.bipush 10, 2) := by decide +kernel
theorem dX7_init_68 : decode cX7_init 68 = .ok (.iastore, 1) := by decide +kernel
theorem dX7_init_69 : decode cX7_init 69 = .ok (.dup, 1) := by decide +kernel
theorem dX7_init_70 : decode cX7_init 70 = .ok (.iconst 3, 1) := by decide +kernel
theorem dX7_init_71 : decode cX7_init 71 = .ok (.bipush 10, 2) := by decide +kernel
theorem dX7_init_73 : decode cX7_init 73 = .ok (.iastore, 1) := by decide +kernel
theorem dX7_init_74 : decode cX7_init 74 = .ok (.dup, 1) := by decide +kernel
theorem dX7_init_75 : decode cX7_init 75 = .ok (.iconst 4, 1) := by decide +kernel
theorem dX7_init_76 : decode cX7_init 76 = .ok (.bipush 10, 2) := by decide +kernel
theorem dX7_init_78 : decode cX7_init 78 = .ok (.iastore, 1) := by decide +kernel
theorem dX7_init_79 : decode cX7_init 79 = .ok (.putfield 41, 3) := by decide +kernel
theorem dX7_init_82 : decode cX7_init 82 = .ok (.aload_n 0, 1) := by decide +kernel
theorem dX7_init_83 : decode cX7_init 83 = .ok (.iconst 5, 1) := by decide +kernel
theorem dX7_init_84 : decode cX7_init 84 = .ok (.newarray .int, 2) := by decide +kernel
theorem dX7_init_86 : decode cX7_init 86 = .ok (.dup, 1) := by decide +kernel
theorem dX7_init_87 : decode cX7_init 87 = .ok (.iconst 0, 1) := by decide +kernel
theorem dX7_init_88 : decode cX7_init 88 = .ok (.sipush 200, 3) := by decide +kernel
theorem dX7_init_91 : decode cX7_init 91 = .ok (.iastore, 1) := by decide +kernel
theorem dX7_init_92 : decode cX7_init 92 = .ok (.dup, 1) := by decide +kernel
theorem dX7_init_93 : decode cX7_init 93 = .ok (.iconst 1, 1) := by decide +kernel
theorem dX7_init_94 : decode cX7_init 94 = .ok (.sipush 200, 3) := by decide +kernel
theorem dX7_init_97 : decode cX7_init 97 = .ok (.iastore, 1) := by decide +kernel
theorem dX7_init_98 : decode cX7_init 98 = .ok (.dup, 1) := by decide +kernel
theorem dX7_init_99 : decode cX7_init 99 = .ok (.iconst 2, 1) := by decide +kernel
theorem dX7_init_100 : decode cX7_init 100 = .ok (.sipush 200, 3) := by decide +kernel
theorem dX7_init_103 : decode cX7_init 103 = .ok (.iastore, 1) := by decide +kernel
theorem dX7_init_104 : decode cX7_init 104 = .ok (.dup, 1) := by decide +kernel
theorem dX7_init_105 : decode cX7_init 105 = .ok (.iconst 3, 1) := by decide +kernel
theorem dX7_init_106 : decode cX7_init 106 = .ok (.sipush 200, 3) := by decide +kernel
theorem dX7_init_109 : decode cX7_init 109 = .ok (.iastore, 1) := by decide +kernel
theorem dX7_init_110 : decode cX7_init 110 = .ok (.dup, 1) := by decide +kernel
theorem dX7_init_111 : decode cX7_init 111 = .ok (.iconst 4, 1) := by decide +kernel
theorem dX7_init_112 : decode cX7_init 112 = .ok (.sipush 200, 3) := by decide +kernel
theorem dX7_init_115 : decode cX7_init 115 = .ok (.iastore, 1) := by decide +kernel
theorem dX7_init_116 : decode cX7_init 116 = .ok (.putfield 45, 3) := by decide +kernel
theorem dX7_init_119 : decode cX7_init 119 = .ok (.aload_n 0, 1) := by decide +kernel
theorem dX7_init_120 : decode cX7_init 120 = .ok (.iconst 4, 1) := by decide +kernel
theorem dX7_init_121 : decode cX7_init 121 = .ok (.newarray .int, 2) := by decide +kernel
theorem dX7_init_123 : decode cX7_init 123 = .ok (.dup, 1) := by decide +kernel
theorem dX7_init_124 : decode cX7_init 124 = .ok (.iconst 0, 1) := by decide +kernel
theorem dX7_init_125 : decode cX7_init 125 = .ok (.iconst 5, 1) := by decide +kernel
theorem dX7_init_126 : decode cX7_init 126 = .ok (.iastore, 1) := by decide +kernel
theorem dX7_init_127 : decode cX7_init 127 = .ok (.dup, 1) := by decide +kernel
theorem dX7_init_128 : decode cX7_init 128 = .ok (.iconst 1, 1) := by decide +kernel
theorem dX7_init_129 : decode cX7_init 129 = .ok (.iconst 5, 1) := by decide +kernel
theorem dX7_init_130 : decode cX7_init 130 = .ok (.iastore, 1) := by decide +kernel
theorem dX7_init_131 : decode cX7_init 131 = .ok (.dup, 1) := by decide +kernel
theorem dX7_init_132 : decode cX7_init 132 = .ok (.iconst 2, 1) := by decide +kernel
theorem dX7_init_133 : decode cX7_init 133 = .ok (.iconst 5, 1) := by decide +kernel
theorem dX7_init_134 : decode cX7_init 134 = .ok (.iastore, 1) := by decide +kernel
theorem dX7_init_135 : decode cX7_init 135 = .ok (.dup, 1) := by decide +kernel
theorem dX7_init_136 : decode cX7_init 136 = .ok (.iconst 3, 1) := by decide +kernel
theorem dX7_init_137 : decode cX7_init 137 = .ok (.iconst 5, 1) := by decide +kernel
theorem dX7_init_138 : decode cX7_init 138 = .ok (.iastore, 1) := by decide +kernel
theorem dX7_init_139 : decode cX7_init 139 = .ok (.putfield 48, 3) := by decide +kernel
theorem dX7_init_142 : decode cX7_init 142 = .ok (.aload_n 0, 1) := by decide +kernel
theorem dX7_init_143 : decode cX7_init 143 = .ok (.new 51, 3) := by decide +kernel
theorem dX7_init_146 : decode cX7_init 146 = .ok (.dup, 1) := by decide +kernel
theorem dX7_init_147 : decode cX7_init 147 = .ok (.invokespecial 53, 3) := by decide +kernel
theorem dX7_init_150 : decode cX7_init 150 = .ok (.putfield 54, 3) := by decide +kernel
theorem dX7_init_153 : decode cX7_init 153 = .ok (.aload_n 0, 1) := by decide +kernel
theorem dX7_init_154 : decode cX7_init 154 = .ok (.bipush 24, 2) := by decide +kernel
theorem dX7_init_156 : decode cX7_init 156 = .ok (.anewarray 58, 3) := by decide +kernel
theorem dX7_init_159 : decode cX7_init 159 = .ok (.putfield 60, 3) := by decide +kernel
theorem dX7_init_162 : decode cX7_init 162 = .ok (.aload_n 0, 1) := by decide +kernel
theorem dX7_init_163 : decode cX7_init 163 = .ok (.iconst 0, 1) := by decide +kernel
theorem dX7_init_164 : decode cX7_init 164 = .ok (.putfield 64, 3) := by decide +kernel
theorem dX7_init_167 : decode cX7_init 167 = .ok (.aload_n 0, 1) := by decide +kernel
theorem dX7_init_168 : decode cX7_init 168 = .ok (.iconst 0, 1) := by decide +kernel
theorem dX7_init_169 : decode cX7_init 169 = .ok (.putfield 67, 3) := by decide +kernel
theorem dX7_init_172 : decode cX7_init 172 = .ok (.iconst 0, 1) := by decide +kernel
theorem dX7_init_173 : decode cX7_init 173 = .ok (.istore_n 1, 1) := by decide +kernel
theorem dX7_init_174 : decode cX7_init 174 = .ok (.iload_n 1, 1) := by decide +kernel
theorem dX7_init_175 : decode cX7_init 175 = .ok (.bipush 8, 2) := by decide +kernel
theorem dX7_init_177 : decode cX7_init 177 = .ok (.if_icmp .ge 22, 3) := by decide +kernel
theorem dX7_init_180 : decode cX7_init 180 = .ok (.aload_n 0, 1) := by decide +kernel
theorem dX7_init_181 : decode cX7_init 181 = .ok (.getfield 34, 3) := by decide +kernel
theorem dX7_init_184 : decode cX7_init 184 = .ok (.iload_n 1, 1) := by decide +kernel
theorem dX7_init_185 : decode cX7_init 185 = .ok (.new 32, 3) := by decide +kernel
theorem dX7_init_188 : decode cX7_init 188 = .ok (.dup, 1) := by decide +kernel
theorem dX7_init_189 : decode cX7_init 189 = .ok (.invokespecial 70, 3) := by decide +kernel
theorem dX7_init_192 : decode cX7_init 192 = .ok (.aastore, 1) := by decide +kernel
theorem dX7_init_193 : decode cX7_init 193 = .ok (.iinc 1 1, 3) := by decide +kernel
theorem dX7_init_196 : decode cX7_init 196 = .ok (.goto (-22), 3) := by decide +kernel
theorem dX7_init_199 : decode cX7_init 199 = .ok (.iconst 0, 1) := by decide +kernel
theorem dX7_init_200 : decode cX7_init 200 = .ok (.istore_n 1, 1) := by decide +kernel
theorem dX7_init_201 : decode cX7_init 201 = .ok (.iload_n 1, 1) := by decide +kernel
theorem dX7_init_202 : decode cX7_init 202 = .ok (.bipush 24, 2) := by decide +kernel
theorem dX7_init_204 : decode cX7_init 204 = .ok (.if_icmp .ge 22, 3) := by decide +kernel
theorem dX7_init_207 : decode cX7_init 207 = .ok (.aload_n 0, 1) := by decide +kernel
theorem dX7_init_208 : decode cX7_init 208 = .ok (.getfield 60, 3) := by decide +kernel
theorem dX7_init_211 : decode cX7_init 211 = .ok (.iload_n 1, 1) := by decide +kernel
theorem dX7_init_212 : decode cX7_init 212 = .ok (.new 58, 3) := by decide +kernel
theorem dX7_init_215 : decode cX7_init 215 = .ok (.dup, 1) := by decide +kernel
theorem dX7_init_216 : decode cX7_init 216 = .ok (.invokespecial 71, 3) := by decide +kernel
theorem dX7_init_219 : decode cX7_init 219 = .ok (.aastore, 1) := by decide +kernel
theorem dX7_init_220 : decode cX7_init 220 = .ok (.iinc 1 1, 3) := by decide +kernel
theorem dX7_init_223 : decode cX7_init 223 = .ok (.goto (-22), 3) := by decide +kernel
theorem dX7_init_226 : decode cX7_init 226 = .ok (.return_, 1) := by decide +kernel
theorem dX7_copyFrom_0 : decode cX7_copyFrom 0 = .ok (.aload_n 0, 1) := by decide +kernel
theorem dX7_copyFrom_1 : decode cX7_copyFrom 1 = .ok (.getfield 12, 3) := by decide +kernel
theorem dX7_copyFrom_4 : decode cX7_copyFrom 4 = .ok (.aload_n 1, 1) := by decide +kernel
theorem dX7_copyFrom_5 : decode cX7_copyFrom 5 = .ok (.getfield 12, 3) := by decide +kernel
theorem dX7_copyFrom_8 : decode cX7_copyFrom 8 = .ok (.invokevirtual 72, 3) := by decide +kernel
theorem dX7_copyFrom_11 : decode cX7_copyFrom 11 = .ok (.aload_n 0, 1) := by decide +kernel
theorem dX7_copyFrom_12 : decode cX7_copyFrom 12 = .ok (.getfield 21, 3) := by decide +kernel
theorem dX7_copyFrom_15 : decode cX7_copyFrom 15 = .ok (.aload_n 1, 1) := by decide +kernel
theorem dX7_copyFrom_16 : decode cX7_copyFrom 16 = .ok (.getfield 21, 3) := by decide +kernel
theorem dX7_copyFrom_19 : decode cX7_copyFrom 19 = .ok (.invokevirtual 76, 3) := by decide +kernel
theorem dX7_copyFrom_22 : decode cX7_copyFrom 22 = .ok (.aload_n 0, 1) := by decide +kernel
theorem dX7_copyFrom_23 : decode cX7_copyFrom 23 = .ok (.aload_n 1, 1) := by decide +kernel
theorem dX7_copyFrom_24 : decode cX7_copyFrom 24 = .ok (.getfield 25, 3) := by decide +kernel
theorem dX7_copyFrom_27 : decode cX7_copyFrom 27 = .ok (.putfield 25, 3) := by decide +kernel
theorem dX7_copyFrom_30 : decode cX7_copyFrom 30 = .ok (.aload_n 0, 1) := by decide +kernel
theorem dX7_copyFrom_31 : decode cX7_copyFrom 31 = .ok (.aload_n 1, 1) := by decide +kernel
theorem dX7_copyFrom_32 : decode cX7_copyFrom 32 = .ok (.getfield 29, 3) := by decide +kernel
theorem dX7_copyFrom_35 : decode cX7_copyFrom 35 = .ok (.putfield 29, 3) := by decide +kernel
theorem dX7_copyFrom_38 : decode cX7_copyFrom 38 = .ok (.iconst 0, 1) := by decide +kernel
theorem dX7_copyFrom_39 : decode cX7_copyFrom 39 = .ok (.istore_n 2, 1) := by decide +kernel
theorem dX7_copyFrom_40 : decode cX7_copyFrom 40 = .ok (.iload_n 2, 1) := by decide +kernel
theorem dX7_copyFrom_41 : decode cX7_copyFrom 41 = .ok (.bipush 8, 2) := by decide +kernel
theorem dX7_copyFrom_43 : decode cX7_copyFrom 43 = .ok (.if_icmp .ge 24, 3) := by decide +kernel
theorem dX7_copyFrom_46 : decode cX7_copyFrom 46 = .ok (.aload_n 0, 1) := by decide +kernel
theorem dX7_copyFrom_47 : decode cX7_copyFrom 47 = .ok (.getfield 34, 3) := by decide +kernel
theorem dX7_copyFrom_50 : decode cX7_copyFrom 50 = .ok (.iload_n 2, 1) := by decide +kernel
theorem dX7_copyFrom_51 : decode cX7_copyFrom 51 = .ok (.aaload, 1) := by decide +kernel
theorem dX7_copyFrom_52 : decode cX7_copyFrom 52 = .ok (.aload_n 1, 1) := by decide +kernel
theorem dX7_copyFrom_53 : decode cX7_copyFrom 53 = .ok (.getfield 34, 3) := by decide +kernel
theorem dX7_copyFrom_56 : decode cX7_copyFrom 56 = .ok (.iload_n 2, 1) := by decide +kernel
theorem dX7_copyFrom_57 : decode cX7_copyFrom 57 = .ok (.aaload, 1) := by decide +kernel
theorem dX7_copyFrom_58 : decode cX7_copyFrom 58 = .ok (.invokevirtual 79, 3) := by decide +kernel
theorem dX7_copyFrom_61 : decode cX7_copyFrom 61 = .ok (.iinc 2 1, 3) := by decide +kernel
theorem dX7_copyFrom_64 : decode cX7_copyFrom 64 = .ok (.goto (-24), 3) := by decide +kernel
theorem dX7_copyFrom_67 : decode cX7_copyFrom 67 = .ok (.aload_n 0, 1) := by decide +kernel
theorem dX7_copyFrom_68 : decode cX7_copyFrom 68 = .ok (.aload_n 1, 1) := by decide +kernel
theorem dX7_copyFrom_69 : decode cX7_copyFrom 69 = .ok (.getfield 38, 3) := by decide +kernel
theorem dX7_copyFrom_72 : decode cX7_copyFrom 72 = .ok (.putfield 38, 3) := by decide +kernel
theorem dX7_copyFrom_75 : decode cX7_copyFrom 75 = .ok (.aload_n 1, 1) := by decide +kernel
theorem dX7_copyFrom_76 : decode cX7_copyFrom 76 = .ok (.getfield 41, 3) := by decide +kernel
theorem dX7_copyFrom_79 : decode cX7_copyFrom 79 = .ok (.iconst 0, 1) := by decide +kernel
theorem dX7_copyFrom_80 : decode cX7_copyFrom 80 = .ok (.aload_n 0, 1) := by decide +kernel
theorem dX7_copyFrom_81 : decode cX7_copyFrom 81 = .ok (.getfield 41, 3) := by decide +kernel
theorem dX7_copyFrom_84 : decode cX7_copyFrom 84 = .ok (.iconst 0, 1) := by decide +kernel
theorem dX7_copyFrom_85 : decode cX7_copyFrom 85 = .ok (.iconst 5, 1) := by decide +kernel
theorem dX7_copyFrom_86 : decode cX7_copyFrom 86 = .ok (.invokestatic 82, 3) := by decide +kernel
theorem dX7_copyFrom_89 : decode cX7_copyFrom 89 = .ok (.aload_n 1, 1) := by decide +kernel
theorem dX7_copyFrom_90 : decode cX7_copyFrom 90 = .ok (.getfield 45, 3) := by decide +kernel
theorem dX7_copyFrom_93 : decode cX7_copyFrom 93 = .ok (.iconst 0, 1) := by decide +kernel
theorem dX7_copyFrom_94 : decode cX7_copyFrom 94 = .ok (.aload_n 0, 1) := by decide +kernel
theorem dX7_copyFrom_95 : decode cX7_copyFrom 95 = .ok (.getfield 45, 3) := by decide +kernel
theorem dX7_copyFrom_98 : decode cX7_copyFrom 98 = .ok (.iconst 0, 1) := by decide +kernel
theorem dX7_copyFrom_99 : decode cX7_copyFrom 99 = .ok (.iconst 5, 1) := by decide +kernel
theorem dX7_copyFrom_100 : decode cX7_copyFrom 100 = .ok (.invokestatic 82, 3) := by decide +kernel
theorem dX7_copyFrom_103 : decode cX7_copyFrom 103 = .ok (.aload_n 1, 1) := by decide +kernel
theorem dX7_copyFrom_104 : decode cX7_copyFrom 104 = .ok (.getfield 48, 3) := by decide +kernel
theorem dX7_copyFrom_107 : decode cX7_copyFrom 107 = .ok (.iconst 0, 1) := by decide +kernel
theorem dX7_copyFrom_108 : decode cX7_copyFrom 108 = .ok (.aload_n 0, 1) := by decide +kernel
theorem dX7_copyFrom_109 : decode cX7_copyFrom 109 = .ok (.getfield 48, 3) := by decide +kernel
theorem dX7_copyFrom_112 : decode cX7_copyFrom 112 = .ok (.iconst 0, 1) := by decide +kernel
theorem dX7_copyFrom_113 : decode cX7_copyFrom 113 = .ok (.iconst 4, 1) := by decide +kernel
theorem dX7_copyFrom_114 : decode cX7_copyFrom 114 = .ok (.invokestatic 82, 3) := by decide +kernel
theorem dX7_copyFrom_117 : decode cX7_copyFrom 117 = .ok (.aload_n 0, 1) := by decide +kernel
theorem dX7_copyFrom_118 : decode cX7_copyFrom 118 = .ok (.getfield 54, 3) := by decide +kernel
theorem dX7_copyFrom_121 : decode cX7_copyFrom 121 = .ok (.aload_n 1, 1) := by decide +kernel
theorem dX7_copyFrom_122 : decode cX7_copyFrom 122 = .ok (.getfield 54, 3) := by decide +kernel
theorem dX7_copyFrom_125 : decode cX7_copyFrom 125 = .ok (.invokevirtual 88, 3) := by decide +kernel
theorem dX7_copyFrom_128 : decode cX7_copyFrom 128 = .ok (.iconst 0, 1) := by decide +kernel
theorem dX7_copyFrom_129 : decode cX7_copyFrom 129 = .ok (.istore_n 2, 1) := by decide +kernel
theorem dX7_copyFrom_130 : decode cX7_copyFrom 130 = .ok (.iload_n 2, 1) := by decide +kernel
theorem dX7_copyFrom_131 : decode cX7_copyFrom 131 = .ok (.bipush 24, 2) := by decide +kernel
theorem dX7_copyFrom_133 : decode cX7_copyFrom 133 = .ok (.if_icmp .ge 24, 3) := by decide +kernel
theorem dX7_copyFrom_136 : decode cX7_copyFrom 136 = .ok (.aload_n 0, 1) := by decide +kernel
theorem dX7_copyFrom_137 : decode cX7_copyFrom 137 = .ok (.getfield 60, 3) := by decide +kernel
theorem dX7_copyFrom_140 : decode cX7_copyFrom 140 = .ok (.iload_n 2, 1) := by decide +kernel
theorem dX7_copyFrom_141 : decode cX7_copyFrom 141 = .ok (.aaload, 1) := by decide +kernel
theorem dX7_copyFrom_142 : decode cX7_copyFrom 142 = .ok (.aload_n 1, 1) := by decide +kernel
theorem dX7_copyFrom_143 : decode cX7_copyFrom 143 = .ok (.getfield 60, 3) := by decide +kernel
theorem dX7_copyFrom_146 : decode cX7_copyFrom 146 = .ok (.iload_n 2, 1) := by decide +kernel
theorem dX7_copyFrom_147 : decode cX7_copyFrom 147 = .ok (.aaload, 1) := by decide +kernel
theorem dX7_copyFrom_148 : decode cX7_copyFrom 148 = .ok (.invokevirtual 91, 3) := by decide +kernel
theorem dX7_copyFrom_151 : decode cX7_copyFrom 151 = .ok (.iinc 2 1, 3) := by decide +kernel
theorem dX7_copyFrom_154 : decode cX7_copyFrom 154 = .ok (.goto (-24), 3) := by decide +kernel
theorem dX7_copyFrom_157 : decode cX7_copyFrom 157 = .ok (.aload_n 0, 1) := by decide +kernel
theorem dX7_copyFrom_158 : decode cX7_copyFrom 158 = .ok (.aload_n 1, 1) := by decide +kernel
theorem dX7_copyFrom_159 : decode cX7_copyFrom 159 = .ok (.getfield 64, 3) := by decide +kernel
theorem dX7_copyFrom_162 : decode cX7_copyFrom 162 = .ok (.putfield 64, 3) := by decide +kernel
theorem dX7_copyFrom_165 : decode cX7_copyFrom 165 = .ok (.aload_n 0, 1) := by decide +kernel
theorem dX7_copyFrom_166 : decode cX7_copyFrom 166 = .ok (.aload_n 1, 1) := by decide +kernel
theorem dX7_copyFrom_167 : decode cX7_copyFrom 167 = .ok (.getfield 67, 3) := by decide +kernel
theorem dX7_copyFrom_170 : decode cX7_copyFrom 170 = .ok (.putfield 67, 3) := by decide +kernel
theorem dX7_copyFrom_173 : decode cX7_copyFrom 173 = .ok (.return_, 1) := by decide +kernel
theorem dX7_hasHouse_0 : decode cX7_hasHouse 0 = .ok (.iload_n 1, 1) := by decide +kernel
theorem dX7_hasHouse_1 : decode cX7_hasHouse 1 = .ok (.iconst 0, 1) := by decide +kernel
theorem dX7_hasHouse_2 : decode cX7_hasHouse 2 = .ok (.aload_n 0, 1) := by decide +kernel
theorem dX7_hasHouse_3 : decode cX7_hasHouse 3 = .ok (.getfield 38, 3) := by decide +kernel
theorem dX7_hasHouse_6 : decode cX7_hasHouse 6 = .ok (.iconst 1, 1) := by decide +kernel
theorem dX7_hasHouse_7 : decode cX7_hasHouse 7 = .ok (.isub, 1) := by decide +kernel
theorem dX7_hasHouse_8 : decode cX7_hasHouse 8 = .ok (.invokestatic 94, 3) := by decide +kernel
theorem dX7_hasHouse_11 : decode cX7_hasHouse 11 = .ok (.ireturn, 1) := by decide +kernel
theorem dX7_standingPots_0 : decode cX7_standingPots 0 = .ok (.iconst 0, 1) := by decide +kernel
theorem dX7_standingPots_1 : decode cX7_standingPots 1 = .ok (.istore_n 1, 1) := by decide +kernel
theorem dX7_standingPots_2 : decode cX7_standingPots 2 = .ok (.iconst 0, 1) := by decide +kernel
theorem dX7_standingPots_3 : decode cX7_standingPots 3 = .ok (.istore_n 2, 1) := by decide +kernel
theorem dX7_standingPots_4 : decode cX7_standingPots 4 = .ok (.iload_n 2, 1) := by decide +kernel
theorem dX7_standingPots_5 : decode cX7_standingPots 5 = .ok (.aload_n 0, 1) := by decide +kernel
theorem dX7_standingPots_6 : decode cX7_standingPots 6 = .ok (.getfield 64, 3) := by decide +kernel
theorem dX7_standingPots_9 : decode cX7_standingPots 9 = .ok (.if_icmp .ge 24, 3) := by decide +kernel
theorem dX7_standingPots_12 : decode cX7_standingPots 12 = .ok (.aload_n 0, 1) := by decide +kernel
theorem dX7_standingPots_13 : decode cX7_standingPots 13 = .ok (.getfield 60, 3) := by decide +kernel
theorem dX7_standingPots_16 : decode cX7_standingPots 16 = .ok (.iload_n 2, 1) := by decide +kernel
theorem dX7_standingPots_17 : decode cX7_standingPots 17 = .ok (.aaload, 1) := by decide +kernel
theorem dX7_standingPots_18 : decode cX7_standingPots 18 = .ok (.invokevirtual 98, 3) := by decide +kernel
theorem dX7_standingPots_21 : decode cX7_standingPots 21 = .ok (.ifCond .eq 6, 3) := by decide +kernel
theorem dX7_standingPots_24 : decode cX7_standingPots 24 = .ok (.iinc 1 1, 3) := by decide +kernel
theorem dX7_standingPots_27 : decode cX7_standingPots 27 = .ok (.iinc 2 1, 3) := by decide +kernel
theorem dX7_standingPots_30 : decode cX7_standingPots 30 = .ok (.goto (-26), 3) := by decide +kernel
theorem dX7_standingPots_33 : decode cX7_standingPots 33 = .ok (.iload_n 1, 1) := by decide +kernel
theorem dX7_standingPots_34 : decode cX7_standingPots 34 = .ok (.ireturn, 1) := by decide +kernel
theorem dX7_potsOf_0 : decode cX7_potsOf 0 = .ok (.iconst 0, 1) := by decide +kernel
theorem dX7_potsOf_1 : decode cX7_potsOf 1 = .ok (.istore_n 3, 1) := by decide +kernel
theorem dX7_potsOf_2 : decode cX7_potsOf 2 = .ok (.iconst 0, 1) := by decide +kernel
theorem dX7_potsOf_3 : decode cX7_potsOf 3 = .ok (.istore 4, 2) := by decide +kernel
theorem dX7_potsOf_5 : decode cX7_potsOf 5 = .ok (.iload 4, 2) := by decide +kernel
theorem dX7_potsOf_7 : decode cX7_potsOf 7 = .ok (.aload_n 0, 1) := by decide +kernel
theorem dX7_potsOf_8 : decode cX7_potsOf 8 = .ok (.getfield 64, 3) := by decide +kernel
theorem dX7_potsOf_11 : decode cX7_potsOf 11 = .ok (.if_icmp .ge 43, 3) := by decide +kernel
theorem dX7_potsOf_14 : decode cX7_potsOf 14 = .ok (.aload_n 0, 1) := by decide +kernel
theorem dX7_potsOf_15 : decode cX7_potsOf 15 = .ok (.getfield 60, 3) := by decide +kernel
theorem dX7_potsOf_18 : decode cX7_potsOf 18 = .ok (.iload 4, 2) := by decide +kernel
theorem dX7_potsOf_20 : decode cX7_potsOf 20 = .ok (.aaload, 1) := by decide +kernel
theorem dX7_potsOf_21 : decode cX7_potsOf 21 = .ok (.getfield 102, 3) := by decide +kernel
theorem dX7_potsOf_24 : decode cX7_potsOf 24 = .ok (.iload_n 1, 1) := by decide +kernel
theorem dX7_potsOf_25 : decode cX7_potsOf 25 = .ok (.if_icmp .ne 23, 3) := by decide +kernel
theorem dX7_potsOf_28 : decode cX7_potsOf 28 = .ok (.aload_n 0, 1) := by decide +kernel
theorem dX7_potsOf_29 : decode cX7_potsOf 29 = .ok (.getfield 60, 3) := by decide +kernel
theorem dX7_potsOf_32 : decode cX7_potsOf 32 = .ok (.iload 4, 2) := by decide +kernel
theorem dX7_potsOf_34 : decode cX7_potsOf 34 = .ok (.aaload, 1) := by decide +kernel
theorem dX7_potsOf_35 : decode cX7_potsOf 35 = .ok (.invokevirtual 98, 3) := by decide +kernel
theorem dX7_potsOf_38 : decode cX7_potsOf 38 = .ok (.ifCond .ne 7, 3) := by decide +kernel
theorem dX7_potsOf_41 : decode cX7_potsOf 41 = .ok (.iload_n 2, 1) := by decide +kernel
theorem dX7_potsOf_42 : decode cX7_potsOf 42 = .ok (.ifCond .ne 6, 3) := by decide +kernel
theorem dX7_potsOf_45 : decode cX7_potsOf 45 = .ok (.iinc 3 1, 3) := by decide +kernel
theorem dX7_potsOf_48 : decode cX7_potsOf 48 = .ok (.iinc 4 1, 3) := by decide +kernel
theorem dX7_potsOf_51 : decode cX7_potsOf 51 = .ok (.goto (-46), 3) := by decide +kernel
theorem dX7_potsOf_54 : decode cX7_potsOf 54 = .ok (.iload_n 3, 1) := by decide +kernel
theorem dX7_potsOf_55 : decode cX7_potsOf 55 = .ok (.ireturn, 1) := by decide +kernel
theorem dX7_dryWaiting_0 : decode cX7_dryWaiting 0 = .ok (.iconst 0, 1) := by decide +kernel
theorem dX7_dryWaiting_1 : decode cX7_dryWaiting 1 = .ok (.istore_n 2, 1) := by decide +kernel
theorem dX7_dryWaiting_2 : decode cX7_dryWaiting 2 = .ok (.iload_n 2, 1) := by decide +kernel
theorem dX7_dryWaiting_3 : decode cX7_dryWaiting 3 = .ok (.aload_n 0, 1) := by decide +kernel
theorem dX7_dryWaiting_4 : decode cX7_dryWaiting 4 = .ok (.getfield 64, 3) := by decide +kernel
theorem dX7_dryWaiting_7 : decode cX7_dryWaiting 7 = .ok (.if_icmp .ge 45, 3) := by decide +kernel
theorem dX7_dryWaiting_10 : decode cX7_dryWaiting 10 = .ok (.aload_n 0, 1) := by decide +kernel
theorem dX7_dryWaiting_11 : decode cX7_dryWaiting 11 = .ok (.getfield 60, 3) := by decide +kernel
theorem dX7_dryWaiting_14 : decode cX7_dryWaiting 14 = .ok (.iload_n 2, 1) := by decide +kernel
theorem dX7_dryWaiting_15 : decode cX7_dryWaiting 15 = .ok (.aaload, 1) := by decide +kernel
theorem dX7_dryWaiting_16 : decode cX7_dryWaiting 16 = .ok (.invokevirtual 98, 3) := by decide +kernel
theorem dX7_dryWaiting_19 : decode cX7_dryWaiting 19 = .ok (.ifCond .ne 27, 3) := by decide +kernel
theorem dX7_dryWaiting_22 : decode cX7_dryWaiting 22 = .ok (.aload_n 0, 1) := by decide +kernel
theorem dX7_dryWaiting_23 : decode cX7_dryWaiting 23 = .ok (.getfield 60, 3) := by decide +kernel
theorem dX7_dryWaiting_26 : decode cX7_dryWaiting 26 = .ok (.iload_n 2, 1) := by decide +kernel
theorem dX7_dryWaiting_27 : decode cX7_dryWaiting 27 = .ok (.aaload, 1) := by decide +kernel
theorem dX7_dryWaiting_28 : decode cX7_dryWaiting 28 = .ok (.iconst 0, 1) := by decide +kernel
theorem dX7_dryWaiting_29 : decode cX7_dryWaiting 29 = .ok (.aload_n 0, 1) := by decide +kernel
theorem dX7_dryWaiting_30 : decode cX7_dryWaiting 30 = .ok (.getfield 60, 3) := by decide +kernel
theorem dX7_dryWaiting_33 : decode cX7_dryWaiting 33 = .ok (.iload_n 2, 1) := by decide +kernel
theorem dX7_dryWaiting_34 : decode cX7_dryWaiting 34 = .ok (.aaload, 1) := by decide +kernel
theorem dX7_dryWaiting_35 : decode cX7_dryWaiting 35 = .ok (.getfield 105, 3) := by decide +kernel
theorem dX7_dryWaiting_38 : decode cX7_dryWaiting 38 = .ok (.iload_n 1, 1) := by decide +kernel
theorem dX7_dryWaiting_39 : decode cX7_dryWaiting 39 = .ok (.isub, 1) := by decide +kernel
theorem dX7_dryWaiting_40 : decode cX7_dryWaiting 40 = .ok (.invokestatic 108, 3) := by decide +kernel
theorem dX7_dryWaiting_43 : decode cX7_dryWaiting 43 = .ok (.putfield 105, 3) := by decide +kernel
theorem dX7_dryWaiting_46 : decode cX7_dryWaiting 46 = .ok (.iinc 2 1, 3) := by decide +kernel
theorem dX7_dryWaiting_49 : decode cX7_dryWaiting 49 = .ok (.goto (-47), 3) := by decide +kernel
theorem dX7_dryWaiting_52 : decode cX7_dryWaiting 52 = .ok (.return_, 1) := by decide +kernel
theorem dX7_dealPlaces_0 : decode cX7_dealPlaces 0 = .ok (.iconst 0, 1) := by decide +kernel
theorem dX7_dealPlaces_1 : decode cX7_dealPlaces 1 = .ok (.istore_n 1, 1) := by decide +kernel
theorem dX7_dealPlaces_2 : decode cX7_dealPlaces 2 = .ok (.iconst 0, 1) := by decide +kernel
theorem dX7_dealPlaces_3 : decode cX7_dealPlaces 3 = .ok (.istore_n 2, 1) := by decide +kernel
theorem dX7_dealPlaces_4 : decode cX7_dealPlaces 4 = .ok (.iload_n 2, 1) := by decide +kernel
theorem dX7_dealPlaces_5 : decode cX7_dealPlaces 5 = .ok (.bipush 24, 2) := by decide +kernel
theorem dX7_dealPlaces_7 : decode cX7_dealPlaces 7 = .ok (.if_icmp .ge 109, 3) := by decide +kernel
theorem dX7_dealPlaces_10 : decode cX7_dealPlaces 10 = .ok (.aload_n 0, 1) := by decide +kernel
theorem dX7_dealPlaces_11 : decode cX7_dealPlaces 11 = .ok (.getfield 54, 3) := by decide +kernel
theorem dX7_dealPlaces_14 : decode cX7_dealPlaces 14 = .ok (.invokevirtual 114, 3) := by decide +kernel
theorem dX7_dealPlaces_17 : decode cX7_dealPlaces 17 = .ok (.istore_n 3, 1) := by decide +kernel
theorem dX7_dealPlaces_18 : decode cX7_dealPlaces 18 = .ok (.aload_n 0, 1) := by decide +kernel
theorem dX7_dealPlaces_19 : decode cX7_dealPlaces 19 = .ok (.invokevirtual 118, 3) := by decide +kernel
theorem dX7_dealPlaces_22 : decode cX7_dealPlaces 22 = .ok (.istore 4, 2) := by decide +kernel
theorem dX7_dealPlaces_24 : decode cX7_dealPlaces 24 = .ok (.iload_n 3, 1) := by decide +kernel
theorem dX7_dealPlaces_25 : decode cX7_dealPlaces 25 = .ok (.iconst (-1), 1) := by decide +kernel
theorem dX7_dealPlaces_26 : decode cX7_dealPlaces 26 = .ok (.if_icmp .eq 90, 3) := by decide +kernel
theorem dX7_dealPlaces_29 : decode cX7_dealPlaces 29 = .ok (.iload 4, 2) := by decide +kernel
theorem dX7_dealPlaces_31 : decode cX7_dealPlaces 31 = .ok (.iconst (-1), 1) := by decide +kernel
theorem dX7_dealPlaces_32 : decode cX7_dealPlaces 32 = .ok (.if_icmp .ne 6, 3) := by decide +kernel
theorem dX7_dealPlaces_35 : decode cX7_dealPlaces 35 = .ok (.goto 81, 3) := by decide +kernel
theorem dX7_dealPlaces_38 : decode cX7_dealPlaces 38 = .ok (.aload_n 0, 1) := by decide +kernel
theorem dX7_dealPlaces_39 : decode cX7_dealPlaces 39 = .ok (.getfield 54, 3) := by decide +kernel
theorem dX7_dealPlaces_42 : decode cX7_dealPlaces 42 = .ok (.getfield 121, 3) := by decide +kernel
theorem dX7_dealPlaces_45 : decode cX7_dealPlaces 45 = .ok (.iload_n 3, 1) := by decide +kernel
theorem dX7_dealPlaces_46 : decode cX7_dealPlaces 46 = .ok (.iload 4, 2) := by decide +kernel
theorem dX7_dealPlaces_48 : decode cX7_dealPlaces 48 = .ok (.iastore, 1) := by decide +kernel
theorem dX7_dealPlaces_49 : decode cX7_dealPlaces 49 = .ok (.aload_n 0, 1) := by decide +kernel
theorem dX7_dealPlaces_50 : decode cX7_dealPlaces 50 = .ok (.getfield 60, 3) := by decide +kernel
theorem dX7_dealPlaces_53 : decode cX7_dealPlaces 53 = .ok (.iload 4, 2) := by decide +kernel
theorem dX7_dealPlaces_55 : decode cX7_dealPlaces 55 = .ok (.aaload, 1) := by decide +kernel
theorem dX7_dealPlaces_56 : decode cX7_dealPlaces 56 = .ok (.iload_n 3, 1) := by decide +kernel
theorem dX7_dealPlaces_57 : decode cX7_dealPlaces 57 = .ok (.iconst 4, 1) := by decide +kernel
theorem dX7_dealPlaces_58 : decode cX7_dealPlaces 58 = .ok (.idiv, 1) := by decide +kernel
theorem dX7_dealPlaces_59 : decode cX7_dealPlaces 59 = .ok (.putfield 124, 3) := by decide +kernel
theorem dX7_dealPlaces_62 : decode cX7_dealPlaces 62 = .ok (.aload_n 0, 1) := by decide +kernel
theorem dX7_dealPlaces_63 : decode cX7_dealPlaces 63 = .ok (.getfield 60, 3) := by decide +kernel
theorem dX7_dealPlaces_66 : decode cX7_dealPlaces 66 = .ok (.iload 4, 2) := by decide +kernel
theorem dX7_dealPlaces_68 : decode cX7_dealPlaces 68 = .ok (.aaload, 1) := by decide +kernel
theorem dX7_dealPlaces_69 : decode cX7_dealPlaces 69 = .ok (.iload_n 3, 1) := by decide +kernel
theorem dX7_dealPlaces_70 : decode cX7_dealPlaces 70 = .ok (.iconst 4, 1) := by decide +kernel
theorem dX7_dealPlaces_71 : decode cX7_dealPlaces 71 = .ok (.irem, 1) := by decide +kernel
theorem dX7_dealPlaces_72 : decode cX7_dealPlaces 72 = .ok (.putfield 127, 3) := by decide +kernel
theorem dX7_dealPlaces_75 : decode cX7_dealPlaces 75 = .ok (.aload_n 0, 1) := by decide +kernel
theorem dX7_dealPlaces_76 : decode cX7_dealPlaces 76 = .ok (.getfield 34, 3) := by decide +kernel
theorem dX7_dealPlaces_79 : decode cX7_dealPlaces 79 = .ok (.aload_n 0, 1) := by decide +kernel
theorem dX7_dealPlaces_80 : decode cX7_dealPlaces 80 = .ok (.getfield 60, 3) := by decide +kernel
theorem dX7_dealPlaces_83 : decode cX7_dealPlaces 83 = .ok (.iload 4, 2) := by decide +kernel
theorem dX7_dealPlaces_85 : decode cX7_dealPlaces 85 = .ok (.aaload, 1) := by decide +kernel
theorem dX7_dealPlaces_86 : decode cX7_dealPlaces 86 = .ok (.getfield 102, 3) := by decide +kernel
theorem dX7_dealPlaces_89 : decode cX7_dealPlaces 89 = .ok (.aaload, 1) := by decide +kernel
theorem dX7_dealPlaces_90 : decode cX7_dealPlaces 90 = .ok (.dup, 1) := by decide +kernel
theorem dX7_dealPlaces_91 : decode cX7_dealPlaces 91 = .ok (.getfield 130, 3) := by decide +kernel
theorem dX7_dealPlaces_94 : decode cX7_dealPlaces 94 = .ok (.aload_n 0, 1) := by decide +kernel
theorem dX7_dealPlaces_95 : decode cX7_dealPlaces 95 = .ok (.getfield 54, 3) := by decide +kernel
theorem dX7_dealPlaces_98 : decode cX7_dealPlaces 98 = .ok (.getfield 133, 3) := by decide +kernel
theorem dX7_dealPlaces_101 : decode cX7_dealPlaces 101 = .ok (.iload_n 3, 1) := by decide +kernel
theorem dX7_dealPlaces_102 : decode cX7_dealPlaces 102 = .ok (.iaload, 1) := by decide +kernel
theorem dX7_dealPlaces_103 : decode cX7_dealPlaces 103 = .ok (.iadd, 1) := by decide +kernel
theorem dX7_dealPlaces_104 : decode cX7_dealPlaces 104 = .ok (.putfield 130, 3) := by decide +kernel
theorem dX7_dealPlaces_107 : decode cX7_dealPlaces 107 = .ok (.iinc 1 1, 3) := by decide +kernel
theorem dX7_dealPlaces_110 : decode cX7_dealPlaces 110 = .ok (.iinc 2 1, 3) := by decide +kernel
theorem dX7_dealPlaces_113 : decode cX7_dealPlaces 113 = .ok (.goto (-109), 3) := by decide +kernel
theorem dX7_dealPlaces_116 : decode cX7_dealPlaces 116 = .ok (.iload_n 1, 1) := by decide +kernel
theorem dX7_dealPlaces_117 : decode cX7_dealPlaces 117 = .ok (.ireturn, 1) := by decide +kernel
theorem dX7_nextPot_0 : decode cX7_nextPot 0 = .ok (.iconst (-1), 1) := by decide +kernel
theorem dX7_nextPot_1 : decode cX7_nextPot 1 = .ok (.istore_n 1, 1) := by decide +kernel
theorem dX7_nextPot_2 : decode cX7_nextPot 2 = .ok (.iconst 0, 1) := by decide +kernel
theorem dX7_nextPot_3 : decode cX7_nextPot 3 = .ok (.istore_n 2, 1) := by decide +kernel
theorem dX7_nextPot_4 : decode cX7_nextPot 4 = .ok (.iload_n 2, 1) := by decide +kernel
theorem dX7_nextPot_5 : decode cX7_nextPot 5 = .ok (.aload_n 0, 1) := by decide +kernel
theorem dX7_nextPot_6 : decode cX7_nextPot 6 = .ok (.getfield 64, 3) := by decide +kernel
theorem dX7_nextPot_9 : decode cX7_nextPot 9 = .ok (.if_icmp .ge 53, 3) := by decide +kernel
theorem dX7_nextPot_12 : decode cX7_nextPot 12 = .ok (.aload_n 0, 1) := by decide +kernel
theorem dX7_nextPot_13 : decode cX7_nextPot 13 = .ok (.getfield 60, 3) := by decide +kernel
theorem dX7_nextPot_16 : decode cX7_nextPot 16 = .ok (.iload_n 2, 1) := by decide +kernel
theorem dX7_nextPot_17 : decode cX7_nextPot 17 = .ok (.aaload, 1) := by decide +kernel
theorem dX7_nextPot_18 : decode cX7_nextPot 18 = .ok (.invokevirtual 98, 3) := by decide +kernel
theorem dX7_nextPot_21 : decode cX7_nextPot 21 = .ok (.ifCond .ne 35, 3) := by decide +kernel
theorem dX7_nextPot_24 : decode cX7_nextPot 24 = .ok (.iload_n 1, 1) := by decide +kernel
theorem dX7_nextPot_25 : decode cX7_nextPot 25 = .ok (.iconst (-1), 1) := by decide +kernel
theorem dX7_nextPot_26 : decode cX7_nextPot 26 = .ok (.if_icmp .eq 28, 3) := by decide +kernel
theorem dX7_nextPot_29 : decode cX7_nextPot 29 = .ok (.aload_n 0, 1) := by decide +kernel
theorem dX7_nextPot_30 : decode cX7_nextPot 30 = .ok (.aload_n 0, 1) := by decide +kernel
theorem dX7_nextPot_31 : decode cX7_nextPot 31 = .ok (.getfield 60, 3) := by decide +kernel
theorem dX7_nextPot_34 : decode cX7_nextPot 34 = .ok (.iload_n 2, 1) := by decide +kernel
theorem dX7_nextPot_35 : decode cX7_nextPot 35 = .ok (.aaload, 1) := by decide +kernel
theorem dX7_nextPot_36 : decode cX7_nextPot 36 = .ok (.getfield 102, 3) := by decide +kernel
theorem dX7_nextPot_39 : decode cX7_nextPot 39 = .ok (.aload_n 0, 1) := by decide +kernel
theorem dX7_nextPot_40 : decode cX7_nextPot 40 = .ok (.getfield 60, 3) := by decide +kernel
theorem dX7_nextPot_43 : decode cX7_nextPot 43 = .ok (.iload_n 1, 1) := by decide +kernel
theorem dX7_nextPot_44 : decode cX7_nextPot 44 = .ok (.aaload, 1) := by decide +kernel
theorem dX7_nextPot_45 : decode cX7_nextPot 45 = .ok (.getfield 102, 3) := by decide +kernel
theorem dX7_nextPot_48 : decode cX7_nextPot 48 = .ok (.invokevirtual 136, 3) := by decide +kernel
theorem dX7_nextPot_51 : decode cX7_nextPot 51 = .ok (.ifCond .eq 5, 3) := by decide +kernel
theorem dX7_nextPot_54 : decode cX7_nextPot 54 = .ok (.iload_n 2, 1) := by decide +kernel
theorem dX7_nextPot_55 : decode cX7_nextPot 55 = .ok (.istore_n 1, 1) := by decide +kernel
theorem dX7_nextPot_56 : decode cX7_nextPot 56 = .ok (.iinc 2 1, 3) := by decide +kernel
theorem dX7_nextPot_59 : decode cX7_nextPot 59 = .ok (.goto (-55), 3) := by decide +kernel
theorem dX7_nextPot_62 : decode cX7_nextPot 62 = .ok (.iload_n 1, 1) := by decide +kernel
theorem dX7_nextPot_63 : decode cX7_nextPot 63 = .ok (.ireturn, 1) := by decide +kernel
theorem dX7_goesBefore_0 : decode cX7_goesBefore 0 = .ok (.aload_n 0, 1) := by decide +kernel
theorem dX7_goesBefore_1 : decode cX7_goesBefore 1 = .ok (.getfield 34, 3) := by decide +kernel
theorem dX7_goesBefore_4 : decode cX7_goesBefore 4 = .ok (.iload_n 1, 1) := by decide +kernel
theorem dX7_goesBefore_5 : decode cX7_goesBefore 5 = .ok (.aaload, 1) := by decide +kernel
theorem dX7_goesBefore_6 : decode cX7_goesBefore 6 = .ok (.getfield 130, 3) := by decide +kernel
theorem dX7_goesBefore_9 : decode cX7_goesBefore 9 = .ok (.istore_n 3, 1) := by decide +kernel
theorem dX7_goesBefore_10 : decode cX7_goesBefore 10 = .ok (.aload_n 0, 1) := by decide +kernel
theorem dX7_goesBefore_11 : decode cX7_goesBefore 11 = .ok (.getfield 34, 3) := by decide +kernel
theorem dX7_goesBefore_14 : decode cX7_goesBefore 14 = .ok (.iload_n 2, 1) := by decide +kernel
theorem dX7_goesBefore_15 : decode cX7_goesBefore 15 = .ok (.aaload, 1) := by decide +kernel
theorem dX7_goesBefore_16 : decode cX7_goesBefore 16 = .ok (.getfield 130, 3) := by decide +kernel
theorem dX7_goesBefore_19 : decode cX7_goesBefore 19 = .ok (.istore 4, 2) := by decide +kernel
theorem dX7_goesBefore_21 : decode cX7_goesBefore 21 = .ok (.iload_n 3, 1) := by decide +kernel
theorem dX7_goesBefore_22 : decode cX7_goesBefore 22 = .ok (.iload 4, 2) := by decide +kernel
theorem dX7_goesBefore_24 : decode cX7_goesBefore 24 = .ok (.if_icmp .lt 14, 3) := by decide +kernel
theorem dX7_goesBefore_27 : decode cX7_goesBefore 27 = .ok (.iload_n 3, 1) := by decide +kernel
theorem dX7_goesBefore_28 : decode cX7_goesBefore 28 = .ok (.iload 4, 2) := by decide +kernel
theorem dX7_goesBefore_30 : decode cX7_goesBefore 30 = .ok (.if_icmp .ne 12, 3) := by decide +kernel
theorem dX7_goesBefore_33 : decode cX7_goesBefore 33 = .ok (.iload_n 1, 1) := by decide +kernel
theorem dX7_goesBefore_34 : decode cX7_goesBefore 34 = .ok (.iload_n 2, 1) := by decide +kernel
theorem dX7_goesBefore_35 : decode cX7_goesBefore 35 = .ok (.if_icmp .ge 7, 3) := by decide +kernel
theorem dX7_goesBefore_38 : decode cX7_goesBefore 38 = .ok (.iconst 1, 1) := by decide +kernel
theorem dX7_goesBefore_39 : decode cX7_goesBefore 39 = .ok (.goto 4, 3) := by decide +kernel
theorem dX7_goesBefore_42 : decode cX7_goesBefore 42 = .ok (.iconst 0, 1) := by decide +kernel
theorem dX7_goesBefore_43 : decode cX7_goesBefore 43 = .ok (.ireturn, 1) := by decide +kernel
theorem dX7_spreadOfHad_0 : decode cX7_spreadOfHad 0 = .ok (.iconst 0, 1) := by decide +kernel
theorem dX7_spreadOfHad_1 : decode cX7_spreadOfHad 1 = .ok (.istore_n 1, 1) := by decide +kernel
theorem dX7_spreadOfHad_2 : decode cX7_spreadOfHad 2 = .ok (.iconst 0, 1) := by decide +kernel
theorem dX7_spreadOfHad_3 : decode cX7_spreadOfHad 3 = .ok (.istore_n 2, 1) := by decide +kernel
theorem dX7_spreadOfHad_4 : decode cX7_spreadOfHad 4 = .ok (.iconst 0, 1) := by decide +kernel
theorem dX7_spreadOfHad_5 : decode cX7_spreadOfHad 5 = .ok (.istore_n 3, 1) := by decide +kernel
theorem dX7_spreadOfHad_6 : decode cX7_spreadOfHad 6 = .ok (.iconst 0, 1) := by decide +kernel
theorem dX7_spreadOfHad_7 : decode cX7_spreadOfHad 7 = .ok (.istore 4, 2) := by decide +kernel
theorem dX7_spreadOfHad_9 : decode cX7_spreadOfHad 9 = .ok (.iload 4, 2) := by decide +kernel
theorem dX7_spreadOfHad_11 : decode cX7_spreadOfHad 11 = .ok (.aload_n 0, 1) := by decide +kernel
theorem dX7_spreadOfHad_12 : decode cX7_spreadOfHad 12 = .ok (.getfield 38, 3) := by decide +kernel
theorem dX7_spreadOfHad_15 : decode cX7_spreadOfHad 15 = .ok (.if_icmp .ge 59, 3) := by decide +kernel
theorem dX7_spreadOfHad_18 : decode cX7_spreadOfHad 18 = .ok (.aload_n 0, 1) := by decide +kernel
theorem dX7_spreadOfHad_19 : decode cX7_spreadOfHad 19 = .ok (.getfield 34, 3) := by decide +kernel
theorem dX7_spreadOfHad_22 : decode cX7_spreadOfHad 22 = .ok (.iload 4, 2) := by decide +kernel
theorem dX7_spreadOfHad_24 : decode cX7_spreadOfHad 24 = .ok (.aaload, 1) := by decide +kernel
theorem dX7_spreadOfHad_25 : decode cX7_spreadOfHad 25 = .ok (.getfield 140, 3) := by decide +kernel
theorem dX7_spreadOfHad_28 : decode cX7_spreadOfHad 28 = .ok (.ifCond .eq 40, 3) := by decide +kernel
theorem dX7_spreadOfHad_31 : decode cX7_spreadOfHad 31 = .ok (.aload_n 0, 1) := by decide +kernel
theorem dX7_spreadOfHad_32 : decode cX7_spreadOfHad 32 = .ok (.getfield 34, 3) := by decide +kernel
theorem dX7_spreadOfHad_35 : decode cX7_spreadOfHad 35 = .ok (.iload 4, 2) := by decide +kernel
theorem dX7_spreadOfHad_37 : decode cX7_spreadOfHad 37 = .ok (.aaload, 1) := by decide +kernel
theorem dX7_spreadOfHad_38 : decode cX7_spreadOfHad 38 = .ok (.getfield 130, 3) := by decide +kernel
theorem dX7_spreadOfHad_41 : decode cX7_spreadOfHad 41 = .ok (.istore 5, 2) := by decide +kernel
theorem dX7_spreadOfHad_43 : decode cX7_spreadOfHad 43 = .ok (.iload_n 1, 1) := by decide +kernel
theorem dX7_spreadOfHad_44 : decode cX7_spreadOfHad 44 = .ok (.ifCond .eq 12, 3) := by decide +kernel
theorem dX7_spreadOfHad_47 : decode cX7_spreadOfHad 47 = .ok (.iload_n 2, 1) := by decide +kernel
theorem dX7_spreadOfHad_48 : decode cX7_spreadOfHad 48 = .ok (.iload 5, 2) := by decide +kernel
theorem dX7_spreadOfHad_50 : decode cX7_spreadOfHad 50 = .ok (.invokestatic 144, 3) := by decide +kernel
theorem dX7_spreadOfHad_53 : decode cX7_spreadOfHad 53 = .ok (.goto 5, 3) := by decide +kernel
theorem dX7_spreadOfHad_56 : decode cX7_spreadOfHad 56 = .ok (.iload 5, 2) := by decide +kernel
theorem dX7_spreadOfHad_58 : decode cX7_spreadOfHad 58 = .ok (.istore_n 2, 1) := by decide +kernel
theorem dX7_spreadOfHad_59 : decode cX7_spreadOfHad 59 = .ok (.iload_n 3, 1) := by decide +kernel
theorem dX7_spreadOfHad_60 : decode cX7_spreadOfHad 60 = .ok (.iload 5, 2) := by decide +kernel
theorem dX7_spreadOfHad_62 : decode cX7_spreadOfHad 62 = .ok (.invokestatic 108, 3) := by decide +kernel
theorem dX7_spreadOfHad_65 : decode cX7_spreadOfHad 65 = .ok (.istore_n 3, 1) := by decide +kernel
theorem dX7_spreadOfHad_66 : decode cX7_spreadOfHad 66 = .ok (.iconst 1, 1) := by decide +kernel
theorem dX7_spreadOfHad_67 : decode cX7_spreadOfHad 67 = .ok (.istore_n 1, 1) := by decide +kernel
theorem dX7_spreadOfHad_68 : decode cX7_spreadOfHad 68 = .ok (.iinc 4 1, 3) := by decide +kernel
theorem dX7_spreadOfHad_71 : decode cX7_spreadOfHad 71 = .ok (.goto (-62), 3) := by decide +kernel
theorem dX7_spreadOfHad_74 : decode cX7_spreadOfHad 74 = .ok (.iload_n 3, 1) := by decide +kernel
theorem dX7_spreadOfHad_75 : decode cX7_spreadOfHad 75 = .ok (.iload_n 2, 1) := by decide +kernel
theorem dX7_spreadOfHad_76 : decode cX7_spreadOfHad 76 = .ok (.isub, 1) := by decide +kernel
theorem dX7_spreadOfHad_77 : decode cX7_spreadOfHad 77 = .ok (.ireturn, 1) := by decide +kernel
theorem dX7_passHour_0 : decode cX7_passHour 0 = .ok (.aload_n 0, 1) := by decide +kernel
theorem dX7_passHour_1 : decode cX7_passHour 1 = .ok (.getfield 54, 3) := by decide +kernel
theorem dX7_passHour_4 : decode cX7_passHour 4 = .ok (.iload_n 1, 1) := by decide +kernel
theorem dX7_passHour_5 : decode cX7_passHour 5 = .ok (.iload_n 2, 1) := by decide +kernel
theorem dX7_passHour_6 : decode cX7_passHour 6 = .ok (.invokevirtual 147, 3) := by decide +kernel
theorem dX7_passHour_9 : decode cX7_passHour 9 = .ok (.iconst 0, 1) := by decide +kernel
theorem dX7_passHour_10 : decode cX7_passHour 10 = .ok (.istore_n 3, 1) := by decide +kernel
theorem dX7_passHour_11 : decode cX7_passHour 11 = .ok (.iload_n 3, 1) := by decide +kernel
theorem dX7_passHour_12 : decode cX7_passHour 12 = .ok (.aload_n 0, 1) := by decide +kernel
theorem dX7_passHour_13 : decode cX7_passHour 13 = .ok (.getfield 64, 3) := by decide +kernel
theorem dX7_passHour_16 : decode cX7_passHour 16 = .ok (.if_icmp .ge 73, 3) := by decide +kernel
theorem dX7_passHour_19 : decode cX7_passHour 19 = .ok (.aload_n 0, 1) := by decide +kernel
theorem dX7_passHour_20 : decode cX7_passHour 20 = .ok (.getfield 60, 3) := by decide +kernel
theorem dX7_passHour_23 : decode cX7_passHour 23 = .ok (.iload_n 3, 1) := by decide +kernel
theorem dX7_passHour_24 : decode cX7_passHour 24 = .ok (.aaload, 1) := by decide +kernel
theorem dX7_passHour_25 : decode cX7_passHour 25 = .ok (.astore 4, 2) := by decide +kernel
theorem dX7_passHour_27 : decode cX7_passHour 27 = .ok (.aload 4, 2) := by decide +kernel
theorem dX7_passHour_29 : decode cX7_passHour 29 = .ok (.invokevirtual 98, 3) := by decide +kernel
theorem dX7_passHour_32 : decode cX7_passHour 32 = .ok (.ifCond .eq 51, 3) := by decide +kernel
theorem dX7_passHour_35 : decode cX7_passHour 35 = .ok (.aload 4, 2) := by decide +kernel
theorem dX7_passHour_37 : decode cX7_passHour 37 = .ok (.getfield 151, 3) := by decide +kernel
theorem dX7_passHour_40 : decode cX7_passHour 40 = .ok (.ifCond .ne 43, 3) := by decide +kernel
theorem dX7_passHour_43 : decode cX7_passHour 43 = .ok (.aload 4, 2) := by decide +kernel
theorem dX7_passHour_45 : decode cX7_passHour 45 = .ok (.aload_n 0, 1) := by decide +kernel
theorem dX7_passHour_46 : decode cX7_passHour 46 = .ok (.getfield 54, 3) := by decide +kernel
theorem dX7_passHour_49 : decode cX7_passHour 49 = .ok (.getfield 154, 3) := by decide +kernel
theorem dX7_passHour_52 : decode cX7_passHour 52 = .ok (.aload 4, 2) := by decide +kernel
theorem dX7_passHour_54 : decode cX7_passHour 54 = .ok (.getfield 124, 3) := by decide +kernel
theorem dX7_passHour_57 : decode cX7_passHour 57 = .ok (.iaload, 1) := by decide +kernel
theorem dX7_passHour_58 : decode cX7_passHour 58 = .ok (.aload_n 0, 1) := by decide +kernel
theorem dX7_passHour_59 : decode cX7_passHour 59 = .ok (.getfield 54, 3) := by decide +kernel
theorem dX7_passHour_62 : decode cX7_passHour 62 = .ok (.aload 4, 2) := by decide +kernel
theorem dX7_passHour_64 : decode cX7_passHour 64 = .ok (.getfield 124, 3) := by decide +kernel
theorem dX7_passHour_67 : decode cX7_passHour 67 = .ok (.invokevirtual 157, 3) := by decide +kernel
theorem dX7_passHour_70 : decode cX7_passHour 70 = .ok (.aload_n 0, 1) := by decide +kernel
theorem dX7_passHour_71 : decode cX7_passHour 71 = .ok (.getfield 45, 3) := by decide +kernel
theorem dX7_passHour_74 : decode cX7_passHour 74 = .ok (.aload 4, 2) := by decide +kernel
theorem dX7_passHour_76 : decode cX7_passHour 76 = .ok (.getfield 161, 3) := by decide +kernel
theorem dX7_passHour_79 : decode cX7_passHour 79 = .ok (.iaload, 1) := by decide +kernel
theorem dX7_passHour_80 : decode cX7_passHour 80 = .ok (.invokevirtual 164, 3) := by decide +kernel
theorem dX7_passHour_83 : decode cX7_passHour 83 = .ok (.iinc 3 1, 3) := by decide +kernel
theorem dX7_passHour_86 : decode cX7_passHour 86 = .ok (.goto (-75), 3) := by decide +kernel
theorem dX7_passHour_89 : decode cX7_passHour 89 = .ok (.return_, 1) := by decide +kernel
theorem dX7_giveAllBack_0 : decode cX7_giveAllBack 0 = .ok (.iconst 0, 1) := by decide +kernel
theorem dX7_giveAllBack_1 : decode cX7_giveAllBack 1 = .ok (.istore_n 1, 1) := by decide +kernel
theorem dX7_giveAllBack_2 : decode cX7_giveAllBack 2 = .ok (.iconst 0, 1) := by decide +kernel
theorem dX7_giveAllBack_3 : decode cX7_giveAllBack 3 = .ok (.istore_n 2, 1) := by decide +kernel
theorem dX7_giveAllBack_4 : decode cX7_giveAllBack 4 = .ok (.iconst 0, 1) := by decide +kernel
theorem dX7_giveAllBack_5 : decode cX7_giveAllBack 5 = .ok (.istore_n 3, 1) := by decide +kernel
theorem dX7_giveAllBack_6 : decode cX7_giveAllBack 6 = .ok (.iload_n 3, 1) := by decide +kernel
theorem dX7_giveAllBack_7 : decode cX7_giveAllBack 7 = .ok (.aload_n 0, 1) := by decide +kernel
theorem dX7_giveAllBack_8 : decode cX7_giveAllBack 8 = .ok (.getfield 64, 3) := by decide +kernel
theorem dX7_giveAllBack_11 : decode cX7_giveAllBack 11 = .ok (.if_icmp .ge 54, 3) := by decide +kernel
theorem dX7_giveAllBack_14 : decode cX7_giveAllBack 14 = .ok (.aload_n 0, 1) := by decide +kernel
theorem dX7_giveAllBack_15 : decode cX7_giveAllBack 15 = .ok (.getfield 60, 3) := by decide +kernel
theorem dX7_giveAllBack_18 : decode cX7_giveAllBack 18 = .ok (.iload_n 3, 1) := by decide +kernel
theorem dX7_giveAllBack_19 : decode cX7_giveAllBack 19 = .ok (.aaload, 1) := by decide +kernel
theorem dX7_giveAllBack_20 : decode cX7_giveAllBack 20 = .ok (.astore 4, 2) := by decide +kernel
theorem dX7_giveAllBack_22 : decode cX7_giveAllBack 22 = .ok (.aload 4, 2) := by decide +kernel
theorem dX7_giveAllBack_24 : decode cX7_giveAllBack 24 = .ok (.invokevirtual 98, 3) := by decide +kernel
theorem dX7_giveAllBack_27 : decode cX7_giveAllBack 27 = .ok (.ifCond .ne 20, 3) := by decide +kernel
theorem dX7_giveAllBack_30 : decode cX7_giveAllBack 30 = .ok (.aload_n 0, 1) := by decide +kernel
theorem dX7_giveAllBack_31 : decode cX7_giveAllBack 31 = .ok (.getfield 60, 3) := by decide +kernel
theorem dX7_giveAllBack_34 : decode cX7_giveAllBack 34 = .ok (.iload_n 2, 1) := by decide +kernel
theorem dX7_giveAllBack_35 : decode cX7_giveAllBack 35 = .ok (.aaload, 1) := by decide +kernel
theorem dX7_giveAllBack_36 : decode cX7_giveAllBack 36 = .ok (.aload 4, 2) := by decide +kernel
theorem dX7_giveAllBack_38 : decode cX7_giveAllBack 38 = .ok (.invokevirtual 91, 3) := by decide +kernel
theorem dX7_giveAllBack_41 : decode cX7_giveAllBack 41 = .ok (.iinc 2 1, 3) := by decide +kernel
theorem dX7_giveAllBack_44 : decode cX7_giveAllBack 44 = .ok (.goto 15, 3) := by decide +kernel
theorem dX7_giveAllBack_47 : decode cX7_giveAllBack 47 = .ok (.aload_n 0, 1) := by decide +kernel
theorem dX7_giveAllBack_48 : decode cX7_giveAllBack 48 = .ok (.aload 4, 2) := by decide +kernel
theorem dX7_giveAllBack_50 : decode cX7_giveAllBack 50 = .ok (.invokevirtual 168, 3) := by decide +kernel
theorem dX7_giveAllBack_53 : decode cX7_giveAllBack 53 = .ok (.ifCond .eq 6, 3) := by decide +kernel
theorem dX7_giveAllBack_56 : decode cX7_giveAllBack 56 = .ok (.iinc 1 1, 3) := by decide +kernel
theorem dX7_giveAllBack_59 : decode cX7_giveAllBack 59 = .ok (.iinc 3 1, 3) := by decide +kernel
theorem dX7_giveAllBack_62 : decode cX7_giveAllBack 62 = .ok (.goto (-56), 3) := by decide +kernel
theorem dX7_giveAllBack_65 : decode cX7_giveAllBack 65 = .ok (.aload_n 0, 1) := by decide +kernel
theorem dX7_giveAllBack_66 : decode cX7_giveAllBack 66 = .ok (.iload_n 2, 1) := by decide +kernel
theorem dX7_giveAllBack_67 : decode cX7_giveAllBack 67 = .ok (.putfield 64, 3) := by decide +kernel
theorem dX7_giveAllBack_70 : decode cX7_giveAllBack 70 = .ok (.aload_n 0, 1) := by decide +kernel
theorem dX7_giveAllBack_71 : decode cX7_giveAllBack 71 = .ok (.getfield 54, 3) := by decide +kernel
theorem dX7_giveAllBack_74 : decode cX7_giveAllBack 74 = .ok (.invokevirtual 172, 3) := by decide +kernel
theorem dX7_giveAllBack_77 : decode cX7_giveAllBack 77 = .ok (.aload_n 0, 1) := by decide +kernel
theorem dX7_giveAllBack_78 : decode cX7_giveAllBack 78 = .ok (.dup, 1) := by decide +kernel
theorem dX7_giveAllBack_79 : decode cX7_giveAllBack 79 = .ok (.getfield 67, 3) := by decide +kernel
theorem dX7_giveAllBack_82 : decode cX7_giveAllBack 82 = .ok (.iconst 1, 1) := by decide +kernel
theorem dX7_giveAllBack_83 : decode cX7_giveAllBack 83 = .ok (.iadd, 1) := by decide +kernel
theorem dX7_giveAllBack_84 : decode cX7_giveAllBack 84 = .ok (.putfield 67, 3) := by decide +kernel
theorem dX7_giveAllBack_87 : decode cX7_giveAllBack 87 = .ok (.iload_n 1, 1) := by decide +kernel
theorem dX7_giveAllBack_88 : decode cX7_giveAllBack 88 = .ok (.ireturn, 1) := by decide +kernel
theorem dX7_giveBack_0 : decode cX7_giveBack 0 = .ok (.aload_n 0, 1) := by decide +kernel
theorem dX7_giveBack_1 : decode cX7_giveBack 1 = .ok (.getfield 34, 3) := by decide +kernel
theorem dX7_giveBack_4 : decode cX7_giveBack 4 = .ok (.aload_n 1, 1) := by decide +kernel
theorem dX7_giveBack_5 : decode cX7_giveBack 5 = .ok (.getfield 102, 3) := by decide +kernel
theorem dX7_giveBack_8 : decode cX7_giveBack 8 = .ok (.aaload, 1) := by decide +kernel
theorem dX7_giveBack_9 : decode cX7_giveBack 9 = .ok (.astore_n 2, 1) := by decide +kernel
theorem dX7_giveBack_10 : decode cX7_giveBack 10 = .ok (.aload_n 0, 1) := by decide +kernel
theorem dX7_giveBack_11 : decode cX7_giveBack 11 = .ok (.getfield 41, 3) := by decide +kernel
theorem dX7_giveBack_14 : decode cX7_giveBack 14 = .ok (.aload_n 1, 1) := by decide +kernel
theorem dX7_giveBack_15 : decode cX7_giveBack 15 = .ok (.getfield 161, 3) := by decide +kernel
theorem dX7_giveBack_18 : decode cX7_giveBack 18 = .ok (.iaload, 1) := by decide +kernel
theorem dX7_giveBack_19 : decode cX7_giveBack 19 = .ok (.istore_n 3, 1) := by decide +kernel
theorem dX7_giveBack_20 : decode cX7_giveBack 20 = .ok (.aload_n 1, 1) := by decide +kernel
theorem dX7_giveBack_21 : decode cX7_giveBack 21 = .ok (.getfield 151, 3) := by decide +kernel
theorem dX7_giveBack_24 : decode cX7_giveBack 24 = .ok (.ifCond .eq 33, 3) := by decide +kernel
theorem dX7_giveBack_27 : decode cX7_giveBack 27 = .ok (.aload_n 2, 1) := by decide +kernel
theorem dX7_giveBack_28 : decode cX7_giveBack 28 = .ok (.dup, 1) := by decide +kernel
theorem dX7_giveBack_29 : decode cX7_giveBack 29 = .ok (.getfield 175, 3) := by decide +kernel
theorem dX7_giveBack_32 : decode cX7_giveBack 32 = .ok (.iconst 1, 1) := by decide +kernel
theorem dX7_giveBack_33 : decode cX7_giveBack 33 = .ok (.iadd, 1) := by decide +kernel
theorem dX7_giveBack_34 : decode cX7_giveBack 34 = .ok (.putfield 175, 3) := by decide +kernel
theorem dX7_giveBack_37 : decode cX7_giveBack 37 = .ok (.aload_n 0, 1) := by decide +kernel
theorem dX7_giveBack_38 : decode cX7_giveBack 38 = .ok (.aload_n 2, 1) := by decide +kernel
theorem dX7_giveBack_39 : decode cX7_giveBack 39 = .ok (.iload_n 3, 1) := by decide +kernel
theorem dX7_giveBack_40 : decode cX7_giveBack 40 = .ok (.aload_n 0, 1) := by decide +kernel
theorem dX7_giveBack_41 : decode cX7_giveBack 41 = .ok (.getfield 21, 3) := by decide +kernel
theorem dX7_giveBack_44 : decode cX7_giveBack 44 = .ok (.aload_n 1, 1) := by decide +kernel
theorem dX7_giveBack_45 : decode cX7_giveBack 45 = .ok (.invokevirtual 178, 3) := by decide +kernel
theorem dX7_giveBack_48 : decode cX7_giveBack 48 = .ok (.imul, 1) := by decide +kernel
theorem dX7_giveBack_49 : decode cX7_giveBack 49 = .ok (.bipush 100, 2) := by decide +kernel
theorem dX7_giveBack_51 : decode cX7_giveBack 51 = .ok (.idiv, 1) := by decide +kernel
theorem dX7_giveBack_52 : decode cX7_giveBack 52 = .ok (.invokevirtual 182, 3) := by decide +kernel
theorem dX7_giveBack_55 : decode cX7_giveBack 55 = .ok (.iconst 0, 1) := by decide +kernel
theorem dX7_giveBack_56 : decode cX7_giveBack 56 = .ok (.ireturn, 1) := by decide +kernel
theorem dX7_giveBack_57 : decode cX7_giveBack 57 = .ok (.aload_n 0, 1) := by decide +kernel
theorem dX7_giveBack_58 : decode cX7_giveBack 58 = .ok (.aload_n 1, 1) := by decide +kernel
theorem dX7_giveBack_59 : decode cX7_giveBack 59 = .ok (.invokevirtual 186, 3) := by decide +kernel
theorem dX7_giveBack_62 : decode cX7_giveBack 62 = .ok (.istore 4, 2) := by decide +kernel
theorem dX7_giveBack_64 : decode cX7_giveBack 64 = .ok (.aload_n 2, 1) := by decide +kernel
theorem dX7_giveBack_65 : decode cX7_giveBack 65 = .ok (.dup, 1) := by decide +kernel
theorem dX7_giveBack_66 : decode cX7_giveBack 66 = .ok (.getfield 189, 3) := by decide +kernel
theorem dX7_giveBack_69 : decode cX7_giveBack 69 = .ok (.iload 4, 2) := by decide +kernel
theorem dX7_giveBack_71 : decode cX7_giveBack 71 = .ok (.ifCond .eq 7, 3) := by decide +kernel
theorem dX7_giveBack_74 : decode cX7_giveBack 74 = .ok (.iload_n 3, 1) := by decide +kernel
theorem dX7_giveBack_75 : decode cX7_giveBack 75 = .ok (.goto 6, 3) := by decide +kernel
theorem dX7_giveBack_78 : decode cX7_giveBack 78 = .ok (.iload_n 3, 1) := by decide +kernel
theorem dX7_giveBack_79 : decode cX7_giveBack 79 = .ok (.iconst 2, 1) := by decide +kernel
theorem dX7_giveBack_80 : decode cX7_giveBack 80 = .ok (.idiv, 1) := by decide +kernel
theorem dX7_giveBack_81 : decode cX7_giveBack 81 = .ok (.iadd, 1) := by decide +kernel
theorem dX7_giveBack_82 : decode cX7_giveBack 82 = .ok (.putfield 189, 3) := by decide +kernel
theorem dX7_giveBack_85 : decode cX7_giveBack 85 = .ok (.iload 4, 2) := by decide +kernel
theorem dX7_giveBack_87 : decode cX7_giveBack 87 = .ok (.ireturn, 1) := by decide +kernel
theorem dX7_isRipe_0 : decode cX7_isRipe 0 = .ok (.aload_n 0, 1) := by decide +kernel
theorem dX7_isRipe_1 : decode cX7_isRipe 1 = .ok (.getfield 48, 3) := by decide +kernel
theorem dX7_isRipe_4 : decode cX7_isRipe 4 = .ok (.aload_n 1, 1) := by decide +kernel
theorem dX7_isRipe_5 : decode cX7_isRipe 5 = .ok (.getfield 192, 3) := by decide +kernel
theorem dX7_isRipe_8 : decode cX7_isRipe 8 = .ok (.iaload, 1) := by decide +kernel
theorem dX7_isRipe_9 : decode cX7_isRipe 9 = .ok (.istore_n 2, 1) := by decide +kernel
theorem dX7_isRipe_10 : decode cX7_isRipe 10 = .ok (.bipush 8, 2) := by decide +kernel
theorem dX7_isRipe_12 : decode cX7_isRipe 12 = .ok (.bipush 10, 2) := by decide +kernel
theorem dX7_isRipe_14 : decode cX7_isRipe 14 = .ok (.iload_n 2, 1) := by decide +kernel
theorem dX7_isRipe_15 : decode cX7_isRipe 15 = .ok (.isub, 1) := by decide +kernel
theorem dX7_isRipe_16 : decode cX7_isRipe 16 = .ok (.imul, 1) := by decide +kernel
theorem dX7_isRipe_17 : decode cX7_isRipe 17 = .ok (.bipush 20, 2) := by decide +kernel
theorem dX7_isRipe_19 : decode cX7_isRipe 19 = .ok (.iadd, 1) := by decide +kernel
theorem dX7_isRipe_20 : decode cX7_isRipe 20 = .ok (.istore_n 3, 1) := by decide +kernel
theorem dX7_isRipe_21 : decode cX7_isRipe 21 = .ok (.aload_n 1, 1) := by decide +kernel
theorem dX7_isRipe_22 : decode cX7_isRipe 22 = .ok (.getfield 195, 3) := by decide +kernel
theorem dX7_isRipe_25 : decode cX7_isRipe 25 = .ok (.iload_n 3, 1) := by decide +kernel
theorem dX7_isRipe_26 : decode cX7_isRipe 26 = .ok (.iload_n 3, 1) := by decide +kernel
theorem dX7_isRipe_27 : decode cX7_isRipe 27 = .ok (.bipush 6, 2) := by decide +kernel
theorem dX7_isRipe_29 : decode cX7_isRipe 29 = .ok (.iload_n 2, 1) := by decide +kernel
theorem dX7_isRipe_30 : decode cX7_isRipe 30 = .ok (.imul, 1) := by decide +kernel
theorem dX7_isRipe_31 : decode cX7_isRipe 31 = .ok (.iadd, 1) := by decide +kernel
theorem dX7_isRipe_32 : decode cX7_isRipe 32 = .ok (.invokestatic 94, 3) := by decide +kernel
theorem dX7_isRipe_35 : decode cX7_isRipe 35 = .ok (.ireturn, 1) := by decide +kernel
theorem dX7_shareLoss_0 : decode cX7_shareLoss 0 = .ok (.aload_n 0, 1) := by decide +kernel
theorem dX7_shareLoss_1 : decode cX7_shareLoss 1 = .ok (.getfield 38, 3) := by decide +kernel
theorem dX7_shareLoss_4 : decode cX7_shareLoss 4 = .ok (.ifCond .ne 4, 3) := by decide +kernel
theorem dX7_shareLoss_7 : decode cX7_shareLoss 7 = .ok (.return_, 1) := by decide +kernel
theorem dX7_shareLoss_8 : decode cX7_shareLoss 8 = .ok (.iload_n 2, 1) := by decide +kernel
theorem dX7_shareLoss_9 : decode cX7_shareLoss 9 = .ok (.aload_n 0, 1) := by decide +kernel
theorem dX7_shareLoss_10 : decode cX7_shareLoss 10 = .ok (.getfield 38, 3) := by decide +kernel
theorem dX7_shareLoss_13 : decode cX7_shareLoss 13 = .ok (.idiv, 1) := by decide +kernel
theorem dX7_shareLoss_14 : decode cX7_shareLoss 14 = .ok (.istore_n 3, 1) := by decide +kernel
theorem dX7_shareLoss_15 : decode cX7_shareLoss 15 = .ok (.iconst 0, 1) := by decide +kernel
theorem dX7_shareLoss_16 : decode cX7_shareLoss 16 = .ok (.istore 4, 2) := by decide +kernel
theorem dX7_shareLoss_18 : decode cX7_shareLoss 18 = .ok (.iload 4, 2) := by decide +kernel
theorem dX7_shareLoss_20 : decode cX7_shareLoss 20 = .ok (.aload_n 0, 1) := by decide +kernel
theorem dX7_shareLoss_21 : decode cX7_shareLoss 21 = .ok (.getfield 38, 3) := by decide +kernel
theorem dX7_shareLoss_24 : decode cX7_shareLoss 24 = .ok (.if_icmp .ge 25, 3) := by decide +kernel
theorem dX7_shareLoss_27 : decode cX7_shareLoss 27 = .ok (.aload_n 0, 1) := by decide +kernel
theorem dX7_shareLoss_28 : decode cX7_shareLoss 28 = .ok (.getfield 34, 3) := by decide +kernel
theorem dX7_shareLoss_31 : decode cX7_shareLoss 31 = .ok (.iload 4, 2) := by decide +kernel
theorem dX7_shareLoss_33 : decode cX7_shareLoss 33 = .ok (.aaload, 1) := by decide +kernel
theorem dX7_shareLoss_34 : decode cX7_shareLoss 34 = .ok (.dup, 1) := by decide +kernel
theorem dX7_shareLoss_35 : decode cX7_shareLoss 35 = .ok (.getfield 189, 3) := by decide +kernel
theorem dX7_shareLoss_38 : decode cX7_shareLoss 38 = .ok (.iload_n 3, 1) := by decide +kernel
theorem dX7_shareLoss_39 : decode cX7_shareLoss 39 = .ok (.isub, 1) := by decide +kernel
theorem dX7_shareLoss_40 : decode cX7_shareLoss 40 = .ok (.putfield 189, 3) := by decide +kernel
theorem dX7_shareLoss_43 : decode cX7_shareLoss 43 = .ok (.iinc 4 1, 3) := by decide +kernel
theorem dX7_shareLoss_46 : decode cX7_shareLoss 46 = .ok (.goto (-28), 3) := by decide +kernel
theorem dX7_shareLoss_49 : decode cX7_shareLoss 49 = .ok (.aload_n 1, 1) := by decide +kernel
theorem dX7_shareLoss_50 : decode cX7_shareLoss 50 = .ok (.dup, 1) := by decide +kernel
theorem dX7_shareLoss_51 : decode cX7_shareLoss 51 = .ok (.getfield 189, 3) := by decide +kernel
theorem dX7_shareLoss_54 : decode cX7_shareLoss 54 = .ok (.iload_n 3, 1) := by decide +kernel
theorem dX7_shareLoss_55 : decode cX7_shareLoss 55 = .ok (.aload_n 0, 1) := by decide +kernel
theorem dX7_shareLoss_56 : decode cX7_shareLoss 56 = .ok (.getfield 38, 3) := by decide +kernel
theorem dX7_shareLoss_59 : decode cX7_shareLoss 59 = .ok (.imul, 1) := by decide +kernel
theorem dX7_shareLoss_60 : decode cX7_shareLoss 60 = .ok (.iadd, 1) := by decide +kernel
theorem dX7_shareLoss_61 : decode cX7_shareLoss 61 = .ok (.putfield 189, 3) := by decide +kernel
theorem dX7_shareLoss_64 : decode cX7_shareLoss 64 = .ok (.return_, 1) := by decide +kernel
theorem dX8_init_0 : decode cX8_init 0 = .ok (.aload_n 0, 1) := by decide +kernel
theorem dX8_init_1 : decode cX8_init 1 = .ok (.invokespecial 1, 3) := by decide +kernel
theorem dX8_init_4 : decode cX8_init 4 = .ok (.aload_n 0, 1) := by decide +kernel
theorem dX8_init_5 : decode cX8_init 5 = .ok (.new 7, 3) := by decide +kernel
theorem dX8_init_8 : decode cX8_init 8 = .ok (.dup, 1) := by decide +kernel
theorem dX8_init_9 : decode cX8_init 9 = .ok (.invokespecial 9, 3) := by decide +kernel
theorem dX8_init_12 : decode cX8_init 12 = .ok (.putfield 10, 3) := by decide +kernel
theorem dX8_init_15 : decode cX8_init 15 = .ok (.aload_n 0, 1) := by decide +kernel
theorem dX8_init_16 : decode cX8_init 16 = .ok (.new 16, 3) := by decide +kernel
theorem dX8_init_19 : decode cX8_init 19 = .ok (.dup, 1) := by decide +kernel
theorem dX8_init_20 : decode cX8_init 20 = .ok (.aload_n 0, 1) := by decide +kernel
theorem dX8_init_21 : decode cX8_init 21 = .ok (.getfield 10, 3) := by decide +kernel
theorem dX8_init_24 : decode cX8_init 24 = .ok (.getfield 18, 3) := by decide +kernel
theorem dX8_init_27 : decode cX8_init 27 = .ok (.invokespecial 22, 3) := by decide +kernel
theorem dX8_init_30 : decode cX8_init 30 = .ok (.putfield 25, 3) := by decide +kernel
theorem dX8_init_33 : decode cX8_init 33 = .ok (.aload_n 0, 1) := by decide +kernel
theorem dX8_init_34 : decode cX8_init 34 = .ok (.iconst 3, 1) := by decide +kernel
theorem dX8_init_35 : decode cX8_init 35 = .ok (.anewarray 7, 3) := by decide +kernel
theorem dX8_init_38 : decode cX8_init 38 = .ok (.putfield 29, 3) := by decide +kernel
theorem dX8_init_41 : decode cX8_init 41 = .ok (.return_, 1) := by decide +kernel
theorem dX8_feed_0 : decode cX8_feed 0 = .ok (.aload_n 0, 1) := by decide +kernel
theorem dX8_feed_1 : decode cX8_feed 1 = .ok (.getfield 10, 3) := by decide +kernel
theorem dX8_feed_4 : decode cX8_feed 4 = .ok (.getfield 18, 3) := by decide +kernel
theorem dX8_feed_7 : decode cX8_feed 7 = .ok (.astore 6, 2) := by decide +kernel
theorem dX8_feed_9 : decode cX8_feed 9 = .ok (.aload 6, 2) := by decide +kernel
theorem dX8_feed_11 : decode cX8_feed 11 = .ok (.getfield 33, 3) := by decide +kernel
theorem dX8_feed_14 : decode cX8_feed 14 = .ok (.bipush 20, 2) := by decide +kernel
theorem dX8_feed_16 : decode cX8_feed 16 = .ok (.iadd, 1) := by decide +kernel
theorem dX8_feed_17 : decode cX8_feed 17 = .ok (.sipush 300, 3) := by decide +kernel
theorem dX8_feed_20 : decode cX8_feed 20 = .ok (.if_icmp .le 5, 3) := by decide +kernel
theorem dX8_feed_23 : decode cX8_feed 23 = .ok (.iconst (-1), 1) := by decide +kernel
theorem dX8_feed_24 : decode cX8_feed 24 = .ok (.ireturn, 1) := by decide +kernel
theorem dX8_feed_25 : decode cX8_feed 25 = .ok (.aload 6, 2) := by decide +kernel
theorem dX8_feed_27 : decode cX8_feed 27 = .ok (.iload_n 1, 1) := by decide +kernel
theorem dX8_feed_28 : decode cX8_feed 28 = .ok (.invokevirtual 39, 3) := by decide +kernel
theorem dX8_feed_31 : decode cX8_feed 31 = .ok (.aload 6, 2) := by decide +kernel
theorem dX8_feed_33 : decode cX8_feed 33 = .ok (.iload_n 2, 1) := by decide +kernel
theorem dX8_feed_34 : decode cX8_feed 34 = .ok (.invokevirtual 39, 3) := by decide +kernel
theorem dX8_feed_37 : decode cX8_feed 37 = .ok (.aload 6, 2) := by decide +kernel
theorem dX8_feed_39 : decode cX8_feed 39 = .ok (.iload_n 3, 1) := by decide +kernel
theorem dX8_feed_40 : decode cX8_feed 40 = .ok (.invokevirtual 39, 3) := by decide +kernel
theorem dX8_feed_43 : decode cX8_feed 43 = .ok (.aload 6, 2) := by decide +kernel
theorem dX8_feed_45 : decode cX8_feed 45 = .ok (.iload 4, 2) := by decide +kernel
theorem dX8_feed_47 : decode cX8_feed 47 = .ok (.invokevirtual 39, 3) := by decide +kernel
theorem dX8_feed_50 : decode cX8_feed 50 = .ok (.aload 6, 2) := by decide +kernel
theorem dX8_feed_52 : decode cX8_feed 52 = .ok (.iload 5, 2) := by decide +kernel
theorem dX8_feed_54 : decode cX8_feed 54 = .ok (.invokevirtual 39, 3) := by decide +kernel
theorem dX8_feed_57 : decode cX8_feed 57 = .ok (.aload 6, 2) := by decide +kernel
theorem dX8_feed_59 : decode cX8_feed 59 = .ok (.getfield 33, 3) := by decide +kernel
theorem dX8_feed_62 : decode cX8_feed 62 = .ok (.ireturn, 1) := by decide +kernel
theorem dX8_end_0 : decode cX8_end 0 = .ok (.iload_n 1, 1) := by decide +kernel
theorem dX8_end_1 : decode cX8_end 1 = .ok (.iconst 0, 1) := by decide +kernel
theorem dX8_end_2 : decode cX8_end 2 = .ok (.aload_n 0, 1) := by decide +kernel
theorem dX8_end_3 : decode cX8_end 3 = .ok (.getfield 10, 3) := by decide +kernel
theorem dX8_end_6 : decode cX8_end 6 = .ok (.getfield 18, 3) := by decide +kernel
theorem dX8_end_9 : decode cX8_end 9 = .ok (.getfield 33, 3) := by decide +kernel
theorem dX8_end_12 : decode cX8_end 12 = .ok (.invokestatic 43, 3) := by decide +kernel
theorem dX8_end_15 : decode cX8_end 15 = .ok (.ifCond .ne 5, 3) := by decide +kernel
theorem dX8_end_18 : decode cX8_end 18 = .ok (.iconst (-1), 1) := by decide +kernel
theorem dX8_end_19 : decode cX8_end 19 = .ok (.ireturn, 1) := by decide +kernel
theorem dX8_end_20 : decode cX8_end 20 = .ok (.aload_n 0, 1) := by decide +kernel
theorem dX8_end_21 : decode cX8_end 21 = .ok (.getfield 10, 3) := by decide +kernel
theorem dX8_end_24 : decode cX8_end 24 = .ok (.getfield 18, 3) := by decide +kernel
theorem dX8_end_27 : decode cX8_end 27 = .ok (.iload_n 1, 1) := by decide +kernel
theorem dX8_end_28 : decode cX8_end 28 = .ok (.putfield 33, 3) := by decide +kernel
theorem dX8_end_31 : decode cX8_end 31 = .ok (.iload_n 1, 1) := by decide +kernel
theorem dX8_end_32 : decode cX8_end 32 = .ok (.ireturn, 1) := by decide +kernel
theorem dX8_custom_0 : decode cX8_custom 0 = .ok (.aload_n 0, 1) := by decide +kernel
theorem dX8_custom_1 : decode cX8_custom 1 = .ok (.getfield 25, 3) := by decide +kernel
theorem dX8_custom_4 : decode cX8_custom 4 = .ok (.invokevirtual 47, 3) := by decide +kernel
theorem dX8_custom_7 : decode cX8_custom 7 = .ok (.aload_n 0, 1) := by decide +kernel
theorem dX8_custom_8 : decode cX8_custom 8 = .ok (.getfield 10, 3) := by decide +kernel
theorem dX8_custom_11 : decode cX8_custom 11 = .ok (.getfield 18, 3) := by decide +kernel
theorem dX8_custom_14 : decode cX8_custom 14 = .ok (.iconst 0, 1) := by decide +kernel
theorem dX8_custom_15 : decode cX8_custom 15 = .ok (.putfield 33, 3) := by decide +kernel
theorem dX8_custom_18 : decode cX8_custom 18 = .ok (.aload_n 0, 1) := by decide +kernel
theorem dX8_custom_19 : decode cX8_custom 19 = .ok (.getfield 10, 3) := by decide +kernel
theorem dX8_custom_22 : decode cX8_custom 22 = .ok (.aload_n 0, 1) := by decide +kernel
theorem dX8_custom_23 : decode cX8_custom 23 = .ok (.getfield 25, 3) := by decide +kernel
theorem dX8_custom_26 : decode cX8_custom 26 = .ok (.getfield 50, 3) := by decide +kernel
theorem dX8_custom_29 : decode cX8_custom 29 = .ok (.putfield 53, 3) := by decide +kernel
theorem dX8_custom_32 : decode cX8_custom 32 = .ok (.aload_n 0, 1) := by decide +kernel
theorem dX8_custom_33 : decode cX8_custom 33 = .ok (.getfield 10, 3) := by decide +kernel
theorem dX8_custom_36 : decode cX8_custom 36 = .ok (.aload_n 0, 1) := by decide +kernel
theorem dX8_custom_37 : decode cX8_custom 37 = .ok (.getfield 25, 3) := by decide +kernel
theorem dX8_custom_40 : decode cX8_custom 40 = .ok (.getfield 54, 3) := by decide +kernel
theorem dX8_custom_43 : decode cX8_custom 43 = .ok (.putfield 57, 3) := by decide +kernel
theorem dX8_custom_46 : decode cX8_custom 46 = .ok (.aload_n 0, 1) := by decide +kernel
theorem dX8_custom_47 : decode cX8_custom 47 = .ok (.getfield 25, 3) := by decide +kernel
theorem dX8_custom_50 : decode cX8_custom 50 = .ok (.getfield 50, 3) := by decide +kernel
theorem dX8_custom_53 : decode cX8_custom 53 = .ok (.ifCond .eq 5, 3) := by decide +kernel
theorem dX8_custom_56 : decode cX8_custom 56 = .ok (.iconst (-1), 1) := by decide +kernel
theorem dX8_custom_57 : decode cX8_custom 57 = .ok (.ireturn, 1) := by decide +kernel
theorem dX8_custom_58 : decode cX8_custom 58 = .ok (.aload_n 0, 1) := by decide +kernel
theorem dX8_custom_59 : decode cX8_custom 59 = .ok (.getfield 10, 3) := by decide +kernel
theorem dX8_custom_62 : decode cX8_custom 62 = .ok (.getfield 58, 3) := by decide +kernel
theorem dX8_custom_65 : decode cX8_custom 65 = .ok (.aload_n 0, 1) := by decide +kernel
theorem dX8_custom_66 : decode cX8_custom 66 = .ok (.getfield 25, 3) := by decide +kernel
theorem dX8_custom_69 : decode cX8_custom 69 = .ok (.getfield 62, 3) := by decide +kernel
theorem dX8_custom_72 : decode cX8_custom 72 = .ok (.invokevirtual 65, 3) := by decide +kernel
theorem dX8_custom_75 : decode cX8_custom 75 = .ok (.aload_n 0, 1) := by decide +kernel
theorem dX8_custom_76 : decode cX8_custom 76 = .ok (.getfield 10, 3) := by decide +kernel
theorem dX8_custom_79 : decode cX8_custom 79 = .ok (.getfield 58, 3) := by decide +kernel
theorem dX8_custom_82 : decode cX8_custom 82 = .ok (.getfield 71, 3) := by decide +kernel
theorem dX8_custom_85 : decode cX8_custom 85 = .ok (.ireturn, 1) := by decide +kernel
theorem dX8_fault_0 : decode cX8_fault 0 = .ok (.iload_n 1, 1) := by decide +kernel
theorem dX8_fault_1 : decode cX8_fault 1 = .ok (.lookupswitch 43 #[(0, 27), (1, 35)], 27) := by decide +kernel
theorem dX8_fault_28 : decode cX8_fault 28 = .ok (.aload_n 0, 1) := by decide +kernel
theorem dX8_fault_29 : decode cX8_fault 29 = .ok (.getfield 10, 3) := by decide +kernel
theorem dX8_fault_32 : decode cX8_fault 32 = .ok (.getfield 53, 3) := by decide +kernel
theorem dX8_fault_35 : decode cX8_fault 35 = .ok (.ireturn, 1) := by decide +kernel
theorem dX8_fault_36 : decode cX8_fault 36 = .ok (.aload_n 0, 1) := by decide +kernel
theorem dX8_fault_37 : decode cX8_fault 37 = .ok (.getfield 10, 3) := by decide +kernel
theorem dX8_fault_40 : decode cX8_fault 40 = .ok (.getfield 57, 3) := by decide +kernel
theorem dX8_fault_43 : decode cX8_fault 43 = .ok (.ireturn, 1) := by decide +kernel
theorem dX8_fault_44 : decode cX8_fault 44 = .ok (.iconst (-1), 1) := by decide +kernel
theorem dX8_fault_45 : decode cX8_fault 45 = .ok (.ireturn, 1) := by decide +kernel
theorem dX8_house_0 : decode cX8_house 0 = .ok (.aload_n 0, 1) := by decide +kernel
theorem dX8_house_1 : decode cX8_house 1 = .ok (.getfield 10, 3) := by decide +kernel
theorem dX8_house_4 : decode cX8_house 4 = .ok (.getfield 74, 3) := by decide +kernel
theorem dX8_house_7 : decode cX8_house 7 = .ok (.bipush 8, 2) := by decide +kernel
theorem dX8_house_9 : decode cX8_house 9 = .ok (.if_icmp .lt 5, 3) := by decide +kernel
theorem dX8_house_12 : decode cX8_house 12 = .ok (.iconst (-1), 1) := by decide +kernel
theorem dX8_house_13 : decode cX8_house 13 = .ok (.ireturn, 1) := by decide +kernel
theorem dX8_house_14 : decode cX8_house 14 = .ok (.aload_n 0, 1) := by decide +kernel
theorem dX8_house_15 : decode cX8_house 15 = .ok (.getfield 10, 3) := by decide +kernel
theorem dX8_house_18 : decode cX8_house 18 = .ok (.dup, 1) := by decide +kernel
theorem dX8_house_19 : decode cX8_house 19 = .ok (.getfield 74, 3) := by decide +kernel
theorem dX8_house_22 : decode cX8_house 22 = .ok (.iconst 1, 1) := by decide +kernel
theorem dX8_house_23 : decode cX8_house 23 = .ok (.iadd, 1) := by decide +kernel
theorem dX8_house_24 : decode cX8_house 24 = .ok (.putfield 74, 3) := by decide +kernel
theorem dX8_house_27 : decode cX8_house 27 = .ok (.aload_n 0, 1) := by decide +kernel
theorem dX8_house_28 : decode cX8_house 28 = .ok (.getfield 10, 3) := by decide +kernel
theorem dX8_house_31 : decode cX8_house 31 = .ok (.getfield 74, 3) := by decide +kernel
theorem dX8_house_34 : decode cX8_house 34 = .ok (.iconst 1, 1) := by decide +kernel
theorem dX8_house_35 : decode cX8_house 35 = .ok (.isub, 1) := by decide +kernel
theorem dX8_house_36 : decode cX8_house 36 = .ok (.ireturn, 1) := by decide +kernel
theorem dX8_shape_0 : decode cX8_shape 0 = .ok (.iload_n 1, 1) := by decide +kernel
theorem dX8_shape_1 : decode cX8_shape 1 = .ok (.iconst 0, 1) := by decide +kernel
theorem dX8_shape_2 : decode cX8_shape 2 = .ok (.iconst 4, 1) := by decide +kernel
theorem dX8_shape_3 : decode cX8_shape 3 = .ok (.invokestatic 43, 3) := by decide +kernel
theorem dX8_shape_6 : decode cX8_shape 6 = .ok (.ifCond .eq 25, 3) := by decide +kernel
theorem dX8_shape_9 : decode cX8_shape 9 = .ok (.iload_n 2, 1) := by decide +kernel
theorem dX8_shape_10 : decode cX8_shape 10 = .ok (.iconst 1, 1) := by decide +kernel
theorem dX8_shape_11 : decode cX8_shape 11 = .ok (.sipush 999, 3) := by decide +kernel
theorem dX8_shape_14 : decode cX8_shape 14 = .ok (.invokestatic 43, 3) := by decide +kernel
theorem dX8_shape_17 : decode cX8_shape 17 = .ok (.ifCond .eq 14, 3) := by decide +kernel
theorem dX8_shape_20 : decode cX8_shape 20 = .ok (.iload_n 3, 1) := by decide +kernel
theorem dX8_shape_21 : decode cX8_shape 21 = .ok (.iconst 1, 1) := by decide +kernel
theorem dX8_shape_22 : decode cX8_shape 22 = .ok (.sipush 999, 3) := by decide +kernel
theorem dX8_shape_25 : decode cX8_shape 25 = .ok (.invokestatic 43, 3) := by decide +kernel
theorem dX8_shape_28 : decode cX8_shape 28 = .ok (.ifCond .ne 5, 3) := by decide +kernel
theorem dX8_shape_31 : decode cX8_shape 31 = .ok (.iconst 0, 1) := by decide +kernel
theorem dX8_shape_32 : decode cX8_shape 32 = .ok (.ireturn, 1) := by decide +kernel
theorem dX8_shape_33 : decode cX8_shape 33 = .ok (.aload_n 0, 1) := by decide +kernel
theorem dX8_shape_34 : decode cX8_shape 34 = .ok (.getfield 10, 3) := by decide +kernel
theorem dX8_shape_37 : decode cX8_shape 37 = .ok (.getfield 77, 3) := by decide +kernel
theorem dX8_shape_40 : decode cX8_shape 40 = .ok (.iload_n 1, 1) := by decide +kernel
theorem dX8_shape_41 : decode cX8_shape 41 = .ok (.iload_n 2, 1) := by decide +kernel
theorem dX8_shape_42 : decode cX8_shape 42 = .ok (.iastore, 1) := by decide +kernel
theorem dX8_shape_43 : decode cX8_shape 43 = .ok (.aload_n 0, 1) := by decide +kernel
theorem dX8_shape_44 : decode cX8_shape 44 = .ok (.getfield 10, 3) := by decide +kernel
theorem dX8_shape_47 : decode cX8_shape 47 = .ok (.getfield 81, 3) := by decide +kernel
theorem dX8_shape_50 : decode cX8_shape 50 = .ok (.iload_n 1, 1) := by decide +kernel
theorem dX8_shape_51 : decode cX8_shape 51 = .ok (.iload_n 3, 1) := by decide +kernel
theorem dX8_shape_52 : decode cX8_shape 52 = .ok (.iastore, 1) := by decide +kernel
theorem dX8_shape_53 : decode cX8_shape 53 = .ok (.iconst 1, 1) := by decide +kernel
theorem dX8_shape_54 : decode cX8_shape 54 = .ok (.ireturn, 1) := by decide +kernel
theorem dX8_glaze_0 : decode cX8_glaze 0 = .ok (.iload_n 1, 1) := by decide +kernel
theorem dX8_glaze_1 : decode cX8_glaze 1 = .ok (.iconst 0, 1) := by decide +kernel
theorem dX8_glaze_2 : decode cX8_glaze 2 = .ok (.iconst 3, 1) := by decide +kernel
theorem dX8_glaze_3 : decode cX8_glaze 3 = .ok (.invokestatic 43, 3) := by decide +kernel
theorem dX8_glaze_6 : decode cX8_glaze 6 = .ok (.ifCond .eq 13, 3) := by decide +kernel
theorem dX8_glaze_9 : decode cX8_glaze 9 = .ok (.iload_n 2, 1) := by decide +kernel
theorem dX8_glaze_10 : decode cX8_glaze 10 = .ok (.iconst 0, 1) := by decide +kernel
theorem dX8_glaze_11 : decode cX8_glaze 11 = .ok (.bipush 10, 2) := by decide +kernel
theorem dX8_glaze_13 : decode cX8_glaze 13 = .ok (.invokestatic 43, 3) := by decide +kernel
theorem dX8_glaze_16 : decode cX8_glaze 16 = .ok (.ifCond .ne 5, 3) := by decide +kernel
theorem dX8_glaze_19 : decode cX8_glaze 19 = .ok (.iconst 0, 1) := by decide +kernel
theorem dX8_glaze_20 : decode cX8_glaze 20 = .ok (.ireturn, 1) := by decide +kernel
theorem dX8_glaze_21 : decode cX8_glaze 21 = .ok (.aload_n 0, 1) := by decide +kernel
theorem dX8_glaze_22 : decode cX8_glaze 22 = .ok (.getfield 10, 3) := by decide +kernel
theorem dX8_glaze_25 : decode cX8_glaze 25 = .ok (.getfield 84, 3) := by decide +kernel
theorem dX8_glaze_28 : decode cX8_glaze 28 = .ok (.iload_n 1, 1) := by decide +kernel
theorem dX8_glaze_29 : decode cX8_glaze 29 = .ok (.iload_n 2, 1) := by decide +kernel
theorem dX8_glaze_30 : decode cX8_glaze 30 = .ok (.iastore, 1) := by decide +kernel
theorem dX8_glaze_31 : decode cX8_glaze 31 = .ok (.iconst 1, 1) := by decide +kernel
theorem dX8_glaze_32 : decode cX8_glaze 32 = .ok (.ireturn, 1) := by decide +kernel
theorem dX8_kiln_0 : decode cX8_kiln 0 = .ok (.iload_n 1, 1) := by decide +kernel
theorem dX8_kiln_1 : decode cX8_kiln 1 = .ok (.iconst 2, 1) := by decide +kernel
theorem dX8_kiln_2 : decode cX8_kiln 2 = .ok (.bipush 6, 2) := by decide +kernel
theorem dX8_kiln_4 : decode cX8_kiln 4 = .ok (.invokestatic 43, 3) := by decide +kernel
theorem dX8_kiln_7 : decode cX8_kiln 7 = .ok (.ifCond .eq 13, 3) := by decide +kernel
theorem dX8_kiln_10 : decode cX8_kiln 10 = .ok (.aload_n 0, 1) := by decide +kernel
theorem dX8_kiln_11 : decode cX8_kiln 11 = .ok (.getfield 10, 3) := by decide +kernel
theorem dX8_kiln_14 : decode cX8_kiln 14 = .ok (.invokevirtual 87, 3) := by decide +kernel
theorem dX8_kiln_17 : decode cX8_kiln 17 = .ok (.ifCond .le 5, 3) := by decide +kernel
theorem dX8_kiln_20 : decode cX8_kiln 20 = .ok (.iconst 0, 1) := by decide +kernel
theorem dX8_kiln_21 : decode cX8_kiln 21 = .ok (.ireturn, 1) := by decide +kernel
theorem dX8_kiln_22 : decode cX8_kiln 22 = .ok (.aload_n 0, 1) := by decide +kernel
theorem dX8_kiln_23 : decode cX8_kiln 23 = .ok (.getfield 10, 3) := by decide +kernel
theorem dX8_kiln_26 : decode cX8_kiln 26 = .ok (.getfield 91, 3) := by decide +kernel
theorem dX8_kiln_29 : decode cX8_kiln 29 = .ok (.iload_n 1, 1) := by decide +kernel
theorem dX8_kiln_30 : decode cX8_kiln 30 = .ok (.invokevirtual 95, 3) := by decide +kernel
theorem dX8_kiln_33 : decode cX8_kiln 33 = .ok (.iconst 1, 1) := by decide +kernel
theorem dX8_kiln_34 : decode cX8_kiln 34 = .ok (.ireturn, 1) := by decide +kernel
theorem dX8_value_0 : decode cX8_value 0 = .ok (.aload_n 0, 1) := by decide +kernel
theorem dX8_value_1 : decode cX8_value 1 = .ok (.getfield 10, 3) := by decide +kernel
theorem dX8_value_4 : decode cX8_value 4 = .ok (.getfield 91, 3) := by decide +kernel
theorem dX8_value_7 : decode cX8_value 7 = .ok (.iload_n 1, 1) := by decide +kernel
theorem dX8_value_8 : decode cX8_value 8 = .ok (.iload_n 2, 1) := by decide +kernel
theorem dX8_value_9 : decode cX8_value 9 = .ok (.invokevirtual 100, 3) := by decide +kernel
theorem dX8_value_12 : decode cX8_value 12 = .ok (.ifCond .eq 13, 3) := by decide +kernel
theorem dX8_value_15 : decode cX8_value 15 = .ok (.iload_n 3, 1) := by decide +kernel
theorem dX8_value_16 : decode cX8_value 16 = .ok (.iconst 1, 1) := by decide +kernel
theorem dX8_value_17 : decode cX8_value 17 = .ok (.bipush 99, 2) := by decide +kernel
theorem dX8_value_19 : decode cX8_value 19 = .ok (.invokestatic 43, 3) := by decide +kernel
theorem dX8_value_22 : decode cX8_value 22 = .ok (.ifCond .ne 5, 3) := by decide +kernel
theorem dX8_value_25 : decode cX8_value 25 = .ok (.iconst 0, 1) := by decide +kernel
theorem dX8_value_26 : decode cX8_value 26 = .ok (.ireturn, 1) := by decide +kernel
theorem dX8_value_27 : decode cX8_value 27 = .ok (.aload_n 0, 1) := by decide +kernel
theorem dX8_value_28 : decode cX8_value 28 = .ok (.getfield 10, 3) := by decide +kernel
theorem dX8_value_31 : decode cX8_value 31 = .ok (.getfield 91, 3) := by decide +kernel
theorem dX8_value_34 : decode cX8_value 34 = .ok (.getfield 104, 3) := by decide +kernel
theorem dX8_value_37 : decode cX8_value 37 = .ok (.iload_n 1, 1) := by decide +kernel
theorem dX8_value_38 : decode cX8_value 38 = .ok (.iconst 4, 1) := by decide +kernel
theorem dX8_value_39 : decode cX8_value 39 = .ok (.imul, 1) := by decide +kernel
theorem dX8_value_40 : decode cX8_value 40 = .ok (.iload_n 2, 1) := by decide +kernel
theorem dX8_value_41 : decode cX8_value 41 = .ok (.iadd, 1) := by decide +kernel
theorem dX8_value_42 : decode cX8_value 42 = .ok (.iload_n 3, 1) := by decide +kernel
theorem dX8_value_43 : decode cX8_value 43 = .ok (.iastore, 1) := by decide +kernel
theorem dX8_value_44 : decode cX8_value 44 = .ok (.iconst 1, 1) := by decide +kernel
theorem dX8_value_45 : decode cX8_value 45 = .ok (.ireturn, 1) := by decide +kernel
theorem dX8_pot_0 : decode cX8_pot 0 = .ok (.aload_n 0, 1) := by decide +kernel
theorem dX8_pot_1 : decode cX8_pot 1 = .ok (.getfield 10, 3) := by decide +kernel
theorem dX8_pot_4 : decode cX8_pot 4 = .ok (.getfield 107, 3) := by decide +kernel
theorem dX8_pot_7 : decode cX8_pot 7 = .ok (.bipush 24, 2) := by decide +kernel
theorem dX8_pot_9 : decode cX8_pot 9 = .ok (.if_icmp .ge 43, 3) := by decide +kernel
theorem dX8_pot_12 : decode cX8_pot 12 = .ok (.aload_n 0, 1) := by decide +kernel
theorem dX8_pot_13 : decode cX8_pot 13 = .ok (.getfield 10, 3) := by decide +kernel
theorem dX8_pot_16 : decode cX8_pot 16 = .ok (.iload_n 1, 1) := by decide +kernel
theorem dX8_pot_17 : decode cX8_pot 17 = .ok (.invokevirtual 110, 3) := by decide +kernel
theorem dX8_pot_20 : decode cX8_pot 20 = .ok (.ifCond .eq 32, 3) := by decide +kernel
theorem dX8_pot_23 : decode cX8_pot 23 = .ok (.iload_n 2, 1) := by decide +kernel
theorem dX8_pot_24 : decode cX8_pot 24 = .ok (.iconst 0, 1) := by decide +kernel
theorem dX8_pot_25 : decode cX8_pot 25 = .ok (.iconst 4, 1) := by decide +kernel
theorem dX8_pot_26 : decode cX8_pot 26 = .ok (.invokestatic 43, 3) := by decide +kernel
theorem dX8_pot_29 : decode cX8_pot 29 = .ok (.ifCond .eq 23, 3) := by decide +kernel
theorem dX8_pot_32 : decode cX8_pot 32 = .ok (.iload_n 3, 1) := by decide +kernel
theorem dX8_pot_33 : decode cX8_pot 33 = .ok (.iconst 0, 1) := by decide +kernel
theorem dX8_pot_34 : decode cX8_pot 34 = .ok (.iconst 3, 1) := by decide +kernel
theorem dX8_pot_35 : decode cX8_pot 35 = .ok (.invokestatic 43, 3) := by decide +kernel
theorem dX8_pot_38 : decode cX8_pot 38 = .ok (.ifCond .eq 14, 3) := by decide +kernel
theorem dX8_pot_41 : decode cX8_pot 41 = .ok (.iload 4, 2) := by decide +kernel
theorem dX8_pot_43 : decode cX8_pot 43 = .ok (.iconst 0, 1) := by decide +kernel
theorem dX8_pot_44 : decode cX8_pot 44 = .ok (.bipush 9, 2) := by decide +kernel
theorem dX8_pot_46 : decode cX8_pot 46 = .ok (.invokestatic 43, 3) := by decide +kernel
theorem dX8_pot_49 : decode cX8_pot 49 = .ok (.ifCond .ne 5, 3) := by decide +kernel
theorem dX8_pot_52 : decode cX8_pot 52 = .ok (.iconst (-1), 1) := by decide +kernel
theorem dX8_pot_53 : decode cX8_pot 53 = .ok (.ireturn, 1) := by decide +kernel
theorem dX8_pot_54 : decode cX8_pot 54 = .ok (.aload_n 0, 1) := by decide +kernel
theorem dX8_pot_55 : decode cX8_pot 55 = .ok (.getfield 10, 3) := by decide +kernel
theorem dX8_pot_58 : decode cX8_pot 58 = .ok (.getfield 114, 3) := by decide +kernel
theorem dX8_pot_61 : decode cX8_pot 61 = .ok (.aload_n 0, 1) := by decide +kernel
theorem dX8_pot_62 : decode cX8_pot 62 = .ok (.getfield 10, 3) := by decide +kernel
theorem dX8_pot_65 : decode cX8_pot 65 = .ok (.getfield 107, 3) := by decide +kernel
theorem dX8_pot_68 : decode cX8_pot 68 = .ok (.aaload, 1) := by decide +kernel
theorem dX8_pot_69 : decode cX8_pot 69 = .ok (.iload_n 1, 1) := by decide +kernel
theorem dX8_pot_70 : decode cX8_pot 70 = .ok (.iload_n 2, 1) := by decide +kernel
theorem dX8_pot_71 : decode cX8_pot 71 = .ok (.iload_n 3, 1) := by decide +kernel
theorem dX8_pot_72 : decode cX8_pot 72 = .ok (.iload 4, 2) := by decide +kernel
theorem dX8_pot_74 : decode cX8_pot 74 = .ok (.invokevirtual 118, 3) := by decide +kernel
theorem dX8_pot_77 : decode cX8_pot 77 = .ok (.aload_n 0, 1) := by decide +kernel
theorem dX8_pot_78 : decode cX8_pot 78 = .ok (.getfield 10, 3) := by decide +kernel
theorem dX8_pot_81 : decode cX8_pot 81 = .ok (.getfield 124, 3) := by decide +kernel
theorem dX8_pot_84 : decode cX8_pot 84 = .ok (.iload_n 1, 1) := by decide +kernel
theorem dX8_pot_85 : decode cX8_pot 85 = .ok (.aaload, 1) := by decide +kernel
theorem dX8_pot_86 : decode cX8_pot 86 = .ok (.iconst 1, 1) := by decide +kernel
theorem dX8_pot_87 : decode cX8_pot 87 = .ok (.putfield 128, 3) := by decide +kernel
theorem dX8_pot_90 : decode cX8_pot 90 = .ok (.aload_n 0, 1) := by decide +kernel
theorem dX8_pot_91 : decode cX8_pot 91 = .ok (.getfield 10, 3) := by decide +kernel
theorem dX8_pot_94 : decode cX8_pot 94 = .ok (.dup, 1) := by decide +kernel
theorem dX8_pot_95 : decode cX8_pot 95 = .ok (.getfield 107, 3) := by decide +kernel
theorem dX8_pot_98 : decode cX8_pot 98 = .ok (.iconst 1, 1) := by decide +kernel
theorem dX8_pot_99 : decode cX8_pot 99 = .ok (.iadd, 1) := by decide +kernel
theorem dX8_pot_100 : decode cX8_pot 100 = .ok (.putfield 107, 3) := by decide +kernel
theorem dX8_pot_103 : decode cX8_pot 103 = .ok (.aload_n 0, 1) := by decide +kernel
theorem dX8_pot_104 : decode cX8_pot 104 = .ok (.getfield 10, 3) := by decide +kernel
theorem dX8_pot_107 : decode cX8_pot 107 = .ok (.getfield 107, 3) := by decide +kernel
theorem dX8_pot_110 : decode cX8_pot 110 = .ok (.iconst 1, 1) := by decide +kernel
theorem dX8_pot_111 : decode cX8_pot 111 = .ok (.isub, 1) := by decide +kernel
theorem dX8_pot_112 : decode cX8_pot 112 = .ok (.ireturn, 1) := by decide +kernel
theorem dX8_dry_0 : decode cX8_dry 0 = .ok (.iload_n 1, 1) := by decide +kernel
theorem dX8_dry_1 : decode cX8_dry 1 = .ok (.iconst 1, 1) := by decide +kernel
theorem dX8_dry_2 : decode cX8_dry 2 = .ok (.bipush 9, 2) := by decide +kernel
theorem dX8_dry_4 : decode cX8_dry 4 = .ok (.invokestatic 43, 3) := by decide +kernel
theorem dX8_dry_7 : decode cX8_dry 7 = .ok (.ifCond .ne 5, 3) := by decide +kernel
theorem dX8_dry_10 : decode cX8_dry 10 = .ok (.iconst 0, 1) := by decide +kernel
theorem dX8_dry_11 : decode cX8_dry 11 = .ok (.ireturn, 1) := by decide +kernel
theorem dX8_dry_12 : decode cX8_dry 12 = .ok (.aload_n 0, 1) := by decide +kernel
theorem dX8_dry_13 : decode cX8_dry 13 = .ok (.getfield 10, 3) := by decide +kernel
theorem dX8_dry_16 : decode cX8_dry 16 = .ok (.iload_n 1, 1) := by decide +kernel
theorem dX8_dry_17 : decode cX8_dry 17 = .ok (.invokevirtual 134, 3) := by decide +kernel
theorem dX8_dry_20 : decode cX8_dry 20 = .ok (.iconst 1, 1) := by decide +kernel
theorem dX8_dry_21 : decode cX8_dry 21 = .ok (.ireturn, 1) := by decide +kernel
theorem dX8_deal_0 : decode cX8_deal 0 = .ok (.aload_n 0, 1) := by decide +kernel
theorem dX8_deal_1 : decode cX8_deal 1 = .ok (.getfield 10, 3) := by decide +kernel
theorem dX8_deal_4 : decode cX8_deal 4 = .ok (.getfield 91, 3) := by decide +kernel
theorem dX8_deal_7 : decode cX8_deal 7 = .ok (.invokevirtual 137, 3) := by decide +kernel
theorem dX8_deal_10 : decode cX8_deal 10 = .ok (.bipush 50, 2) := by decide +kernel
theorem dX8_deal_12 : decode cX8_deal 12 = .ok (.if_icmp .le 5, 3) := by decide +kernel
theorem dX8_deal_15 : decode cX8_deal 15 = .ok (.iconst (-1), 1) := by decide +kernel
theorem dX8_deal_16 : decode cX8_deal 16 = .ok (.ireturn, 1) := by decide +kernel
theorem dX8_deal_17 : decode cX8_deal 17 = .ok (.aload_n 0, 1) := by decide +kernel
theorem dX8_deal_18 : decode cX8_deal 18 = .ok (.getfield 10, 3) := by decide +kernel
theorem dX8_deal_21 : decode cX8_deal 21 = .ok (.invokevirtual 140, 3) := by decide +kernel
theorem dX8_deal_24 : decode cX8_deal 24 = .ok (.ireturn, 1) := by decide +kernel
theorem dX8_spread_0 : decode cX8_spread 0 = .ok (.aload_n 0, 1) := by decide +kernel
theorem dX8_spread_1 : decode cX8_spread 1 = .ok (.getfield 10, 3) := by decide +kernel
theorem dX8_spread_4 : decode cX8_spread 4 = .ok (.invokevirtual 143, 3) := by decide +kernel
theorem dX8_spread_7 : decode cX8_spread 7 = .ok (.ireturn, 1) := by decide +kernel
theorem dX8_fire_0 : decode cX8_fire 0 = .ok (.aload_n 0, 1) := by decide +kernel
theorem dX8_fire_1 : decode cX8_fire 1 = .ok (.getfield 10, 3) := by decide +kernel
theorem dX8_fire_4 : decode cX8_fire 4 = .ok (.getfield 91, 3) := by decide +kernel
theorem dX8_fire_7 : decode cX8_fire 7 = .ok (.iload_n 1, 1) := by decide +kernel
theorem dX8_fire_8 : decode cX8_fire 8 = .ok (.invokevirtual 146, 3) := by decide +kernel
theorem dX8_fire_11 : decode cX8_fire 11 = .ok (.ifCond .eq 13, 3) := by decide +kernel
theorem dX8_fire_14 : decode cX8_fire 14 = .ok (.iload_n 2, 1) := by decide +kernel
theorem dX8_fire_15 : decode cX8_fire 15 = .ok (.iconst 0, 1) := by decide +kernel
theorem dX8_fire_16 : decode cX8_fire 16 = .ok (.bipush 9, 2) := by decide +kernel
theorem dX8_fire_18 : decode cX8_fire 18 = .ok (.invokestatic 43, 3) := by decide +kernel
theorem dX8_fire_21 : decode cX8_fire 21 = .ok (.ifCond .ne 5, 3) := by decide +kernel
theorem dX8_fire_24 : decode cX8_fire 24 = .ok (.iconst (-1), 1) := by decide +kernel
theorem dX8_fire_25 : decode cX8_fire 25 = .ok (.ireturn, 1) := by decide +kernel
theorem dX8_fire_26 : decode cX8_fire 26 = .ok (.aload_n 0, 1) := by decide +kernel
theorem dX8_fire_27 : decode cX8_fire 27 = .ok (.getfield 10, 3) := by decide +kernel
theorem dX8_fire_30 : decode cX8_fire 30 = .ok (.iload_n 1, 1) := by decide +kernel
theorem dX8_fire_31 : decode cX8_fire 31 = .ok (.iload_n 2, 1) := by decide +kernel
theorem dX8_fire_32 : decode cX8_fire 32 = .ok (.invokevirtual 149, 3) := by decide +kernel
theorem dX8_fire_35 : decode cX8_fire 35 = .ok (.aload_n 0, 1) := by decide +kernel
theorem dX8_fire_36 : decode cX8_fire 36 = .ok (.getfield 10, 3) := by decide +kernel
theorem dX8_fire_39 : decode cX8_fire 39 = .ok (.getfield 91, 3) := by decide +kernel
theorem dX8_fire_42 : decode cX8_fire 42 = .ok (.getfield 153, 3) := by decide +kernel
theorem dX8_fire_45 : decode cX8_fire 45 = .ok (.iload_n 1, 1) := by decide +kernel
theorem dX8_fire_46 : decode cX8_fire 46 = .ok (.iaload, 1) := by decide +kernel
theorem dX8_fire_47 : decode cX8_fire 47 = .ok (.ireturn, 1) := by decide +kernel
theorem dX8_rest_0 : decode cX8_rest 0 = .ok (.iload_n 1, 1) := by decide +kernel
theorem dX8_rest_1 : decode cX8_rest 1 = .ok (.iconst 1, 1) := by decide +kernel
theorem dX8_rest_2 : decode cX8_rest 2 = .ok (.bipush 60, 2) := by decide +kernel
theorem dX8_rest_4 : decode cX8_rest 4 = .ok (.invokestatic 43, 3) := by decide +kernel
theorem dX8_rest_7 : decode cX8_rest 7 = .ok (.ifCond .ne 5, 3) := by decide +kernel
theorem dX8_rest_10 : decode cX8_rest 10 = .ok (.iconst (-1), 1) := by decide +kernel
theorem dX8_rest_11 : decode cX8_rest 11 = .ok (.ireturn, 1) := by decide +kernel
theorem dX8_rest_12 : decode cX8_rest 12 = .ok (.iconst 0, 1) := by decide +kernel
theorem dX8_rest_13 : decode cX8_rest 13 = .ok (.istore_n 2, 1) := by decide +kernel
theorem dX8_rest_14 : decode cX8_rest 14 = .ok (.iload_n 2, 1) := by decide +kernel
theorem dX8_rest_15 : decode cX8_rest 15 = .ok (.iload_n 1, 1) := by decide +kernel
theorem dX8_rest_16 : decode cX8_rest 16 = .ok (.if_icmp .ge 18, 3) := by decide +kernel
theorem dX8_rest_19 : decode cX8_rest 19 = .ok (.aload_n 0, 1) := by decide +kernel
theorem dX8_rest_20 : decode cX8_rest 20 = .ok (.getfield 10, 3) := by decide +kernel
theorem dX8_rest_23 : decode cX8_rest 23 = .ok (.iconst 0, 1) := by decide +kernel
theorem dX8_rest_24 : decode cX8_rest 24 = .ok (.iconst 0, 1) := by decide +kernel
theorem dX8_rest_25 : decode cX8_rest 25 = .ok (.invokevirtual 149, 3) := by decide +kernel
theorem dX8_rest_28 : decode cX8_rest 28 = .ok (.iinc 2 1, 3) := by decide +kernel
theorem dX8_rest_31 : decode cX8_rest 31 = .ok (.goto (-17), 3) := by decide +kernel
theorem dX8_rest_34 : decode cX8_rest 34 = .ok (.aload_n 0, 1) := by decide +kernel
theorem dX8_rest_35 : decode cX8_rest 35 = .ok (.getfield 10, 3) := by decide +kernel
theorem dX8_rest_38 : decode cX8_rest 38 = .ok (.getfield 91, 3) := by decide +kernel
theorem dX8_rest_41 : decode cX8_rest 41 = .ok (.invokevirtual 137, 3) := by decide +kernel
theorem dX8_rest_44 : decode cX8_rest 44 = .ok (.ireturn, 1) := by decide +kernel
theorem dX8_heat_0 : decode cX8_heat 0 = .ok (.aload_n 0, 1) := by decide +kernel
theorem dX8_heat_1 : decode cX8_heat 1 = .ok (.getfield 10, 3) := by decide +kernel
theorem dX8_heat_4 : decode cX8_heat 4 = .ok (.getfield 91, 3) := by decide +kernel
theorem dX8_heat_7 : decode cX8_heat 7 = .ok (.iload_n 1, 1) := by decide +kernel
theorem dX8_heat_8 : decode cX8_heat 8 = .ok (.invokevirtual 146, 3) := by decide +kernel
theorem dX8_heat_11 : decode cX8_heat 11 = .ok (.ifCond .eq 18, 3) := by decide +kernel
theorem dX8_heat_14 : decode cX8_heat 14 = .ok (.aload_n 0, 1) := by decide +kernel
theorem dX8_heat_15 : decode cX8_heat 15 = .ok (.getfield 10, 3) := by decide +kernel
theorem dX8_heat_18 : decode cX8_heat 18 = .ok (.getfield 91, 3) := by decide +kernel
theorem dX8_heat_21 : decode cX8_heat 21 = .ok (.getfield 153, 3) := by decide +kernel
theorem dX8_heat_24 : decode cX8_heat 24 = .ok (.iload_n 1, 1) := by decide +kernel
theorem dX8_heat_25 : decode cX8_heat 25 = .ok (.iaload, 1) := by decide +kernel
theorem dX8_heat_26 : decode cX8_heat 26 = .ok (.goto 4, 3) := by decide +kernel
theorem dX8_heat_29 : decode cX8_heat 29 = .ok (.iconst (-1), 1) := by decide +kernel
theorem dX8_heat_30 : decode cX8_heat 30 = .ok (.ireturn, 1) := by decide +kernel
theorem dX8_open_0 : decode cX8_open 0 = .ok (.aload_n 0, 1) := by decide +kernel
theorem dX8_open_1 : decode cX8_open 1 = .ok (.getfield 10, 3) := by decide +kernel
theorem dX8_open_4 : decode cX8_open 4 = .ok (.getfield 91, 3) := by decide +kernel
theorem dX8_open_7 : decode cX8_open 7 = .ok (.invokevirtual 137, 3) := by decide +kernel
theorem dX8_open_10 : decode cX8_open 10 = .ok (.sipush 200, 3) := by decide +kernel
theorem dX8_open_13 : decode cX8_open 13 = .ok (.if_icmp .gt 13, 3) := by decide +kernel
theorem dX8_open_16 : decode cX8_open 16 = .ok (.aload_n 0, 1) := by decide +kernel
theorem dX8_open_17 : decode cX8_open 17 = .ok (.getfield 10, 3) := by decide +kernel
theorem dX8_open_20 : decode cX8_open 20 = .ok (.invokevirtual 87, 3) := by decide +kernel
theorem dX8_open_23 : decode cX8_open 23 = .ok (.ifCond .ne 5, 3) := by decide +kernel
theorem dX8_open_26 : decode cX8_open 26 = .ok (.iconst (-1), 1) := by decide +kernel
theorem dX8_open_27 : decode cX8_open 27 = .ok (.ireturn, 1) := by decide +kernel
theorem dX8_open_28 : decode cX8_open 28 = .ok (.aload_n 0, 1) := by decide +kernel
theorem dX8_open_29 : decode cX8_open 29 = .ok (.getfield 10, 3) := by decide +kernel
theorem dX8_open_32 : decode cX8_open 32 = .ok (.invokevirtual 156, 3) := by decide +kernel
theorem dX8_open_35 : decode cX8_open 35 = .ok (.ireturn, 1) := by decide +kernel
theorem dX8_about_0 : decode cX8_about 0 = .ok (.iload_n 1, 1) := by decide +kernel
theorem dX8_about_1 : decode cX8_about 1 = .ok (.iconst 0, 1) := by decide +kernel
theorem dX8_about_2 : decode cX8_about 2 = .ok (.aload_n 0, 1) := by decide +kernel
theorem dX8_about_3 : decode cX8_about 3 = .ok (.getfield 10, 3) := by decide +kernel
theorem dX8_about_6 : decode cX8_about 6 = .ok (.getfield 107, 3) := by decide +kernel
theorem dX8_about_9 : decode cX8_about 9 = .ok (.iconst 1, 1) := by decide +kernel
theorem dX8_about_10 : decode cX8_about 10 = .ok (.isub, 1) := by decide +kernel
theorem dX8_about_11 : decode cX8_about 11 = .ok (.invokestatic 43, 3) := by decide +kernel
theorem dX8_about_14 : decode cX8_about 14 = .ok (.ifCond .ne 5, 3) := by decide +kernel
theorem dX8_about_17 : decode cX8_about 17 = .ok (.iconst (-1), 1) := by decide +kernel
theorem dX8_about_18 : decode cX8_about 18 = .ok (.ireturn, 1) := by decide +kernel
theorem dX8_about_19 : decode cX8_about 19 = .ok (.aload_n 0, 1) := by decide +kernel
theorem dX8_about_20 : decode cX8_about 20 = .ok (.getfield 10, 3) := by decide +kernel
theorem dX8_about_23 : decode cX8_about 23 = .ok (.getfield 114, 3) := by decide +kernel
theorem dX8_about_26 : decode cX8_about 26 = .ok (.iload_n 1, 1) := by decide +kernel
theorem dX8_about_27 : decode cX8_about 27 = .ok (.aaload, 1) := by decide +kernel
theorem dX8_about_28 : decode cX8_about 28 = .ok (.astore_n 3, 1) := by decide +kernel
theorem dX8_about_29 : decode cX8_about 29 = .ok (.iload_n 2, 1) := by decide +kernel
theorem dX8_about_30 : decode cX8_about 30 = .ok (.tableswitch 110 0 8 #[50, 55, 60, 65, 70, 75, 80, 93, 98], 50) := by decide +kernel
theorem dX8_about_80 : decode cX8_about 80 = .ok (.aload_n 3, 1) := by decide +kernel
theorem dX8_about_81 : decode cX8_about 81 = .ok (.getfield 159, 3) := by decide +kernel
theorem dX8_about_84 : decode cX8_about 84 = .ok (.ireturn, 1) := by decide +kernel
theorem dX8_about_85 : decode cX8_about 85 = .ok (.aload_n 3, 1) := by decide +kernel
theorem dX8_about_86 : decode cX8_about 86 = .ok (.getfield 162, 3) := by decide +kernel
theorem dX8_about_89 : decode cX8_about 89 = .ok (.ireturn, 1) := by decide +kernel
theorem dX8_about_90 : decode cX8_about 90 = .ok (.aload_n 3, 1) := by decide +kernel
theorem dX8_about_91 : decode cX8_about 91 = .ok (.getfield 165, 3) := by decide +kernel
theorem dX8_about_94 : decode cX8_about 94 = .ok (.ireturn, 1) := by decide +kernel
theorem dX8_about_95 : decode cX8_about 95 = .ok (.aload_n 3, 1) := by decide +kernel
theorem dX8_about_96 : decode cX8_about 96 = .ok (.getfield 168, 3) := by decide +kernel
theorem dX8_about_99 : decode cX8_about 99 = .ok (.ireturn, 1) := by decide +kernel
theorem dX8_about_100 : decode cX8_about 100 = .ok (.aload_n 3, 1) := by decide +kernel
theorem dX8_about_101 : decode cX8_about 101 = .ok (.getfield 171, 3) := by decide +kernel
theorem dX8_about_104 : decode cX8_about 104 = .ok (.ireturn, 1) := by decide +kernel
theorem dX8_about_105 : decode cX8_about 105 = .ok (.aload_n 3, 1) := by decide +kernel
theorem dX8_about_106 : decode cX8_about 106 = .ok (.getfield 174, 3) := by decide +kernel
theorem dX8_about_109 : decode cX8_about 109 = .ok (.ireturn, 1) := by decide +kernel
theorem dX8_about_110 : decode cX8_about 110 = .ok (.aload_n 3, 1) := by decide +kernel
theorem dX8_about_111 : decode cX8_about 111 = .ok (.getfield 177, 3) := by decide +kernel
theorem dX8_about_114 : decode cX8_about 114 = .ok (.ifCond .eq 7, 3) := by decide +kernel
theorem dX8_about_117 : decode cX8_about 117 = .ok (.iconst 1, 1) := by decide +kernel
theorem dX8_about_118 : decode cX8_about 118 = .ok (.goto 4, 3) := by decide +kernel
theorem dX8_about_121 : decode cX8_about 121 = .ok (.iconst 0, 1) := by decide +kernel
theorem dX8_about_122 : decode cX8_about 122 = .ok (.ireturn, 1) := by decide +kernel
theorem dX8_about_123 : decode cX8_about 123 = .ok (.aload_n 3, 1) := by decide +kernel
theorem dX8_about_124 : decode cX8_about 124 = .ok (.getfield 180, 3) := by decide +kernel
theorem dX8_about_127 : decode cX8_about 127 = .ok (.ireturn, 1) := by decide +kernel
theorem dX8_about_128 : decode cX8_about 128 = .ok (.aload_n 0, 1) := by decide +kernel
theorem dX8_about_129 : decode cX8_about 129 = .ok (.getfield 10, 3) := by decide +kernel
theorem dX8_about_132 : decode cX8_about 132 = .ok (.getfield 58, 3) := by decide +kernel
theorem dX8_about_135 : decode cX8_about 135 = .ok (.aload_n 3, 1) := by decide +kernel
theorem dX8_about_136 : decode cX8_about 136 = .ok (.invokevirtual 183, 3) := by decide +kernel
theorem dX8_about_139 : decode cX8_about 139 = .ok (.ireturn, 1) := by decide +kernel
theorem dX8_about_140 : decode cX8_about 140 = .ok (.iconst (-1), 1) := by decide +kernel
theorem dX8_about_141 : decode cX8_about 141 = .ok (.ireturn, 1) := by decide +kernel
theorem dX8_at_0 : decode cX8_at 0 = .ok (.aload_n 0, 1) := by decide +kernel
theorem dX8_at_1 : decode cX8_at 1 = .ok (.getfield 10, 3) := by decide +kernel
theorem dX8_at_4 : decode cX8_at 4 = .ok (.getfield 91, 3) := by decide +kernel
theorem dX8_at_7 : decode cX8_at 7 = .ok (.iload_n 1, 1) := by decide +kernel
theorem dX8_at_8 : decode cX8_at 8 = .ok (.iload_n 2, 1) := by decide +kernel
theorem dX8_at_9 : decode cX8_at 9 = .ok (.invokevirtual 100, 3) := by decide +kernel
theorem dX8_at_12 : decode cX8_at 12 = .ok (.ifCond .eq 22, 3) := by decide +kernel
theorem dX8_at_15 : decode cX8_at 15 = .ok (.aload_n 0, 1) := by decide +kernel
theorem dX8_at_16 : decode cX8_at 16 = .ok (.getfield 10, 3) := by decide +kernel
theorem dX8_at_19 : decode cX8_at 19 = .ok (.getfield 91, 3) := by decide +kernel
theorem dX8_at_22 : decode cX8_at 22 = .ok (.getfield 187, 3) := by decide +kernel
theorem dX8_at_25 : decode cX8_at 25 = .ok (.iload_n 1, 1) := by decide +kernel
theorem dX8_at_26 : decode cX8_at 26 = .ok (.iconst 4, 1) := by decide +kernel
theorem dX8_at_27 : decode cX8_at 27 = .ok (.imul, 1) := by decide +kernel
theorem dX8_at_28 : decode cX8_at 28 = .ok (.iload_n 2, 1) := by decide +kernel
theorem dX8_at_29 : decode cX8_at 29 = .ok (.iadd, 1) := by decide +kernel
theorem dX8_at_30 : decode cX8_at 30 = .ok (.iaload, 1) := by decide +kernel
theorem dX8_at_31 : decode cX8_at 31 = .ok (.goto 4, 3) := by decide +kernel
theorem dX8_at_34 : decode cX8_at 34 = .ok (.iconst (-1), 1) := by decide +kernel
theorem dX8_at_35 : decode cX8_at 35 = .ok (.ireturn, 1) := by decide +kernel
theorem dX8_tell_0 : decode cX8_tell 0 = .ok (.aload_n 0, 1) := by decide +kernel
theorem dX8_tell_1 : decode cX8_tell 1 = .ok (.getfield 10, 3) := by decide +kernel
theorem dX8_tell_4 : decode cX8_tell 4 = .ok (.iload_n 1, 1) := by decide +kernel
theorem dX8_tell_5 : decode cX8_tell 5 = .ok (.invokevirtual 110, 3) := by decide +kernel
theorem dX8_tell_8 : decode cX8_tell 8 = .ok (.ifCond .ne 6, 3) := by decide +kernel
theorem dX8_tell_11 : decode cX8_tell 11 = .ok (.ldc 190, 2) := by decide +kernel
theorem dX8_tell_13 : decode cX8_tell 13 = .ok (.ireturn, 1) := by decide +kernel
theorem dX8_tell_14 : decode cX8_tell 14 = .ok (.aload_n 0, 1) := by decide +kernel
theorem dX8_tell_15 : decode cX8_tell 15 = .ok (.getfield 10, 3) := by decide +kernel
theorem dX8_tell_18 : decode cX8_tell 18 = .ok (.getfield 124, 3) := by decide +kernel
theorem dX8_tell_21 : decode cX8_tell 21 = .ok (.iload_n 1, 1) := by decide +kernel
theorem dX8_tell_22 : decode cX8_tell 22 = .ok (.aaload, 1) := by decide +kernel
theorem dX8_tell_23 : decode cX8_tell 23 = .ok (.astore_n 3, 1) := by decide +kernel
theorem dX8_tell_24 : decode cX8_tell 24 = .ok (.iload_n 2, 1) := by decide +kernel
theorem dX8_tell_25 : decode cX8_tell 25 = .ok (.tableswitch 101 0 7 #[47, 52, 57, 67, 77, 82, 91, 96], 47) := by decide +kernel
theorem dX8_tell_72 : decode cX8_tell 72 = .ok (.aload_n 3, 1) := by decide +kernel
theorem dX8_tell_73 : decode cX8_tell 73 = .ok (.getfield 191, 3) := by decide +kernel
theorem dX8_tell_76 : decode cX8_tell 76 = .ok (.ireturn, 1) := by decide +kernel
theorem dX8_tell_77 : decode cX8_tell 77 = .ok (.aload_n 3, 1) := by decide +kernel
theorem dX8_tell_78 : decode cX8_tell 78 = .ok (.getfield 194, 3) := by decide +kernel
theorem dX8_tell_81 : decode cX8_tell 81 = .ok (.ireturn, 1) := by decide +kernel
theorem dX8_tell_82 : decode cX8_tell 82 = .ok (.aload_n 0, 1) := by decide +kernel
theorem dX8_tell_83 : decode cX8_tell 83 = .ok (.getfield 10, 3) := by decide +kernel
theorem dX8_tell_86 : decode cX8_tell 86 = .ok (.iload_n 1, 1) := by decide +kernel
theorem dX8_tell_87 : decode cX8_tell 87 = .ok (.iconst 0, 1) := by decide +kernel
theorem dX8_tell_88 : decode cX8_tell 88 = .ok (.invokevirtual 197, 3) := by decide +kernel
theorem dX8_tell_91 : decode cX8_tell 91 = .ok (.ireturn, 1) := by decide +kernel
theorem dX8_tell_92 : decode cX8_tell 92 = .ok (.aload_n 0, 1) := by decide +kernel
theorem dX8_tell_93 : decode cX8_tell 93 = .ok (.getfield 10, 3) := by decide +kernel
theorem dX8_tell_96 : decode cX8_tell 96 = .ok (.iload_n 1, 1) := by decide +kernel
theorem dX8_tell_97 : decode cX8_tell 97 = .ok (.iconst 1, 1) := by decide +kernel
theorem dX8_tell_98 : decode cX8_tell 98 = .ok (.invokevirtual 197, 3) := by decide +kernel
theorem dX8_tell_101 : decode cX8_tell 101 = .ok (.ireturn, 1) := by decide +kernel
theorem dX8_tell_102 : decode cX8_tell 102 = .ok (.aload_n 3, 1) := by decide +kernel
theorem dX8_tell_103 : decode cX8_tell 103 = .ok (.getfield 201, 3) := by decide +kernel
theorem dX8_tell_106 : decode cX8_tell 106 = .ok (.ireturn, 1) := by decide +kernel
theorem dX8_tell_107 : decode cX8_tell 107 = .ok (.aload_n 3, 1) := by decide +kernel
theorem dX8_tell_108 : decode cX8_tell 108 = .ok (.aload_n 3, 1) := by decide +kernel
theorem dX8_tell_109 : decode cX8_tell 109 = .ok (.invokevirtual 204, 3) := by decide +kernel
theorem dX8_tell_112 : decode cX8_tell 112 = .ok (.invokevirtual 207, 3) := by decide +kernel
theorem dX8_tell_115 : decode cX8_tell 115 = .ok (.ireturn, 1) := by decide +kernel
theorem dX8_tell_116 : decode cX8_tell 116 = .ok (.aload_n 3, 1) := by decide +kernel
theorem dX8_tell_117 : decode cX8_tell 117 = .ok (.invokevirtual 204, 3) := by decide +kernel
theorem dX8_tell_120 : decode cX8_tell 120 = .ok (.ireturn, 1) := by decide +kernel
theorem dX8_tell_121 : decode cX8_tell 121 = .ok (.aload_n 3, 1) := by decide +kernel
theorem dX8_tell_122 : decode cX8_tell 122 = .ok (.getfield 211, 3) := by decide +kernel
theorem dX8_tell_125 : decode cX8_tell 125 = .ok (.ireturn, 1) := by decide +kernel
theorem dX8_tell_126 : decode cX8_tell 126 = .ok (.ldc 190, 2) := by decide +kernel
theorem dX8_tell_128 : decode cX8_tell 128 = .ok (.ireturn, 1) := by decide +kernel
theorem dX8_order_0 : decode cX8_order 0 = .ok (.aload_n 0, 1) := by decide +kernel
theorem dX8_order_1 : decode cX8_order 1 = .ok (.getfield 10, 3) := by decide +kernel
theorem dX8_order_4 : decode cX8_order 4 = .ok (.iload_n 1, 1) := by decide +kernel
theorem dX8_order_5 : decode cX8_order 5 = .ok (.invokevirtual 110, 3) := by decide +kernel
theorem dX8_order_8 : decode cX8_order 8 = .ok (.ifCond .eq 53, 3) := by decide +kernel
theorem dX8_order_11 : decode cX8_order 11 = .ok (.aload_n 0, 1) := by decide +kernel
theorem dX8_order_12 : decode cX8_order 12 = .ok (.getfield 10, 3) := by decide +kernel
theorem dX8_order_15 : decode cX8_order 15 = .ok (.getfield 124, 3) := by decide +kernel
theorem dX8_order_18 : decode cX8_order 18 = .ok (.iload_n 1, 1) := by decide +kernel
theorem dX8_order_19 : decode cX8_order 19 = .ok (.aaload, 1) := by decide +kernel
theorem dX8_order_20 : decode cX8_order 20 = .ok (.getfield 201, 3) := by decide +kernel
theorem dX8_order_23 : decode cX8_order 23 = .ok (.bipush 8, 2) := by decide +kernel
theorem dX8_order_25 : decode cX8_order 25 = .ok (.if_icmp .ge 36, 3) := by decide +kernel
theorem dX8_order_28 : decode cX8_order 28 = .ok (.iload_n 2, 1) := by decide +kernel
theorem dX8_order_29 : decode cX8_order 29 = .ok (.iconst 1, 1) := by decide +kernel
theorem dX8_order_30 : decode cX8_order 30 = .ok (.bipush 30, 2) := by decide +kernel
theorem dX8_order_32 : decode cX8_order 32 = .ok (.invokestatic 43, 3) := by decide +kernel
theorem dX8_order_35 : decode cX8_order 35 = .ok (.ifCond .eq 26, 3) := by decide +kernel
theorem dX8_order_38 : decode cX8_order 38 = .ok (.iload_n 3, 1) := by decide +kernel
theorem dX8_order_39 : decode cX8_order 39 = .ok (.iconst 1, 1) := by decide +kernel
theorem dX8_order_40 : decode cX8_order 40 = .ok (.sipush 200, 3) := by decide +kernel
theorem dX8_order_43 : decode cX8_order 43 = .ok (.invokestatic 43, 3) := by decide +kernel
theorem dX8_order_46 : decode cX8_order 46 = .ok (.ifCond .eq 15, 3) := by decide +kernel
theorem dX8_order_49 : decode cX8_order 49 = .ok (.iload 4, 2) := by decide +kernel
theorem dX8_order_51 : decode cX8_order 51 = .ok (.iconst 1, 1) := by decide +kernel
theorem dX8_order_52 : decode cX8_order 52 = .ok (.sipush 999, 3) := by decide +kernel
theorem dX8_order_55 : decode cX8_order 55 = .ok (.invokestatic 43, 3) := by decide +kernel
theorem dX8_order_58 : decode cX8_order 58 = .ok (.ifCond .ne 5, 3) := by decide +kernel
theorem dX8_order_61 : decode cX8_order 61 = .ok (.iconst (-1), 1) := by decide +kernel
theorem dX8_order_62 : decode cX8_order 62 = .ok (.ireturn, 1) := by decide +kernel
theorem dX8_order_63 : decode cX8_order 63 = .ok (.aload_n 0, 1) := by decide +kernel
theorem dX8_order_64 : decode cX8_order 64 = .ok (.getfield 10, 3) := by decide +kernel
theorem dX8_order_67 : decode cX8_order 67 = .ok (.getfield 124, 3) := by decide +kernel
theorem dX8_order_70 : decode cX8_order 70 = .ok (.iload_n 1, 1) := by decide +kernel
theorem dX8_order_71 : decode cX8_order 71 = .ok (.aaload, 1) := by decide +kernel
theorem dX8_order_72 : decode cX8_order 72 = .ok (.astore 5, 2) := by decide +kernel
theorem dX8_order_74 : decode cX8_order 74 = .ok (.aload 5, 2) := by decide +kernel
theorem dX8_order_76 : decode cX8_order 76 = .ok (.iload_n 2, 1) := by decide +kernel
theorem dX8_order_77 : decode cX8_order 77 = .ok (.iload_n 3, 1) := by decide +kernel
theorem dX8_order_78 : decode cX8_order 78 = .ok (.iload 4, 2) := by decide +kernel
theorem dX8_order_80 : decode cX8_order 80 = .ok (.invokevirtual 214, 3) := by decide +kernel
theorem dX8_order_83 : decode cX8_order 83 = .ok (.aload 5, 2) := by decide +kernel
theorem dX8_order_85 : decode cX8_order 85 = .ok (.getfield 201, 3) := by decide +kernel
theorem dX8_order_88 : decode cX8_order 88 = .ok (.iconst 1, 1) := by decide +kernel
theorem dX8_order_89 : decode cX8_order 89 = .ok (.isub, 1) := by decide +kernel
theorem dX8_order_90 : decode cX8_order 90 = .ok (.ireturn, 1) := by decide +kernel
theorem dX8_inTime_0 : decode cX8_inTime 0 = .ok (.aload_n 0, 1) := by decide +kernel
theorem dX8_inTime_1 : decode cX8_inTime 1 = .ok (.getfield 10, 3) := by decide +kernel
theorem dX8_inTime_4 : decode cX8_inTime 4 = .ok (.iload_n 1, 1) := by decide +kernel
theorem dX8_inTime_5 : decode cX8_inTime 5 = .ok (.invokevirtual 110, 3) := by decide +kernel
theorem dX8_inTime_8 : decode cX8_inTime 8 = .ok (.ifCond .eq 39, 3) := by decide +kernel
theorem dX8_inTime_11 : decode cX8_inTime 11 = .ok (.aload_n 0, 1) := by decide +kernel
theorem dX8_inTime_12 : decode cX8_inTime 12 = .ok (.getfield 10, 3) := by decide +kernel
theorem dX8_inTime_15 : decode cX8_inTime 15 = .ok (.getfield 124, 3) := by decide +kernel
theorem dX8_inTime_18 : decode cX8_inTime 18 = .ok (.iload_n 1, 1) := by decide +kernel
theorem dX8_inTime_19 : decode cX8_inTime 19 = .ok (.aaload, 1) := by decide +kernel
theorem dX8_inTime_20 : decode cX8_inTime 20 = .ok (.iload_n 2, 1) := by decide +kernel
theorem dX8_inTime_21 : decode cX8_inTime 21 = .ok (.invokevirtual 218, 3) := by decide +kernel
theorem dX8_inTime_24 : decode cX8_inTime 24 = .ok (.ifCond .eq 23, 3) := by decide +kernel
theorem dX8_inTime_27 : decode cX8_inTime 27 = .ok (.aload_n 0, 1) := by decide +kernel
theorem dX8_inTime_28 : decode cX8_inTime 28 = .ok (.getfield 10, 3) := by decide +kernel
theorem dX8_inTime_31 : decode cX8_inTime 31 = .ok (.getfield 124, 3) := by decide +kernel
theorem dX8_inTime_34 : decode cX8_inTime 34 = .ok (.iload_n 1, 1) := by decide +kernel
theorem dX8_inTime_35 : decode cX8_inTime 35 = .ok (.aaload, 1) := by decide +kernel
theorem dX8_inTime_36 : decode cX8_inTime 36 = .ok (.iload_n 2, 1) := by decide +kernel
theorem dX8_inTime_37 : decode cX8_inTime 37 = .ok (.invokevirtual 221, 3) := by decide +kernel
theorem dX8_inTime_40 : decode cX8_inTime 40 = .ok (.ifCond .eq 7, 3) := by decide +kernel
theorem dX8_inTime_43 : decode cX8_inTime 43 = .ok (.iconst 1, 1) := by decide +kernel
theorem dX8_inTime_44 : decode cX8_inTime 44 = .ok (.goto 4, 3) := by decide +kernel
theorem dX8_inTime_47 : decode cX8_inTime 47 = .ok (.iconst 0, 1) := by decide +kernel
theorem dX8_inTime_48 : decode cX8_inTime 48 = .ok (.ireturn, 1) := by decide +kernel
theorem dX8_forget_0 : decode cX8_forget 0 = .ok (.aload_n 0, 1) := by decide +kernel
theorem dX8_forget_1 : decode cX8_forget 1 = .ok (.getfield 10, 3) := by decide +kernel
theorem dX8_forget_4 : decode cX8_forget 4 = .ok (.iload_n 1, 1) := by decide +kernel
end
section
theorem dX8_forget_5 : decode cX8_forget 5 = .ok (.invokevirtual 110, 3) := by decide +kernel
theorem dX8_forget_8 : decode cX8_forget 8 = .ok (.ifCond .ne 5, 3) := by decide +kernel
theorem dX8_forget_11 : decode cX8_forget 11 = .ok (.iconst 0, 1) := by decide +kernel
theorem dX8_forget_12 : decode cX8_forget 12 = .ok (.ireturn, 1) := by decide +kernel
theorem dX8_forget_13 : decode cX8_forget 13 = .ok (.aload_n 0, 1) := by decide +kernel
theorem dX8_forget_14 : decode cX8_forget 14 = .ok (.getfield 10, 3) := by decide +kernel
theorem dX8_forget_17 : decode cX8_forget 17 = .ok (.getfield 124, 3) := by decide +kernel
theorem dX8_forget_20 : decode cX8_forget 20 = .ok (.iload_n 1, 1) := by decide +kernel
theorem dX8_forget_21 : decode cX8_forget 21 = .ok (.aaload, 1) := by decide +kernel
theorem dX8_forget_22 : decode cX8_forget 22 = .ok (.iconst 0, 1) := by decide +kernel
theorem dX8_forget_23 : decode cX8_forget 23 = .ok (.putfield 201, 3) := by decide +kernel
theorem dX8_forget_26 : decode cX8_forget 26 = .ok (.iconst 1, 1) := by decide +kernel
theorem dX8_forget_27 : decode cX8_forget 27 = .ok (.ireturn, 1) := by decide +kernel
theorem dX8_count_0 : decode cX8_count 0 = .ok (.iload_n 1, 1) := by decide +kernel
theorem dX8_count_1 : decode cX8_count 1 = .ok (.tableswitch 138 0 8 #[51, 59, 67, 75, 86, 97, 105, 116, 127], 51) := by decide +kernel
theorem dX8_count_52 : decode cX8_count 52 = .ok (.aload_n 0, 1) := by decide +kernel
theorem dX8_count_53 : decode cX8_count 53 = .ok (.getfield 10, 3) := by decide +kernel
theorem dX8_count_56 : decode cX8_count 56 = .ok (.getfield 74, 3) := by decide +kernel
theorem dX8_count_59 : decode cX8_count 59 = .ok (.ireturn, 1) := by decide +kernel
theorem dX8_count_60 : decode cX8_count 60 = .ok (.aload_n 0, 1) := by decide +kernel
theorem dX8_count_61 : decode cX8_count 61 = .ok (.getfield 10, 3) := by decide +kernel
theorem dX8_count_64 : decode cX8_count 64 = .ok (.getfield 107, 3) := by decide +kernel
theorem dX8_count_67 : decode cX8_count 67 = .ok (.ireturn, 1) := by decide +kernel
theorem dX8_count_68 : decode cX8_count 68 = .ok (.aload_n 0, 1) := by decide +kernel
theorem dX8_count_69 : decode cX8_count 69 = .ok (.getfield 10, 3) := by decide +kernel
theorem dX8_count_72 : decode cX8_count 72 = .ok (.invokevirtual 87, 3) := by decide +kernel
theorem dX8_count_75 : decode cX8_count 75 = .ok (.ireturn, 1) := by decide +kernel
theorem dX8_count_76 : decode cX8_count 76 = .ok (.aload_n 0, 1) := by decide +kernel
theorem dX8_count_77 : decode cX8_count 77 = .ok (.getfield 10, 3) := by decide +kernel
theorem dX8_count_80 : decode cX8_count 80 = .ok (.getfield 91, 3) := by decide +kernel
theorem dX8_count_83 : decode cX8_count 83 = .ok (.getfield 224, 3) := by decide +kernel
theorem dX8_count_86 : decode cX8_count 86 = .ok (.ireturn, 1) := by decide +kernel
theorem dX8_count_87 : decode cX8_count 87 = .ok (.aload_n 0, 1) := by decide +kernel
theorem dX8_count_88 : decode cX8_count 88 = .ok (.getfield 10, 3) := by decide +kernel
theorem dX8_count_91 : decode cX8_count 91 = .ok (.getfield 91, 3) := by decide +kernel
theorem dX8_count_94 : decode cX8_count 94 = .ok (.getfield 227, 3) := by decide +kernel
theorem dX8_count_97 : decode cX8_count 97 = .ok (.ireturn, 1) := by decide +kernel
theorem dX8_count_98 : decode cX8_count 98 = .ok (.aload_n 0, 1) := by decide +kernel
theorem dX8_count_99 : decode cX8_count 99 = .ok (.getfield 10, 3) := by decide +kernel
theorem dX8_count_102 : decode cX8_count 102 = .ok (.getfield 230, 3) := by decide +kernel
theorem dX8_count_105 : decode cX8_count 105 = .ok (.ireturn, 1) := by decide +kernel
theorem dX8_count_106 : decode cX8_count 106 = .ok (.aload_n 0, 1) := by decide +kernel
theorem dX8_count_107 : decode cX8_count 107 = .ok (.getfield 10, 3) := by decide +kernel
theorem dX8_count_110 : decode cX8_count 110 = .ok (.getfield 58, 3) := by decide +kernel
theorem dX8_count_113 : decode cX8_count 113 = .ok (.getfield 71, 3) := by decide +kernel
theorem dX8_count_116 : decode cX8_count 116 = .ok (.ireturn, 1) := by decide +kernel
theorem dX8_count_117 : decode cX8_count 117 = .ok (.aload_n 0, 1) := by decide +kernel
theorem dX8_count_118 : decode cX8_count 118 = .ok (.getfield 10, 3) := by decide +kernel
theorem dX8_count_121 : decode cX8_count 121 = .ok (.getfield 91, 3) := by decide +kernel
theorem dX8_count_124 : decode cX8_count 124 = .ok (.getfield 233, 3) := by decide +kernel
theorem dX8_count_127 : decode cX8_count 127 = .ok (.ireturn, 1) := by decide +kernel
theorem dX8_count_128 : decode cX8_count 128 = .ok (.aload_n 0, 1) := by decide +kernel
theorem dX8_count_129 : decode cX8_count 129 = .ok (.getfield 10, 3) := by decide +kernel
theorem dX8_count_132 : decode cX8_count 132 = .ok (.getfield 91, 3) := by decide +kernel
theorem dX8_count_135 : decode cX8_count 135 = .ok (.invokevirtual 236, 3) := by decide +kernel
theorem dX8_count_138 : decode cX8_count 138 = .ok (.ireturn, 1) := by decide +kernel
theorem dX8_count_139 : decode cX8_count 139 = .ok (.iconst (-1), 1) := by decide +kernel
theorem dX8_count_140 : decode cX8_count 140 = .ok (.ireturn, 1) := by decide +kernel
theorem dX8_image_0 : decode cX8_image 0 = .ok (.iload_n 1, 1) := by decide +kernel
theorem dX8_image_1 : decode cX8_image 1 = .ok (.iconst 0, 1) := by decide +kernel
theorem dX8_image_2 : decode cX8_image 2 = .ok (.iconst 2, 1) := by decide +kernel
theorem dX8_image_3 : decode cX8_image 3 = .ok (.invokestatic 43, 3) := by decide +kernel
theorem dX8_image_6 : decode cX8_image 6 = .ok (.ifCond .ne 5, 3) := by decide +kernel
theorem dX8_image_9 : decode cX8_image 9 = .ok (.iconst 0, 1) := by decide +kernel
theorem dX8_image_10 : decode cX8_image 10 = .ok (.ireturn, 1) := by decide +kernel
theorem dX8_image_11 : decode cX8_image 11 = .ok (.aload_n 0, 1) := by decide +kernel
theorem dX8_image_12 : decode cX8_image 12 = .ok (.getfield 29, 3) := by decide +kernel
theorem dX8_image_15 : decode cX8_image 15 = .ok (.iload_n 1, 1) := by decide +kernel
theorem dX8_image_16 : decode cX8_image 16 = .ok (.aaload, 1) := by decide +kernel
theorem dX8_image_17 : decode cX8_image 17 = .ok (.ifnonnull 16, 3) := by decide +kernel
theorem dX8_image_20 : decode cX8_image 20 = .ok (.aload_n 0, 1) := by decide +kernel
theorem dX8_image_21 : decode cX8_image 21 = .ok (.getfield 29, 3) := by decide +kernel
theorem dX8_image_24 : decode cX8_image 24 = .ok (.iload_n 1, 1) := by decide +kernel
theorem dX8_image_25 : decode cX8_image 25 = .ok (.new 7, 3) := by decide +kernel
theorem dX8_image_28 : decode cX8_image 28 = .ok (.dup, 1) := by decide +kernel
theorem dX8_image_29 : decode cX8_image 29 = .ok (.invokespecial 9, 3) := by decide +kernel
theorem dX8_image_32 : decode cX8_image 32 = .ok (.aastore, 1) := by decide +kernel
theorem dX8_image_33 : decode cX8_image 33 = .ok (.aload_n 0, 1) := by decide +kernel
theorem dX8_image_34 : decode cX8_image 34 = .ok (.getfield 29, 3) := by decide +kernel
theorem dX8_image_37 : decode cX8_image 37 = .ok (.iload_n 1, 1) := by decide +kernel
theorem dX8_image_38 : decode cX8_image 38 = .ok (.aaload, 1) := by decide +kernel
theorem dX8_image_39 : decode cX8_image 39 = .ok (.aload_n 0, 1) := by decide +kernel
theorem dX8_image_40 : decode cX8_image 40 = .ok (.getfield 10, 3) := by decide +kernel
theorem dX8_image_43 : decode cX8_image 43 = .ok (.invokevirtual 239, 3) := by decide +kernel
theorem dX8_image_46 : decode cX8_image 46 = .ok (.iconst 1, 1) := by decide +kernel
theorem dX8_image_47 : decode cX8_image 47 = .ok (.ireturn, 1) := by decide +kernel
theorem dX8_again_0 : decode cX8_again 0 = .ok (.iload_n 1, 1) := by decide +kernel
theorem dX8_again_1 : decode cX8_again 1 = .ok (.iconst 0, 1) := by decide +kernel
theorem dX8_again_2 : decode cX8_again 2 = .ok (.iconst 2, 1) := by decide +kernel
theorem dX8_again_3 : decode cX8_again 3 = .ok (.invokestatic 43, 3) := by decide +kernel
theorem dX8_again_6 : decode cX8_again 6 = .ok (.ifCond .eq 12, 3) := by decide +kernel
theorem dX8_again_9 : decode cX8_again 9 = .ok (.aload_n 0, 1) := by decide +kernel
theorem dX8_again_10 : decode cX8_again 10 = .ok (.getfield 29, 3) := by decide +kernel
theorem dX8_again_13 : decode cX8_again 13 = .ok (.iload_n 1, 1) := by decide +kernel
theorem dX8_again_14 : decode cX8_again 14 = .ok (.aaload, 1) := by decide +kernel
theorem dX8_again_15 : decode cX8_again 15 = .ok (.ifnonnull 5, 3) := by decide +kernel
theorem dX8_again_18 : decode cX8_again 18 = .ok (.iconst 0, 1) := by decide +kernel
theorem dX8_again_19 : decode cX8_again 19 = .ok (.ireturn, 1) := by decide +kernel
theorem dX8_again_20 : decode cX8_again 20 = .ok (.aload_n 0, 1) := by decide +kernel
theorem dX8_again_21 : decode cX8_again 21 = .ok (.getfield 10, 3) := by decide +kernel
theorem dX8_again_24 : decode cX8_again 24 = .ok (.aload_n 0, 1) := by decide +kernel
theorem dX8_again_25 : decode cX8_again 25 = .ok (.getfield 29, 3) := by decide +kernel
theorem dX8_again_28 : decode cX8_again 28 = .ok (.iload_n 1, 1) := by decide +kernel
theorem dX8_again_29 : decode cX8_again 29 = .ok (.aaload, 1) := by decide +kernel
theorem dX8_again_30 : decode cX8_again 30 = .ok (.invokevirtual 239, 3) := by decide +kernel
theorem dX8_again_33 : decode cX8_again 33 = .ok (.iconst 1, 1) := by decide +kernel
theorem dX8_again_34 : decode cX8_again 34 = .ok (.ireturn, 1) := by decide +kernel
theorem dX8_within_0 : decode cX8_within 0 = .ok (.iload_n 0, 1) := by decide +kernel
theorem dX8_within_1 : decode cX8_within 1 = .ok (.iload_n 1, 1) := by decide +kernel
theorem dX8_within_2 : decode cX8_within 2 = .ok (.if_icmp .lt 12, 3) := by decide +kernel
theorem dX8_within_5 : decode cX8_within 5 = .ok (.iload_n 0, 1) := by decide +kernel
theorem dX8_within_6 : decode cX8_within 6 = .ok (.iload_n 2, 1) := by decide +kernel
theorem dX8_within_7 : decode cX8_within 7 = .ok (.if_icmp .gt 7, 3) := by decide +kernel
theorem dX8_within_10 : decode cX8_within 10 = .ok (.iconst 1, 1) := by decide +kernel
theorem dX8_within_11 : decode cX8_within 11 = .ok (.goto 4, 3) := by decide +kernel
theorem dX8_within_14 : decode cX8_within 14 = .ok (.iconst 0, 1) := by decide +kernel
theorem dX8_within_15 : decode cX8_within 15 = .ok (.ireturn, 1) := by decide +kernel
theorem dX9_init_0 : decode cX9_init 0 = .ok (.aload_n 0, 1) := by decide +kernel
theorem dX9_init_1 : decode cX9_init 1 = .ok (.invokespecial 1, 3) := by decide +kernel
theorem dX9_init_4 : decode cX9_init 4 = .ok (.aload_n 0, 1) := by decide +kernel
theorem dX9_init_5 : decode cX9_init 5 = .ok (.sipush 4080, 3) := by decide +kernel
theorem dX9_init_8 : decode cX9_init 8 = .ok (.newarray .int, 2) := by decide +kernel
theorem dX9_init_10 : decode cX9_init 10 = .ok (.putfield 7, 3) := by decide +kernel
theorem dX9_init_13 : decode cX9_init 13 = .ok (.aload_n 0, 1) := by decide +kernel
theorem dX9_init_14 : decode cX9_init 14 = .ok (.iconst 3, 1) := by decide +kernel
theorem dX9_init_15 : decode cX9_init 15 = .ok (.newarray .boolean, 2) := by decide +kernel
theorem dX9_init_17 : decode cX9_init 17 = .ok (.putfield 13, 3) := by decide +kernel
theorem dX9_init_20 : decode cX9_init 20 = .ok (.aload_n 0, 1) := by decide +kernel
theorem dX9_init_21 : decode cX9_init 21 = .ok (.sipush 216, 3) := by decide +kernel
theorem dX9_init_24 : decode cX9_init 24 = .ok (.newarray .int, 2) := by decide +kernel
theorem dX9_init_26 : decode cX9_init 26 = .ok (.putfield 17, 3) := by decide +kernel
theorem dX9_init_29 : decode cX9_init 29 = .ok (.aload_n 0, 1) := by decide +kernel
theorem dX9_init_30 : decode cX9_init 30 = .ok (.iconst 4, 1) := by decide +kernel
theorem dX9_init_31 : decode cX9_init 31 = .ok (.newarray .int, 2) := by decide +kernel
theorem dX9_init_33 : decode cX9_init 33 = .ok (.putfield 20, 3) := by decide +kernel
theorem dX9_init_36 : decode cX9_init 36 = .ok (.aload_n 0, 1) := by decide +kernel
theorem dX9_init_37 : decode cX9_init 37 = .ok (.bipush 6, 2) := by decide +kernel
theorem dX9_init_39 : decode cX9_init 39 = .ok (.newarray .int, 2) := by decide +kernel
theorem dX9_init_41 : decode cX9_init 41 = .ok (.putfield 23, 3) := by decide +kernel
theorem dX9_init_44 : decode cX9_init 44 = .ok (.aload_n 0, 1) := by decide +kernel
theorem dX9_init_45 : decode cX9_init 45 = .ok (.getfield 7, 3) := by decide +kernel
theorem dX9_init_48 : decode cX9_init 48 = .ok (.bipush 9, 2) := by decide +kernel
theorem dX9_init_50 : decode cX9_init 50 = .ok (.iconst (-1), 1) := by decide +kernel
theorem dX9_init_51 : decode cX9_init 51 = .ok (.iastore, 1) := by decide +kernel
theorem dX9_init_52 : decode cX9_init 52 = .ok (.iconst 0, 1) := by decide +kernel
theorem dX9_init_53 : decode cX9_init 53 = .ok (.istore_n 1, 1) := by decide +kernel
theorem dX9_init_54 : decode cX9_init 54 = .ok (.iload_n 1, 1) := by decide +kernel
theorem dX9_init_55 : decode cX9_init 55 = .ok (.iconst 5, 1) := by decide +kernel
theorem dX9_init_56 : decode cX9_init 56 = .ok (.if_icmp .ge 38, 3) := by decide +kernel
theorem dX9_init_59 : decode cX9_init 59 = .ok (.aload_n 0, 1) := by decide +kernel
theorem dX9_init_60 : decode cX9_init 60 = .ok (.getfield 7, 3) := by decide +kernel
theorem dX9_init_63 : decode cX9_init 63 = .ok (.bipush 40, 2) := by decide +kernel
theorem dX9_init_65 : decode cX9_init 65 = .ok (.iconst 2, 1) := by decide +kernel
theorem dX9_init_66 : decode cX9_init 66 = .ok (.iload_n 1, 1) := by decide +kernel
theorem dX9_init_67 : decode cX9_init 67 = .ok (.imul, 1) := by decide +kernel
theorem dX9_init_68 : decode cX9_init 68 = .ok (.iadd, 1) := by decide +kernel
theorem dX9_init_69 : decode cX9_init 69 = .ok (.bipush 10, 2) := by decide +kernel
theorem dX9_init_71 : decode cX9_init 71 = .ok (.iastore, 1) := by decide +kernel
theorem dX9_init_72 : decode cX9_init 72 = .ok (.aload_n 0, 1) := by decide +kernel
theorem dX9_init_73 : decode cX9_init 73 = .ok (.getfield 7, 3) := by decide +kernel
theorem dX9_init_76 : decode cX9_init 76 = .ok (.bipush 40, 2) := by decide +kernel
theorem dX9_init_78 : decode cX9_init 78 = .ok (.iconst 2, 1) := by decide +kernel
theorem dX9_init_79 : decode cX9_init 79 = .ok (.iload_n 1, 1) := by decide +kernel
theorem dX9_init_80 : decode cX9_init 80 = .ok (.imul, 1) := by decide +kernel
theorem dX9_init_81 : decode cX9_init 81 = .ok (.iadd, 1) := by decide +kernel
theorem dX9_init_82 : decode cX9_init 82 = .ok (.iconst 1, 1) := by decide +kernel
theorem dX9_init_83 : decode cX9_init 83 = .ok (.iadd, 1) := by decide +kernel
theorem dX9_init_84 : decode cX9_init 84 = .ok (.sipush 200, 3) := by decide +kernel
theorem dX9_init_87 : decode cX9_init 87 = .ok (.iastore, 1) := by decide +kernel
theorem dX9_init_88 : decode cX9_init 88 = .ok (.iinc 1 1, 3) := by decide +kernel
theorem dX9_init_91 : decode cX9_init 91 = .ok (.goto (-37), 3) := by decide +kernel
theorem dX9_init_94 : decode cX9_init 94 = .ok (.iconst 0, 1) := by decide +kernel
theorem dX9_init_95 : decode cX9_init 95 = .ok (.istore_n 1, 1) := by decide +kernel
theorem dX9_init_96 : decode cX9_init 96 = .ok (.iload_n 1, 1) := by decide +kernel
theorem dX9_init_97 : decode cX9_init 97 = .ok (.iconst 4, 1) := by decide +kernel
theorem dX9_init_98 : decode cX9_init 98 = .ok (.if_icmp .ge 19, 3) := by decide +kernel
theorem dX9_init_101 : decode cX9_init 101 = .ok (.aload_n 0, 1) := by decide +kernel
theorem dX9_init_102 : decode cX9_init 102 = .ok (.getfield 7, 3) := by decide +kernel
theorem dX9_init_105 : decode cX9_init 105 = .ok (.bipush 50, 2) := by decide +kernel
theorem dX9_init_107 : decode cX9_init 107 = .ok (.iload_n 1, 1) := by decide +kernel
theorem dX9_init_108 : decode cX9_init 108 = .ok (.iadd, 1) := by decide +kernel
theorem dX9_init_109 : decode cX9_init 109 = .ok (.iconst 5, 1) := by decide +kernel
theorem dX9_init_110 : decode cX9_init 110 = .ok (.iastore, 1) := by decide +kernel
theorem dX9_init_111 : decode cX9_init 111 = .ok (.iinc 1 1, 3) := by decide +kernel
theorem dX9_init_114 : decode cX9_init 114 = .ok (.goto (-18), 3) := by decide +kernel
theorem dX9_init_117 : decode cX9_init 117 = .ok (.aload_n 0, 1) := by decide +kernel
theorem dX9_init_118 : decode cX9_init 118 = .ok (.iconst 3, 1) := by decide +kernel
theorem dX9_init_119 : decode cX9_init 119 = .ok (.invokevirtual 26, 3) := by decide +kernel
theorem dX9_init_122 : decode cX9_init 122 = .ok (.return_, 1) := by decide +kernel
theorem dX9_isIn_0 : decode cX9_isIn 0 = .ok (.iload_n 0, 1) := by decide +kernel
theorem dX9_isIn_1 : decode cX9_isIn 1 = .ok (.iload_n 1, 1) := by decide +kernel
theorem dX9_isIn_2 : decode cX9_isIn 2 = .ok (.if_icmp .lt 12, 3) := by decide +kernel
theorem dX9_isIn_5 : decode cX9_isIn 5 = .ok (.iload_n 0, 1) := by decide +kernel
theorem dX9_isIn_6 : decode cX9_isIn 6 = .ok (.iload_n 2, 1) := by decide +kernel
theorem dX9_isIn_7 : decode cX9_isIn 7 = .ok (.if_icmp .gt 7, 3) := by decide +kernel
theorem dX9_isIn_10 : decode cX9_isIn 10 = .ok (.iconst 1, 1) := by decide +kernel
theorem dX9_isIn_11 : decode cX9_isIn 11 = .ok (.goto 4, 3) := by decide +kernel
theorem dX9_isIn_14 : decode cX9_isIn 14 = .ok (.iconst 0, 1) := by decide +kernel
theorem dX9_isIn_15 : decode cX9_isIn 15 = .ok (.ireturn, 1) := by decide +kernel
theorem dX9_begins_0 : decode cX9_begins 0 = .ok (.aload_n 0, 1) := by decide +kernel
theorem dX9_begins_1 : decode cX9_begins 1 = .ok (.getfield 7, 3) := by decide +kernel
theorem dX9_begins_4 : decode cX9_begins 4 = .ok (.iconst 2, 1) := by decide +kernel
theorem dX9_begins_5 : decode cX9_begins 5 = .ok (.iload_n 1, 1) := by decide +kernel
theorem dX9_begins_6 : decode cX9_begins 6 = .ok (.iastore, 1) := by decide +kernel
theorem dX9_begins_7 : decode cX9_begins 7 = .ok (.iconst 0, 1) := by decide +kernel
theorem dX9_begins_8 : decode cX9_begins 8 = .ok (.istore_n 2, 1) := by decide +kernel
theorem dX9_begins_9 : decode cX9_begins 9 = .ok (.iload_n 2, 1) := by decide +kernel
theorem dX9_begins_10 : decode cX9_begins 10 = .ok (.bipush 6, 2) := by decide +kernel
theorem dX9_begins_12 : decode cX9_begins 12 = .ok (.if_icmp .ge 52, 3) := by decide +kernel
theorem dX9_begins_15 : decode cX9_begins 15 = .ok (.aload_n 0, 1) := by decide +kernel
theorem dX9_begins_16 : decode cX9_begins 16 = .ok (.getfield 7, 3) := by decide +kernel
theorem dX9_begins_19 : decode cX9_begins 19 = .ok (.bipush 10, 2) := by decide +kernel
theorem dX9_begins_21 : decode cX9_begins 21 = .ok (.iload_n 2, 1) := by decide +kernel
theorem dX9_begins_22 : decode cX9_begins 22 = .ok (.iadd, 1) := by decide +kernel
theorem dX9_begins_23 : decode cX9_begins 23 = .ok (.bipush 20, 2) := by decide +kernel
theorem dX9_begins_25 : decode cX9_begins 25 = .ok (.iastore, 1) := by decide +kernel
theorem dX9_begins_26 : decode cX9_begins 26 = .ok (.iconst 0, 1) := by decide +kernel
theorem dX9_begins_27 : decode cX9_begins 27 = .ok (.istore_n 3, 1) := by decide +kernel
theorem dX9_begins_28 : decode cX9_begins 28 = .ok (.iload_n 3, 1) := by decide +kernel
theorem dX9_begins_29 : decode cX9_begins 29 = .ok (.iconst 4, 1) := by decide +kernel
theorem dX9_begins_30 : decode cX9_begins 30 = .ok (.if_icmp .ge 28, 3) := by decide +kernel
theorem dX9_begins_33 : decode cX9_begins 33 = .ok (.aload_n 0, 1) := by decide +kernel
theorem dX9_begins_34 : decode cX9_begins 34 = .ok (.getfield 7, 3) := by decide +kernel
theorem dX9_begins_37 : decode cX9_begins 37 = .ok (.bipush 16, 2) := by decide +kernel
theorem dX9_begins_39 : decode cX9_begins 39 = .ok (.iconst 4, 1) := by decide +kernel
theorem dX9_begins_40 : decode cX9_begins 40 = .ok (.iload_n 2, 1) := by decide +kernel
theorem dX9_begins_41 : decode cX9_begins 41 = .ok (.imul, 1) := by decide +kernel
theorem dX9_begins_42 : decode cX9_begins 42 = .ok (.iadd, 1) := by decide +kernel
theorem dX9_begins_43 : decode cX9_begins 43 = .ok (.iload_n 3, 1) := by decide +kernel
theorem dX9_begins_44 : decode cX9_begins 44 = .ok (.iadd, 1) := by decide +kernel
theorem dX9_begins_45 : decode cX9_begins 45 = .ok (.bipush 10, 2) := by decide +kernel
theorem dX9_begins_47 : decode cX9_begins 47 = .ok (.iload_n 2, 1) := by decide +kernel
theorem dX9_begins_48 : decode cX9_begins 48 = .ok (.isub, 1) := by decide +kernel
theorem dX9_begins_49 : decode cX9_begins 49 = .ok (.iload_n 3, 1) := by decide +kernel
theorem dX9_begins_50 : decode cX9_begins 50 = .ok (.iadd, 1) := by decide +kernel
theorem dX9_begins_51 : decode cX9_begins 51 = .ok (.iastore, 1) := by decide +kernel
theorem dX9_begins_52 : decode cX9_begins 52 = .ok (.iinc 3 1, 3) := by decide +kernel
theorem dX9_begins_55 : decode cX9_begins 55 = .ok (.goto (-27), 3) := by decide +kernel
theorem dX9_begins_58 : decode cX9_begins 58 = .ok (.iinc 2 1, 3) := by decide +kernel
theorem dX9_begins_61 : decode cX9_begins 61 = .ok (.goto (-52), 3) := by decide +kernel
theorem dX9_begins_64 : decode cX9_begins 64 = .ok (.return_, 1) := by decide +kernel
theorem dX9_feed_0 : decode cX9_feed 0 = .ok (.aload_n 0, 1) := by decide +kernel
theorem dX9_feed_1 : decode cX9_feed 1 = .ok (.getfield 7, 3) := by decide +kernel
theorem dX9_feed_4 : decode cX9_feed 4 = .ok (.bipush 7, 2) := by decide +kernel
theorem dX9_feed_6 : decode cX9_feed 6 = .ok (.iaload, 1) := by decide +kernel
theorem dX9_feed_7 : decode cX9_feed 7 = .ok (.bipush 20, 2) := by decide +kernel
theorem dX9_feed_9 : decode cX9_feed 9 = .ok (.iadd, 1) := by decide +kernel
theorem dX9_feed_10 : decode cX9_feed 10 = .ok (.sipush 300, 3) := by decide +kernel
theorem dX9_feed_13 : decode cX9_feed 13 = .ok (.if_icmp .le 5, 3) := by decide +kernel
theorem dX9_feed_16 : decode cX9_feed 16 = .ok (.iconst (-1), 1) := by decide +kernel
theorem dX9_feed_17 : decode cX9_feed 17 = .ok (.ireturn, 1) := by decide +kernel
theorem dX9_feed_18 : decode cX9_feed 18 = .ok (.iconst 0, 1) := by decide +kernel
theorem dX9_feed_19 : decode cX9_feed 19 = .ok (.istore 6, 2) := by decide +kernel
theorem dX9_feed_21 : decode cX9_feed 21 = .ok (.iload 6, 2) := by decide +kernel
theorem dX9_feed_23 : decode cX9_feed 23 = .ok (.bipush 20, 2) := by decide +kernel
theorem dX9_feed_25 : decode cX9_feed 25 = .ok (.if_icmp .ge 101, 3) := by decide +kernel
theorem dX9_feed_28 : decode cX9_feed 28 = .ok (.iload 6, 2) := by decide +kernel
theorem dX9_feed_30 : decode cX9_feed 30 = .ok (.iconst 4, 1) := by decide +kernel
theorem dX9_feed_31 : decode cX9_feed 31 = .ok (.if_icmp .ge 7, 3) := by decide +kernel
theorem dX9_feed_34 : decode cX9_feed 34 = .ok (.iload_n 1, 1) := by decide +kernel
theorem dX9_feed_35 : decode cX9_feed 35 = .ok (.goto 39, 3) := by decide +kernel
theorem dX9_feed_38 : decode cX9_feed 38 = .ok (.iload 6, 2) := by decide +kernel
theorem dX9_feed_40 : decode cX9_feed 40 = .ok (.bipush 8, 2) := by decide +kernel
theorem dX9_feed_42 : decode cX9_feed 42 = .ok (.if_icmp .ge 7, 3) := by decide +kernel
theorem dX9_feed_45 : decode cX9_feed 45 = .ok (.iload_n 2, 1) := by decide +kernel
theorem dX9_feed_46 : decode cX9_feed 46 = .ok (.goto 28, 3) := by decide +kernel
theorem dX9_feed_49 : decode cX9_feed 49 = .ok (.iload 6, 2) := by decide +kernel
theorem dX9_feed_51 : decode cX9_feed 51 = .ok (.bipush 12, 2) := by decide +kernel
theorem dX9_feed_53 : decode cX9_feed 53 = .ok (.if_icmp .ge 7, 3) := by decide +kernel
theorem dX9_feed_56 : decode cX9_feed 56 = .ok (.iload_n 3, 1) := by decide +kernel
theorem dX9_feed_57 : decode cX9_feed 57 = .ok (.goto 17, 3) := by decide +kernel
theorem dX9_feed_60 : decode cX9_feed 60 = .ok (.iload 6, 2) := by decide +kernel
theorem dX9_feed_62 : decode cX9_feed 62 = .ok (.bipush 16, 2) := by decide +kernel
theorem dX9_feed_64 : decode cX9_feed 64 = .ok (.if_icmp .ge 8, 3) := by decide +kernel
theorem dX9_feed_67 : decode cX9_feed 67 = .ok (.iload 4, 2) := by decide +kernel
theorem dX9_feed_69 : decode cX9_feed 69 = .ok (.goto 5, 3) := by decide +kernel
theorem dX9_feed_72 : decode cX9_feed 72 = .ok (.iload 5, 2) := by decide +kernel
theorem dX9_feed_74 : decode cX9_feed 74 = .ok (.istore 7, 2) := by decide +kernel
theorem dX9_feed_76 : decode cX9_feed 76 = .ok (.aload_n 0, 1) := by decide +kernel
theorem dX9_feed_77 : decode cX9_feed 77 = .ok (.getfield 7, 3) := by decide +kernel
theorem dX9_feed_80 : decode cX9_feed 80 = .ok (.sipush 720, 3) := by decide +kernel
theorem dX9_feed_83 : decode cX9_feed 83 = .ok (.aload_n 0, 1) := by decide +kernel
theorem dX9_feed_84 : decode cX9_feed 84 = .ok (.getfield 7, 3) := by decide +kernel
theorem dX9_feed_87 : decode cX9_feed 87 = .ok (.bipush 7, 2) := by decide +kernel
theorem dX9_feed_89 : decode cX9_feed 89 = .ok (.iaload, 1) := by decide +kernel
theorem dX9_feed_90 : decode cX9_feed 90 = .ok (.iadd, 1) := by decide +kernel
theorem dX9_feed_91 : decode cX9_feed 91 = .ok (.iload 7, 2) := by decide +kernel
theorem dX9_feed_93 : decode cX9_feed 93 = .ok (.bipush 24, 2) := by decide +kernel
theorem dX9_feed_95 : decode cX9_feed 95 = .ok (.bipush 8, 2) := by decide +kernel
theorem dX9_feed_97 : decode cX9_feed 97 = .ok (.iload 6, 2) := by decide +kernel
theorem dX9_feed_99 : decode cX9_feed 99 = .ok (.iconst 4, 1) := by decide +kernel
theorem dX9_feed_100 : decode cX9_feed 100 = .ok (.irem, 1) := by decide +kernel
theorem dX9_feed_101 : decode cX9_feed 101 = .ok (.imul, 1) := by decide +kernel
theorem dX9_feed_102 : decode cX9_feed 102 = .ok (.isub, 1) := by decide +kernel
theorem dX9_feed_103 : decode cX9_feed 103 = .ok (.ishr, 1) := by decide +kernel
theorem dX9_feed_104 : decode cX9_feed 104 = .ok (.sipush 255, 3) := by decide +kernel
theorem dX9_feed_107 : decode cX9_feed 107 = .ok (.iand, 1) := by decide +kernel
theorem dX9_feed_108 : decode cX9_feed 108 = .ok (.iastore, 1) := by decide +kernel
theorem dX9_feed_109 : decode cX9_feed 109 = .ok (.aload_n 0, 1) := by decide +kernel
theorem dX9_feed_110 : decode cX9_feed 110 = .ok (.getfield 7, 3) := by decide +kernel
theorem dX9_feed_113 : decode cX9_feed 113 = .ok (.bipush 7, 2) := by decide +kernel
theorem dX9_feed_115 : decode cX9_feed 115 = .ok (.dup2, 1) := by decide +kernel
theorem dX9_feed_116 : decode cX9_feed 116 = .ok (.iaload, 1) := by decide +kernel
theorem dX9_feed_117 : decode cX9_feed 117 = .ok (.iconst 1, 1) := by decide +kernel
theorem dX9_feed_118 : decode cX9_feed 118 = .ok (.iadd, 1) := by decide +kernel
theorem dX9_feed_119 : decode cX9_feed 119 = .ok (.iastore, 1) := by decide +kernel
theorem dX9_feed_120 : decode cX9_feed 120 = .ok (.iinc 6 1, 3) := by decide +kernel
theorem dX9_feed_123 : decode cX9_feed 123 = .ok (.goto (-102), 3) := by decide +kernel
theorem dX9_feed_126 : decode cX9_feed 126 = .ok (.aload_n 0, 1) := by decide +kernel
theorem dX9_feed_127 : decode cX9_feed 127 = .ok (.getfield 7, 3) := by decide +kernel
theorem dX9_feed_130 : decode cX9_feed 130 = .ok (.bipush 7, 2) := by decide +kernel
theorem dX9_feed_132 : decode cX9_feed 132 = .ok (.iaload, 1) := by decide +kernel
theorem dX9_feed_133 : decode cX9_feed 133 = .ok (.ireturn, 1) := by decide +kernel
theorem dX9_end_0 : decode cX9_end 0 = .ok (.iload_n 1, 1) := by decide +kernel
theorem dX9_end_1 : decode cX9_end 1 = .ok (.ifCond .lt 14, 3) := by decide +kernel
theorem dX9_end_4 : decode cX9_end 4 = .ok (.iload_n 1, 1) := by decide +kernel
theorem dX9_end_5 : decode cX9_end 5 = .ok (.aload_n 0, 1) := by decide +kernel
theorem dX9_end_6 : decode cX9_end 6 = .ok (.getfield 7, 3) := by decide +kernel
theorem dX9_end_9 : decode cX9_end 9 = .ok (.bipush 7, 2) := by decide +kernel
theorem dX9_end_11 : decode cX9_end 11 = .ok (.iaload, 1) := by decide +kernel
theorem dX9_end_12 : decode cX9_end 12 = .ok (.if_icmp .le 5, 3) := by decide +kernel
theorem dX9_end_15 : decode cX9_end 15 = .ok (.iconst (-1), 1) := by decide +kernel
theorem dX9_end_16 : decode cX9_end 16 = .ok (.ireturn, 1) := by decide +kernel
theorem dX9_end_17 : decode cX9_end 17 = .ok (.aload_n 0, 1) := by decide +kernel
theorem dX9_end_18 : decode cX9_end 18 = .ok (.getfield 7, 3) := by decide +kernel
theorem dX9_end_21 : decode cX9_end 21 = .ok (.bipush 7, 2) := by decide +kernel
theorem dX9_end_23 : decode cX9_end 23 = .ok (.iload_n 1, 1) := by decide +kernel
theorem dX9_end_24 : decode cX9_end 24 = .ok (.iastore, 1) := by decide +kernel
theorem dX9_end_25 : decode cX9_end 25 = .ok (.iload_n 1, 1) := by decide +kernel
theorem dX9_end_26 : decode cX9_end 26 = .ok (.ireturn, 1) := by decide +kernel
theorem dX9_byteAt_0 : decode cX9_byteAt 0 = .ok (.iload_n 1, 1) := by decide +kernel
theorem dX9_byteAt_1 : decode cX9_byteAt 1 = .ok (.aload_n 0, 1) := by decide +kernel
theorem dX9_byteAt_2 : decode cX9_byteAt 2 = .ok (.getfield 30, 3) := by decide +kernel
theorem dX9_byteAt_5 : decode cX9_byteAt 5 = .ok (.if_icmp .ge 16, 3) := by decide +kernel
theorem dX9_byteAt_8 : decode cX9_byteAt 8 = .ok (.aload_n 0, 1) := by decide +kernel
theorem dX9_byteAt_9 : decode cX9_byteAt 9 = .ok (.getfield 7, 3) := by decide +kernel
theorem dX9_byteAt_12 : decode cX9_byteAt 12 = .ok (.sipush 720, 3) := by decide +kernel
theorem dX9_byteAt_15 : decode cX9_byteAt 15 = .ok (.iload_n 1, 1) := by decide +kernel
theorem dX9_byteAt_16 : decode cX9_byteAt 16 = .ok (.iadd, 1) := by decide +kernel
theorem dX9_byteAt_17 : decode cX9_byteAt 17 = .ok (.iaload, 1) := by decide +kernel
theorem dX9_byteAt_18 : decode cX9_byteAt 18 = .ok (.goto 4, 3) := by decide +kernel
theorem dX9_byteAt_21 : decode cX9_byteAt 21 = .ok (.iconst (-1), 1) := by decide +kernel
theorem dX9_byteAt_22 : decode cX9_byteAt 22 = .ok (.ireturn, 1) := by decide +kernel
theorem dX9_isLetter_0 : decode cX9_isLetter 0 = .ok (.iload_n 0, 1) := by decide +kernel
theorem dX9_isLetter_1 : decode cX9_isLetter 1 = .ok (.bipush 97, 2) := by decide +kernel
theorem dX9_isLetter_3 : decode cX9_isLetter 3 = .ok (.if_icmp .lt 13, 3) := by decide +kernel
theorem dX9_isLetter_6 : decode cX9_isLetter 6 = .ok (.iload_n 0, 1) := by decide +kernel
theorem dX9_isLetter_7 : decode cX9_isLetter 7 = .ok (.bipush 122, 2) := by decide +kernel
theorem dX9_isLetter_9 : decode cX9_isLetter 9 = .ok (.if_icmp .gt 7, 3) := by decide +kernel
theorem dX9_isLetter_12 : decode cX9_isLetter 12 = .ok (.iconst 1, 1) := by decide +kernel
theorem dX9_isLetter_13 : decode cX9_isLetter 13 = .ok (.goto 4, 3) := by decide +kernel
theorem dX9_isLetter_16 : decode cX9_isLetter 16 = .ok (.iconst 0, 1) := by decide +kernel
theorem dX9_isLetter_17 : decode cX9_isLetter 17 = .ok (.ireturn, 1) := by decide +kernel
theorem dX9_isDigit_0 : decode cX9_isDigit 0 = .ok (.iload_n 0, 1) := by decide +kernel
theorem dX9_isDigit_1 : decode cX9_isDigit 1 = .ok (.bipush 48, 2) := by decide +kernel
theorem dX9_isDigit_3 : decode cX9_isDigit 3 = .ok (.if_icmp .lt 13, 3) := by decide +kernel
theorem dX9_isDigit_6 : decode cX9_isDigit 6 = .ok (.iload_n 0, 1) := by decide +kernel
theorem dX9_isDigit_7 : decode cX9_isDigit 7 = .ok (.bipush 57, 2) := by decide +kernel
theorem dX9_isDigit_9 : decode cX9_isDigit 9 = .ok (.if_icmp .gt 7, 3) := by decide +kernel
theorem dX9_isDigit_12 : decode cX9_isDigit 12 = .ok (.iconst 1, 1) := by decide +kernel
theorem dX9_isDigit_13 : decode cX9_isDigit 13 = .ok (.goto 4, 3) := by decide +kernel
theorem dX9_isDigit_16 : decode cX9_isDigit 16 = .ok (.iconst 0, 1) := by decide +kernel
theorem dX9_isDigit_17 : decode cX9_isDigit 17 = .ok (.ireturn, 1) := by decide +kernel
theorem dX9_three_0 : decode cX9_three 0 = .ok (.ldc2_w 34, 3) := by decide +kernel
theorem dX9_three_3 : decode cX9_three 3 = .ok (.iload_n 0, 1) := by decide +kernel
theorem dX9_three_4 : decode cX9_three 4 = .ok (.bipush 96, 2) := by decide +kernel
theorem dX9_three_6 : decode cX9_three 6 = .ok (.isub, 1) := by decide +kernel
theorem dX9_three_7 : decode cX9_three 7 = .ok (.i2l, 1) := by decide +kernel
theorem dX9_three_8 : decode cX9_three 8 = .ok (.lmul, 1) := by decide +kernel
theorem dX9_three_9 : decode cX9_three 9 = .ok (.iload_n 1, 1) := by decide +kernel
theorem dX9_three_10 : decode cX9_three 10 = .ok (.i2l, 1) := by decide +kernel
theorem dX9_three_11 : decode cX9_three 11 = .ok (.ladd, 1) := by decide +kernel
theorem dX9_three_12 : decode cX9_three 12 = .ok (.ldc2_w 36, 3) := by decide +kernel
theorem dX9_three_15 : decode cX9_three 15 = .ok (.lsub, 1) := by decide +kernel
theorem dX9_three_16 : decode cX9_three 16 = .ok (.ldc2_w 34, 3) := by decide +kernel
theorem dX9_three_19 : decode cX9_three 19 = .ok (.lmul, 1) := by decide +kernel
theorem dX9_three_20 : decode cX9_three 20 = .ok (.iload_n 2, 1) := by decide +kernel
theorem dX9_three_21 : decode cX9_three 21 = .ok (.i2l, 1) := by decide +kernel
theorem dX9_three_22 : decode cX9_three 22 = .ok (.ladd, 1) := by decide +kernel
theorem dX9_three_23 : decode cX9_three 23 = .ok (.ldc2_w 36, 3) := by decide +kernel
theorem dX9_three_26 : decode cX9_three 26 = .ok (.lsub, 1) := by decide +kernel
theorem dX9_three_27 : decode cX9_three 27 = .ok (.lreturn, 1) := by decide +kernel
theorem dX9_four_0 : decode cX9_four 0 = .ok (.iload_n 0, 1) := by decide +kernel
theorem dX9_four_1 : decode cX9_four 1 = .ok (.iload_n 1, 1) := by decide +kernel
theorem dX9_four_2 : decode cX9_four 2 = .ok (.iload_n 2, 1) := by decide +kernel
theorem dX9_four_3 : decode cX9_four 3 = .ok (.invokestatic 38, 3) := by decide +kernel
theorem dX9_four_6 : decode cX9_four 6 = .ok (.ldc2_w 34, 3) := by decide +kernel
theorem dX9_four_9 : decode cX9_four 9 = .ok (.lmul, 1) := by decide +kernel
theorem dX9_four_10 : decode cX9_four 10 = .ok (.iload_n 3, 1) := by decide +kernel
theorem dX9_four_11 : decode cX9_four 11 = .ok (.i2l, 1) := by decide +kernel
theorem dX9_four_12 : decode cX9_four 12 = .ok (.ladd, 1) := by decide +kernel
theorem dX9_four_13 : decode cX9_four 13 = .ok (.ldc2_w 36, 3) := by decide +kernel
theorem dX9_four_16 : decode cX9_four 16 = .ok (.lsub, 1) := by decide +kernel
theorem dX9_four_17 : decode cX9_four 17 = .ok (.lreturn, 1) := by decide +kernel
theorem dX9_wordOf_0 : decode cX9_wordOf 0 = .ok (.lload_n 0, 1) := by decide +kernel
theorem dX9_wordOf_1 : decode cX9_wordOf 1 = .ok (.bipush 99, 2) := by decide +kernel
theorem dX9_wordOf_3 : decode cX9_wordOf 3 = .ok (.bipush 104, 2) := by decide +kernel
theorem dX9_wordOf_5 : decode cX9_wordOf 5 = .ok (.bipush 97, 2) := by decide +kernel
theorem dX9_wordOf_7 : decode cX9_wordOf 7 = .ok (.invokestatic 38, 3) := by decide +kernel
theorem dX9_wordOf_10 : decode cX9_wordOf 10 = .ok (.ldc2_w 42, 3) := by decide +kernel
theorem dX9_wordOf_13 : decode cX9_wordOf 13 = .ok (.lmul, 1) := by decide +kernel
theorem dX9_wordOf_14 : decode cX9_wordOf 14 = .ok (.bipush 109, 2) := by decide +kernel
theorem dX9_wordOf_16 : decode cX9_wordOf 16 = .ok (.bipush 98, 2) := by decide +kernel
theorem dX9_wordOf_18 : decode cX9_wordOf 18 = .ok (.bipush 101, 2) := by decide +kernel
theorem dX9_wordOf_20 : decode cX9_wordOf 20 = .ok (.invokestatic 38, 3) := by decide +kernel
theorem dX9_wordOf_23 : decode cX9_wordOf 23 = .ok (.ladd, 1) := by decide +kernel
theorem dX9_wordOf_24 : decode cX9_wordOf 24 = .ok (.ldc2_w 34, 3) := by decide +kernel
theorem dX9_wordOf_27 : decode cX9_wordOf 27 = .ok (.lmul, 1) := by decide +kernel
theorem dX9_wordOf_28 : decode cX9_wordOf 28 = .ok (.ldc2_w 44, 3) := by decide +kernel
theorem dX9_wordOf_31 : decode cX9_wordOf 31 = .ok (.ladd, 1) := by decide +kernel
theorem dX9_wordOf_32 : decode cX9_wordOf 32 = .ok (.ldc2_w 36, 3) := by decide +kernel
theorem dX9_wordOf_35 : decode cX9_wordOf 35 = .ok (.lsub, 1) := by decide +kernel
theorem dX9_wordOf_36 : decode cX9_wordOf 36 = .ok (.lcmp, 1) := by decide +kernel
theorem dX9_wordOf_37 : decode cX9_wordOf 37 = .ok (.ifCond .ne 5, 3) := by decide +kernel
theorem dX9_wordOf_40 : decode cX9_wordOf 40 = .ok (.iconst 1, 1) := by decide +kernel
theorem dX9_wordOf_41 : decode cX9_wordOf 41 = .ok (.ireturn, 1) := by decide +kernel
theorem dX9_wordOf_42 : decode cX9_wordOf 42 = .ok (.lload_n 0, 1) := by decide +kernel
theorem dX9_wordOf_43 : decode cX9_wordOf 43 = .ok (.bipush 115, 2) := by decide +kernel
theorem dX9_wordOf_45 : decode cX9_wordOf 45 = .ok (.bipush 112, 2) := by decide +kernel
theorem dX9_wordOf_47 : decode cX9_wordOf 47 = .ok (.bipush 111, 2) := by decide +kernel
theorem dX9_wordOf_49 : decode cX9_wordOf 49 = .ok (.bipush 116, 2) := by decide +kernel
theorem dX9_wordOf_51 : decode cX9_wordOf 51 = .ok (.invokestatic 46, 3) := by decide +kernel
theorem dX9_wordOf_54 : decode cX9_wordOf 54 = .ok (.lcmp, 1) := by decide +kernel
theorem dX9_wordOf_55 : decode cX9_wordOf 55 = .ok (.ifCond .ne 5, 3) := by decide +kernel
theorem dX9_wordOf_58 : decode cX9_wordOf 58 = .ok (.iconst 2, 1) := by decide +kernel
theorem dX9_wordOf_59 : decode cX9_wordOf 59 = .ok (.ireturn, 1) := by decide +kernel
theorem dX9_wordOf_60 : decode cX9_wordOf 60 = .ok (.lload_n 0, 1) := by decide +kernel
theorem dX9_wordOf_61 : decode cX9_wordOf 61 = .ok (.bipush 115, 2) := by decide +kernel
theorem dX9_wordOf_63 : decode cX9_wordOf 63 = .ok (.bipush 104, 2) := by decide +kernel
theorem dX9_wordOf_65 : decode cX9_wordOf 65 = .ok (.bipush 97, 2) := by decide +kernel
theorem dX9_wordOf_67 : decode cX9_wordOf 67 = .ok (.bipush 112, 2) := by decide +kernel
theorem dX9_wordOf_69 : decode cX9_wordOf 69 = .ok (.invokestatic 46, 3) := by decide +kernel
theorem dX9_wordOf_72 : decode cX9_wordOf 72 = .ok (.ldc2_w 34, 3) := by decide +kernel
theorem dX9_wordOf_75 : decode cX9_wordOf 75 = .ok (.lmul, 1) := by decide +kernel
theorem dX9_wordOf_76 : decode cX9_wordOf 76 = .ok (.ldc2_w 50, 3) := by decide +kernel
theorem dX9_wordOf_79 : decode cX9_wordOf 79 = .ok (.ladd, 1) := by decide +kernel
theorem dX9_wordOf_80 : decode cX9_wordOf 80 = .ok (.ldc2_w 36, 3) := by decide +kernel
theorem dX9_wordOf_83 : decode cX9_wordOf 83 = .ok (.lsub, 1) := by decide +kernel
theorem dX9_wordOf_84 : decode cX9_wordOf 84 = .ok (.lcmp, 1) := by decide +kernel
theorem dX9_wordOf_85 : decode cX9_wordOf 85 = .ok (.ifCond .ne 5, 3) := by decide +kernel
theorem dX9_wordOf_88 : decode cX9_wordOf 88 = .ok (.iconst 3, 1) := by decide +kernel
theorem dX9_wordOf_89 : decode cX9_wordOf 89 = .ok (.ireturn, 1) := by decide +kernel
theorem dX9_wordOf_90 : decode cX9_wordOf 90 = .ok (.lload_n 0, 1) := by decide +kernel
theorem dX9_wordOf_91 : decode cX9_wordOf 91 = .ok (.bipush 103, 2) := by decide +kernel
theorem dX9_wordOf_93 : decode cX9_wordOf 93 = .ok (.bipush 108, 2) := by decide +kernel
theorem dX9_wordOf_95 : decode cX9_wordOf 95 = .ok (.bipush 97, 2) := by decide +kernel
theorem dX9_wordOf_97 : decode cX9_wordOf 97 = .ok (.bipush 122, 2) := by decide +kernel
theorem dX9_wordOf_99 : decode cX9_wordOf 99 = .ok (.invokestatic 46, 3) := by decide +kernel
theorem dX9_wordOf_102 : decode cX9_wordOf 102 = .ok (.ldc2_w 34, 3) := by decide +kernel
theorem dX9_wordOf_105 : decode cX9_wordOf 105 = .ok (.lmul, 1) := by decide +kernel
theorem dX9_wordOf_106 : decode cX9_wordOf 106 = .ok (.ldc2_w 50, 3) := by decide +kernel
theorem dX9_wordOf_109 : decode cX9_wordOf 109 = .ok (.ladd, 1) := by decide +kernel
theorem dX9_wordOf_110 : decode cX9_wordOf 110 = .ok (.ldc2_w 36, 3) := by decide +kernel
theorem dX9_wordOf_113 : decode cX9_wordOf 113 = .ok (.lsub, 1) := by decide +kernel
theorem dX9_wordOf_114 : decode cX9_wordOf 114 = .ok (.lcmp, 1) := by decide +kernel
theorem dX9_wordOf_115 : decode cX9_wordOf 115 = .ok (.ifCond .ne 5, 3) := by decide +kernel
theorem dX9_wordOf_118 : decode cX9_wordOf 118 = .ok (.iconst 4, 1) := by decide +kernel
theorem dX9_wordOf_119 : decode cX9_wordOf 119 = .ok (.ireturn, 1) := by decide +kernel
theorem dX9_wordOf_120 : decode cX9_wordOf 120 = .ok (.lload_n 0, 1) := by decide +kernel
theorem dX9_wordOf_121 : decode cX9_wordOf 121 = .ok (.bipush 104, 2) := by decide +kernel
theorem dX9_wordOf_123 : decode cX9_wordOf 123 = .ok (.bipush 111, 2) := by decide +kernel
theorem dX9_wordOf_125 : decode cX9_wordOf 125 = .ok (.bipush 117, 2) := by decide +kernel
theorem dX9_wordOf_127 : decode cX9_wordOf 127 = .ok (.bipush 115, 2) := by decide +kernel
theorem dX9_wordOf_129 : decode cX9_wordOf 129 = .ok (.invokestatic 46, 3) := by decide +kernel
theorem dX9_wordOf_132 : decode cX9_wordOf 132 = .ok (.ldc2_w 34, 3) := by decide +kernel
theorem dX9_wordOf_135 : decode cX9_wordOf 135 = .ok (.lmul, 1) := by decide +kernel
theorem dX9_wordOf_136 : decode cX9_wordOf 136 = .ok (.ldc2_w 50, 3) := by decide +kernel
theorem dX9_wordOf_139 : decode cX9_wordOf 139 = .ok (.ladd, 1) := by decide +kernel
theorem dX9_wordOf_140 : decode cX9_wordOf 140 = .ok (.ldc2_w 36, 3) := by decide +kernel
theorem dX9_wordOf_143 : decode cX9_wordOf 143 = .ok (.lsub, 1) := by decide +kernel
theorem dX9_wordOf_144 : decode cX9_wordOf 144 = .ok (.lcmp, 1) := by decide +kernel
theorem dX9_wordOf_145 : decode cX9_wordOf 145 = .ok (.ifCond .ne 5, 3) := by decide +kernel
theorem dX9_wordOf_148 : decode cX9_wordOf 148 = .ok (.iconst 5, 1) := by decide +kernel
theorem dX9_wordOf_149 : decode cX9_wordOf 149 = .ok (.ireturn, 1) := by decide +kernel
theorem dX9_wordOf_150 : decode cX9_wordOf 150 = .ok (.lload_n 0, 1) := by decide +kernel
theorem dX9_wordOf_151 : decode cX9_wordOf 151 = .ok (.bipush 119, 2) := by decide +kernel
theorem dX9_wordOf_153 : decode cX9_wordOf 153 = .ok (.bipush 101, 2) := by decide +kernel
theorem dX9_wordOf_155 : decode cX9_wordOf 155 = .ok (.bipush 116, 2) := by decide +kernel
theorem dX9_wordOf_157 : decode cX9_wordOf 157 = .ok (.invokestatic 38, 3) := by decide +kernel
theorem dX9_wordOf_160 : decode cX9_wordOf 160 = .ok (.lcmp, 1) := by decide +kernel
theorem dX9_wordOf_161 : decode cX9_wordOf 161 = .ok (.ifCond .ne 6, 3) := by decide +kernel
theorem dX9_wordOf_164 : decode cX9_wordOf 164 = .ok (.bipush 6, 2) := by decide +kernel
theorem dX9_wordOf_166 : decode cX9_wordOf 166 = .ok (.ireturn, 1) := by decide +kernel
theorem dX9_wordOf_167 : decode cX9_wordOf 167 = .ok (.lload_n 0, 1) := by decide +kernel
theorem dX9_wordOf_168 : decode cX9_wordOf 168 = .ok (.bipush 114, 2) := by decide +kernel
theorem dX9_wordOf_170 : decode cX9_wordOf 170 = .ok (.bipush 105, 2) := by decide +kernel
theorem dX9_wordOf_172 : decode cX9_wordOf 172 = .ok (.bipush 112, 2) := by decide +kernel
theorem dX9_wordOf_174 : decode cX9_wordOf 174 = .ok (.bipush 101, 2) := by decide +kernel
theorem dX9_wordOf_176 : decode cX9_wordOf 176 = .ok (.invokestatic 46, 3) := by decide +kernel
theorem dX9_wordOf_179 : decode cX9_wordOf 179 = .ok (.lcmp, 1) := by decide +kernel
theorem dX9_wordOf_180 : decode cX9_wordOf 180 = .ok (.ifCond .ne 6, 3) := by decide +kernel
theorem dX9_wordOf_183 : decode cX9_wordOf 183 = .ok (.bipush 7, 2) := by decide +kernel
theorem dX9_wordOf_185 : decode cX9_wordOf 185 = .ok (.ireturn, 1) := by decide +kernel
theorem dX9_wordOf_186 : decode cX9_wordOf 186 = .ok (.lload_n 0, 1) := by decide +kernel
theorem dX9_wordOf_187 : decode cX9_wordOf 187 = .ok (.bipush 98, 2) := by decide +kernel
theorem dX9_wordOf_189 : decode cX9_wordOf 189 = .ok (.bipush 101, 2) := by decide +kernel
theorem dX9_wordOf_191 : decode cX9_wordOf 191 = .ok (.bipush 97, 2) := by decide +kernel
theorem dX9_wordOf_193 : decode cX9_wordOf 193 = .ok (.bipush 114, 2) := by decide +kernel
theorem dX9_wordOf_195 : decode cX9_wordOf 195 = .ok (.invokestatic 46, 3) := by decide +kernel
theorem dX9_wordOf_198 : decode cX9_wordOf 198 = .ok (.lcmp, 1) := by decide +kernel
theorem dX9_wordOf_199 : decode cX9_wordOf 199 = .ok (.ifCond .ne 6, 3) := by decide +kernel
theorem dX9_wordOf_202 : decode cX9_wordOf 202 = .ok (.bipush 20, 2) := by decide +kernel
theorem dX9_wordOf_204 : decode cX9_wordOf 204 = .ok (.ireturn, 1) := by decide +kernel
theorem dX9_wordOf_205 : decode cX9_wordOf 205 = .ok (.lload_n 0, 1) := by decide +kernel
theorem dX9_wordOf_206 : decode cX9_wordOf 206 = .ok (.bipush 112, 2) := by decide +kernel
theorem dX9_wordOf_208 : decode cX9_wordOf 208 = .ok (.bipush 97, 2) := by decide +kernel
theorem dX9_wordOf_210 : decode cX9_wordOf 210 = .ok (.bipush 114, 2) := by decide +kernel
theorem dX9_wordOf_212 : decode cX9_wordOf 212 = .ok (.bipush 116, 2) := by decide +kernel
theorem dX9_wordOf_214 : decode cX9_wordOf 214 = .ok (.invokestatic 46, 3) := by decide +kernel
theorem dX9_wordOf_217 : decode cX9_wordOf 217 = .ok (.lcmp, 1) := by decide +kernel
theorem dX9_wordOf_218 : decode cX9_wordOf 218 = .ok (.ifCond .ne 6, 3) := by decide +kernel
theorem dX9_wordOf_221 : decode cX9_wordOf 221 = .ok (.bipush 21, 2) := by decide +kernel
theorem dX9_wordOf_223 : decode cX9_wordOf 223 = .ok (.ireturn, 1) := by decide +kernel
theorem dX9_wordOf_224 : decode cX9_wordOf 224 = .ok (.lload_n 0, 1) := by decide +kernel
theorem dX9_wordOf_225 : decode cX9_wordOf 225 = .ok (.ldc2_w 52, 3) := by decide +kernel
theorem dX9_wordOf_228 : decode cX9_wordOf 228 = .ok (.lcmp, 1) := by decide +kernel
theorem dX9_wordOf_229 : decode cX9_wordOf 229 = .ok (.ifCond .ne 6, 3) := by decide +kernel
theorem dX9_wordOf_232 : decode cX9_wordOf 232 = .ok (.bipush 30, 2) := by decide +kernel
theorem dX9_wordOf_234 : decode cX9_wordOf 234 = .ok (.ireturn, 1) := by decide +kernel
theorem dX9_wordOf_235 : decode cX9_wordOf 235 = .ok (.lload_n 0, 1) := by decide +kernel
theorem dX9_wordOf_236 : decode cX9_wordOf 236 = .ok (.bipush 97, 2) := by decide +kernel
theorem dX9_wordOf_238 : decode cX9_wordOf 238 = .ok (.bipush 110, 2) := by decide +kernel
theorem dX9_wordOf_240 : decode cX9_wordOf 240 = .ok (.bipush 100, 2) := by decide +kernel
theorem dX9_wordOf_242 : decode cX9_wordOf 242 = .ok (.invokestatic 38, 3) := by decide +kernel
theorem dX9_wordOf_245 : decode cX9_wordOf 245 = .ok (.lcmp, 1) := by decide +kernel
theorem dX9_wordOf_246 : decode cX9_wordOf 246 = .ok (.ifCond .ne 6, 3) := by decide +kernel
theorem dX9_wordOf_249 : decode cX9_wordOf 249 = .ok (.bipush 31, 2) := by decide +kernel
theorem dX9_wordOf_251 : decode cX9_wordOf 251 = .ok (.ireturn, 1) := by decide +kernel
theorem dX9_wordOf_252 : decode cX9_wordOf 252 = .ok (.lload_n 0, 1) := by decide +kernel
theorem dX9_wordOf_253 : decode cX9_wordOf 253 = .ok (.bipush 110, 2) := by decide +kernel
theorem dX9_wordOf_255 : decode cX9_wordOf 255 = .ok (.bipush 111, 2) := by decide +kernel
theorem dX9_wordOf_257 : decode cX9_wordOf 257 = .ok (.bipush 116, 2) := by decide +kernel
theorem dX9_wordOf_259 : decode cX9_wordOf 259 = .ok (.invokestatic 38, 3) := by decide +kernel
theorem dX9_wordOf_262 : decode cX9_wordOf 262 = .ok (.lcmp, 1) := by decide +kernel
theorem dX9_wordOf_263 : decode cX9_wordOf 263 = .ok (.ifCond .ne 6, 3) := by decide +kernel
theorem dX9_wordOf_266 : decode cX9_wordOf 266 = .ok (.bipush 32, 2) := by decide +kernel
theorem dX9_wordOf_268 : decode cX9_wordOf 268 = .ok (.ireturn, 1) := by decide +kernel
theorem dX9_wordOf_269 : decode cX9_wordOf 269 = .ok (.bipush 99, 2) := by decide +kernel
theorem dX9_wordOf_271 : decode cX9_wordOf 271 = .ok (.ireturn, 1) := by decide +kernel
theorem dX9_isSignByte_0 : decode cX9_isSignByte 0 = .ok (.iload_n 0, 1) := by decide +kernel
theorem dX9_isSignByte_1 : decode cX9_isSignByte 1 = .ok (.bipush 58, 2) := by decide +kernel
theorem dX9_isSignByte_3 : decode cX9_isSignByte 3 = .ok (.if_icmp .eq 27, 3) := by decide +kernel
theorem dX9_isSignByte_6 : decode cX9_isSignByte 6 = .ok (.iload_n 0, 1) := by decide +kernel
theorem dX9_isSignByte_7 : decode cX9_isSignByte 7 = .ok (.bipush 59, 2) := by decide +kernel
theorem dX9_isSignByte_9 : decode cX9_isSignByte 9 = .ok (.if_icmp .eq 21, 3) := by decide +kernel
theorem dX9_isSignByte_12 : decode cX9_isSignByte 12 = .ok (.iload_n 0, 1) := by decide +kernel
theorem dX9_isSignByte_13 : decode cX9_isSignByte 13 = .ok (.bipush 60, 2) := by decide +kernel
theorem dX9_isSignByte_15 : decode cX9_isSignByte 15 = .ok (.if_icmp .eq 15, 3) := by decide +kernel
theorem dX9_isSignByte_18 : decode cX9_isSignByte 18 = .ok (.iload_n 0, 1) := by decide +kernel
theorem dX9_isSignByte_19 : decode cX9_isSignByte 19 = .ok (.bipush 62, 2) := by decide +kernel
theorem dX9_isSignByte_21 : decode cX9_isSignByte 21 = .ok (.if_icmp .eq 9, 3) := by decide +kernel
theorem dX9_isSignByte_24 : decode cX9_isSignByte 24 = .ok (.iload_n 0, 1) := by decide +kernel
theorem dX9_isSignByte_25 : decode cX9_isSignByte 25 = .ok (.bipush 61, 2) := by decide +kernel
theorem dX9_isSignByte_27 : decode cX9_isSignByte 27 = .ok (.if_icmp .ne 7, 3) := by decide +kernel
theorem dX9_isSignByte_30 : decode cX9_isSignByte 30 = .ok (.iconst 1, 1) := by decide +kernel
theorem dX9_isSignByte_31 : decode cX9_isSignByte 31 = .ok (.goto 4, 3) := by decide +kernel
theorem dX9_isSignByte_34 : decode cX9_isSignByte 34 = .ok (.iconst 0, 1) := by decide +kernel
theorem dX9_isSignByte_35 : decode cX9_isSignByte 35 = .ok (.ireturn, 1) := by decide +kernel
theorem dX9_advance_0 : decode cX9_advance 0 = .ok (.aload_n 0, 1) := by decide +kernel
theorem dX9_advance_1 : decode cX9_advance 1 = .ok (.aload_n 0, 1) := by decide +kernel
theorem dX9_advance_2 : decode cX9_advance 2 = .ok (.getfield 54, 3) := by decide +kernel
theorem dX9_advance_5 : decode cX9_advance 5 = .ok (.invokevirtual 57, 3) := by decide +kernel
theorem dX9_advance_8 : decode cX9_advance 8 = .ok (.bipush 10, 2) := by decide +kernel
theorem dX9_advance_10 : decode cX9_advance 10 = .ok (.if_icmp .eq 16, 3) := by decide +kernel
theorem dX9_advance_13 : decode cX9_advance 13 = .ok (.aload_n 0, 1) := by decide +kernel
theorem dX9_advance_14 : decode cX9_advance 14 = .ok (.aload_n 0, 1) := by decide +kernel
theorem dX9_advance_15 : decode cX9_advance 15 = .ok (.getfield 54, 3) := by decide +kernel
theorem dX9_advance_18 : decode cX9_advance 18 = .ok (.invokevirtual 57, 3) := by decide +kernel
theorem dX9_advance_21 : decode cX9_advance 21 = .ok (.bipush 32, 2) := by decide +kernel
theorem dX9_advance_23 : decode cX9_advance 23 = .ok (.if_icmp .ne 16, 3) := by decide +kernel
theorem dX9_advance_26 : decode cX9_advance 26 = .ok (.aload_n 0, 1) := by decide +kernel
theorem dX9_advance_27 : decode cX9_advance 27 = .ok (.dup, 1) := by decide +kernel
theorem dX9_advance_28 : decode cX9_advance 28 = .ok (.getfield 54, 3) := by decide +kernel
theorem dX9_advance_31 : decode cX9_advance 31 = .ok (.iconst 1, 1) := by decide +kernel
theorem dX9_advance_32 : decode cX9_advance 32 = .ok (.iadd, 1) := by decide +kernel
theorem dX9_advance_33 : decode cX9_advance 33 = .ok (.putfield 54, 3) := by decide +kernel
theorem dX9_advance_36 : decode cX9_advance 36 = .ok (.goto (-36), 3) := by decide +kernel
theorem dX9_advance_39 : decode cX9_advance 39 = .ok (.aload_n 0, 1) := by decide +kernel
theorem dX9_advance_40 : decode cX9_advance 40 = .ok (.aload_n 0, 1) := by decide +kernel
theorem dX9_advance_41 : decode cX9_advance 41 = .ok (.getfield 54, 3) := by decide +kernel
theorem dX9_advance_44 : decode cX9_advance 44 = .ok (.putfield 61, 3) := by decide +kernel
theorem dX9_advance_47 : decode cX9_advance 47 = .ok (.aload_n 0, 1) := by decide +kernel
theorem dX9_advance_48 : decode cX9_advance 48 = .ok (.aload_n 0, 1) := by decide +kernel
theorem dX9_advance_49 : decode cX9_advance 49 = .ok (.getfield 54, 3) := by decide +kernel
theorem dX9_advance_52 : decode cX9_advance 52 = .ok (.invokevirtual 57, 3) := by decide +kernel
theorem dX9_advance_55 : decode cX9_advance 55 = .ok (.istore_n 1, 1) := by decide +kernel
theorem dX9_advance_56 : decode cX9_advance 56 = .ok (.iload_n 1, 1) := by decide +kernel
theorem dX9_advance_57 : decode cX9_advance 57 = .ok (.ifCond .ge 11, 3) := by decide +kernel
theorem dX9_advance_60 : decode cX9_advance 60 = .ok (.aload_n 0, 1) := by decide +kernel
theorem dX9_advance_61 : decode cX9_advance 61 = .ok (.iconst 0, 1) := by decide +kernel
theorem dX9_advance_62 : decode cX9_advance 62 = .ok (.putfield 64, 3) := by decide +kernel
theorem dX9_advance_65 : decode cX9_advance 65 = .ok (.goto 252, 3) := by decide +kernel
theorem dX9_advance_68 : decode cX9_advance 68 = .ok (.iload_n 1, 1) := by decide +kernel
theorem dX9_advance_69 : decode cX9_advance 69 = .ok (.invokestatic 67, 3) := by decide +kernel
theorem dX9_advance_72 : decode cX9_advance 72 = .ok (.ifCond .eq 114, 3) := by decide +kernel
theorem dX9_advance_75 : decode cX9_advance 75 = .ok (.lconst 0, 1) := by decide +kernel
theorem dX9_advance_76 : decode cX9_advance 76 = .ok (.lstore_n 2, 1) := by decide +kernel
theorem dX9_advance_77 : decode cX9_advance 77 = .ok (.aload_n 0, 1) := by decide +kernel
theorem dX9_advance_78 : decode cX9_advance 78 = .ok (.aload_n 0, 1) := by decide +kernel
theorem dX9_advance_79 : decode cX9_advance 79 = .ok (.getfield 54, 3) := by decide +kernel
theorem dX9_advance_82 : decode cX9_advance 82 = .ok (.invokevirtual 57, 3) := by decide +kernel
theorem dX9_advance_85 : decode cX9_advance 85 = .ok (.invokestatic 67, 3) := by decide +kernel
theorem dX9_advance_88 : decode cX9_advance 88 = .ok (.ifCond .eq 50, 3) := by decide +kernel
theorem dX9_advance_91 : decode cX9_advance 91 = .ok (.aload_n 0, 1) := by decide +kernel
theorem dX9_advance_92 : decode cX9_advance 92 = .ok (.getfield 54, 3) := by decide +kernel
theorem dX9_advance_95 : decode cX9_advance 95 = .ok (.aload_n 0, 1) := by decide +kernel
theorem dX9_advance_96 : decode cX9_advance 96 = .ok (.getfield 61, 3) := by decide +kernel
theorem dX9_advance_99 : decode cX9_advance 99 = .ok (.isub, 1) := by decide +kernel
theorem dX9_advance_100 : decode cX9_advance 100 = .ok (.bipush 8, 2) := by decide +kernel
theorem dX9_advance_102 : decode cX9_advance 102 = .ok (.if_icmp .ge 23, 3) := by decide +kernel
theorem dX9_advance_105 : decode cX9_advance 105 = .ok (.ldc2_w 34, 3) := by decide +kernel
theorem dX9_advance_108 : decode cX9_advance 108 = .ok (.lload_n 2, 1) := by decide +kernel
theorem dX9_advance_109 : decode cX9_advance 109 = .ok (.lmul, 1) := by decide +kernel
theorem dX9_advance_110 : decode cX9_advance 110 = .ok (.aload_n 0, 1) := by decide +kernel
theorem dX9_advance_111 : decode cX9_advance 111 = .ok (.aload_n 0, 1) := by decide +kernel
theorem dX9_advance_112 : decode cX9_advance 112 = .ok (.getfield 54, 3) := by decide +kernel
theorem dX9_advance_115 : decode cX9_advance 115 = .ok (.invokevirtual 57, 3) := by decide +kernel
theorem dX9_advance_118 : decode cX9_advance 118 = .ok (.i2l, 1) := by decide +kernel
theorem dX9_advance_119 : decode cX9_advance 119 = .ok (.ladd, 1) := by decide +kernel
theorem dX9_advance_120 : decode cX9_advance 120 = .ok (.ldc2_w 36, 3) := by decide +kernel
theorem dX9_advance_123 : decode cX9_advance 123 = .ok (.lsub, 1) := by decide +kernel
theorem dX9_advance_124 : decode cX9_advance 124 = .ok (.lstore_n 2, 1) := by decide +kernel
theorem dX9_advance_125 : decode cX9_advance 125 = .ok (.aload_n 0, 1) := by decide +kernel
theorem dX9_advance_126 : decode cX9_advance 126 = .ok (.dup, 1) := by decide +kernel
theorem dX9_advance_127 : decode cX9_advance 127 = .ok (.getfield 54, 3) := by decide +kernel
theorem dX9_advance_130 : decode cX9_advance 130 = .ok (.iconst 1, 1) := by decide +kernel
theorem dX9_advance_131 : decode cX9_advance 131 = .ok (.iadd, 1) := by decide +kernel
theorem dX9_advance_132 : decode cX9_advance 132 = .ok (.putfield 54, 3) := by decide +kernel
theorem dX9_advance_135 : decode cX9_advance 135 = .ok (.goto (-58), 3) := by decide +kernel
theorem dX9_advance_138 : decode cX9_advance 138 = .ok (.aload_n 0, 1) := by decide +kernel
theorem dX9_advance_139 : decode cX9_advance 139 = .ok (.aload_n 0, 1) := by decide +kernel
theorem dX9_advance_140 : decode cX9_advance 140 = .ok (.getfield 54, 3) := by decide +kernel
theorem dX9_advance_143 : decode cX9_advance 143 = .ok (.aload_n 0, 1) := by decide +kernel
theorem dX9_advance_144 : decode cX9_advance 144 = .ok (.getfield 61, 3) := by decide +kernel
theorem dX9_advance_147 : decode cX9_advance 147 = .ok (.isub, 1) := by decide +kernel
theorem dX9_advance_148 : decode cX9_advance 148 = .ok (.bipush 7, 2) := by decide +kernel
theorem dX9_advance_150 : decode cX9_advance 150 = .ok (.if_icmp .le 8, 3) := by decide +kernel
theorem dX9_advance_153 : decode cX9_advance 153 = .ok (.bipush 99, 2) := by decide +kernel
theorem dX9_advance_155 : decode cX9_advance 155 = .ok (.goto 7, 3) := by decide +kernel
theorem dX9_advance_158 : decode cX9_advance 158 = .ok (.lload_n 2, 1) := by decide +kernel
theorem dX9_advance_159 : decode cX9_advance 159 = .ok (.invokestatic 71, 3) := by decide +kernel
theorem dX9_advance_162 : decode cX9_advance 162 = .ok (.putfield 75, 3) := by decide +kernel
theorem dX9_advance_165 : decode cX9_advance 165 = .ok (.aload_n 0, 1) := by decide +kernel
theorem dX9_advance_166 : decode cX9_advance 166 = .ok (.aload_n 0, 1) := by decide +kernel
theorem dX9_advance_167 : decode cX9_advance 167 = .ok (.getfield 75, 3) := by decide +kernel
theorem dX9_advance_170 : decode cX9_advance 170 = .ok (.bipush 99, 2) := by decide +kernel
theorem dX9_advance_172 : decode cX9_advance 172 = .ok (.if_icmp .ne 7, 3) := by decide +kernel
theorem dX9_advance_175 : decode cX9_advance 175 = .ok (.iconst 4, 1) := by decide +kernel
theorem dX9_advance_176 : decode cX9_advance 176 = .ok (.goto 4, 3) := by decide +kernel
theorem dX9_advance_179 : decode cX9_advance 179 = .ok (.iconst 3, 1) := by decide +kernel
theorem dX9_advance_180 : decode cX9_advance 180 = .ok (.putfield 64, 3) := by decide +kernel
theorem dX9_advance_183 : decode cX9_advance 183 = .ok (.goto 134, 3) := by decide +kernel
theorem dX9_advance_186 : decode cX9_advance 186 = .ok (.iload_n 1, 1) := by decide +kernel
theorem dX9_advance_187 : decode cX9_advance 187 = .ok (.invokestatic 78, 3) := by decide +kernel
theorem dX9_advance_190 : decode cX9_advance 190 = .ok (.ifCond .eq 96, 3) := by decide +kernel
theorem dX9_advance_193 : decode cX9_advance 193 = .ok (.aload_n 0, 1) := by decide +kernel
theorem dX9_advance_194 : decode cX9_advance 194 = .ok (.iconst 0, 1) := by decide +kernel
theorem dX9_advance_195 : decode cX9_advance 195 = .ok (.putfield 81, 3) := by decide +kernel
theorem dX9_advance_198 : decode cX9_advance 198 = .ok (.aload_n 0, 1) := by decide +kernel
theorem dX9_advance_199 : decode cX9_advance 199 = .ok (.aload_n 0, 1) := by decide +kernel
theorem dX9_advance_200 : decode cX9_advance 200 = .ok (.getfield 54, 3) := by decide +kernel
theorem dX9_advance_203 : decode cX9_advance 203 = .ok (.invokevirtual 57, 3) := by decide +kernel
theorem dX9_advance_206 : decode cX9_advance 206 = .ok (.invokestatic 78, 3) := by decide +kernel
theorem dX9_advance_209 : decode cX9_advance 209 = .ok (.ifCond .eq 52, 3) := by decide +kernel
theorem dX9_advance_212 : decode cX9_advance 212 = .ok (.aload_n 0, 1) := by decide +kernel
theorem dX9_advance_213 : decode cX9_advance 213 = .ok (.getfield 54, 3) := by decide +kernel
theorem dX9_advance_216 : decode cX9_advance 216 = .ok (.aload_n 0, 1) := by decide +kernel
theorem dX9_advance_217 : decode cX9_advance 217 = .ok (.getfield 61, 3) := by decide +kernel
theorem dX9_advance_220 : decode cX9_advance 220 = .ok (.isub, 1) := by decide +kernel
theorem dX9_advance_221 : decode cX9_advance 221 = .ok (.iconst 3, 1) := by decide +kernel
theorem dX9_advance_222 : decode cX9_advance 222 = .ok (.if_icmp .ge 26, 3) := by decide +kernel
theorem dX9_advance_225 : decode cX9_advance 225 = .ok (.aload_n 0, 1) := by decide +kernel
theorem dX9_advance_226 : decode cX9_advance 226 = .ok (.bipush 10, 2) := by decide +kernel
theorem dX9_advance_228 : decode cX9_advance 228 = .ok (.aload_n 0, 1) := by decide +kernel
theorem dX9_advance_229 : decode cX9_advance 229 = .ok (.getfield 81, 3) := by decide +kernel
theorem dX9_advance_232 : decode cX9_advance 232 = .ok (.imul, 1) := by decide +kernel
theorem dX9_advance_233 : decode cX9_advance 233 = .ok (.aload_n 0, 1) := by decide +kernel
theorem dX9_advance_234 : decode cX9_advance 234 = .ok (.aload_n 0, 1) := by decide +kernel
theorem dX9_advance_235 : decode cX9_advance 235 = .ok (.getfield 54, 3) := by decide +kernel
theorem dX9_advance_238 : decode cX9_advance 238 = .ok (.invokevirtual 57, 3) := by decide +kernel
theorem dX9_advance_241 : decode cX9_advance 241 = .ok (.iadd, 1) := by decide +kernel
theorem dX9_advance_242 : decode cX9_advance 242 = .ok (.bipush 48, 2) := by decide +kernel
theorem dX9_advance_244 : decode cX9_advance 244 = .ok (.isub, 1) := by decide +kernel
theorem dX9_advance_245 : decode cX9_advance 245 = .ok (.putfield 81, 3) := by decide +kernel
theorem dX9_advance_248 : decode cX9_advance 248 = .ok (.aload_n 0, 1) := by decide +kernel
theorem dX9_advance_249 : decode cX9_advance 249 = .ok (.dup, 1) := by decide +kernel
theorem dX9_advance_250 : decode cX9_advance 250 = .ok (.getfield 54, 3) := by decide +kernel
theorem dX9_advance_253 : decode cX9_advance 253 = .ok (.iconst 1, 1) := by decide +kernel
theorem dX9_advance_254 : decode cX9_advance 254 = .ok (.iadd, 1) := by decide +kernel
theorem dX9_advance_255 : decode cX9_advance 255 = .ok (.putfield 54, 3) := by decide +kernel
theorem dX9_advance_258 : decode cX9_advance 258 = .ok (.goto (-60), 3) := by decide +kernel
theorem dX9_advance_261 : decode cX9_advance 261 = .ok (.aload_n 0, 1) := by decide +kernel
theorem dX9_advance_262 : decode cX9_advance 262 = .ok (.aload_n 0, 1) := by decide +kernel
theorem dX9_advance_263 : decode cX9_advance 263 = .ok (.getfield 54, 3) := by decide +kernel
theorem dX9_advance_266 : decode cX9_advance 266 = .ok (.aload_n 0, 1) := by decide +kernel
theorem dX9_advance_267 : decode cX9_advance 267 = .ok (.getfield 61, 3) := by decide +kernel
theorem dX9_advance_270 : decode cX9_advance 270 = .ok (.isub, 1) := by decide +kernel
theorem dX9_advance_271 : decode cX9_advance 271 = .ok (.iconst 3, 1) := by decide +kernel
theorem dX9_advance_272 : decode cX9_advance 272 = .ok (.if_icmp .le 7, 3) := by decide +kernel
theorem dX9_advance_275 : decode cX9_advance 275 = .ok (.iconst 4, 1) := by decide +kernel
theorem dX9_advance_276 : decode cX9_advance 276 = .ok (.goto 4, 3) := by decide +kernel
theorem dX9_advance_279 : decode cX9_advance 279 = .ok (.iconst 1, 1) := by decide +kernel
theorem dX9_advance_280 : decode cX9_advance 280 = .ok (.putfield 64, 3) := by decide +kernel
theorem dX9_advance_283 : decode cX9_advance 283 = .ok (.goto 34, 3) := by decide +kernel
theorem dX9_advance_286 : decode cX9_advance 286 = .ok (.aload_n 0, 1) := by decide +kernel
theorem dX9_advance_287 : decode cX9_advance 287 = .ok (.dup, 1) := by decide +kernel
theorem dX9_advance_288 : decode cX9_advance 288 = .ok (.getfield 54, 3) := by decide +kernel
theorem dX9_advance_291 : decode cX9_advance 291 = .ok (.iconst 1, 1) := by decide +kernel
theorem dX9_advance_292 : decode cX9_advance 292 = .ok (.iadd, 1) := by decide +kernel
theorem dX9_advance_293 : decode cX9_advance 293 = .ok (.putfield 54, 3) := by decide +kernel
theorem dX9_advance_296 : decode cX9_advance 296 = .ok (.aload_n 0, 1) := by decide +kernel
theorem dX9_advance_297 : decode cX9_advance 297 = .ok (.iload_n 1, 1) := by decide +kernel
theorem dX9_advance_298 : decode cX9_advance 298 = .ok (.putfield 84, 3) := by decide +kernel
theorem dX9_advance_301 : decode cX9_advance 301 = .ok (.aload_n 0, 1) := by decide +kernel
theorem dX9_advance_302 : decode cX9_advance 302 = .ok (.iload_n 1, 1) := by decide +kernel
theorem dX9_advance_303 : decode cX9_advance 303 = .ok (.invokestatic 87, 3) := by decide +kernel
theorem dX9_advance_306 : decode cX9_advance 306 = .ok (.ifCond .eq 7, 3) := by decide +kernel
theorem dX9_advance_309 : decode cX9_advance 309 = .ok (.iconst 2, 1) := by decide +kernel
theorem dX9_advance_310 : decode cX9_advance 310 = .ok (.goto 4, 3) := by decide +kernel
theorem dX9_advance_313 : decode cX9_advance 313 = .ok (.iconst 4, 1) := by decide +kernel
theorem dX9_advance_314 : decode cX9_advance 314 = .ok (.putfield 64, 3) := by decide +kernel
theorem dX9_advance_317 : decode cX9_advance 317 = .ok (.return_, 1) := by decide +kernel
theorem dX9_stops_0 : decode cX9_stops 0 = .ok (.aload_n 0, 1) := by decide +kernel
theorem dX9_stops_1 : decode cX9_stops 1 = .ok (.getfield 90, 3) := by decide +kernel
theorem dX9_stops_4 : decode cX9_stops 4 = .ok (.ifCond .eq 4, 3) := by decide +kernel
theorem dX9_stops_7 : decode cX9_stops 7 = .ok (.return_, 1) := by decide +kernel
theorem dX9_stops_8 : decode cX9_stops 8 = .ok (.aload_n 0, 1) := by decide +kernel
theorem dX9_stops_9 : decode cX9_stops 9 = .ok (.iconst 1, 1) := by decide +kernel
theorem dX9_stops_10 : decode cX9_stops 10 = .ok (.putfield 90, 3) := by decide +kernel
theorem dX9_stops_13 : decode cX9_stops 13 = .ok (.aload_n 0, 1) := by decide +kernel
theorem dX9_stops_14 : decode cX9_stops 14 = .ok (.getfield 7, 3) := by decide +kernel
theorem dX9_stops_17 : decode cX9_stops 17 = .ok (.bipush 8, 2) := by decide +kernel
theorem dX9_stops_19 : decode cX9_stops 19 = .ok (.iconst 1, 1) := by decide +kernel
theorem dX9_stops_20 : decode cX9_stops 20 = .ok (.iastore, 1) := by decide +kernel
theorem dX9_stops_21 : decode cX9_stops 21 = .ok (.aload_n 0, 1) := by decide +kernel
theorem dX9_stops_22 : decode cX9_stops 22 = .ok (.getfield 7, 3) := by decide +kernel
theorem dX9_stops_25 : decode cX9_stops 25 = .ok (.bipush 9, 2) := by decide +kernel
theorem dX9_stops_27 : decode cX9_stops 27 = .ok (.aload_n 0, 1) := by decide +kernel
theorem dX9_stops_28 : decode cX9_stops 28 = .ok (.getfield 61, 3) := by decide +kernel
theorem dX9_stops_31 : decode cX9_stops 31 = .ok (.iastore, 1) := by decide +kernel
theorem dX9_stops_32 : decode cX9_stops 32 = .ok (.return_, 1) := by decide +kernel
theorem dX9_tells_0 : decode cX9_tells 0 = .ok (.aload_n 0, 1) := by decide +kernel
theorem dX9_tells_1 : decode cX9_tells 1 = .ok (.getfield 90, 3) := by decide +kernel
theorem dX9_tells_4 : decode cX9_tells 4 = .ok (.ifCond .ne 13, 3) := by decide +kernel
theorem dX9_tells_7 : decode cX9_tells 7 = .ok (.aload_n 0, 1) := by decide +kernel
theorem dX9_tells_8 : decode cX9_tells 8 = .ok (.getfield 7, 3) := by decide +kernel
theorem dX9_tells_11 : decode cX9_tells 11 = .ok (.bipush 8, 2) := by decide +kernel
theorem dX9_tells_13 : decode cX9_tells 13 = .ok (.iaload, 1) := by decide +kernel
theorem dX9_tells_14 : decode cX9_tells 14 = .ok (.ifCond .eq 4, 3) := by decide +kernel
theorem dX9_tells_17 : decode cX9_tells 17 = .ok (.return_, 1) := by decide +kernel
theorem dX9_tells_18 : decode cX9_tells 18 = .ok (.aload_n 0, 1) := by decide +kernel
theorem dX9_tells_19 : decode cX9_tells 19 = .ok (.getfield 7, 3) := by decide +kernel
theorem dX9_tells_22 : decode cX9_tells 22 = .ok (.bipush 8, 2) := by decide +kernel
theorem dX9_tells_24 : decode cX9_tells 24 = .ok (.iload_n 1, 1) := by decide +kernel
theorem dX9_tells_25 : decode cX9_tells 25 = .ok (.iastore, 1) := by decide +kernel
theorem dX9_tells_26 : decode cX9_tells 26 = .ok (.aload_n 0, 1) := by decide +kernel
theorem dX9_tells_27 : decode cX9_tells 27 = .ok (.getfield 7, 3) := by decide +kernel
theorem dX9_tells_30 : decode cX9_tells 30 = .ok (.bipush 9, 2) := by decide +kernel
theorem dX9_tells_32 : decode cX9_tells 32 = .ok (.iload_n 2, 1) := by decide +kernel
theorem dX9_tells_33 : decode cX9_tells 33 = .ok (.iastore, 1) := by decide +kernel
theorem dX9_tells_34 : decode cX9_tells 34 = .ok (.return_, 1) := by decide +kernel
theorem dX9_takes_0 : decode cX9_takes 0 = .ok (.aload_n 0, 1) := by decide +kernel
theorem dX9_takes_1 : decode cX9_takes 1 = .ok (.getfield 90, 3) := by decide +kernel
theorem dX9_takes_4 : decode cX9_takes 4 = .ok (.ifCond .ne 19, 3) := by decide +kernel
theorem dX9_takes_7 : decode cX9_takes 7 = .ok (.aload_n 0, 1) := by decide +kernel
theorem dX9_takes_8 : decode cX9_takes 8 = .ok (.getfield 64, 3) := by decide +kernel
theorem dX9_takes_11 : decode cX9_takes 11 = .ok (.iconst 3, 1) := by decide +kernel
theorem dX9_takes_12 : decode cX9_takes 12 = .ok (.if_icmp .ne 11, 3) := by decide +kernel
theorem dX9_takes_15 : decode cX9_takes 15 = .ok (.aload_n 0, 1) := by decide +kernel
theorem dX9_takes_16 : decode cX9_takes 16 = .ok (.getfield 75, 3) := by decide +kernel
theorem dX9_takes_19 : decode cX9_takes 19 = .ok (.iload_n 1, 1) := by decide +kernel
theorem dX9_takes_20 : decode cX9_takes 20 = .ok (.if_icmp .eq 5, 3) := by decide +kernel
theorem dX9_takes_23 : decode cX9_takes 23 = .ok (.iconst 0, 1) := by decide +kernel
theorem dX9_takes_24 : decode cX9_takes 24 = .ok (.ireturn, 1) := by decide +kernel
theorem dX9_takes_25 : decode cX9_takes 25 = .ok (.aload_n 0, 1) := by decide +kernel
theorem dX9_takes_26 : decode cX9_takes 26 = .ok (.invokevirtual 94, 3) := by decide +kernel
theorem dX9_takes_29 : decode cX9_takes 29 = .ok (.iconst 1, 1) := by decide +kernel
theorem dX9_takes_30 : decode cX9_takes 30 = .ok (.ireturn, 1) := by decide +kernel
theorem dX9_must_0 : decode cX9_must 0 = .ok (.aload_n 0, 1) := by decide +kernel
theorem dX9_must_1 : decode cX9_must 1 = .ok (.getfield 90, 3) := by decide +kernel
theorem dX9_must_4 : decode cX9_must 4 = .ok (.ifCond .ne 26, 3) := by decide +kernel
theorem dX9_must_7 : decode cX9_must 7 = .ok (.aload_n 0, 1) := by decide +kernel
theorem dX9_must_8 : decode cX9_must 8 = .ok (.getfield 64, 3) := by decide +kernel
theorem dX9_must_11 : decode cX9_must 11 = .ok (.iconst 2, 1) := by decide +kernel
theorem dX9_must_12 : decode cX9_must 12 = .ok (.if_icmp .ne 18, 3) := by decide +kernel
theorem dX9_must_15 : decode cX9_must 15 = .ok (.aload_n 0, 1) := by decide +kernel
theorem dX9_must_16 : decode cX9_must 16 = .ok (.getfield 84, 3) := by decide +kernel
theorem dX9_must_19 : decode cX9_must 19 = .ok (.iload_n 1, 1) := by decide +kernel
theorem dX9_must_20 : decode cX9_must 20 = .ok (.if_icmp .ne 10, 3) := by decide +kernel
theorem dX9_must_23 : decode cX9_must 23 = .ok (.aload_n 0, 1) := by decide +kernel
theorem dX9_must_24 : decode cX9_must 24 = .ok (.invokevirtual 94, 3) := by decide +kernel
theorem dX9_must_27 : decode cX9_must 27 = .ok (.goto 7, 3) := by decide +kernel
theorem dX9_must_30 : decode cX9_must 30 = .ok (.aload_n 0, 1) := by decide +kernel
theorem dX9_must_31 : decode cX9_must 31 = .ok (.invokevirtual 97, 3) := by decide +kernel
theorem dX9_must_34 : decode cX9_must 34 = .ok (.return_, 1) := by decide +kernel
theorem dX9_numbered_0 : decode cX9_numbered 0 = .ok (.aload_n 0, 1) := by decide +kernel
theorem dX9_numbered_1 : decode cX9_numbered 1 = .ok (.getfield 81, 3) := by decide +kernel
theorem dX9_numbered_4 : decode cX9_numbered 4 = .ok (.istore_n 1, 1) := by decide +kernel
theorem dX9_numbered_5 : decode cX9_numbered 5 = .ok (.aload_n 0, 1) := by decide +kernel
theorem dX9_numbered_6 : decode cX9_numbered 6 = .ok (.getfield 90, 3) := by decide +kernel
theorem dX9_numbered_9 : decode cX9_numbered 9 = .ok (.ifCond .ne 18, 3) := by decide +kernel
theorem dX9_numbered_12 : decode cX9_numbered 12 = .ok (.aload_n 0, 1) := by decide +kernel
theorem dX9_numbered_13 : decode cX9_numbered 13 = .ok (.getfield 64, 3) := by decide +kernel
theorem dX9_numbered_16 : decode cX9_numbered 16 = .ok (.iconst 1, 1) := by decide +kernel
theorem dX9_numbered_17 : decode cX9_numbered 17 = .ok (.if_icmp .ne 10, 3) := by decide +kernel
theorem dX9_numbered_20 : decode cX9_numbered 20 = .ok (.aload_n 0, 1) := by decide +kernel
theorem dX9_numbered_21 : decode cX9_numbered 21 = .ok (.invokevirtual 94, 3) := by decide +kernel
theorem dX9_numbered_24 : decode cX9_numbered 24 = .ok (.goto 7, 3) := by decide +kernel
theorem dX9_numbered_27 : decode cX9_numbered 27 = .ok (.aload_n 0, 1) := by decide +kernel
theorem dX9_numbered_28 : decode cX9_numbered 28 = .ok (.invokevirtual 97, 3) := by decide +kernel
theorem dX9_numbered_31 : decode cX9_numbered 31 = .ok (.iload_n 1, 1) := by decide +kernel
theorem dX9_numbered_32 : decode cX9_numbered 32 = .ok (.ireturn, 1) := by decide +kernel
theorem dX9_aTest_0 : decode cX9_aTest 0 = .ok (.aload_n 0, 1) := by decide +kernel
theorem dX9_aTest_1 : decode cX9_aTest 1 = .ok (.getfield 20, 3) := by decide +kernel
theorem dX9_aTest_4 : decode cX9_aTest 4 = .ok (.iconst 0, 1) := by decide +kernel
theorem dX9_aTest_5 : decode cX9_aTest 5 = .ok (.aload_n 0, 1) := by decide +kernel
theorem dX9_aTest_6 : decode cX9_aTest 6 = .ok (.bipush 32, 2) := by decide +kernel
theorem dX9_aTest_8 : decode cX9_aTest 8 = .ok (.invokevirtual 100, 3) := by decide +kernel
theorem dX9_aTest_11 : decode cX9_aTest 11 = .ok (.ifCond .eq 7, 3) := by decide +kernel
theorem dX9_aTest_14 : decode cX9_aTest 14 = .ok (.iconst 1, 1) := by decide +kernel
theorem dX9_aTest_15 : decode cX9_aTest 15 = .ok (.goto 4, 3) := by decide +kernel
theorem dX9_aTest_18 : decode cX9_aTest 18 = .ok (.iconst 0, 1) := by decide +kernel
theorem dX9_aTest_19 : decode cX9_aTest 19 = .ok (.iastore, 1) := by decide +kernel
theorem dX9_aTest_20 : decode cX9_aTest 20 = .ok (.aload_n 0, 1) := by decide +kernel
theorem dX9_aTest_21 : decode cX9_aTest 21 = .ok (.getfield 20, 3) := by decide +kernel
theorem dX9_aTest_24 : decode cX9_aTest 24 = .ok (.iconst 1, 1) := by decide +kernel
theorem dX9_aTest_25 : decode cX9_aTest 25 = .ok (.aload_n 0, 1) := by decide +kernel
theorem dX9_aTest_26 : decode cX9_aTest 26 = .ok (.getfield 75, 3) := by decide +kernel
theorem dX9_aTest_29 : decode cX9_aTest 29 = .ok (.iastore, 1) := by decide +kernel
theorem dX9_aTest_30 : decode cX9_aTest 30 = .ok (.aload_n 0, 1) := by decide +kernel
theorem dX9_aTest_31 : decode cX9_aTest 31 = .ok (.getfield 90, 3) := by decide +kernel
theorem dX9_aTest_34 : decode cX9_aTest 34 = .ok (.ifCond .ne 24, 3) := by decide +kernel
theorem dX9_aTest_37 : decode cX9_aTest 37 = .ok (.aload_n 0, 1) := by decide +kernel
theorem dX9_aTest_38 : decode cX9_aTest 38 = .ok (.getfield 64, 3) := by decide +kernel
theorem dX9_aTest_41 : decode cX9_aTest 41 = .ok (.iconst 3, 1) := by decide +kernel
theorem dX9_aTest_42 : decode cX9_aTest 42 = .ok (.if_icmp .ne 16, 3) := by decide +kernel
theorem dX9_aTest_45 : decode cX9_aTest 45 = .ok (.aload_n 0, 1) := by decide +kernel
theorem dX9_aTest_46 : decode cX9_aTest 46 = .ok (.getfield 75, 3) := by decide +kernel
theorem dX9_aTest_49 : decode cX9_aTest 49 = .ok (.iconst 1, 1) := by decide +kernel
theorem dX9_aTest_50 : decode cX9_aTest 50 = .ok (.bipush 7, 2) := by decide +kernel
theorem dX9_aTest_52 : decode cX9_aTest 52 = .ok (.invokestatic 103, 3) := by decide +kernel
theorem dX9_aTest_55 : decode cX9_aTest 55 = .ok (.ifCond .ne 8, 3) := by decide +kernel
theorem dX9_aTest_58 : decode cX9_aTest 58 = .ok (.aload_n 0, 1) := by decide +kernel
theorem dX9_aTest_59 : decode cX9_aTest 59 = .ok (.invokevirtual 97, 3) := by decide +kernel
theorem dX9_aTest_62 : decode cX9_aTest 62 = .ok (.return_, 1) := by decide +kernel
theorem dX9_aTest_63 : decode cX9_aTest 63 = .ok (.aload_n 0, 1) := by decide +kernel
theorem dX9_aTest_64 : decode cX9_aTest 64 = .ok (.invokevirtual 94, 3) := by decide +kernel
theorem dX9_aTest_67 : decode cX9_aTest 67 = .ok (.aload_n 0, 1) := by decide +kernel
theorem dX9_aTest_68 : decode cX9_aTest 68 = .ok (.getfield 20, 3) := by decide +kernel
theorem dX9_aTest_71 : decode cX9_aTest 71 = .ok (.iconst 2, 1) := by decide +kernel
theorem dX9_aTest_72 : decode cX9_aTest 72 = .ok (.aload_n 0, 1) := by decide +kernel
theorem dX9_aTest_73 : decode cX9_aTest 73 = .ok (.getfield 84, 3) := by decide +kernel
theorem dX9_aTest_76 : decode cX9_aTest 76 = .ok (.iastore, 1) := by decide +kernel
theorem dX9_aTest_77 : decode cX9_aTest 77 = .ok (.aload_n 0, 1) := by decide +kernel
theorem dX9_aTest_78 : decode cX9_aTest 78 = .ok (.getfield 64, 3) := by decide +kernel
theorem dX9_aTest_81 : decode cX9_aTest 81 = .ok (.iconst 2, 1) := by decide +kernel
theorem dX9_aTest_82 : decode cX9_aTest 82 = .ok (.if_icmp .ne 21, 3) := by decide +kernel
theorem dX9_aTest_85 : decode cX9_aTest 85 = .ok (.aload_n 0, 1) := by decide +kernel
theorem dX9_aTest_86 : decode cX9_aTest 86 = .ok (.getfield 84, 3) := by decide +kernel
theorem dX9_aTest_89 : decode cX9_aTest 89 = .ok (.bipush 58, 2) := by decide +kernel
theorem dX9_aTest_91 : decode cX9_aTest 91 = .ok (.if_icmp .eq 12, 3) := by decide +kernel
theorem dX9_aTest_94 : decode cX9_aTest 94 = .ok (.aload_n 0, 1) := by decide +kernel
theorem dX9_aTest_95 : decode cX9_aTest 95 = .ok (.getfield 84, 3) := by decide +kernel
theorem dX9_aTest_98 : decode cX9_aTest 98 = .ok (.bipush 59, 2) := by decide +kernel
theorem dX9_aTest_100 : decode cX9_aTest 100 = .ok (.if_icmp .ne 8, 3) := by decide +kernel
theorem dX9_aTest_103 : decode cX9_aTest 103 = .ok (.aload_n 0, 1) := by decide +kernel
theorem dX9_aTest_104 : decode cX9_aTest 104 = .ok (.invokevirtual 97, 3) := by decide +kernel
theorem dX9_aTest_107 : decode cX9_aTest 107 = .ok (.return_, 1) := by decide +kernel
theorem dX9_aTest_108 : decode cX9_aTest 108 = .ok (.aload_n 0, 1) := by decide +kernel
theorem dX9_aTest_109 : decode cX9_aTest 109 = .ok (.invokevirtual 94, 3) := by decide +kernel
theorem dX9_aTest_112 : decode cX9_aTest 112 = .ok (.aload_n 0, 1) := by decide +kernel
theorem dX9_aTest_113 : decode cX9_aTest 113 = .ok (.getfield 20, 3) := by decide +kernel
theorem dX9_aTest_116 : decode cX9_aTest 116 = .ok (.iconst 3, 1) := by decide +kernel
theorem dX9_aTest_117 : decode cX9_aTest 117 = .ok (.aload_n 0, 1) := by decide +kernel
theorem dX9_aTest_118 : decode cX9_aTest 118 = .ok (.invokevirtual 107, 3) := by decide +kernel
theorem dX9_aTest_121 : decode cX9_aTest 121 = .ok (.iastore, 1) := by decide +kernel
theorem dX9_aTest_122 : decode cX9_aTest 122 = .ok (.return_, 1) := by decide +kernel
theorem dX9_puts_0 : decode cX9_puts 0 = .ok (.aload_n 0, 1) := by decide +kernel
theorem dX9_puts_1 : decode cX9_puts 1 = .ok (.getfield 111, 3) := by decide +kernel
theorem dX9_puts_4 : decode cX9_puts 4 = .ok (.bipush 12, 2) := by decide +kernel
theorem dX9_puts_6 : decode cX9_puts 6 = .ok (.if_icmp .ge 18, 3) := by decide +kernel
theorem dX9_puts_9 : decode cX9_puts 9 = .ok (.aload_n 0, 1) := by decide +kernel
theorem dX9_puts_10 : decode cX9_puts 10 = .ok (.getfield 17, 3) := by decide +kernel
theorem dX9_puts_13 : decode cX9_puts 13 = .ok (.bipush 18, 2) := by decide +kernel
theorem dX9_puts_15 : decode cX9_puts 15 = .ok (.aload_n 0, 1) := by decide +kernel
theorem dX9_puts_16 : decode cX9_puts 16 = .ok (.getfield 111, 3) := by decide +kernel
theorem dX9_puts_19 : decode cX9_puts 19 = .ok (.imul, 1) := by decide +kernel
theorem dX9_puts_20 : decode cX9_puts 20 = .ok (.iload_n 1, 1) := by decide +kernel
theorem dX9_puts_21 : decode cX9_puts 21 = .ok (.iadd, 1) := by decide +kernel
theorem dX9_puts_22 : decode cX9_puts 22 = .ok (.iload_n 2, 1) := by decide +kernel
theorem dX9_puts_23 : decode cX9_puts 23 = .ok (.iastore, 1) := by decide +kernel
theorem dX9_puts_24 : decode cX9_puts 24 = .ok (.return_, 1) := by decide +kernel
theorem dX9_aLine_0 : decode cX9_aLine 0 = .ok (.aload_n 0, 1) := by decide +kernel
theorem dX9_aLine_1 : decode cX9_aLine 1 = .ok (.getfield 111, 3) := by decide +kernel
theorem dX9_aLine_4 : decode cX9_aLine 4 = .ok (.bipush 12, 2) := by decide +kernel
theorem dX9_aLine_6 : decode cX9_aLine 6 = .ok (.if_icmp .lt 12, 3) := by decide +kernel
theorem dX9_aLine_9 : decode cX9_aLine 9 = .ok (.aload_n 0, 1) := by decide +kernel
theorem dX9_aLine_10 : decode cX9_aLine 10 = .ok (.iconst 3, 1) := by decide +kernel
theorem dX9_aLine_11 : decode cX9_aLine 11 = .ok (.aload_n 0, 1) := by decide +kernel
theorem dX9_aLine_12 : decode cX9_aLine 12 = .ok (.getfield 61, 3) := by decide +kernel
theorem dX9_aLine_15 : decode cX9_aLine 15 = .ok (.invokevirtual 114, 3) := by decide +kernel
theorem dX9_aLine_18 : decode cX9_aLine 18 = .ok (.iconst 0, 1) := by decide +kernel
theorem dX9_aLine_19 : decode cX9_aLine 19 = .ok (.istore_n 1, 1) := by decide +kernel
theorem dX9_aLine_20 : decode cX9_aLine 20 = .ok (.aload_n 0, 1) := by decide +kernel
theorem dX9_aLine_21 : decode cX9_aLine 21 = .ok (.bipush 30, 2) := by decide +kernel
theorem dX9_aLine_23 : decode cX9_aLine 23 = .ok (.invokevirtual 100, 3) := by decide +kernel
theorem dX9_aLine_26 : decode cX9_aLine 26 = .ok (.ifCond .eq 81, 3) := by decide +kernel
theorem dX9_aLine_29 : decode cX9_aLine 29 = .ok (.iconst 1, 1) := by decide +kernel
theorem dX9_aLine_30 : decode cX9_aLine 30 = .ok (.istore_n 2, 1) := by decide +kernel
theorem dX9_aLine_31 : decode cX9_aLine 31 = .ok (.iload_n 2, 1) := by decide +kernel
theorem dX9_aLine_32 : decode cX9_aLine 32 = .ok (.ifCond .eq 69, 3) := by decide +kernel
theorem dX9_aLine_35 : decode cX9_aLine 35 = .ok (.iload_n 1, 1) := by decide +kernel
theorem dX9_aLine_36 : decode cX9_aLine 36 = .ok (.iconst 3, 1) := by decide +kernel
theorem dX9_aLine_37 : decode cX9_aLine 37 = .ok (.if_icmp .le 12, 3) := by decide +kernel
theorem dX9_aLine_40 : decode cX9_aLine 40 = .ok (.aload_n 0, 1) := by decide +kernel
theorem dX9_aLine_41 : decode cX9_aLine 41 = .ok (.iconst 3, 1) := by decide +kernel
theorem dX9_aLine_42 : decode cX9_aLine 42 = .ok (.aload_n 0, 1) := by decide +kernel
theorem dX9_aLine_43 : decode cX9_aLine 43 = .ok (.getfield 61, 3) := by decide +kernel
theorem dX9_aLine_46 : decode cX9_aLine 46 = .ok (.invokevirtual 114, 3) := by decide +kernel
theorem dX9_aLine_49 : decode cX9_aLine 49 = .ok (.aload_n 0, 1) := by decide +kernel
theorem dX9_aLine_50 : decode cX9_aLine 50 = .ok (.invokevirtual 118, 3) := by decide +kernel
theorem dX9_aLine_53 : decode cX9_aLine 53 = .ok (.iconst 0, 1) := by decide +kernel
theorem dX9_aLine_54 : decode cX9_aLine 54 = .ok (.istore_n 3, 1) := by decide +kernel
theorem dX9_aLine_55 : decode cX9_aLine 55 = .ok (.iload_n 3, 1) := by decide +kernel
theorem dX9_aLine_56 : decode cX9_aLine 56 = .ok (.iconst 4, 1) := by decide +kernel
theorem dX9_aLine_57 : decode cX9_aLine 57 = .ok (.if_icmp .ge 31, 3) := by decide +kernel
theorem dX9_aLine_60 : decode cX9_aLine 60 = .ok (.iload_n 1, 1) := by decide +kernel
theorem dX9_aLine_61 : decode cX9_aLine 61 = .ok (.iconst 4, 1) := by decide +kernel
theorem dX9_aLine_62 : decode cX9_aLine 62 = .ok (.if_icmp .ge 26, 3) := by decide +kernel
theorem dX9_aLine_65 : decode cX9_aLine 65 = .ok (.aload_n 0, 1) := by decide +kernel
theorem dX9_aLine_66 : decode cX9_aLine 66 = .ok (.iconst 1, 1) := by decide +kernel
theorem dX9_aLine_67 : decode cX9_aLine 67 = .ok (.iconst 4, 1) := by decide +kernel
theorem dX9_aLine_68 : decode cX9_aLine 68 = .ok (.iload_n 1, 1) := by decide +kernel
theorem dX9_aLine_69 : decode cX9_aLine 69 = .ok (.imul, 1) := by decide +kernel
theorem dX9_aLine_70 : decode cX9_aLine 70 = .ok (.iadd, 1) := by decide +kernel
theorem dX9_aLine_71 : decode cX9_aLine 71 = .ok (.iload_n 3, 1) := by decide +kernel
theorem dX9_aLine_72 : decode cX9_aLine 72 = .ok (.iadd, 1) := by decide +kernel
theorem dX9_aLine_73 : decode cX9_aLine 73 = .ok (.aload_n 0, 1) := by decide +kernel
theorem dX9_aLine_74 : decode cX9_aLine 74 = .ok (.getfield 20, 3) := by decide +kernel
theorem dX9_aLine_77 : decode cX9_aLine 77 = .ok (.iload_n 3, 1) := by decide +kernel
theorem dX9_aLine_78 : decode cX9_aLine 78 = .ok (.iaload, 1) := by decide +kernel
theorem dX9_aLine_79 : decode cX9_aLine 79 = .ok (.invokevirtual 121, 3) := by decide +kernel
theorem dX9_aLine_82 : decode cX9_aLine 82 = .ok (.iinc 3 1, 3) := by decide +kernel
theorem dX9_aLine_85 : decode cX9_aLine 85 = .ok (.goto (-30), 3) := by decide +kernel
theorem dX9_aLine_88 : decode cX9_aLine 88 = .ok (.iinc 1 1, 3) := by decide +kernel
theorem dX9_aLine_91 : decode cX9_aLine 91 = .ok (.aload_n 0, 1) := by decide +kernel
theorem dX9_aLine_92 : decode cX9_aLine 92 = .ok (.bipush 31, 2) := by decide +kernel
theorem dX9_aLine_94 : decode cX9_aLine 94 = .ok (.invokevirtual 100, 3) := by decide +kernel
theorem dX9_aLine_97 : decode cX9_aLine 97 = .ok (.istore_n 2, 1) := by decide +kernel
theorem dX9_aLine_98 : decode cX9_aLine 98 = .ok (.goto (-67), 3) := by decide +kernel
theorem dX9_aLine_101 : decode cX9_aLine 101 = .ok (.aload_n 0, 1) := by decide +kernel
theorem dX9_aLine_102 : decode cX9_aLine 102 = .ok (.bipush 58, 2) := by decide +kernel
theorem dX9_aLine_104 : decode cX9_aLine 104 = .ok (.invokevirtual 124, 3) := by decide +kernel
theorem dX9_aLine_107 : decode cX9_aLine 107 = .ok (.iconst 0, 1) := by decide +kernel
theorem dX9_aLine_108 : decode cX9_aLine 108 = .ok (.istore_n 2, 1) := by decide +kernel
theorem dX9_aLine_109 : decode cX9_aLine 109 = .ok (.aload_n 0, 1) := by decide +kernel
theorem dX9_aLine_110 : decode cX9_aLine 110 = .ok (.bipush 20, 2) := by decide +kernel
theorem dX9_aLine_112 : decode cX9_aLine 112 = .ok (.invokevirtual 100, 3) := by decide +kernel
theorem dX9_aLine_115 : decode cX9_aLine 115 = .ok (.ifCond .ne 38, 3) := by decide +kernel
theorem dX9_aLine_118 : decode cX9_aLine 118 = .ok (.aload_n 0, 1) := by decide +kernel
theorem dX9_aLine_119 : decode cX9_aLine 119 = .ok (.bipush 21, 2) := by decide +kernel
theorem dX9_aLine_121 : decode cX9_aLine 121 = .ok (.invokevirtual 100, 3) := by decide +kernel
theorem dX9_aLine_124 : decode cX9_aLine 124 = .ok (.ifCond .ne 7, 3) := by decide +kernel
theorem dX9_aLine_127 : decode cX9_aLine 127 = .ok (.aload_n 0, 1) := by decide +kernel
theorem dX9_aLine_128 : decode cX9_aLine 128 = .ok (.invokevirtual 97, 3) := by decide +kernel
theorem dX9_aLine_131 : decode cX9_aLine 131 = .ok (.aload_n 0, 1) := by decide +kernel
theorem dX9_aLine_132 : decode cX9_aLine 132 = .ok (.getfield 61, 3) := by decide +kernel
theorem dX9_aLine_135 : decode cX9_aLine 135 = .ok (.istore_n 3, 1) := by decide +kernel
theorem dX9_aLine_136 : decode cX9_aLine 136 = .ok (.aload_n 0, 1) := by decide +kernel
theorem dX9_aLine_137 : decode cX9_aLine 137 = .ok (.invokevirtual 107, 3) := by decide +kernel
theorem dX9_aLine_140 : decode cX9_aLine 140 = .ok (.istore_n 2, 1) := by decide +kernel
theorem dX9_aLine_141 : decode cX9_aLine 141 = .ok (.iload_n 2, 1) := by decide +kernel
theorem dX9_aLine_142 : decode cX9_aLine 142 = .ok (.bipush 100, 2) := by decide +kernel
theorem dX9_aLine_144 : decode cX9_aLine 144 = .ok (.if_icmp .le 9, 3) := by decide +kernel
theorem dX9_aLine_147 : decode cX9_aLine 147 = .ok (.aload_n 0, 1) := by decide +kernel
theorem dX9_aLine_148 : decode cX9_aLine 148 = .ok (.iconst 2, 1) := by decide +kernel
theorem dX9_aLine_149 : decode cX9_aLine 149 = .ok (.iload_n 3, 1) := by decide +kernel
theorem dX9_aLine_150 : decode cX9_aLine 150 = .ok (.invokevirtual 114, 3) := by decide +kernel
theorem dX9_aLine_153 : decode cX9_aLine 153 = .ok (.aload_n 0, 1) := by decide +kernel
theorem dX9_aLine_154 : decode cX9_aLine 154 = .ok (.bipush 59, 2) := by decide +kernel
theorem dX9_aLine_156 : decode cX9_aLine 156 = .ok (.invokevirtual 124, 3) := by decide +kernel
theorem dX9_aLine_159 : decode cX9_aLine 159 = .ok (.aload_n 0, 1) := by decide +kernel
theorem dX9_aLine_160 : decode cX9_aLine 160 = .ok (.iconst 0, 1) := by decide +kernel
theorem dX9_aLine_161 : decode cX9_aLine 161 = .ok (.iload_n 1, 1) := by decide +kernel
theorem dX9_aLine_162 : decode cX9_aLine 162 = .ok (.invokevirtual 121, 3) := by decide +kernel
theorem dX9_aLine_165 : decode cX9_aLine 165 = .ok (.aload_n 0, 1) := by decide +kernel
theorem dX9_aLine_166 : decode cX9_aLine 166 = .ok (.bipush 17, 2) := by decide +kernel
theorem dX9_aLine_168 : decode cX9_aLine 168 = .ok (.iload_n 2, 1) := by decide +kernel
theorem dX9_aLine_169 : decode cX9_aLine 169 = .ok (.invokevirtual 121, 3) := by decide +kernel
theorem dX9_aLine_172 : decode cX9_aLine 172 = .ok (.aload_n 0, 1) := by decide +kernel
theorem dX9_aLine_173 : decode cX9_aLine 173 = .ok (.dup, 1) := by decide +kernel
theorem dX9_aLine_174 : decode cX9_aLine 174 = .ok (.getfield 111, 3) := by decide +kernel
theorem dX9_aLine_177 : decode cX9_aLine 177 = .ok (.iconst 1, 1) := by decide +kernel
theorem dX9_aLine_178 : decode cX9_aLine 178 = .ok (.iadd, 1) := by decide +kernel
theorem dX9_aLine_179 : decode cX9_aLine 179 = .ok (.putfield 111, 3) := by decide +kernel
theorem dX9_aLine_182 : decode cX9_aLine 182 = .ok (.return_, 1) := by decide +kernel
theorem dX9_custom_0 : decode cX9_custom 0 = .ok (.aload_n 0, 1) := by decide +kernel
theorem dX9_custom_1 : decode cX9_custom 1 = .ok (.aload_n 0, 1) := by decide +kernel
theorem dX9_custom_2 : decode cX9_custom 2 = .ok (.getfield 7, 3) := by decide +kernel
theorem dX9_custom_5 : decode cX9_custom 5 = .ok (.bipush 7, 2) := by decide +kernel
theorem dX9_custom_7 : decode cX9_custom 7 = .ok (.iaload, 1) := by decide +kernel
theorem dX9_custom_8 : decode cX9_custom 8 = .ok (.putfield 30, 3) := by decide +kernel
theorem dX9_custom_11 : decode cX9_custom 11 = .ok (.aload_n 0, 1) := by decide +kernel
theorem dX9_custom_12 : decode cX9_custom 12 = .ok (.getfield 7, 3) := by decide +kernel
theorem dX9_custom_15 : decode cX9_custom 15 = .ok (.bipush 7, 2) := by decide +kernel
theorem dX9_custom_17 : decode cX9_custom 17 = .ok (.iconst 0, 1) := by decide +kernel
theorem dX9_custom_18 : decode cX9_custom 18 = .ok (.iastore, 1) := by decide +kernel
theorem dX9_custom_19 : decode cX9_custom 19 = .ok (.aload_n 0, 1) := by decide +kernel
theorem dX9_custom_20 : decode cX9_custom 20 = .ok (.iconst 0, 1) := by decide +kernel
theorem dX9_custom_21 : decode cX9_custom 21 = .ok (.putfield 54, 3) := by decide +kernel
theorem dX9_custom_24 : decode cX9_custom 24 = .ok (.aload_n 0, 1) := by decide +kernel
theorem dX9_custom_25 : decode cX9_custom 25 = .ok (.getfield 7, 3) := by decide +kernel
theorem dX9_custom_28 : decode cX9_custom 28 = .ok (.bipush 8, 2) := by decide +kernel
theorem dX9_custom_30 : decode cX9_custom 30 = .ok (.iconst 0, 1) := by decide +kernel
theorem dX9_custom_31 : decode cX9_custom 31 = .ok (.iastore, 1) := by decide +kernel
theorem dX9_custom_32 : decode cX9_custom 32 = .ok (.aload_n 0, 1) := by decide +kernel
theorem dX9_custom_33 : decode cX9_custom 33 = .ok (.getfield 7, 3) := by decide +kernel
theorem dX9_custom_36 : decode cX9_custom 36 = .ok (.bipush 9, 2) := by decide +kernel
theorem dX9_custom_38 : decode cX9_custom 38 = .ok (.iconst (-1), 1) := by decide +kernel
theorem dX9_custom_39 : decode cX9_custom 39 = .ok (.iastore, 1) := by decide +kernel
theorem dX9_custom_40 : decode cX9_custom 40 = .ok (.aload_n 0, 1) := by decide +kernel
theorem dX9_custom_41 : decode cX9_custom 41 = .ok (.iconst 0, 1) := by decide +kernel
theorem dX9_custom_42 : decode cX9_custom 42 = .ok (.putfield 90, 3) := by decide +kernel
theorem dX9_custom_45 : decode cX9_custom 45 = .ok (.aload_n 0, 1) := by decide +kernel
theorem dX9_custom_46 : decode cX9_custom 46 = .ok (.iconst 0, 1) := by decide +kernel
theorem dX9_custom_47 : decode cX9_custom 47 = .ok (.putfield 111, 3) := by decide +kernel
theorem dX9_custom_50 : decode cX9_custom 50 = .ok (.aload_n 0, 1) := by decide +kernel
theorem dX9_custom_51 : decode cX9_custom 51 = .ok (.invokevirtual 94, 3) := by decide +kernel
theorem dX9_custom_54 : decode cX9_custom 54 = .ok (.aload_n 0, 1) := by decide +kernel
theorem dX9_custom_55 : decode cX9_custom 55 = .ok (.getfield 90, 3) := by decide +kernel
theorem dX9_custom_58 : decode cX9_custom 58 = .ok (.ifCond .ne 17, 3) := by decide +kernel
theorem dX9_custom_61 : decode cX9_custom 61 = .ok (.aload_n 0, 1) := by decide +kernel
theorem dX9_custom_62 : decode cX9_custom 62 = .ok (.getfield 64, 3) := by decide +kernel
theorem dX9_custom_65 : decode cX9_custom 65 = .ok (.ifCond .eq 10, 3) := by decide +kernel
theorem dX9_custom_68 : decode cX9_custom 68 = .ok (.aload_n 0, 1) := by decide +kernel
theorem dX9_custom_69 : decode cX9_custom 69 = .ok (.invokevirtual 127, 3) := by decide +kernel
theorem dX9_custom_72 : decode cX9_custom 72 = .ok (.goto (-18), 3) := by decide +kernel
theorem dX9_custom_75 : decode cX9_custom 75 = .ok (.aload_n 0, 1) := by decide +kernel
theorem dX9_custom_76 : decode cX9_custom 76 = .ok (.getfield 7, 3) := by decide +kernel
theorem dX9_custom_79 : decode cX9_custom 79 = .ok (.bipush 8, 2) := by decide +kernel
theorem dX9_custom_81 : decode cX9_custom 81 = .ok (.iaload, 1) := by decide +kernel
theorem dX9_custom_82 : decode cX9_custom 82 = .ok (.ifCond .eq 5, 3) := by decide +kernel
theorem dX9_custom_85 : decode cX9_custom 85 = .ok (.iconst (-1), 1) := by decide +kernel
theorem dX9_custom_86 : decode cX9_custom 86 = .ok (.ireturn, 1) := by decide +kernel
theorem dX9_custom_87 : decode cX9_custom 87 = .ok (.iconst 0, 1) := by decide +kernel
theorem dX9_custom_88 : decode cX9_custom 88 = .ok (.istore_n 1, 1) := by decide +kernel
theorem dX9_custom_89 : decode cX9_custom 89 = .ok (.iload_n 1, 1) := by decide +kernel
theorem dX9_custom_90 : decode cX9_custom 90 = .ok (.sipush 216, 3) := by decide +kernel
theorem dX9_custom_93 : decode cX9_custom 93 = .ok (.if_icmp .ge 25, 3) := by decide +kernel
theorem dX9_custom_96 : decode cX9_custom 96 = .ok (.aload_n 0, 1) := by decide +kernel
theorem dX9_custom_97 : decode cX9_custom 97 = .ok (.getfield 7, 3) := by decide +kernel
theorem dX9_custom_100 : decode cX9_custom 100 = .ok (.sipush 500, 3) := by decide +kernel
theorem dX9_custom_103 : decode cX9_custom 103 = .ok (.iload_n 1, 1) := by decide +kernel
theorem dX9_custom_104 : decode cX9_custom 104 = .ok (.iadd, 1) := by decide +kernel
theorem dX9_custom_105 : decode cX9_custom 105 = .ok (.aload_n 0, 1) := by decide +kernel
theorem dX9_custom_106 : decode cX9_custom 106 = .ok (.getfield 17, 3) := by decide +kernel
theorem dX9_custom_109 : decode cX9_custom 109 = .ok (.iload_n 1, 1) := by decide +kernel
theorem dX9_custom_110 : decode cX9_custom 110 = .ok (.iaload, 1) := by decide +kernel
theorem dX9_custom_111 : decode cX9_custom 111 = .ok (.iastore, 1) := by decide +kernel
theorem dX9_custom_112 : decode cX9_custom 112 = .ok (.iinc 1 1, 3) := by decide +kernel
theorem dX9_custom_115 : decode cX9_custom 115 = .ok (.goto (-26), 3) := by decide +kernel
theorem dX9_custom_118 : decode cX9_custom 118 = .ok (.aload_n 0, 1) := by decide +kernel
theorem dX9_custom_119 : decode cX9_custom 119 = .ok (.getfield 7, 3) := by decide +kernel
theorem dX9_custom_122 : decode cX9_custom 122 = .ok (.bipush 6, 2) := by decide +kernel
theorem dX9_custom_124 : decode cX9_custom 124 = .ok (.aload_n 0, 1) := by decide +kernel
theorem dX9_custom_125 : decode cX9_custom 125 = .ok (.getfield 111, 3) := by decide +kernel
theorem dX9_custom_128 : decode cX9_custom 128 = .ok (.iastore, 1) := by decide +kernel
theorem dX9_custom_129 : decode cX9_custom 129 = .ok (.aload_n 0, 1) := by decide +kernel
theorem dX9_custom_130 : decode cX9_custom 130 = .ok (.getfield 111, 3) := by decide +kernel
theorem dX9_custom_133 : decode cX9_custom 133 = .ok (.ireturn, 1) := by decide +kernel
theorem dX9_fault_0 : decode cX9_fault 0 = .ok (.iload_n 1, 1) := by decide +kernel
theorem dX9_fault_1 : decode cX9_fault 1 = .ok (.ifCond .ne 13, 3) := by decide +kernel
theorem dX9_fault_4 : decode cX9_fault 4 = .ok (.aload_n 0, 1) := by decide +kernel
theorem dX9_fault_5 : decode cX9_fault 5 = .ok (.getfield 7, 3) := by decide +kernel
theorem dX9_fault_8 : decode cX9_fault 8 = .ok (.bipush 8, 2) := by decide +kernel
theorem dX9_fault_10 : decode cX9_fault 10 = .ok (.iaload, 1) := by decide +kernel
theorem dX9_fault_11 : decode cX9_fault 11 = .ok (.goto 19, 3) := by decide +kernel
theorem dX9_fault_14 : decode cX9_fault 14 = .ok (.iload_n 1, 1) := by decide +kernel
theorem dX9_fault_15 : decode cX9_fault 15 = .ok (.iconst 1, 1) := by decide +kernel
theorem dX9_fault_16 : decode cX9_fault 16 = .ok (.if_icmp .ne 13, 3) := by decide +kernel
theorem dX9_fault_19 : decode cX9_fault 19 = .ok (.aload_n 0, 1) := by decide +kernel
theorem dX9_fault_20 : decode cX9_fault 20 = .ok (.getfield 7, 3) := by decide +kernel
theorem dX9_fault_23 : decode cX9_fault 23 = .ok (.bipush 9, 2) := by decide +kernel
theorem dX9_fault_25 : decode cX9_fault 25 = .ok (.iaload, 1) := by decide +kernel
theorem dX9_fault_26 : decode cX9_fault 26 = .ok (.goto 4, 3) := by decide +kernel
theorem dX9_fault_29 : decode cX9_fault 29 = .ok (.iconst (-1), 1) := by decide +kernel
theorem dX9_fault_30 : decode cX9_fault 30 = .ok (.ireturn, 1) := by decide +kernel
theorem dX9_isHouse_0 : decode cX9_isHouse 0 = .ok (.iload_n 1, 1) := by decide +kernel
theorem dX9_isHouse_1 : decode cX9_isHouse 1 = .ok (.iconst 0, 1) := by decide +kernel
theorem dX9_isHouse_2 : decode cX9_isHouse 2 = .ok (.aload_n 0, 1) := by decide +kernel
theorem dX9_isHouse_3 : decode cX9_isHouse 3 = .ok (.getfield 7, 3) := by decide +kernel
theorem dX9_isHouse_6 : decode cX9_isHouse 6 = .ok (.iconst 0, 1) := by decide +kernel
theorem dX9_isHouse_7 : decode cX9_isHouse 7 = .ok (.iaload, 1) := by decide +kernel
theorem dX9_isHouse_8 : decode cX9_isHouse 8 = .ok (.iconst 1, 1) := by decide +kernel
theorem dX9_isHouse_9 : decode cX9_isHouse 9 = .ok (.isub, 1) := by decide +kernel
theorem dX9_isHouse_10 : decode cX9_isHouse 10 = .ok (.invokestatic 103, 3) := by decide +kernel
theorem dX9_isHouse_13 : decode cX9_isHouse 13 = .ok (.ireturn, 1) := by decide +kernel
theorem dX9_of_0 : decode cX9_of 0 = .ok (.aload_n 0, 1) := by decide +kernel
theorem dX9_of_1 : decode cX9_of 1 = .ok (.getfield 7, 3) := by decide +kernel
theorem dX9_of_4 : decode cX9_of 4 = .ok (.bipush 60, 2) := by decide +kernel
theorem dX9_of_6 : decode cX9_of 6 = .ok (.bipush 30, 2) := by decide +kernel
theorem dX9_of_8 : decode cX9_of 8 = .ok (.iload_n 1, 1) := by decide +kernel
theorem dX9_of_9 : decode cX9_of 9 = .ok (.imul, 1) := by decide +kernel
theorem dX9_of_10 : decode cX9_of 10 = .ok (.iadd, 1) := by decide +kernel
theorem dX9_of_11 : decode cX9_of 11 = .ok (.iload_n 2, 1) := by decide +kernel
theorem dX9_of_12 : decode cX9_of 12 = .ok (.iadd, 1) := by decide +kernel
theorem dX9_of_13 : decode cX9_of 13 = .ok (.iaload, 1) := by decide +kernel
theorem dX9_of_14 : decode cX9_of 14 = .ok (.ireturn, 1) := by decide +kernel
theorem dX9_adds_0 : decode cX9_adds 0 = .ok (.aload_n 0, 1) := by decide +kernel
theorem dX9_adds_1 : decode cX9_adds 1 = .ok (.getfield 7, 3) := by decide +kernel
theorem dX9_adds_4 : decode cX9_adds 4 = .ok (.bipush 60, 2) := by decide +kernel
theorem dX9_adds_6 : decode cX9_adds 6 = .ok (.bipush 30, 2) := by decide +kernel
theorem dX9_adds_8 : decode cX9_adds 8 = .ok (.iload_n 1, 1) := by decide +kernel
theorem dX9_adds_9 : decode cX9_adds 9 = .ok (.imul, 1) := by decide +kernel
theorem dX9_adds_10 : decode cX9_adds 10 = .ok (.iadd, 1) := by decide +kernel
theorem dX9_adds_11 : decode cX9_adds 11 = .ok (.iload_n 2, 1) := by decide +kernel
theorem dX9_adds_12 : decode cX9_adds 12 = .ok (.iadd, 1) := by decide +kernel
theorem dX9_adds_13 : decode cX9_adds 13 = .ok (.dup2, 1) := by decide +kernel
theorem dX9_adds_14 : decode cX9_adds 14 = .ok (.iaload, 1) := by decide +kernel
theorem dX9_adds_15 : decode cX9_adds 15 = .ok (.iload_n 3, 1) := by decide +kernel
theorem dX9_adds_16 : decode cX9_adds 16 = .ok (.iadd, 1) := by decide +kernel
theorem dX9_adds_17 : decode cX9_adds 17 = .ok (.iastore, 1) := by decide +kernel
theorem dX9_adds_18 : decode cX9_adds 18 = .ok (.return_, 1) := by decide +kernel
theorem dX9_house_0 : decode cX9_house 0 = .ok (.aload_n 0, 1) := by decide +kernel
theorem dX9_house_1 : decode cX9_house 1 = .ok (.getfield 7, 3) := by decide +kernel
theorem dX9_house_4 : decode cX9_house 4 = .ok (.iconst 0, 1) := by decide +kernel
theorem dX9_house_5 : decode cX9_house 5 = .ok (.iaload, 1) := by decide +kernel
theorem dX9_house_6 : decode cX9_house 6 = .ok (.bipush 8, 2) := by decide +kernel
theorem dX9_house_8 : decode cX9_house 8 = .ok (.if_icmp .ne 5, 3) := by decide +kernel
theorem dX9_house_11 : decode cX9_house 11 = .ok (.iconst (-1), 1) := by decide +kernel
theorem dX9_house_12 : decode cX9_house 12 = .ok (.ireturn, 1) := by decide +kernel
theorem dX9_house_13 : decode cX9_house 13 = .ok (.iconst 0, 1) := by decide +kernel
theorem dX9_house_14 : decode cX9_house 14 = .ok (.istore_n 1, 1) := by decide +kernel
theorem dX9_house_15 : decode cX9_house 15 = .ok (.iload_n 1, 1) := by decide +kernel
theorem dX9_house_16 : decode cX9_house 16 = .ok (.bipush 30, 2) := by decide +kernel
theorem dX9_house_18 : decode cX9_house 18 = .ok (.if_icmp .ge 29, 3) := by decide +kernel
theorem dX9_house_21 : decode cX9_house 21 = .ok (.aload_n 0, 1) := by decide +kernel
theorem dX9_house_22 : decode cX9_house 22 = .ok (.getfield 7, 3) := by decide +kernel
theorem dX9_house_25 : decode cX9_house 25 = .ok (.bipush 60, 2) := by decide +kernel
theorem dX9_house_27 : decode cX9_house 27 = .ok (.bipush 30, 2) := by decide +kernel
theorem dX9_house_29 : decode cX9_house 29 = .ok (.aload_n 0, 1) := by decide +kernel
theorem dX9_house_30 : decode cX9_house 30 = .ok (.getfield 7, 3) := by decide +kernel
theorem dX9_house_33 : decode cX9_house 33 = .ok (.iconst 0, 1) := by decide +kernel
theorem dX9_house_34 : decode cX9_house 34 = .ok (.iaload, 1) := by decide +kernel
theorem dX9_house_35 : decode cX9_house 35 = .ok (.imul, 1) := by decide +kernel
theorem dX9_house_36 : decode cX9_house 36 = .ok (.iadd, 1) := by decide +kernel
theorem dX9_house_37 : decode cX9_house 37 = .ok (.iload_n 1, 1) := by decide +kernel
theorem dX9_house_38 : decode cX9_house 38 = .ok (.iadd, 1) := by decide +kernel
theorem dX9_house_39 : decode cX9_house 39 = .ok (.iconst 0, 1) := by decide +kernel
theorem dX9_house_40 : decode cX9_house 40 = .ok (.iastore, 1) := by decide +kernel
theorem dX9_house_41 : decode cX9_house 41 = .ok (.iinc 1 1, 3) := by decide +kernel
theorem dX9_house_44 : decode cX9_house 44 = .ok (.goto (-29), 3) := by decide +kernel
theorem dX9_house_47 : decode cX9_house 47 = .ok (.aload_n 0, 1) := by decide +kernel
theorem dX9_house_48 : decode cX9_house 48 = .ok (.getfield 7, 3) := by decide +kernel
theorem dX9_house_51 : decode cX9_house 51 = .ok (.iconst 0, 1) := by decide +kernel
theorem dX9_house_52 : decode cX9_house 52 = .ok (.dup2, 1) := by decide +kernel
theorem dX9_house_53 : decode cX9_house 53 = .ok (.iaload, 1) := by decide +kernel
theorem dX9_house_54 : decode cX9_house 54 = .ok (.iconst 1, 1) := by decide +kernel
theorem dX9_house_55 : decode cX9_house 55 = .ok (.iadd, 1) := by decide +kernel
theorem dX9_house_56 : decode cX9_house 56 = .ok (.iastore, 1) := by decide +kernel
theorem dX9_house_57 : decode cX9_house 57 = .ok (.aload_n 0, 1) := by decide +kernel
theorem dX9_house_58 : decode cX9_house 58 = .ok (.getfield 7, 3) := by decide +kernel
theorem dX9_house_61 : decode cX9_house 61 = .ok (.iconst 0, 1) := by decide +kernel
theorem dX9_house_62 : decode cX9_house 62 = .ok (.iaload, 1) := by decide +kernel
theorem dX9_house_63 : decode cX9_house 63 = .ok (.iconst 1, 1) := by decide +kernel
theorem dX9_house_64 : decode cX9_house 64 = .ok (.isub, 1) := by decide +kernel
theorem dX9_house_65 : decode cX9_house 65 = .ok (.ireturn, 1) := by decide +kernel
theorem dX9_shape_0 : decode cX9_shape 0 = .ok (.iload_n 1, 1) := by decide +kernel
theorem dX9_shape_1 : decode cX9_shape 1 = .ok (.iconst 0, 1) := by decide +kernel
theorem dX9_shape_2 : decode cX9_shape 2 = .ok (.iconst 4, 1) := by decide +kernel
theorem dX9_shape_3 : decode cX9_shape 3 = .ok (.invokestatic 103, 3) := by decide +kernel
theorem dX9_shape_6 : decode cX9_shape 6 = .ok (.ifCond .eq 25, 3) := by decide +kernel
theorem dX9_shape_9 : decode cX9_shape 9 = .ok (.iload_n 2, 1) := by decide +kernel
theorem dX9_shape_10 : decode cX9_shape 10 = .ok (.iconst 1, 1) := by decide +kernel
theorem dX9_shape_11 : decode cX9_shape 11 = .ok (.sipush 999, 3) := by decide +kernel
theorem dX9_shape_14 : decode cX9_shape 14 = .ok (.invokestatic 103, 3) := by decide +kernel
theorem dX9_shape_17 : decode cX9_shape 17 = .ok (.ifCond .eq 14, 3) := by decide +kernel
theorem dX9_shape_20 : decode cX9_shape 20 = .ok (.iload_n 3, 1) := by decide +kernel
theorem dX9_shape_21 : decode cX9_shape 21 = .ok (.iconst 1, 1) := by decide +kernel
theorem dX9_shape_22 : decode cX9_shape 22 = .ok (.sipush 999, 3) := by decide +kernel
theorem dX9_shape_25 : decode cX9_shape 25 = .ok (.invokestatic 103, 3) := by decide +kernel
theorem dX9_shape_28 : decode cX9_shape 28 = .ok (.ifCond .ne 5, 3) := by decide +kernel
theorem dX9_shape_31 : decode cX9_shape 31 = .ok (.iconst 0, 1) := by decide +kernel
theorem dX9_shape_32 : decode cX9_shape 32 = .ok (.ireturn, 1) := by decide +kernel
theorem dX9_shape_33 : decode cX9_shape 33 = .ok (.aload_n 0, 1) := by decide +kernel
theorem dX9_shape_34 : decode cX9_shape 34 = .ok (.getfield 7, 3) := by decide +kernel
theorem dX9_shape_37 : decode cX9_shape 37 = .ok (.bipush 40, 2) := by decide +kernel
theorem dX9_shape_39 : decode cX9_shape 39 = .ok (.iconst 2, 1) := by decide +kernel
theorem dX9_shape_40 : decode cX9_shape 40 = .ok (.iload_n 1, 1) := by decide +kernel
theorem dX9_shape_41 : decode cX9_shape 41 = .ok (.imul, 1) := by decide +kernel
theorem dX9_shape_42 : decode cX9_shape 42 = .ok (.iadd, 1) := by decide +kernel
theorem dX9_shape_43 : decode cX9_shape 43 = .ok (.iload_n 2, 1) := by decide +kernel
theorem dX9_shape_44 : decode cX9_shape 44 = .ok (.iastore, 1) := by decide +kernel
theorem dX9_shape_45 : decode cX9_shape 45 = .ok (.aload_n 0, 1) := by decide +kernel
theorem dX9_shape_46 : decode cX9_shape 46 = .ok (.getfield 7, 3) := by decide +kernel
theorem dX9_shape_49 : decode cX9_shape 49 = .ok (.bipush 40, 2) := by decide +kernel
theorem dX9_shape_51 : decode cX9_shape 51 = .ok (.iconst 2, 1) := by decide +kernel
theorem dX9_shape_52 : decode cX9_shape 52 = .ok (.iload_n 1, 1) := by decide +kernel
theorem dX9_shape_53 : decode cX9_shape 53 = .ok (.imul, 1) := by decide +kernel
theorem dX9_shape_54 : decode cX9_shape 54 = .ok (.iadd, 1) := by decide +kernel
theorem dX9_shape_55 : decode cX9_shape 55 = .ok (.iconst 1, 1) := by decide +kernel
theorem dX9_shape_56 : decode cX9_shape 56 = .ok (.iadd, 1) := by decide +kernel
theorem dX9_shape_57 : decode cX9_shape 57 = .ok (.iload_n 3, 1) := by decide +kernel
theorem dX9_shape_58 : decode cX9_shape 58 = .ok (.iastore, 1) := by decide +kernel
theorem dX9_shape_59 : decode cX9_shape 59 = .ok (.iconst 1, 1) := by decide +kernel
theorem dX9_shape_60 : decode cX9_shape 60 = .ok (.ireturn, 1) := by decide +kernel
theorem dX9_glaze_0 : decode cX9_glaze 0 = .ok (.iload_n 1, 1) := by decide +kernel
theorem dX9_glaze_1 : decode cX9_glaze 1 = .ok (.iconst 0, 1) := by decide +kernel
theorem dX9_glaze_2 : decode cX9_glaze 2 = .ok (.iconst 3, 1) := by decide +kernel
theorem dX9_glaze_3 : decode cX9_glaze 3 = .ok (.invokestatic 103, 3) := by decide +kernel
theorem dX9_glaze_6 : decode cX9_glaze 6 = .ok (.ifCond .eq 13, 3) := by decide +kernel
theorem dX9_glaze_9 : decode cX9_glaze 9 = .ok (.iload_n 2, 1) := by decide +kernel
theorem dX9_glaze_10 : decode cX9_glaze 10 = .ok (.iconst 0, 1) := by decide +kernel
theorem dX9_glaze_11 : decode cX9_glaze 11 = .ok (.bipush 10, 2) := by decide +kernel
theorem dX9_glaze_13 : decode cX9_glaze 13 = .ok (.invokestatic 103, 3) := by decide +kernel
theorem dX9_glaze_16 : decode cX9_glaze 16 = .ok (.ifCond .ne 5, 3) := by decide +kernel
theorem dX9_glaze_19 : decode cX9_glaze 19 = .ok (.iconst 0, 1) := by decide +kernel
theorem dX9_glaze_20 : decode cX9_glaze 20 = .ok (.ireturn, 1) := by decide +kernel
theorem dX9_glaze_21 : decode cX9_glaze 21 = .ok (.aload_n 0, 1) := by decide +kernel
theorem dX9_glaze_22 : decode cX9_glaze 22 = .ok (.getfield 7, 3) := by decide +kernel
theorem dX9_glaze_25 : decode cX9_glaze 25 = .ok (.bipush 50, 2) := by decide +kernel
theorem dX9_glaze_27 : decode cX9_glaze 27 = .ok (.iload_n 1, 1) := by decide +kernel
theorem dX9_glaze_28 : decode cX9_glaze 28 = .ok (.iadd, 1) := by decide +kernel
theorem dX9_glaze_29 : decode cX9_glaze 29 = .ok (.iload_n 2, 1) := by decide +kernel
theorem dX9_glaze_30 : decode cX9_glaze 30 = .ok (.iastore, 1) := by decide +kernel
theorem dX9_glaze_31 : decode cX9_glaze 31 = .ok (.iconst 1, 1) := by decide +kernel
theorem dX9_glaze_32 : decode cX9_glaze 32 = .ok (.ireturn, 1) := by decide +kernel
theorem dX9_its_0 : decode cX9_its 0 = .ok (.aload_n 0, 1) := by decide +kernel
theorem dX9_its_1 : decode cX9_its 1 = .ok (.getfield 7, 3) := by decide +kernel
theorem dX9_its_4 : decode cX9_its 4 = .ok (.sipush 300, 3) := by decide +kernel
theorem dX9_its_7 : decode cX9_its 7 = .ok (.bipush 8, 2) := by decide +kernel
theorem dX9_its_9 : decode cX9_its 9 = .ok (.iload_n 1, 1) := by decide +kernel
theorem dX9_its_10 : decode cX9_its 10 = .ok (.imul, 1) := by decide +kernel
theorem dX9_its_11 : decode cX9_its 11 = .ok (.iadd, 1) := by decide +kernel
theorem dX9_its_12 : decode cX9_its 12 = .ok (.iload_n 2, 1) := by decide +kernel
theorem dX9_its_13 : decode cX9_its 13 = .ok (.iadd, 1) := by decide +kernel
theorem dX9_its_14 : decode cX9_its 14 = .ok (.iaload, 1) := by decide +kernel
theorem dX9_its_15 : decode cX9_its 15 = .ok (.ireturn, 1) := by decide +kernel
theorem dX9_sets_0 : decode cX9_sets 0 = .ok (.aload_n 0, 1) := by decide +kernel
theorem dX9_sets_1 : decode cX9_sets 1 = .ok (.getfield 7, 3) := by decide +kernel
theorem dX9_sets_4 : decode cX9_sets 4 = .ok (.sipush 300, 3) := by decide +kernel
theorem dX9_sets_7 : decode cX9_sets 7 = .ok (.bipush 8, 2) := by decide +kernel
theorem dX9_sets_9 : decode cX9_sets 9 = .ok (.iload_n 1, 1) := by decide +kernel
theorem dX9_sets_10 : decode cX9_sets 10 = .ok (.imul, 1) := by decide +kernel
theorem dX9_sets_11 : decode cX9_sets 11 = .ok (.iadd, 1) := by decide +kernel
theorem dX9_sets_12 : decode cX9_sets 12 = .ok (.iload_n 2, 1) := by decide +kernel
theorem dX9_sets_13 : decode cX9_sets 13 = .ok (.iadd, 1) := by decide +kernel
theorem dX9_sets_14 : decode cX9_sets 14 = .ok (.iload_n 3, 1) := by decide +kernel
theorem dX9_sets_15 : decode cX9_sets 15 = .ok (.iastore, 1) := by decide +kernel
theorem dX9_sets_16 : decode cX9_sets 16 = .ok (.return_, 1) := by decide +kernel
theorem dX9_stands_0 : decode cX9_stands 0 = .ok (.aload_n 0, 1) := by decide +kernel
theorem dX9_stands_1 : decode cX9_stands 1 = .ok (.iload_n 1, 1) := by decide +kernel
theorem dX9_stands_2 : decode cX9_stands 2 = .ok (.iconst 4, 1) := by decide +kernel
theorem dX9_stands_3 : decode cX9_stands 3 = .ok (.invokevirtual 130, 3) := by decide +kernel
theorem dX9_stands_6 : decode cX9_stands 6 = .ok (.ifCond .lt 7, 3) := by decide +kernel
theorem dX9_stands_9 : decode cX9_stands 9 = .ok (.iconst 1, 1) := by decide +kernel
theorem dX9_stands_10 : decode cX9_stands 10 = .ok (.goto 4, 3) := by decide +kernel
theorem dX9_stands_13 : decode cX9_stands 13 = .ok (.iconst 0, 1) := by decide +kernel
theorem dX9_stands_14 : decode cX9_stands 14 = .ok (.ireturn, 1) := by decide +kernel
theorem dX9_standing_0 : decode cX9_standing 0 = .ok (.iconst 0, 1) := by decide +kernel
theorem dX9_standing_1 : decode cX9_standing 1 = .ok (.istore_n 1, 1) := by decide +kernel
theorem dX9_standing_2 : decode cX9_standing 2 = .ok (.iconst 0, 1) := by decide +kernel
theorem dX9_standing_3 : decode cX9_standing 3 = .ok (.istore_n 2, 1) := by decide +kernel
theorem dX9_standing_4 : decode cX9_standing 4 = .ok (.iload_n 2, 1) := by decide +kernel
theorem dX9_standing_5 : decode cX9_standing 5 = .ok (.aload_n 0, 1) := by decide +kernel
theorem dX9_standing_6 : decode cX9_standing 6 = .ok (.getfield 7, 3) := by decide +kernel
theorem dX9_standing_9 : decode cX9_standing 9 = .ok (.iconst 1, 1) := by decide +kernel
theorem dX9_standing_10 : decode cX9_standing 10 = .ok (.iaload, 1) := by decide +kernel
theorem dX9_standing_11 : decode cX9_standing 11 = .ok (.if_icmp .ge 25, 3) := by decide +kernel
theorem dX9_standing_14 : decode cX9_standing 14 = .ok (.iload_n 1, 1) := by decide +kernel
theorem dX9_standing_15 : decode cX9_standing 15 = .ok (.aload_n 0, 1) := by decide +kernel
theorem dX9_standing_16 : decode cX9_standing 16 = .ok (.iload_n 2, 1) := by decide +kernel
theorem dX9_standing_17 : decode cX9_standing 17 = .ok (.invokevirtual 134, 3) := by decide +kernel
theorem dX9_standing_20 : decode cX9_standing 20 = .ok (.ifCond .eq 7, 3) := by decide +kernel
theorem dX9_standing_23 : decode cX9_standing 23 = .ok (.iconst 1, 1) := by decide +kernel
theorem dX9_standing_24 : decode cX9_standing 24 = .ok (.goto 4, 3) := by decide +kernel
theorem dX9_standing_27 : decode cX9_standing 27 = .ok (.iconst 0, 1) := by decide +kernel
theorem dX9_standing_28 : decode cX9_standing 28 = .ok (.iadd, 1) := by decide +kernel
theorem dX9_standing_29 : decode cX9_standing 29 = .ok (.istore_n 1, 1) := by decide +kernel
theorem dX9_standing_30 : decode cX9_standing 30 = .ok (.iinc 2 1, 3) := by decide +kernel
theorem dX9_standing_33 : decode cX9_standing 33 = .ok (.goto (-29), 3) := by decide +kernel
theorem dX9_standing_36 : decode cX9_standing 36 = .ok (.iload_n 1, 1) := by decide +kernel
theorem dX9_standing_37 : decode cX9_standing 37 = .ok (.ireturn, 1) := by decide +kernel
theorem dX9_kiln_0 : decode cX9_kiln 0 = .ok (.iload_n 1, 1) := by decide +kernel
theorem dX9_kiln_1 : decode cX9_kiln 1 = .ok (.iconst 2, 1) := by decide +kernel
theorem dX9_kiln_2 : decode cX9_kiln 2 = .ok (.bipush 6, 2) := by decide +kernel
theorem dX9_kiln_4 : decode cX9_kiln 4 = .ok (.invokestatic 103, 3) := by decide +kernel
theorem dX9_kiln_7 : decode cX9_kiln 7 = .ok (.ifCond .eq 10, 3) := by decide +kernel
theorem dX9_kiln_10 : decode cX9_kiln 10 = .ok (.aload_n 0, 1) := by decide +kernel
theorem dX9_kiln_11 : decode cX9_kiln 11 = .ok (.invokevirtual 137, 3) := by decide +kernel
theorem dX9_kiln_14 : decode cX9_kiln 14 = .ok (.ifCond .le 5, 3) := by decide +kernel
theorem dX9_kiln_17 : decode cX9_kiln 17 = .ok (.iconst 0, 1) := by decide +kernel
theorem dX9_kiln_18 : decode cX9_kiln 18 = .ok (.ireturn, 1) := by decide +kernel
theorem dX9_kiln_19 : decode cX9_kiln 19 = .ok (.aload_n 0, 1) := by decide +kernel
theorem dX9_kiln_20 : decode cX9_kiln 20 = .ok (.iload_n 1, 1) := by decide +kernel
theorem dX9_kiln_21 : decode cX9_kiln 21 = .ok (.invokevirtual 26, 3) := by decide +kernel
theorem dX9_kiln_24 : decode cX9_kiln 24 = .ok (.iconst 1, 1) := by decide +kernel
theorem dX9_kiln_25 : decode cX9_kiln 25 = .ok (.ireturn, 1) := by decide +kernel
theorem dX9_isPlace_0 : decode cX9_isPlace 0 = .ok (.iload_n 1, 1) := by decide +kernel
theorem dX9_isPlace_1 : decode cX9_isPlace 1 = .ok (.iconst 0, 1) := by decide +kernel
theorem dX9_isPlace_2 : decode cX9_isPlace 2 = .ok (.aload_n 0, 1) := by decide +kernel
theorem dX9_isPlace_3 : decode cX9_isPlace 3 = .ok (.getfield 7, 3) := by decide +kernel
theorem dX9_isPlace_6 : decode cX9_isPlace 6 = .ok (.iconst 2, 1) := by decide +kernel
theorem dX9_isPlace_7 : decode cX9_isPlace 7 = .ok (.iaload, 1) := by decide +kernel
theorem dX9_isPlace_8 : decode cX9_isPlace 8 = .ok (.iconst 1, 1) := by decide +kernel
theorem dX9_isPlace_9 : decode cX9_isPlace 9 = .ok (.isub, 1) := by decide +kernel
theorem dX9_isPlace_10 : decode cX9_isPlace 10 = .ok (.invokestatic 103, 3) := by decide +kernel
theorem dX9_isPlace_13 : decode cX9_isPlace 13 = .ok (.ifCond .eq 16, 3) := by decide +kernel
theorem dX9_isPlace_16 : decode cX9_isPlace 16 = .ok (.iload_n 2, 1) := by decide +kernel
theorem dX9_isPlace_17 : decode cX9_isPlace 17 = .ok (.iconst 0, 1) := by decide +kernel
theorem dX9_isPlace_18 : decode cX9_isPlace 18 = .ok (.iconst 3, 1) := by decide +kernel
theorem dX9_isPlace_19 : decode cX9_isPlace 19 = .ok (.invokestatic 103, 3) := by decide +kernel
theorem dX9_isPlace_22 : decode cX9_isPlace 22 = .ok (.ifCond .eq 7, 3) := by decide +kernel
theorem dX9_isPlace_25 : decode cX9_isPlace 25 = .ok (.iconst 1, 1) := by decide +kernel
theorem dX9_isPlace_26 : decode cX9_isPlace 26 = .ok (.goto 4, 3) := by decide +kernel
theorem dX9_isPlace_29 : decode cX9_isPlace 29 = .ok (.iconst 0, 1) := by decide +kernel
theorem dX9_isPlace_30 : decode cX9_isPlace 30 = .ok (.ireturn, 1) := by decide +kernel
theorem dX9_value_0 : decode cX9_value 0 = .ok (.aload_n 0, 1) := by decide +kernel
theorem dX9_value_1 : decode cX9_value 1 = .ok (.iload_n 1, 1) := by decide +kernel
theorem dX9_value_2 : decode cX9_value 2 = .ok (.iload_n 2, 1) := by decide +kernel
theorem dX9_value_3 : decode cX9_value 3 = .ok (.invokevirtual 140, 3) := by decide +kernel
theorem dX9_value_6 : decode cX9_value 6 = .ok (.ifCond .eq 13, 3) := by decide +kernel
theorem dX9_value_9 : decode cX9_value 9 = .ok (.iload_n 3, 1) := by decide +kernel
theorem dX9_value_10 : decode cX9_value 10 = .ok (.iconst 1, 1) := by decide +kernel
theorem dX9_value_11 : decode cX9_value 11 = .ok (.bipush 99, 2) := by decide +kernel
theorem dX9_value_13 : decode cX9_value 13 = .ok (.invokestatic 103, 3) := by decide +kernel
theorem dX9_value_16 : decode cX9_value 16 = .ok (.ifCond .ne 5, 3) := by decide +kernel
theorem dX9_value_19 : decode cX9_value 19 = .ok (.iconst 0, 1) := by decide +kernel
theorem dX9_value_20 : decode cX9_value 20 = .ok (.ireturn, 1) := by decide +kernel
theorem dX9_value_21 : decode cX9_value 21 = .ok (.aload_n 0, 1) := by decide +kernel
theorem dX9_value_22 : decode cX9_value 22 = .ok (.getfield 7, 3) := by decide +kernel
theorem dX9_value_25 : decode cX9_value 25 = .ok (.bipush 16, 2) := by decide +kernel
theorem dX9_value_27 : decode cX9_value 27 = .ok (.iconst 4, 1) := by decide +kernel
theorem dX9_value_28 : decode cX9_value 28 = .ok (.iload_n 1, 1) := by decide +kernel
theorem dX9_value_29 : decode cX9_value 29 = .ok (.imul, 1) := by decide +kernel
theorem dX9_value_30 : decode cX9_value 30 = .ok (.iadd, 1) := by decide +kernel
theorem dX9_value_31 : decode cX9_value 31 = .ok (.iload_n 2, 1) := by decide +kernel
theorem dX9_value_32 : decode cX9_value 32 = .ok (.iadd, 1) := by decide +kernel
theorem dX9_value_33 : decode cX9_value 33 = .ok (.iload_n 3, 1) := by decide +kernel
theorem dX9_value_34 : decode cX9_value 34 = .ok (.iastore, 1) := by decide +kernel
theorem dX9_value_35 : decode cX9_value 35 = .ok (.iconst 1, 1) := by decide +kernel
theorem dX9_value_36 : decode cX9_value 36 = .ok (.ireturn, 1) := by decide +kernel
theorem dX9_pot_0 : decode cX9_pot 0 = .ok (.aload_n 0, 1) := by decide +kernel
theorem dX9_pot_1 : decode cX9_pot 1 = .ok (.getfield 7, 3) := by decide +kernel
theorem dX9_pot_4 : decode cX9_pot 4 = .ok (.iconst 1, 1) := by decide +kernel
theorem dX9_pot_5 : decode cX9_pot 5 = .ok (.iaload, 1) := by decide +kernel
theorem dX9_pot_6 : decode cX9_pot 6 = .ok (.bipush 24, 2) := by decide +kernel
theorem dX9_pot_8 : decode cX9_pot 8 = .ok (.if_icmp .eq 40, 3) := by decide +kernel
theorem dX9_pot_11 : decode cX9_pot 11 = .ok (.aload_n 0, 1) := by decide +kernel
theorem dX9_pot_12 : decode cX9_pot 12 = .ok (.iload_n 1, 1) := by decide +kernel
theorem dX9_pot_13 : decode cX9_pot 13 = .ok (.invokevirtual 144, 3) := by decide +kernel
theorem dX9_pot_16 : decode cX9_pot 16 = .ok (.ifCond .eq 32, 3) := by decide +kernel
theorem dX9_pot_19 : decode cX9_pot 19 = .ok (.iload_n 2, 1) := by decide +kernel
theorem dX9_pot_20 : decode cX9_pot 20 = .ok (.iconst 0, 1) := by decide +kernel
theorem dX9_pot_21 : decode cX9_pot 21 = .ok (.iconst 4, 1) := by decide +kernel
theorem dX9_pot_22 : decode cX9_pot 22 = .ok (.invokestatic 103, 3) := by decide +kernel
theorem dX9_pot_25 : decode cX9_pot 25 = .ok (.ifCond .eq 23, 3) := by decide +kernel
theorem dX9_pot_28 : decode cX9_pot 28 = .ok (.iload_n 3, 1) := by decide +kernel
theorem dX9_pot_29 : decode cX9_pot 29 = .ok (.iconst 0, 1) := by decide +kernel
theorem dX9_pot_30 : decode cX9_pot 30 = .ok (.iconst 3, 1) := by decide +kernel
theorem dX9_pot_31 : decode cX9_pot 31 = .ok (.invokestatic 103, 3) := by decide +kernel
theorem dX9_pot_34 : decode cX9_pot 34 = .ok (.ifCond .eq 14, 3) := by decide +kernel
theorem dX9_pot_37 : decode cX9_pot 37 = .ok (.iload 4, 2) := by decide +kernel
theorem dX9_pot_39 : decode cX9_pot 39 = .ok (.iconst 0, 1) := by decide +kernel
theorem dX9_pot_40 : decode cX9_pot 40 = .ok (.bipush 9, 2) := by decide +kernel
theorem dX9_pot_42 : decode cX9_pot 42 = .ok (.invokestatic 103, 3) := by decide +kernel
theorem dX9_pot_45 : decode cX9_pot 45 = .ok (.ifCond .ne 5, 3) := by decide +kernel
theorem dX9_pot_48 : decode cX9_pot 48 = .ok (.iconst (-1), 1) := by decide +kernel
theorem dX9_pot_49 : decode cX9_pot 49 = .ok (.ireturn, 1) := by decide +kernel
theorem dX9_pot_50 : decode cX9_pot 50 = .ok (.aload_n 0, 1) := by decide +kernel
theorem dX9_pot_51 : decode cX9_pot 51 = .ok (.getfield 7, 3) := by decide +kernel
theorem dX9_pot_54 : decode cX9_pot 54 = .ok (.iconst 1, 1) := by decide +kernel
theorem dX9_pot_55 : decode cX9_pot 55 = .ok (.iaload, 1) := by decide +kernel
theorem dX9_pot_56 : decode cX9_pot 56 = .ok (.istore 5, 2) := by decide +kernel
theorem dX9_pot_58 : decode cX9_pot 58 = .ok (.aload_n 0, 1) := by decide +kernel
theorem dX9_pot_59 : decode cX9_pot 59 = .ok (.getfield 7, 3) := by decide +kernel
theorem dX9_pot_62 : decode cX9_pot 62 = .ok (.iconst 1, 1) := by decide +kernel
theorem dX9_pot_63 : decode cX9_pot 63 = .ok (.dup2, 1) := by decide +kernel
theorem dX9_pot_64 : decode cX9_pot 64 = .ok (.iaload, 1) := by decide +kernel
theorem dX9_pot_65 : decode cX9_pot 65 = .ok (.iconst 1, 1) := by decide +kernel
theorem dX9_pot_66 : decode cX9_pot 66 = .ok (.iadd, 1) := by decide +kernel
theorem dX9_pot_67 : decode cX9_pot 67 = .ok (.iastore, 1) := by decide +kernel
theorem dX9_pot_68 : decode cX9_pot 68 = .ok (.iconst 0, 1) := by decide +kernel
theorem dX9_pot_69 : decode cX9_pot 69 = .ok (.istore 6, 2) := by decide +kernel
theorem dX9_pot_71 : decode cX9_pot 71 = .ok (.iload 6, 2) := by decide +kernel
theorem dX9_pot_73 : decode cX9_pot 73 = .ok (.bipush 8, 2) := by decide +kernel
theorem dX9_pot_75 : decode cX9_pot 75 = .ok (.if_icmp .ge 18, 3) := by decide +kernel
theorem dX9_pot_78 : decode cX9_pot 78 = .ok (.aload_n 0, 1) := by decide +kernel
theorem dX9_pot_79 : decode cX9_pot 79 = .ok (.iload 5, 2) := by decide +kernel
theorem dX9_pot_81 : decode cX9_pot 81 = .ok (.iload 6, 2) := by decide +kernel
theorem dX9_pot_83 : decode cX9_pot 83 = .ok (.iconst 0, 1) := by decide +kernel
theorem dX9_pot_84 : decode cX9_pot 84 = .ok (.invokevirtual 147, 3) := by decide +kernel
theorem dX9_pot_87 : decode cX9_pot 87 = .ok (.iinc 6 1, 3) := by decide +kernel
theorem dX9_pot_90 : decode cX9_pot 90 = .ok (.goto (-19), 3) := by decide +kernel
theorem dX9_pot_93 : decode cX9_pot 93 = .ok (.aload_n 0, 1) := by decide +kernel
theorem dX9_pot_94 : decode cX9_pot 94 = .ok (.iload 5, 2) := by decide +kernel
theorem dX9_pot_96 : decode cX9_pot 96 = .ok (.iconst 0, 1) := by decide +kernel
theorem dX9_pot_97 : decode cX9_pot 97 = .ok (.iload_n 1, 1) := by decide +kernel
theorem dX9_pot_98 : decode cX9_pot 98 = .ok (.invokevirtual 147, 3) := by decide +kernel
theorem dX9_pot_101 : decode cX9_pot 101 = .ok (.aload_n 0, 1) := by decide +kernel
theorem dX9_pot_102 : decode cX9_pot 102 = .ok (.iload 5, 2) := by decide +kernel
theorem dX9_pot_104 : decode cX9_pot 104 = .ok (.iconst 1, 1) := by decide +kernel
theorem dX9_pot_105 : decode cX9_pot 105 = .ok (.iload_n 2, 1) := by decide +kernel
theorem dX9_pot_106 : decode cX9_pot 106 = .ok (.invokevirtual 147, 3) := by decide +kernel
theorem dX9_pot_109 : decode cX9_pot 109 = .ok (.aload_n 0, 1) := by decide +kernel
theorem dX9_pot_110 : decode cX9_pot 110 = .ok (.iload 5, 2) := by decide +kernel
theorem dX9_pot_112 : decode cX9_pot 112 = .ok (.iconst 2, 1) := by decide +kernel
theorem dX9_pot_113 : decode cX9_pot 113 = .ok (.iload_n 3, 1) := by decide +kernel
theorem dX9_pot_114 : decode cX9_pot 114 = .ok (.invokevirtual 147, 3) := by decide +kernel
theorem dX9_pot_117 : decode cX9_pot 117 = .ok (.aload_n 0, 1) := by decide +kernel
theorem dX9_pot_118 : decode cX9_pot 118 = .ok (.iload 5, 2) := by decide +kernel
theorem dX9_pot_120 : decode cX9_pot 120 = .ok (.iconst 3, 1) := by decide +kernel
theorem dX9_pot_121 : decode cX9_pot 121 = .ok (.iload 4, 2) := by decide +kernel
theorem dX9_pot_123 : decode cX9_pot 123 = .ok (.invokevirtual 147, 3) := by decide +kernel
theorem dX9_pot_126 : decode cX9_pot 126 = .ok (.aload_n 0, 1) := by decide +kernel
theorem dX9_pot_127 : decode cX9_pot 127 = .ok (.iload 5, 2) := by decide +kernel
theorem dX9_pot_129 : decode cX9_pot 129 = .ok (.iconst 4, 1) := by decide +kernel
theorem dX9_pot_130 : decode cX9_pot 130 = .ok (.iconst (-1), 1) := by decide +kernel
theorem dX9_pot_131 : decode cX9_pot 131 = .ok (.invokevirtual 147, 3) := by decide +kernel
theorem dX9_pot_134 : decode cX9_pot 134 = .ok (.aload_n 0, 1) := by decide +kernel
theorem dX9_pot_135 : decode cX9_pot 135 = .ok (.getfield 7, 3) := by decide +kernel
theorem dX9_pot_138 : decode cX9_pot 138 = .ok (.bipush 60, 2) := by decide +kernel
theorem dX9_pot_140 : decode cX9_pot 140 = .ok (.bipush 30, 2) := by decide +kernel
theorem dX9_pot_142 : decode cX9_pot 142 = .ok (.iload_n 1, 1) := by decide +kernel
theorem dX9_pot_143 : decode cX9_pot 143 = .ok (.imul, 1) := by decide +kernel
theorem dX9_pot_144 : decode cX9_pot 144 = .ok (.iadd, 1) := by decide +kernel
theorem dX9_pot_145 : decode cX9_pot 145 = .ok (.iconst 2, 1) := by decide +kernel
theorem dX9_pot_146 : decode cX9_pot 146 = .ok (.iadd, 1) := by decide +kernel
theorem dX9_pot_147 : decode cX9_pot 147 = .ok (.iconst 1, 1) := by decide +kernel
theorem dX9_pot_148 : decode cX9_pot 148 = .ok (.iastore, 1) := by decide +kernel
theorem dX9_pot_149 : decode cX9_pot 149 = .ok (.iload 5, 2) := by decide +kernel
theorem dX9_pot_151 : decode cX9_pot 151 = .ok (.ireturn, 1) := by decide +kernel
theorem dX9_dry_0 : decode cX9_dry 0 = .ok (.iload_n 1, 1) := by decide +kernel
theorem dX9_dry_1 : decode cX9_dry 1 = .ok (.iconst 1, 1) := by decide +kernel
theorem dX9_dry_2 : decode cX9_dry 2 = .ok (.bipush 9, 2) := by decide +kernel
theorem dX9_dry_4 : decode cX9_dry 4 = .ok (.invokestatic 103, 3) := by decide +kernel
theorem dX9_dry_7 : decode cX9_dry 7 = .ok (.ifCond .ne 5, 3) := by decide +kernel
theorem dX9_dry_10 : decode cX9_dry 10 = .ok (.iconst 0, 1) := by decide +kernel
theorem dX9_dry_11 : decode cX9_dry 11 = .ok (.ireturn, 1) := by decide +kernel
theorem dX9_dry_12 : decode cX9_dry 12 = .ok (.iconst 0, 1) := by decide +kernel
theorem dX9_dry_13 : decode cX9_dry 13 = .ok (.istore_n 2, 1) := by decide +kernel
theorem dX9_dry_14 : decode cX9_dry 14 = .ok (.iload_n 2, 1) := by decide +kernel
theorem dX9_dry_15 : decode cX9_dry 15 = .ok (.aload_n 0, 1) := by decide +kernel
theorem dX9_dry_16 : decode cX9_dry 16 = .ok (.getfield 7, 3) := by decide +kernel
theorem dX9_dry_19 : decode cX9_dry 19 = .ok (.iconst 1, 1) := by decide +kernel
theorem dX9_dry_20 : decode cX9_dry 20 = .ok (.iaload, 1) := by decide +kernel
theorem dX9_dry_21 : decode cX9_dry 21 = .ok (.if_icmp .ge 45, 3) := by decide +kernel
theorem dX9_dry_24 : decode cX9_dry 24 = .ok (.aload_n 0, 1) := by decide +kernel
theorem dX9_dry_25 : decode cX9_dry 25 = .ok (.iload_n 2, 1) := by decide +kernel
theorem dX9_dry_26 : decode cX9_dry 26 = .ok (.invokevirtual 134, 3) := by decide +kernel
theorem dX9_dry_29 : decode cX9_dry 29 = .ok (.ifCond .ne 31, 3) := by decide +kernel
theorem dX9_dry_32 : decode cX9_dry 32 = .ok (.aload_n 0, 1) := by decide +kernel
theorem dX9_dry_33 : decode cX9_dry 33 = .ok (.iload_n 2, 1) := by decide +kernel
theorem dX9_dry_34 : decode cX9_dry 34 = .ok (.iconst 3, 1) := by decide +kernel
theorem dX9_dry_35 : decode cX9_dry 35 = .ok (.aload_n 0, 1) := by decide +kernel
theorem dX9_dry_36 : decode cX9_dry 36 = .ok (.iload_n 2, 1) := by decide +kernel
theorem dX9_dry_37 : decode cX9_dry 37 = .ok (.iconst 3, 1) := by decide +kernel
theorem dX9_dry_38 : decode cX9_dry 38 = .ok (.invokevirtual 130, 3) := by decide +kernel
theorem dX9_dry_41 : decode cX9_dry 41 = .ok (.iload_n 1, 1) := by decide +kernel
theorem dX9_dry_42 : decode cX9_dry 42 = .ok (.if_icmp .le 14, 3) := by decide +kernel
theorem dX9_dry_45 : decode cX9_dry 45 = .ok (.aload_n 0, 1) := by decide +kernel
theorem dX9_dry_46 : decode cX9_dry 46 = .ok (.iload_n 2, 1) := by decide +kernel
theorem dX9_dry_47 : decode cX9_dry 47 = .ok (.iconst 3, 1) := by decide +kernel
theorem dX9_dry_48 : decode cX9_dry 48 = .ok (.invokevirtual 130, 3) := by decide +kernel
theorem dX9_dry_51 : decode cX9_dry 51 = .ok (.iload_n 1, 1) := by decide +kernel
theorem dX9_dry_52 : decode cX9_dry 52 = .ok (.isub, 1) := by decide +kernel
theorem dX9_dry_53 : decode cX9_dry 53 = .ok (.goto 4, 3) := by decide +kernel
theorem dX9_dry_56 : decode cX9_dry 56 = .ok (.iconst 0, 1) := by decide +kernel
theorem dX9_dry_57 : decode cX9_dry 57 = .ok (.invokevirtual 147, 3) := by decide +kernel
theorem dX9_dry_60 : decode cX9_dry 60 = .ok (.iinc 2 1, 3) := by decide +kernel
theorem dX9_dry_63 : decode cX9_dry 63 = .ok (.goto (-49), 3) := by decide +kernel
theorem dX9_dry_66 : decode cX9_dry 66 = .ok (.iconst 1, 1) := by decide +kernel
end
section
theorem dX9_dry_67 : decode cX9_dry 67 = .ok (.ireturn, 1) := by decide +kernel
theorem dX9_greatestHeat_0 : decode cX9_greatestHeat 0 = .ok (.aload_n 0, 1) := by decide +kernel
theorem dX9_greatestHeat_1 : decode cX9_greatestHeat 1 = .ok (.getfield 7, 3) := by decide +kernel
theorem dX9_greatestHeat_4 : decode cX9_greatestHeat 4 = .ok (.bipush 10, 2) := by decide +kernel
theorem dX9_greatestHeat_6 : decode cX9_greatestHeat 6 = .ok (.iaload, 1) := by decide +kernel
theorem dX9_greatestHeat_7 : decode cX9_greatestHeat 7 = .ok (.istore_n 1, 1) := by decide +kernel
theorem dX9_greatestHeat_8 : decode cX9_greatestHeat 8 = .ok (.iconst 1, 1) := by decide +kernel
theorem dX9_greatestHeat_9 : decode cX9_greatestHeat 9 = .ok (.istore_n 2, 1) := by decide +kernel
theorem dX9_greatestHeat_10 : decode cX9_greatestHeat 10 = .ok (.iload_n 2, 1) := by decide +kernel
theorem dX9_greatestHeat_11 : decode cX9_greatestHeat 11 = .ok (.aload_n 0, 1) := by decide +kernel
theorem dX9_greatestHeat_12 : decode cX9_greatestHeat 12 = .ok (.getfield 7, 3) := by decide +kernel
theorem dX9_greatestHeat_15 : decode cX9_greatestHeat 15 = .ok (.iconst 2, 1) := by decide +kernel
theorem dX9_greatestHeat_16 : decode cX9_greatestHeat 16 = .ok (.iaload, 1) := by decide +kernel
theorem dX9_greatestHeat_17 : decode cX9_greatestHeat 17 = .ok (.if_icmp .ge 32, 3) := by decide +kernel
theorem dX9_greatestHeat_20 : decode cX9_greatestHeat 20 = .ok (.aload_n 0, 1) := by decide +kernel
theorem dX9_greatestHeat_21 : decode cX9_greatestHeat 21 = .ok (.getfield 7, 3) := by decide +kernel
theorem dX9_greatestHeat_24 : decode cX9_greatestHeat 24 = .ok (.bipush 10, 2) := by decide +kernel
theorem dX9_greatestHeat_26 : decode cX9_greatestHeat 26 = .ok (.iload_n 2, 1) := by decide +kernel
theorem dX9_greatestHeat_27 : decode cX9_greatestHeat 27 = .ok (.iadd, 1) := by decide +kernel
theorem dX9_greatestHeat_28 : decode cX9_greatestHeat 28 = .ok (.iaload, 1) := by decide +kernel
theorem dX9_greatestHeat_29 : decode cX9_greatestHeat 29 = .ok (.iload_n 1, 1) := by decide +kernel
theorem dX9_greatestHeat_30 : decode cX9_greatestHeat 30 = .ok (.if_icmp .le 13, 3) := by decide +kernel
theorem dX9_greatestHeat_33 : decode cX9_greatestHeat 33 = .ok (.aload_n 0, 1) := by decide +kernel
theorem dX9_greatestHeat_34 : decode cX9_greatestHeat 34 = .ok (.getfield 7, 3) := by decide +kernel
theorem dX9_greatestHeat_37 : decode cX9_greatestHeat 37 = .ok (.bipush 10, 2) := by decide +kernel
theorem dX9_greatestHeat_39 : decode cX9_greatestHeat 39 = .ok (.iload_n 2, 1) := by decide +kernel
theorem dX9_greatestHeat_40 : decode cX9_greatestHeat 40 = .ok (.iadd, 1) := by decide +kernel
theorem dX9_greatestHeat_41 : decode cX9_greatestHeat 41 = .ok (.iaload, 1) := by decide +kernel
theorem dX9_greatestHeat_42 : decode cX9_greatestHeat 42 = .ok (.istore_n 1, 1) := by decide +kernel
theorem dX9_greatestHeat_43 : decode cX9_greatestHeat 43 = .ok (.iinc 2 1, 3) := by decide +kernel
theorem dX9_greatestHeat_46 : decode cX9_greatestHeat 46 = .ok (.goto (-36), 3) := by decide +kernel
theorem dX9_greatestHeat_49 : decode cX9_greatestHeat 49 = .ok (.iload_n 1, 1) := by decide +kernel
theorem dX9_greatestHeat_50 : decode cX9_greatestHeat 50 = .ok (.ireturn, 1) := by decide +kernel
theorem dX9_at0_0 : decode cX9_at0 0 = .ok (.iconst 0, 1) := by decide +kernel
theorem dX9_at0_1 : decode cX9_at0 1 = .ok (.istore_n 2, 1) := by decide +kernel
theorem dX9_at0_2 : decode cX9_at0 2 = .ok (.iload_n 2, 1) := by decide +kernel
theorem dX9_at0_3 : decode cX9_at0 3 = .ok (.aload_n 0, 1) := by decide +kernel
theorem dX9_at0_4 : decode cX9_at0 4 = .ok (.getfield 7, 3) := by decide +kernel
theorem dX9_at0_7 : decode cX9_at0 7 = .ok (.iconst 1, 1) := by decide +kernel
theorem dX9_at0_8 : decode cX9_at0 8 = .ok (.iaload, 1) := by decide +kernel
theorem dX9_at0_9 : decode cX9_at0 9 = .ok (.if_icmp .ge 21, 3) := by decide +kernel
theorem dX9_at0_12 : decode cX9_at0 12 = .ok (.aload_n 0, 1) := by decide +kernel
theorem dX9_at0_13 : decode cX9_at0 13 = .ok (.iload_n 2, 1) := by decide +kernel
theorem dX9_at0_14 : decode cX9_at0 14 = .ok (.iconst 4, 1) := by decide +kernel
theorem dX9_at0_15 : decode cX9_at0 15 = .ok (.invokevirtual 130, 3) := by decide +kernel
theorem dX9_at0_18 : decode cX9_at0 18 = .ok (.iload_n 1, 1) := by decide +kernel
theorem dX9_at0_19 : decode cX9_at0 19 = .ok (.if_icmp .ne 5, 3) := by decide +kernel
theorem dX9_at0_22 : decode cX9_at0 22 = .ok (.iload_n 2, 1) := by decide +kernel
theorem dX9_at0_23 : decode cX9_at0 23 = .ok (.ireturn, 1) := by decide +kernel
theorem dX9_at0_24 : decode cX9_at0 24 = .ok (.iinc 2 1, 3) := by decide +kernel
theorem dX9_at0_27 : decode cX9_at0 27 = .ok (.goto (-25), 3) := by decide +kernel
theorem dX9_at0_30 : decode cX9_at0 30 = .ok (.iconst (-1), 1) := by decide +kernel
theorem dX9_at0_31 : decode cX9_at0 31 = .ok (.ireturn, 1) := by decide +kernel
theorem dX9_bestPlace_0 : decode cX9_bestPlace 0 = .ok (.iconst (-1), 1) := by decide +kernel
theorem dX9_bestPlace_1 : decode cX9_bestPlace 1 = .ok (.istore_n 1, 1) := by decide +kernel
theorem dX9_bestPlace_2 : decode cX9_bestPlace 2 = .ok (.iconst 0, 1) := by decide +kernel
theorem dX9_bestPlace_3 : decode cX9_bestPlace 3 = .ok (.istore_n 2, 1) := by decide +kernel
theorem dX9_bestPlace_4 : decode cX9_bestPlace 4 = .ok (.iload_n 2, 1) := by decide +kernel
theorem dX9_bestPlace_5 : decode cX9_bestPlace 5 = .ok (.iconst 4, 1) := by decide +kernel
theorem dX9_bestPlace_6 : decode cX9_bestPlace 6 = .ok (.aload_n 0, 1) := by decide +kernel
theorem dX9_bestPlace_7 : decode cX9_bestPlace 7 = .ok (.getfield 7, 3) := by decide +kernel
theorem dX9_bestPlace_10 : decode cX9_bestPlace 10 = .ok (.iconst 2, 1) := by decide +kernel
theorem dX9_bestPlace_11 : decode cX9_bestPlace 11 = .ok (.iaload, 1) := by decide +kernel
theorem dX9_bestPlace_12 : decode cX9_bestPlace 12 = .ok (.imul, 1) := by decide +kernel
theorem dX9_bestPlace_13 : decode cX9_bestPlace 13 = .ok (.if_icmp .ge 44, 3) := by decide +kernel
theorem dX9_bestPlace_16 : decode cX9_bestPlace 16 = .ok (.aload_n 0, 1) := by decide +kernel
theorem dX9_bestPlace_17 : decode cX9_bestPlace 17 = .ok (.iload_n 2, 1) := by decide +kernel
theorem dX9_bestPlace_18 : decode cX9_bestPlace 18 = .ok (.invokevirtual 151, 3) := by decide +kernel
theorem dX9_bestPlace_21 : decode cX9_bestPlace 21 = .ok (.ifCond .ge 30, 3) := by decide +kernel
theorem dX9_bestPlace_24 : decode cX9_bestPlace 24 = .ok (.iload_n 1, 1) := by decide +kernel
theorem dX9_bestPlace_25 : decode cX9_bestPlace 25 = .ok (.ifCond .lt 24, 3) := by decide +kernel
theorem dX9_bestPlace_28 : decode cX9_bestPlace 28 = .ok (.aload_n 0, 1) := by decide +kernel
theorem dX9_bestPlace_29 : decode cX9_bestPlace 29 = .ok (.getfield 7, 3) := by decide +kernel
theorem dX9_bestPlace_32 : decode cX9_bestPlace 32 = .ok (.bipush 16, 2) := by decide +kernel
theorem dX9_bestPlace_34 : decode cX9_bestPlace 34 = .ok (.iload_n 2, 1) := by decide +kernel
theorem dX9_bestPlace_35 : decode cX9_bestPlace 35 = .ok (.iadd, 1) := by decide +kernel
theorem dX9_bestPlace_36 : decode cX9_bestPlace 36 = .ok (.iaload, 1) := by decide +kernel
theorem dX9_bestPlace_37 : decode cX9_bestPlace 37 = .ok (.aload_n 0, 1) := by decide +kernel
theorem dX9_bestPlace_38 : decode cX9_bestPlace 38 = .ok (.getfield 7, 3) := by decide +kernel
theorem dX9_bestPlace_41 : decode cX9_bestPlace 41 = .ok (.bipush 16, 2) := by decide +kernel
theorem dX9_bestPlace_43 : decode cX9_bestPlace 43 = .ok (.iload_n 1, 1) := by decide +kernel
theorem dX9_bestPlace_44 : decode cX9_bestPlace 44 = .ok (.iadd, 1) := by decide +kernel
theorem dX9_bestPlace_45 : decode cX9_bestPlace 45 = .ok (.iaload, 1) := by decide +kernel
theorem dX9_bestPlace_46 : decode cX9_bestPlace 46 = .ok (.if_icmp .le 5, 3) := by decide +kernel
theorem dX9_bestPlace_49 : decode cX9_bestPlace 49 = .ok (.iload_n 2, 1) := by decide +kernel
theorem dX9_bestPlace_50 : decode cX9_bestPlace 50 = .ok (.istore_n 1, 1) := by decide +kernel
theorem dX9_bestPlace_51 : decode cX9_bestPlace 51 = .ok (.iinc 2 1, 3) := by decide +kernel
theorem dX9_bestPlace_54 : decode cX9_bestPlace 54 = .ok (.goto (-50), 3) := by decide +kernel
theorem dX9_bestPlace_57 : decode cX9_bestPlace 57 = .ok (.iload_n 1, 1) := by decide +kernel
theorem dX9_bestPlace_58 : decode cX9_bestPlace 58 = .ok (.ireturn, 1) := by decide +kernel
theorem dX9_waiting_0 : decode cX9_waiting 0 = .ok (.iconst 0, 1) := by decide +kernel
theorem dX9_waiting_1 : decode cX9_waiting 1 = .ok (.istore_n 2, 1) := by decide +kernel
theorem dX9_waiting_2 : decode cX9_waiting 2 = .ok (.iload_n 2, 1) := by decide +kernel
theorem dX9_waiting_3 : decode cX9_waiting 3 = .ok (.aload_n 0, 1) := by decide +kernel
theorem dX9_waiting_4 : decode cX9_waiting 4 = .ok (.getfield 7, 3) := by decide +kernel
theorem dX9_waiting_7 : decode cX9_waiting 7 = .ok (.iconst 1, 1) := by decide +kernel
theorem dX9_waiting_8 : decode cX9_waiting 8 = .ok (.iaload, 1) := by decide +kernel
theorem dX9_waiting_9 : decode cX9_waiting 9 = .ok (.if_icmp .ge 29, 3) := by decide +kernel
theorem dX9_waiting_12 : decode cX9_waiting 12 = .ok (.aload_n 0, 1) := by decide +kernel
theorem dX9_waiting_13 : decode cX9_waiting 13 = .ok (.iload_n 2, 1) := by decide +kernel
theorem dX9_waiting_14 : decode cX9_waiting 14 = .ok (.invokevirtual 134, 3) := by decide +kernel
theorem dX9_waiting_17 : decode cX9_waiting 17 = .ok (.ifCond .ne 15, 3) := by decide +kernel
theorem dX9_waiting_20 : decode cX9_waiting 20 = .ok (.aload_n 0, 1) := by decide +kernel
theorem dX9_waiting_21 : decode cX9_waiting 21 = .ok (.iload_n 2, 1) := by decide +kernel
theorem dX9_waiting_22 : decode cX9_waiting 22 = .ok (.iconst 0, 1) := by decide +kernel
theorem dX9_waiting_23 : decode cX9_waiting 23 = .ok (.invokevirtual 130, 3) := by decide +kernel
theorem dX9_waiting_26 : decode cX9_waiting 26 = .ok (.iload_n 1, 1) := by decide +kernel
theorem dX9_waiting_27 : decode cX9_waiting 27 = .ok (.if_icmp .ne 5, 3) := by decide +kernel
theorem dX9_waiting_30 : decode cX9_waiting 30 = .ok (.iload_n 2, 1) := by decide +kernel
theorem dX9_waiting_31 : decode cX9_waiting 31 = .ok (.ireturn, 1) := by decide +kernel
theorem dX9_waiting_32 : decode cX9_waiting 32 = .ok (.iinc 2 1, 3) := by decide +kernel
theorem dX9_waiting_35 : decode cX9_waiting 35 = .ok (.goto (-33), 3) := by decide +kernel
theorem dX9_waiting_38 : decode cX9_waiting 38 = .ok (.iconst (-1), 1) := by decide +kernel
theorem dX9_waiting_39 : decode cX9_waiting 39 = .ok (.ireturn, 1) := by decide +kernel
theorem dX9_nextHouse_0 : decode cX9_nextHouse 0 = .ok (.iconst (-1), 1) := by decide +kernel
theorem dX9_nextHouse_1 : decode cX9_nextHouse 1 = .ok (.istore_n 1, 1) := by decide +kernel
theorem dX9_nextHouse_2 : decode cX9_nextHouse 2 = .ok (.iconst 0, 1) := by decide +kernel
theorem dX9_nextHouse_3 : decode cX9_nextHouse 3 = .ok (.istore_n 2, 1) := by decide +kernel
theorem dX9_nextHouse_4 : decode cX9_nextHouse 4 = .ok (.iload_n 2, 1) := by decide +kernel
theorem dX9_nextHouse_5 : decode cX9_nextHouse 5 = .ok (.aload_n 0, 1) := by decide +kernel
theorem dX9_nextHouse_6 : decode cX9_nextHouse 6 = .ok (.getfield 7, 3) := by decide +kernel
theorem dX9_nextHouse_9 : decode cX9_nextHouse 9 = .ok (.iconst 0, 1) := by decide +kernel
theorem dX9_nextHouse_10 : decode cX9_nextHouse 10 = .ok (.iaload, 1) := by decide +kernel
theorem dX9_nextHouse_11 : decode cX9_nextHouse 11 = .ok (.if_icmp .ge 38, 3) := by decide +kernel
theorem dX9_nextHouse_14 : decode cX9_nextHouse 14 = .ok (.aload_n 0, 1) := by decide +kernel
theorem dX9_nextHouse_15 : decode cX9_nextHouse 15 = .ok (.iload_n 2, 1) := by decide +kernel
theorem dX9_nextHouse_16 : decode cX9_nextHouse 16 = .ok (.invokevirtual 154, 3) := by decide +kernel
theorem dX9_nextHouse_19 : decode cX9_nextHouse 19 = .ok (.ifCond .lt 24, 3) := by decide +kernel
theorem dX9_nextHouse_22 : decode cX9_nextHouse 22 = .ok (.iload_n 1, 1) := by decide +kernel
theorem dX9_nextHouse_23 : decode cX9_nextHouse 23 = .ok (.ifCond .lt 18, 3) := by decide +kernel
theorem dX9_nextHouse_26 : decode cX9_nextHouse 26 = .ok (.aload_n 0, 1) := by decide +kernel
theorem dX9_nextHouse_27 : decode cX9_nextHouse 27 = .ok (.iload_n 2, 1) := by decide +kernel
theorem dX9_nextHouse_28 : decode cX9_nextHouse 28 = .ok (.iconst 1, 1) := by decide +kernel
theorem dX9_nextHouse_29 : decode cX9_nextHouse 29 = .ok (.invokevirtual 157, 3) := by decide +kernel
theorem dX9_nextHouse_32 : decode cX9_nextHouse 32 = .ok (.aload_n 0, 1) := by decide +kernel
theorem dX9_nextHouse_33 : decode cX9_nextHouse 33 = .ok (.iload_n 1, 1) := by decide +kernel
theorem dX9_nextHouse_34 : decode cX9_nextHouse 34 = .ok (.iconst 1, 1) := by decide +kernel
theorem dX9_nextHouse_35 : decode cX9_nextHouse 35 = .ok (.invokevirtual 157, 3) := by decide +kernel
theorem dX9_nextHouse_38 : decode cX9_nextHouse 38 = .ok (.if_icmp .ge 5, 3) := by decide +kernel
theorem dX9_nextHouse_41 : decode cX9_nextHouse 41 = .ok (.iload_n 2, 1) := by decide +kernel
theorem dX9_nextHouse_42 : decode cX9_nextHouse 42 = .ok (.istore_n 1, 1) := by decide +kernel
theorem dX9_nextHouse_43 : decode cX9_nextHouse 43 = .ok (.iinc 2 1, 3) := by decide +kernel
theorem dX9_nextHouse_46 : decode cX9_nextHouse 46 = .ok (.goto (-42), 3) := by decide +kernel
theorem dX9_nextHouse_49 : decode cX9_nextHouse 49 = .ok (.iload_n 1, 1) := by decide +kernel
theorem dX9_nextHouse_50 : decode cX9_nextHouse 50 = .ok (.ireturn, 1) := by decide +kernel
theorem dX9_deal_0 : decode cX9_deal 0 = .ok (.aload_n 0, 1) := by decide +kernel
theorem dX9_deal_1 : decode cX9_deal 1 = .ok (.invokevirtual 160, 3) := by decide +kernel
theorem dX9_deal_4 : decode cX9_deal 4 = .ok (.bipush 50, 2) := by decide +kernel
theorem dX9_deal_6 : decode cX9_deal 6 = .ok (.if_icmp .le 5, 3) := by decide +kernel
theorem dX9_deal_9 : decode cX9_deal 9 = .ok (.iconst (-1), 1) := by decide +kernel
theorem dX9_deal_10 : decode cX9_deal 10 = .ok (.ireturn, 1) := by decide +kernel
theorem dX9_deal_11 : decode cX9_deal 11 = .ok (.iconst 0, 1) := by decide +kernel
theorem dX9_deal_12 : decode cX9_deal 12 = .ok (.istore_n 1, 1) := by decide +kernel
theorem dX9_deal_13 : decode cX9_deal 13 = .ok (.aload_n 0, 1) := by decide +kernel
theorem dX9_deal_14 : decode cX9_deal 14 = .ok (.invokevirtual 163, 3) := by decide +kernel
theorem dX9_deal_17 : decode cX9_deal 17 = .ok (.istore_n 2, 1) := by decide +kernel
theorem dX9_deal_18 : decode cX9_deal 18 = .ok (.aload_n 0, 1) := by decide +kernel
theorem dX9_deal_19 : decode cX9_deal 19 = .ok (.invokevirtual 166, 3) := by decide +kernel
theorem dX9_deal_22 : decode cX9_deal 22 = .ok (.istore_n 3, 1) := by decide +kernel
theorem dX9_deal_23 : decode cX9_deal 23 = .ok (.iload_n 2, 1) := by decide +kernel
theorem dX9_deal_24 : decode cX9_deal 24 = .ok (.ifCond .lt 49, 3) := by decide +kernel
theorem dX9_deal_27 : decode cX9_deal 27 = .ok (.iload_n 3, 1) := by decide +kernel
theorem dX9_deal_28 : decode cX9_deal 28 = .ok (.ifCond .lt 45, 3) := by decide +kernel
theorem dX9_deal_31 : decode cX9_deal 31 = .ok (.aload_n 0, 1) := by decide +kernel
theorem dX9_deal_32 : decode cX9_deal 32 = .ok (.aload_n 0, 1) := by decide +kernel
theorem dX9_deal_33 : decode cX9_deal 33 = .ok (.iload_n 2, 1) := by decide +kernel
theorem dX9_deal_34 : decode cX9_deal 34 = .ok (.invokevirtual 154, 3) := by decide +kernel
theorem dX9_deal_37 : decode cX9_deal 37 = .ok (.iconst 4, 1) := by decide +kernel
theorem dX9_deal_38 : decode cX9_deal 38 = .ok (.iload_n 3, 1) := by decide +kernel
theorem dX9_deal_39 : decode cX9_deal 39 = .ok (.invokevirtual 147, 3) := by decide +kernel
theorem dX9_deal_42 : decode cX9_deal 42 = .ok (.aload_n 0, 1) := by decide +kernel
theorem dX9_deal_43 : decode cX9_deal 43 = .ok (.iload_n 2, 1) := by decide +kernel
theorem dX9_deal_44 : decode cX9_deal 44 = .ok (.iconst 1, 1) := by decide +kernel
theorem dX9_deal_45 : decode cX9_deal 45 = .ok (.aload_n 0, 1) := by decide +kernel
theorem dX9_deal_46 : decode cX9_deal 46 = .ok (.getfield 7, 3) := by decide +kernel
theorem dX9_deal_49 : decode cX9_deal 49 = .ok (.bipush 16, 2) := by decide +kernel
theorem dX9_deal_51 : decode cX9_deal 51 = .ok (.iload_n 3, 1) := by decide +kernel
theorem dX9_deal_52 : decode cX9_deal 52 = .ok (.iadd, 1) := by decide +kernel
theorem dX9_deal_53 : decode cX9_deal 53 = .ok (.iaload, 1) := by decide +kernel
theorem dX9_deal_54 : decode cX9_deal 54 = .ok (.invokevirtual 169, 3) := by decide +kernel
theorem dX9_deal_57 : decode cX9_deal 57 = .ok (.iinc 1 1, 3) := by decide +kernel
theorem dX9_deal_60 : decode cX9_deal 60 = .ok (.aload_n 0, 1) := by decide +kernel
theorem dX9_deal_61 : decode cX9_deal 61 = .ok (.invokevirtual 163, 3) := by decide +kernel
theorem dX9_deal_64 : decode cX9_deal 64 = .ok (.istore_n 2, 1) := by decide +kernel
theorem dX9_deal_65 : decode cX9_deal 65 = .ok (.aload_n 0, 1) := by decide +kernel
theorem dX9_deal_66 : decode cX9_deal 66 = .ok (.invokevirtual 166, 3) := by decide +kernel
theorem dX9_deal_69 : decode cX9_deal 69 = .ok (.istore_n 3, 1) := by decide +kernel
theorem dX9_deal_70 : decode cX9_deal 70 = .ok (.goto (-47), 3) := by decide +kernel
theorem dX9_deal_73 : decode cX9_deal 73 = .ok (.iload_n 1, 1) := by decide +kernel
theorem dX9_deal_74 : decode cX9_deal 74 = .ok (.ireturn, 1) := by decide +kernel
theorem dX9_spread_0 : decode cX9_spread 0 = .ok (.iconst (-1), 1) := by decide +kernel
theorem dX9_spread_1 : decode cX9_spread 1 = .ok (.istore_n 1, 1) := by decide +kernel
theorem dX9_spread_2 : decode cX9_spread 2 = .ok (.iconst 0, 1) := by decide +kernel
theorem dX9_spread_3 : decode cX9_spread 3 = .ok (.istore_n 2, 1) := by decide +kernel
theorem dX9_spread_4 : decode cX9_spread 4 = .ok (.iconst 0, 1) := by decide +kernel
theorem dX9_spread_5 : decode cX9_spread 5 = .ok (.istore_n 3, 1) := by decide +kernel
theorem dX9_spread_6 : decode cX9_spread 6 = .ok (.iload_n 3, 1) := by decide +kernel
theorem dX9_spread_7 : decode cX9_spread 7 = .ok (.aload_n 0, 1) := by decide +kernel
theorem dX9_spread_8 : decode cX9_spread 8 = .ok (.getfield 7, 3) := by decide +kernel
theorem dX9_spread_11 : decode cX9_spread 11 = .ok (.iconst 0, 1) := by decide +kernel
theorem dX9_spread_12 : decode cX9_spread 12 = .ok (.iaload, 1) := by decide +kernel
theorem dX9_spread_13 : decode cX9_spread 13 = .ok (.if_icmp .ge 51, 3) := by decide +kernel
theorem dX9_spread_16 : decode cX9_spread 16 = .ok (.aload_n 0, 1) := by decide +kernel
theorem dX9_spread_17 : decode cX9_spread 17 = .ok (.iload_n 3, 1) := by decide +kernel
theorem dX9_spread_18 : decode cX9_spread 18 = .ok (.iconst 2, 1) := by decide +kernel
theorem dX9_spread_19 : decode cX9_spread 19 = .ok (.invokevirtual 157, 3) := by decide +kernel
theorem dX9_spread_22 : decode cX9_spread 22 = .ok (.ifCond .ne 6, 3) := by decide +kernel
theorem dX9_spread_25 : decode cX9_spread 25 = .ok (.goto 33, 3) := by decide +kernel
theorem dX9_spread_28 : decode cX9_spread 28 = .ok (.aload_n 0, 1) := by decide +kernel
theorem dX9_spread_29 : decode cX9_spread 29 = .ok (.iload_n 3, 1) := by decide +kernel
theorem dX9_spread_30 : decode cX9_spread 30 = .ok (.iconst 1, 1) := by decide +kernel
theorem dX9_spread_31 : decode cX9_spread 31 = .ok (.invokevirtual 157, 3) := by decide +kernel
theorem dX9_spread_34 : decode cX9_spread 34 = .ok (.istore 4, 2) := by decide +kernel
theorem dX9_spread_36 : decode cX9_spread 36 = .ok (.iload_n 1, 1) := by decide +kernel
theorem dX9_spread_37 : decode cX9_spread 37 = .ok (.ifCond .lt 9, 3) := by decide +kernel
theorem dX9_spread_40 : decode cX9_spread 40 = .ok (.iload 4, 2) := by decide +kernel
theorem dX9_spread_42 : decode cX9_spread 42 = .ok (.iload_n 1, 1) := by decide +kernel
theorem dX9_spread_43 : decode cX9_spread 43 = .ok (.if_icmp .ge 6, 3) := by decide +kernel
theorem dX9_spread_46 : decode cX9_spread 46 = .ok (.iload 4, 2) := by decide +kernel
theorem dX9_spread_48 : decode cX9_spread 48 = .ok (.istore_n 1, 1) := by decide +kernel
theorem dX9_spread_49 : decode cX9_spread 49 = .ok (.iload 4, 2) := by decide +kernel
theorem dX9_spread_51 : decode cX9_spread 51 = .ok (.iload_n 2, 1) := by decide +kernel
theorem dX9_spread_52 : decode cX9_spread 52 = .ok (.if_icmp .le 6, 3) := by decide +kernel
theorem dX9_spread_55 : decode cX9_spread 55 = .ok (.iload 4, 2) := by decide +kernel
theorem dX9_spread_57 : decode cX9_spread 57 = .ok (.istore_n 2, 1) := by decide +kernel
theorem dX9_spread_58 : decode cX9_spread 58 = .ok (.iinc 3 1, 3) := by decide +kernel
theorem dX9_spread_61 : decode cX9_spread 61 = .ok (.goto (-55), 3) := by decide +kernel
theorem dX9_spread_64 : decode cX9_spread 64 = .ok (.iload_n 1, 1) := by decide +kernel
theorem dX9_spread_65 : decode cX9_spread 65 = .ok (.ifCond .ge 7, 3) := by decide +kernel
theorem dX9_spread_68 : decode cX9_spread 68 = .ok (.iconst 0, 1) := by decide +kernel
theorem dX9_spread_69 : decode cX9_spread 69 = .ok (.goto 6, 3) := by decide +kernel
theorem dX9_spread_72 : decode cX9_spread 72 = .ok (.iload_n 2, 1) := by decide +kernel
theorem dX9_spread_73 : decode cX9_spread 73 = .ok (.iload_n 1, 1) := by decide +kernel
theorem dX9_spread_74 : decode cX9_spread 74 = .ok (.isub, 1) := by decide +kernel
theorem dX9_spread_75 : decode cX9_spread 75 = .ok (.ireturn, 1) := by decide +kernel
theorem dX9_hour_0 : decode cX9_hour 0 = .ok (.aload_n 0, 1) := by decide +kernel
theorem dX9_hour_1 : decode cX9_hour 1 = .ok (.getfield 7, 3) := by decide +kernel
theorem dX9_hour_4 : decode cX9_hour 4 = .ok (.iconst 2, 1) := by decide +kernel
theorem dX9_hour_5 : decode cX9_hour 5 = .ok (.iaload, 1) := by decide +kernel
theorem dX9_hour_6 : decode cX9_hour 6 = .ok (.istore_n 3, 1) := by decide +kernel
theorem dX9_hour_7 : decode cX9_hour 7 = .ok (.iconst 0, 1) := by decide +kernel
theorem dX9_hour_8 : decode cX9_hour 8 = .ok (.istore 4, 2) := by decide +kernel
theorem dX9_hour_10 : decode cX9_hour 10 = .ok (.iload 4, 2) := by decide +kernel
theorem dX9_hour_12 : decode cX9_hour 12 = .ok (.iload_n 3, 1) := by decide +kernel
theorem dX9_hour_13 : decode cX9_hour 13 = .ok (.if_icmp .ge 26, 3) := by decide +kernel
theorem dX9_hour_16 : decode cX9_hour 16 = .ok (.aload_n 0, 1) := by decide +kernel
theorem dX9_hour_17 : decode cX9_hour 17 = .ok (.getfield 23, 3) := by decide +kernel
theorem dX9_hour_20 : decode cX9_hour 20 = .ok (.iload 4, 2) := by decide +kernel
theorem dX9_hour_22 : decode cX9_hour 22 = .ok (.aload_n 0, 1) := by decide +kernel
theorem dX9_hour_23 : decode cX9_hour 23 = .ok (.getfield 7, 3) := by decide +kernel
theorem dX9_hour_26 : decode cX9_hour 26 = .ok (.bipush 10, 2) := by decide +kernel
theorem dX9_hour_28 : decode cX9_hour 28 = .ok (.iload 4, 2) := by decide +kernel
theorem dX9_hour_30 : decode cX9_hour 30 = .ok (.iadd, 1) := by decide +kernel
theorem dX9_hour_31 : decode cX9_hour 31 = .ok (.iaload, 1) := by decide +kernel
theorem dX9_hour_32 : decode cX9_hour 32 = .ok (.iastore, 1) := by decide +kernel
theorem dX9_hour_33 : decode cX9_hour 33 = .ok (.iinc 4 1, 3) := by decide +kernel
theorem dX9_hour_36 : decode cX9_hour 36 = .ok (.goto (-26), 3) := by decide +kernel
theorem dX9_hour_39 : decode cX9_hour 39 = .ok (.iconst 0, 1) := by decide +kernel
theorem dX9_hour_40 : decode cX9_hour 40 = .ok (.istore 4, 2) := by decide +kernel
theorem dX9_hour_42 : decode cX9_hour 42 = .ok (.iload 4, 2) := by decide +kernel
theorem dX9_hour_44 : decode cX9_hour 44 = .ok (.iconst 1, 1) := by decide +kernel
theorem dX9_hour_45 : decode cX9_hour 45 = .ok (.iadd, 1) := by decide +kernel
theorem dX9_hour_46 : decode cX9_hour 46 = .ok (.iload_n 3, 1) := by decide +kernel
theorem dX9_hour_47 : decode cX9_hour 47 = .ok (.if_icmp .ge 62, 3) := by decide +kernel
theorem dX9_hour_50 : decode cX9_hour 50 = .ok (.aload_n 0, 1) := by decide +kernel
theorem dX9_hour_51 : decode cX9_hour 51 = .ok (.getfield 23, 3) := by decide +kernel
theorem dX9_hour_54 : decode cX9_hour 54 = .ok (.iload 4, 2) := by decide +kernel
theorem dX9_hour_56 : decode cX9_hour 56 = .ok (.iaload, 1) := by decide +kernel
theorem dX9_hour_57 : decode cX9_hour 57 = .ok (.aload_n 0, 1) := by decide +kernel
theorem dX9_hour_58 : decode cX9_hour 58 = .ok (.getfield 23, 3) := by decide +kernel
theorem dX9_hour_61 : decode cX9_hour 61 = .ok (.iload 4, 2) := by decide +kernel
theorem dX9_hour_63 : decode cX9_hour 63 = .ok (.iconst 1, 1) := by decide +kernel
theorem dX9_hour_64 : decode cX9_hour 64 = .ok (.iadd, 1) := by decide +kernel
theorem dX9_hour_65 : decode cX9_hour 65 = .ok (.iaload, 1) := by decide +kernel
theorem dX9_hour_66 : decode cX9_hour 66 = .ok (.isub, 1) := by decide +kernel
theorem dX9_hour_67 : decode cX9_hour 67 = .ok (.iconst 4, 1) := by decide +kernel
theorem dX9_hour_68 : decode cX9_hour 68 = .ok (.idiv, 1) := by decide +kernel
theorem dX9_hour_69 : decode cX9_hour 69 = .ok (.istore 5, 2) := by decide +kernel
theorem dX9_hour_71 : decode cX9_hour 71 = .ok (.aload_n 0, 1) := by decide +kernel
theorem dX9_hour_72 : decode cX9_hour 72 = .ok (.getfield 7, 3) := by decide +kernel
theorem dX9_hour_75 : decode cX9_hour 75 = .ok (.bipush 10, 2) := by decide +kernel
theorem dX9_hour_77 : decode cX9_hour 77 = .ok (.iload 4, 2) := by decide +kernel
theorem dX9_hour_79 : decode cX9_hour 79 = .ok (.iadd, 1) := by decide +kernel
theorem dX9_hour_80 : decode cX9_hour 80 = .ok (.dup2, 1) := by decide +kernel
theorem dX9_hour_81 : decode cX9_hour 81 = .ok (.iaload, 1) := by decide +kernel
theorem dX9_hour_82 : decode cX9_hour 82 = .ok (.iload 5, 2) := by decide +kernel
theorem dX9_hour_84 : decode cX9_hour 84 = .ok (.isub, 1) := by decide +kernel
theorem dX9_hour_85 : decode cX9_hour 85 = .ok (.iastore, 1) := by decide +kernel
theorem dX9_hour_86 : decode cX9_hour 86 = .ok (.aload_n 0, 1) := by decide +kernel
theorem dX9_hour_87 : decode cX9_hour 87 = .ok (.getfield 7, 3) := by decide +kernel
theorem dX9_hour_90 : decode cX9_hour 90 = .ok (.bipush 10, 2) := by decide +kernel
theorem dX9_hour_92 : decode cX9_hour 92 = .ok (.iload 4, 2) := by decide +kernel
theorem dX9_hour_94 : decode cX9_hour 94 = .ok (.iadd, 1) := by decide +kernel
theorem dX9_hour_95 : decode cX9_hour 95 = .ok (.iconst 1, 1) := by decide +kernel
theorem dX9_hour_96 : decode cX9_hour 96 = .ok (.iadd, 1) := by decide +kernel
theorem dX9_hour_97 : decode cX9_hour 97 = .ok (.dup2, 1) := by decide +kernel
theorem dX9_hour_98 : decode cX9_hour 98 = .ok (.iaload, 1) := by decide +kernel
theorem dX9_hour_99 : decode cX9_hour 99 = .ok (.iload 5, 2) := by decide +kernel
theorem dX9_hour_101 : decode cX9_hour 101 = .ok (.iadd, 1) := by decide +kernel
theorem dX9_hour_102 : decode cX9_hour 102 = .ok (.iastore, 1) := by decide +kernel
theorem dX9_hour_103 : decode cX9_hour 103 = .ok (.iinc 4 1, 3) := by decide +kernel
theorem dX9_hour_106 : decode cX9_hour 106 = .ok (.goto (-64), 3) := by decide +kernel
theorem dX9_hour_109 : decode cX9_hour 109 = .ok (.iconst 0, 1) := by decide +kernel
theorem dX9_hour_110 : decode cX9_hour 110 = .ok (.istore 4, 2) := by decide +kernel
theorem dX9_hour_112 : decode cX9_hour 112 = .ok (.iload 4, 2) := by decide +kernel
theorem dX9_hour_114 : decode cX9_hour 114 = .ok (.iload_n 3, 1) := by decide +kernel
theorem dX9_hour_115 : decode cX9_hour 115 = .ok (.if_icmp .ge 35, 3) := by decide +kernel
theorem dX9_hour_118 : decode cX9_hour 118 = .ok (.aload_n 0, 1) := by decide +kernel
theorem dX9_hour_119 : decode cX9_hour 119 = .ok (.getfield 7, 3) := by decide +kernel
theorem dX9_hour_122 : decode cX9_hour 122 = .ok (.bipush 10, 2) := by decide +kernel
theorem dX9_hour_124 : decode cX9_hour 124 = .ok (.iload 4, 2) := by decide +kernel
theorem dX9_hour_126 : decode cX9_hour 126 = .ok (.iadd, 1) := by decide +kernel
theorem dX9_hour_127 : decode cX9_hour 127 = .ok (.dup2, 1) := by decide +kernel
theorem dX9_hour_128 : decode cX9_hour 128 = .ok (.iaload, 1) := by decide +kernel
theorem dX9_hour_129 : decode cX9_hour 129 = .ok (.aload_n 0, 1) := by decide +kernel
theorem dX9_hour_130 : decode cX9_hour 130 = .ok (.getfield 23, 3) := by decide +kernel
theorem dX9_hour_133 : decode cX9_hour 133 = .ok (.iload 4, 2) := by decide +kernel
theorem dX9_hour_135 : decode cX9_hour 135 = .ok (.iaload, 1) := by decide +kernel
theorem dX9_hour_136 : decode cX9_hour 136 = .ok (.bipush 20, 2) := by decide +kernel
theorem dX9_hour_138 : decode cX9_hour 138 = .ok (.isub, 1) := by decide +kernel
theorem dX9_hour_139 : decode cX9_hour 139 = .ok (.bipush 16, 2) := by decide +kernel
theorem dX9_hour_141 : decode cX9_hour 141 = .ok (.idiv, 1) := by decide +kernel
theorem dX9_hour_142 : decode cX9_hour 142 = .ok (.isub, 1) := by decide +kernel
theorem dX9_hour_143 : decode cX9_hour 143 = .ok (.iastore, 1) := by decide +kernel
theorem dX9_hour_144 : decode cX9_hour 144 = .ok (.iinc 4 1, 3) := by decide +kernel
theorem dX9_hour_147 : decode cX9_hour 147 = .ok (.goto (-35), 3) := by decide +kernel
theorem dX9_hour_150 : decode cX9_hour 150 = .ok (.aload_n 0, 1) := by decide +kernel
theorem dX9_hour_151 : decode cX9_hour 151 = .ok (.getfield 7, 3) := by decide +kernel
theorem dX9_hour_154 : decode cX9_hour 154 = .ok (.bipush 10, 2) := by decide +kernel
theorem dX9_hour_156 : decode cX9_hour 156 = .ok (.iload_n 1, 1) := by decide +kernel
theorem dX9_hour_157 : decode cX9_hour 157 = .ok (.iadd, 1) := by decide +kernel
theorem dX9_hour_158 : decode cX9_hour 158 = .ok (.dup2, 1) := by decide +kernel
theorem dX9_hour_159 : decode cX9_hour 159 = .ok (.iaload, 1) := by decide +kernel
theorem dX9_hour_160 : decode cX9_hour 160 = .ok (.bipush 60, 2) := by decide +kernel
theorem dX9_hour_162 : decode cX9_hour 162 = .ok (.iload_n 2, 1) := by decide +kernel
theorem dX9_hour_163 : decode cX9_hour 163 = .ok (.imul, 1) := by decide +kernel
theorem dX9_hour_164 : decode cX9_hour 164 = .ok (.iadd, 1) := by decide +kernel
theorem dX9_hour_165 : decode cX9_hour 165 = .ok (.iastore, 1) := by decide +kernel
theorem dX9_hour_166 : decode cX9_hour 166 = .ok (.iconst 0, 1) := by decide +kernel
theorem dX9_hour_167 : decode cX9_hour 167 = .ok (.istore 4, 2) := by decide +kernel
theorem dX9_hour_169 : decode cX9_hour 169 = .ok (.iload 4, 2) := by decide +kernel
theorem dX9_hour_171 : decode cX9_hour 171 = .ok (.aload_n 0, 1) := by decide +kernel
theorem dX9_hour_172 : decode cX9_hour 172 = .ok (.getfield 7, 3) := by decide +kernel
theorem dX9_hour_175 : decode cX9_hour 175 = .ok (.iconst 1, 1) := by decide +kernel
theorem dX9_hour_176 : decode cX9_hour 176 = .ok (.iaload, 1) := by decide +kernel
theorem dX9_hour_177 : decode cX9_hour 177 = .ok (.if_icmp .ge 43, 3) := by decide +kernel
theorem dX9_hour_180 : decode cX9_hour 180 = .ok (.aload_n 0, 1) := by decide +kernel
theorem dX9_hour_181 : decode cX9_hour 181 = .ok (.iload 4, 2) := by decide +kernel
theorem dX9_hour_183 : decode cX9_hour 183 = .ok (.invokevirtual 134, 3) := by decide +kernel
theorem dX9_hour_186 : decode cX9_hour 186 = .ok (.ifCond .eq 28, 3) := by decide +kernel
theorem dX9_hour_189 : decode cX9_hour 189 = .ok (.aload_n 0, 1) := by decide +kernel
theorem dX9_hour_190 : decode cX9_hour 190 = .ok (.iload 4, 2) := by decide +kernel
theorem dX9_hour_192 : decode cX9_hour 192 = .ok (.iconst 5, 1) := by decide +kernel
theorem dX9_hour_193 : decode cX9_hour 193 = .ok (.invokevirtual 130, 3) := by decide +kernel
theorem dX9_hour_196 : decode cX9_hour 196 = .ok (.ifCond .ne 18, 3) := by decide +kernel
theorem dX9_hour_199 : decode cX9_hour 199 = .ok (.aload_n 0, 1) := by decide +kernel
theorem dX9_hour_200 : decode cX9_hour 200 = .ok (.iload 4, 2) := by decide +kernel
theorem dX9_hour_202 : decode cX9_hour 202 = .ok (.aload_n 0, 1) := by decide +kernel
theorem dX9_hour_203 : decode cX9_hour 203 = .ok (.iload 4, 2) := by decide +kernel
theorem dX9_hour_205 : decode cX9_hour 205 = .ok (.iconst 4, 1) := by decide +kernel
theorem dX9_hour_206 : decode cX9_hour 206 = .ok (.invokevirtual 130, 3) := by decide +kernel
theorem dX9_hour_209 : decode cX9_hour 209 = .ok (.iconst 4, 1) := by decide +kernel
theorem dX9_hour_210 : decode cX9_hour 210 = .ok (.idiv, 1) := by decide +kernel
theorem dX9_hour_211 : decode cX9_hour 211 = .ok (.invokevirtual 172, 3) := by decide +kernel
theorem dX9_hour_214 : decode cX9_hour 214 = .ok (.iinc 4 1, 3) := by decide +kernel
theorem dX9_hour_217 : decode cX9_hour 217 = .ok (.goto (-48), 3) := by decide +kernel
theorem dX9_hour_220 : decode cX9_hour 220 = .ok (.aload_n 0, 1) := by decide +kernel
theorem dX9_hour_221 : decode cX9_hour 221 = .ok (.getfield 7, 3) := by decide +kernel
theorem dX9_hour_224 : decode cX9_hour 224 = .ok (.iconst 3, 1) := by decide +kernel
theorem dX9_hour_225 : decode cX9_hour 225 = .ok (.dup2, 1) := by decide +kernel
theorem dX9_hour_226 : decode cX9_hour 226 = .ok (.iaload, 1) := by decide +kernel
theorem dX9_hour_227 : decode cX9_hour 227 = .ok (.iconst 1, 1) := by decide +kernel
theorem dX9_hour_228 : decode cX9_hour 228 = .ok (.iadd, 1) := by decide +kernel
theorem dX9_hour_229 : decode cX9_hour 229 = .ok (.iastore, 1) := by decide +kernel
theorem dX9_hour_230 : decode cX9_hour 230 = .ok (.aload_n 0, 1) := by decide +kernel
theorem dX9_hour_231 : decode cX9_hour 231 = .ok (.getfield 7, 3) := by decide +kernel
theorem dX9_hour_234 : decode cX9_hour 234 = .ok (.iconst 4, 1) := by decide +kernel
theorem dX9_hour_235 : decode cX9_hour 235 = .ok (.dup2, 1) := by decide +kernel
theorem dX9_hour_236 : decode cX9_hour 236 = .ok (.iaload, 1) := by decide +kernel
theorem dX9_hour_237 : decode cX9_hour 237 = .ok (.iload_n 2, 1) := by decide +kernel
theorem dX9_hour_238 : decode cX9_hour 238 = .ok (.iadd, 1) := by decide +kernel
theorem dX9_hour_239 : decode cX9_hour 239 = .ok (.iastore, 1) := by decide +kernel
theorem dX9_hour_240 : decode cX9_hour 240 = .ok (.return_, 1) := by decide +kernel
theorem dX9_bakes_0 : decode cX9_bakes 0 = .ok (.aload_n 0, 1) := by decide +kernel
theorem dX9_bakes_1 : decode cX9_bakes 1 = .ok (.getfield 7, 3) := by decide +kernel
theorem dX9_bakes_4 : decode cX9_bakes 4 = .ok (.bipush 10, 2) := by decide +kernel
theorem dX9_bakes_6 : decode cX9_bakes 6 = .ok (.iload_n 2, 1) := by decide +kernel
theorem dX9_bakes_7 : decode cX9_bakes 7 = .ok (.iadd, 1) := by decide +kernel
theorem dX9_bakes_8 : decode cX9_bakes 8 = .ok (.iaload, 1) := by decide +kernel
theorem dX9_bakes_9 : decode cX9_bakes 9 = .ok (.istore_n 3, 1) := by decide +kernel
theorem dX9_bakes_10 : decode cX9_bakes 10 = .ok (.iload_n 3, 1) := by decide +kernel
theorem dX9_bakes_11 : decode cX9_bakes 11 = .ok (.aload_n 0, 1) := by decide +kernel
theorem dX9_bakes_12 : decode cX9_bakes 12 = .ok (.getfield 23, 3) := by decide +kernel
theorem dX9_bakes_15 : decode cX9_bakes 15 = .ok (.iload_n 2, 1) := by decide +kernel
theorem dX9_bakes_16 : decode cX9_bakes 16 = .ok (.iaload, 1) := by decide +kernel
theorem dX9_bakes_17 : decode cX9_bakes 17 = .ok (.if_icmp .le 14, 3) := by decide +kernel
theorem dX9_bakes_20 : decode cX9_bakes 20 = .ok (.iload_n 3, 1) := by decide +kernel
theorem dX9_bakes_21 : decode cX9_bakes 21 = .ok (.aload_n 0, 1) := by decide +kernel
theorem dX9_bakes_22 : decode cX9_bakes 22 = .ok (.getfield 23, 3) := by decide +kernel
theorem dX9_bakes_25 : decode cX9_bakes 25 = .ok (.iload_n 2, 1) := by decide +kernel
theorem dX9_bakes_26 : decode cX9_bakes 26 = .ok (.iaload, 1) := by decide +kernel
theorem dX9_bakes_27 : decode cX9_bakes 27 = .ok (.isub, 1) := by decide +kernel
theorem dX9_bakes_28 : decode cX9_bakes 28 = .ok (.goto 11, 3) := by decide +kernel
theorem dX9_bakes_31 : decode cX9_bakes 31 = .ok (.aload_n 0, 1) := by decide +kernel
theorem dX9_bakes_32 : decode cX9_bakes 32 = .ok (.getfield 23, 3) := by decide +kernel
theorem dX9_bakes_35 : decode cX9_bakes 35 = .ok (.iload_n 2, 1) := by decide +kernel
theorem dX9_bakes_36 : decode cX9_bakes 36 = .ok (.iaload, 1) := by decide +kernel
theorem dX9_bakes_37 : decode cX9_bakes 37 = .ok (.iload_n 3, 1) := by decide +kernel
theorem dX9_bakes_38 : decode cX9_bakes 38 = .ok (.isub, 1) := by decide +kernel
theorem dX9_bakes_39 : decode cX9_bakes 39 = .ok (.istore 4, 2) := by decide +kernel
theorem dX9_bakes_41 : decode cX9_bakes 41 = .ok (.iload 4, 2) := by decide +kernel
theorem dX9_bakes_43 : decode cX9_bakes 43 = .ok (.aload_n 0, 1) := by decide +kernel
theorem dX9_bakes_44 : decode cX9_bakes 44 = .ok (.getfield 7, 3) := by decide +kernel
theorem dX9_bakes_47 : decode cX9_bakes 47 = .ok (.bipush 40, 2) := by decide +kernel
theorem dX9_bakes_49 : decode cX9_bakes 49 = .ok (.iconst 2, 1) := by decide +kernel
theorem dX9_bakes_50 : decode cX9_bakes 50 = .ok (.aload_n 0, 1) := by decide +kernel
theorem dX9_bakes_51 : decode cX9_bakes 51 = .ok (.iload_n 1, 1) := by decide +kernel
theorem dX9_bakes_52 : decode cX9_bakes 52 = .ok (.iconst 1, 1) := by decide +kernel
theorem dX9_bakes_53 : decode cX9_bakes 53 = .ok (.invokevirtual 130, 3) := by decide +kernel
theorem dX9_bakes_56 : decode cX9_bakes 56 = .ok (.imul, 1) := by decide +kernel
theorem dX9_bakes_57 : decode cX9_bakes 57 = .ok (.iadd, 1) := by decide +kernel
theorem dX9_bakes_58 : decode cX9_bakes 58 = .ok (.iconst 1, 1) := by decide +kernel
theorem dX9_bakes_59 : decode cX9_bakes 59 = .ok (.iadd, 1) := by decide +kernel
theorem dX9_bakes_60 : decode cX9_bakes 60 = .ok (.iaload, 1) := by decide +kernel
theorem dX9_bakes_61 : decode cX9_bakes 61 = .ok (.bipush 10, 2) := by decide +kernel
theorem dX9_bakes_63 : decode cX9_bakes 63 = .ok (.aload_n 0, 1) := by decide +kernel
theorem dX9_bakes_64 : decode cX9_bakes 64 = .ok (.iload_n 1, 1) := by decide +kernel
theorem dX9_bakes_65 : decode cX9_bakes 65 = .ok (.iconst 3, 1) := by decide +kernel
theorem dX9_bakes_66 : decode cX9_bakes 66 = .ok (.invokevirtual 130, 3) := by decide +kernel
theorem dX9_bakes_69 : decode cX9_bakes 69 = .ok (.imul, 1) := by decide +kernel
theorem dX9_bakes_70 : decode cX9_bakes 70 = .ok (.isub, 1) := by decide +kernel
theorem dX9_bakes_71 : decode cX9_bakes 71 = .ok (.if_icmp .le 11, 3) := by decide +kernel
theorem dX9_bakes_74 : decode cX9_bakes 74 = .ok (.aload_n 0, 1) := by decide +kernel
theorem dX9_bakes_75 : decode cX9_bakes 75 = .ok (.iload_n 1, 1) := by decide +kernel
theorem dX9_bakes_76 : decode cX9_bakes 76 = .ok (.iconst 5, 1) := by decide +kernel
theorem dX9_bakes_77 : decode cX9_bakes 77 = .ok (.iconst 1, 1) := by decide +kernel
theorem dX9_bakes_78 : decode cX9_bakes 78 = .ok (.invokevirtual 147, 3) := by decide +kernel
theorem dX9_bakes_81 : decode cX9_bakes 81 = .ok (.return_, 1) := by decide +kernel
theorem dX9_bakes_82 : decode cX9_bakes 82 = .ok (.iload_n 3, 1) := by decide +kernel
theorem dX9_bakes_83 : decode cX9_bakes 83 = .ok (.sipush 600, 3) := by decide +kernel
theorem dX9_bakes_86 : decode cX9_bakes 86 = .ok (.if_icmp .lt 26, 3) := by decide +kernel
theorem dX9_bakes_89 : decode cX9_bakes 89 = .ok (.aload_n 0, 1) := by decide +kernel
theorem dX9_bakes_90 : decode cX9_bakes 90 = .ok (.iload_n 1, 1) := by decide +kernel
theorem dX9_bakes_91 : decode cX9_bakes 91 = .ok (.bipush 6, 2) := by decide +kernel
theorem dX9_bakes_93 : decode cX9_bakes 93 = .ok (.aload_n 0, 1) := by decide +kernel
theorem dX9_bakes_94 : decode cX9_bakes 94 = .ok (.iload_n 1, 1) := by decide +kernel
theorem dX9_bakes_95 : decode cX9_bakes 95 = .ok (.bipush 6, 2) := by decide +kernel
theorem dX9_bakes_97 : decode cX9_bakes 97 = .ok (.invokevirtual 130, 3) := by decide +kernel
theorem dX9_bakes_100 : decode cX9_bakes 100 = .ok (.iload_n 3, 1) := by decide +kernel
theorem dX9_bakes_101 : decode cX9_bakes 101 = .ok (.sipush 600, 3) := by decide +kernel
theorem dX9_bakes_104 : decode cX9_bakes 104 = .ok (.isub, 1) := by decide +kernel
theorem dX9_bakes_105 : decode cX9_bakes 105 = .ok (.bipush 50, 2) := by decide +kernel
theorem dX9_bakes_107 : decode cX9_bakes 107 = .ok (.idiv, 1) := by decide +kernel
theorem dX9_bakes_108 : decode cX9_bakes 108 = .ok (.iadd, 1) := by decide +kernel
theorem dX9_bakes_109 : decode cX9_bakes 109 = .ok (.invokevirtual 147, 3) := by decide +kernel
theorem dX9_bakes_112 : decode cX9_bakes 112 = .ok (.iload_n 3, 1) := by decide +kernel
theorem dX9_bakes_113 : decode cX9_bakes 113 = .ok (.bipush 100, 2) := by decide +kernel
theorem dX9_bakes_115 : decode cX9_bakes 115 = .ok (.if_icmp .lt 26, 3) := by decide +kernel
theorem dX9_bakes_118 : decode cX9_bakes 118 = .ok (.aload_n 0, 1) := by decide +kernel
theorem dX9_bakes_119 : decode cX9_bakes 119 = .ok (.iload_n 1, 1) := by decide +kernel
theorem dX9_bakes_120 : decode cX9_bakes 120 = .ok (.iconst 3, 1) := by decide +kernel
theorem dX9_bakes_121 : decode cX9_bakes 121 = .ok (.invokevirtual 130, 3) := by decide +kernel
theorem dX9_bakes_124 : decode cX9_bakes 124 = .ok (.ifCond .le 17, 3) := by decide +kernel
theorem dX9_bakes_127 : decode cX9_bakes 127 = .ok (.aload_n 0, 1) := by decide +kernel
theorem dX9_bakes_128 : decode cX9_bakes 128 = .ok (.iload_n 1, 1) := by decide +kernel
theorem dX9_bakes_129 : decode cX9_bakes 129 = .ok (.iconst 3, 1) := by decide +kernel
theorem dX9_bakes_130 : decode cX9_bakes 130 = .ok (.aload_n 0, 1) := by decide +kernel
theorem dX9_bakes_131 : decode cX9_bakes 131 = .ok (.iload_n 1, 1) := by decide +kernel
theorem dX9_bakes_132 : decode cX9_bakes 132 = .ok (.iconst 3, 1) := by decide +kernel
theorem dX9_bakes_133 : decode cX9_bakes 133 = .ok (.invokevirtual 130, 3) := by decide +kernel
theorem dX9_bakes_136 : decode cX9_bakes 136 = .ok (.iconst 1, 1) := by decide +kernel
theorem dX9_bakes_137 : decode cX9_bakes 137 = .ok (.isub, 1) := by decide +kernel
theorem dX9_bakes_138 : decode cX9_bakes 138 = .ok (.invokevirtual 147, 3) := by decide +kernel
theorem dX9_bakes_141 : decode cX9_bakes 141 = .ok (.return_, 1) := by decide +kernel
theorem dX9_fire_0 : decode cX9_fire 0 = .ok (.iload_n 1, 1) := by decide +kernel
theorem dX9_fire_1 : decode cX9_fire 1 = .ok (.iconst 0, 1) := by decide +kernel
theorem dX9_fire_2 : decode cX9_fire 2 = .ok (.aload_n 0, 1) := by decide +kernel
theorem dX9_fire_3 : decode cX9_fire 3 = .ok (.getfield 7, 3) := by decide +kernel
theorem dX9_fire_6 : decode cX9_fire 6 = .ok (.iconst 2, 1) := by decide +kernel
theorem dX9_fire_7 : decode cX9_fire 7 = .ok (.iaload, 1) := by decide +kernel
theorem dX9_fire_8 : decode cX9_fire 8 = .ok (.iconst 1, 1) := by decide +kernel
theorem dX9_fire_9 : decode cX9_fire 9 = .ok (.isub, 1) := by decide +kernel
theorem dX9_fire_10 : decode cX9_fire 10 = .ok (.invokestatic 103, 3) := by decide +kernel
theorem dX9_fire_13 : decode cX9_fire 13 = .ok (.ifCond .eq 13, 3) := by decide +kernel
theorem dX9_fire_16 : decode cX9_fire 16 = .ok (.iload_n 2, 1) := by decide +kernel
theorem dX9_fire_17 : decode cX9_fire 17 = .ok (.iconst 0, 1) := by decide +kernel
theorem dX9_fire_18 : decode cX9_fire 18 = .ok (.bipush 9, 2) := by decide +kernel
theorem dX9_fire_20 : decode cX9_fire 20 = .ok (.invokestatic 103, 3) := by decide +kernel
theorem dX9_fire_23 : decode cX9_fire 23 = .ok (.ifCond .ne 5, 3) := by decide +kernel
theorem dX9_fire_26 : decode cX9_fire 26 = .ok (.iconst (-1), 1) := by decide +kernel
theorem dX9_fire_27 : decode cX9_fire 27 = .ok (.ireturn, 1) := by decide +kernel
theorem dX9_fire_28 : decode cX9_fire 28 = .ok (.aload_n 0, 1) := by decide +kernel
theorem dX9_fire_29 : decode cX9_fire 29 = .ok (.iload_n 1, 1) := by decide +kernel
theorem dX9_fire_30 : decode cX9_fire 30 = .ok (.iload_n 2, 1) := by decide +kernel
theorem dX9_fire_31 : decode cX9_fire 31 = .ok (.invokevirtual 175, 3) := by decide +kernel
theorem dX9_fire_34 : decode cX9_fire 34 = .ok (.aload_n 0, 1) := by decide +kernel
theorem dX9_fire_35 : decode cX9_fire 35 = .ok (.getfield 7, 3) := by decide +kernel
theorem dX9_fire_38 : decode cX9_fire 38 = .ok (.bipush 10, 2) := by decide +kernel
theorem dX9_fire_40 : decode cX9_fire 40 = .ok (.iload_n 1, 1) := by decide +kernel
theorem dX9_fire_41 : decode cX9_fire 41 = .ok (.iadd, 1) := by decide +kernel
theorem dX9_fire_42 : decode cX9_fire 42 = .ok (.iaload, 1) := by decide +kernel
theorem dX9_fire_43 : decode cX9_fire 43 = .ok (.ireturn, 1) := by decide +kernel
theorem dX9_rest_0 : decode cX9_rest 0 = .ok (.iload_n 1, 1) := by decide +kernel
theorem dX9_rest_1 : decode cX9_rest 1 = .ok (.iconst 1, 1) := by decide +kernel
theorem dX9_rest_2 : decode cX9_rest 2 = .ok (.bipush 60, 2) := by decide +kernel
theorem dX9_rest_4 : decode cX9_rest 4 = .ok (.invokestatic 103, 3) := by decide +kernel
theorem dX9_rest_7 : decode cX9_rest 7 = .ok (.ifCond .ne 5, 3) := by decide +kernel
theorem dX9_rest_10 : decode cX9_rest 10 = .ok (.iconst (-1), 1) := by decide +kernel
theorem dX9_rest_11 : decode cX9_rest 11 = .ok (.ireturn, 1) := by decide +kernel
theorem dX9_rest_12 : decode cX9_rest 12 = .ok (.iconst 0, 1) := by decide +kernel
theorem dX9_rest_13 : decode cX9_rest 13 = .ok (.istore_n 2, 1) := by decide +kernel
theorem dX9_rest_14 : decode cX9_rest 14 = .ok (.iload_n 2, 1) := by decide +kernel
theorem dX9_rest_15 : decode cX9_rest 15 = .ok (.iload_n 1, 1) := by decide +kernel
theorem dX9_rest_16 : decode cX9_rest 16 = .ok (.if_icmp .ge 15, 3) := by decide +kernel
theorem dX9_rest_19 : decode cX9_rest 19 = .ok (.aload_n 0, 1) := by decide +kernel
theorem dX9_rest_20 : decode cX9_rest 20 = .ok (.iconst 0, 1) := by decide +kernel
theorem dX9_rest_21 : decode cX9_rest 21 = .ok (.iconst 0, 1) := by decide +kernel
theorem dX9_rest_22 : decode cX9_rest 22 = .ok (.invokevirtual 175, 3) := by decide +kernel
theorem dX9_rest_25 : decode cX9_rest 25 = .ok (.iinc 2 1, 3) := by decide +kernel
theorem dX9_rest_28 : decode cX9_rest 28 = .ok (.goto (-14), 3) := by decide +kernel
theorem dX9_rest_31 : decode cX9_rest 31 = .ok (.aload_n 0, 1) := by decide +kernel
theorem dX9_rest_32 : decode cX9_rest 32 = .ok (.invokevirtual 160, 3) := by decide +kernel
theorem dX9_rest_35 : decode cX9_rest 35 = .ok (.ireturn, 1) := by decide +kernel
theorem dX9_heat_0 : decode cX9_heat 0 = .ok (.iload_n 1, 1) := by decide +kernel
theorem dX9_heat_1 : decode cX9_heat 1 = .ok (.iconst 0, 1) := by decide +kernel
theorem dX9_heat_2 : decode cX9_heat 2 = .ok (.aload_n 0, 1) := by decide +kernel
theorem dX9_heat_3 : decode cX9_heat 3 = .ok (.getfield 7, 3) := by decide +kernel
theorem dX9_heat_6 : decode cX9_heat 6 = .ok (.iconst 2, 1) := by decide +kernel
theorem dX9_heat_7 : decode cX9_heat 7 = .ok (.iaload, 1) := by decide +kernel
theorem dX9_heat_8 : decode cX9_heat 8 = .ok (.iconst 1, 1) := by decide +kernel
theorem dX9_heat_9 : decode cX9_heat 9 = .ok (.isub, 1) := by decide +kernel
theorem dX9_heat_10 : decode cX9_heat 10 = .ok (.invokestatic 103, 3) := by decide +kernel
theorem dX9_heat_13 : decode cX9_heat 13 = .ok (.ifCond .eq 15, 3) := by decide +kernel
theorem dX9_heat_16 : decode cX9_heat 16 = .ok (.aload_n 0, 1) := by decide +kernel
theorem dX9_heat_17 : decode cX9_heat 17 = .ok (.getfield 7, 3) := by decide +kernel
theorem dX9_heat_20 : decode cX9_heat 20 = .ok (.bipush 10, 2) := by decide +kernel
theorem dX9_heat_22 : decode cX9_heat 22 = .ok (.iload_n 1, 1) := by decide +kernel
theorem dX9_heat_23 : decode cX9_heat 23 = .ok (.iadd, 1) := by decide +kernel
theorem dX9_heat_24 : decode cX9_heat 24 = .ok (.iaload, 1) := by decide +kernel
theorem dX9_heat_25 : decode cX9_heat 25 = .ok (.goto 4, 3) := by decide +kernel
theorem dX9_heat_28 : decode cX9_heat 28 = .ok (.iconst (-1), 1) := by decide +kernel
theorem dX9_heat_29 : decode cX9_heat 29 = .ok (.ireturn, 1) := by decide +kernel
theorem dX9_asked_0 : decode cX9_asked 0 = .ok (.aload_n 0, 1) := by decide +kernel
theorem dX9_asked_1 : decode cX9_asked 1 = .ok (.iload_n 1, 1) := by decide +kernel
theorem dX9_asked_2 : decode cX9_asked 2 = .ok (.invokevirtual 134, 3) := by decide +kernel
theorem dX9_asked_5 : decode cX9_asked 5 = .ok (.ifCond .eq 12, 3) := by decide +kernel
theorem dX9_asked_8 : decode cX9_asked 8 = .ok (.aload_n 0, 1) := by decide +kernel
theorem dX9_asked_9 : decode cX9_asked 9 = .ok (.iload_n 1, 1) := by decide +kernel
theorem dX9_asked_10 : decode cX9_asked 10 = .ok (.iconst 4, 1) := by decide +kernel
theorem dX9_asked_11 : decode cX9_asked 11 = .ok (.invokevirtual 130, 3) := by decide +kernel
theorem dX9_asked_14 : decode cX9_asked 14 = .ok (.goto 4, 3) := by decide +kernel
theorem dX9_asked_17 : decode cX9_asked 17 = .ok (.iconst 0, 1) := by decide +kernel
theorem dX9_asked_18 : decode cX9_asked 18 = .ok (.istore_n 3, 1) := by decide +kernel
theorem dX9_asked_19 : decode cX9_asked 19 = .ok (.iload_n 2, 1) := by decide +kernel
theorem dX9_asked_20 : decode cX9_asked 20 = .ok (.tableswitch 76 1 6 #[40, 44, 48, 55, 62, 69], 40) := by decide +kernel
theorem dX9_asked_60 : decode cX9_asked 60 = .ok (.iload_n 3, 1) := by decide +kernel
theorem dX9_asked_61 : decode cX9_asked 61 = .ok (.iconst 4, 1) := by decide +kernel
theorem dX9_asked_62 : decode cX9_asked 62 = .ok (.idiv, 1) := by decide +kernel
theorem dX9_asked_63 : decode cX9_asked 63 = .ok (.ireturn, 1) := by decide +kernel
theorem dX9_asked_64 : decode cX9_asked 64 = .ok (.iload_n 3, 1) := by decide +kernel
theorem dX9_asked_65 : decode cX9_asked 65 = .ok (.iconst 4, 1) := by decide +kernel
theorem dX9_asked_66 : decode cX9_asked 66 = .ok (.irem, 1) := by decide +kernel
theorem dX9_asked_67 : decode cX9_asked 67 = .ok (.ireturn, 1) := by decide +kernel
theorem dX9_asked_68 : decode cX9_asked 68 = .ok (.aload_n 0, 1) := by decide +kernel
theorem dX9_asked_69 : decode cX9_asked 69 = .ok (.iload_n 1, 1) := by decide +kernel
theorem dX9_asked_70 : decode cX9_asked 70 = .ok (.iconst 1, 1) := by decide +kernel
theorem dX9_asked_71 : decode cX9_asked 71 = .ok (.invokevirtual 130, 3) := by decide +kernel
theorem dX9_asked_74 : decode cX9_asked 74 = .ok (.ireturn, 1) := by decide +kernel
theorem dX9_asked_75 : decode cX9_asked 75 = .ok (.aload_n 0, 1) := by decide +kernel
theorem dX9_asked_76 : decode cX9_asked 76 = .ok (.iload_n 1, 1) := by decide +kernel
theorem dX9_asked_77 : decode cX9_asked 77 = .ok (.iconst 2, 1) := by decide +kernel
theorem dX9_asked_78 : decode cX9_asked 78 = .ok (.invokevirtual 130, 3) := by decide +kernel
theorem dX9_asked_81 : decode cX9_asked 81 = .ok (.ireturn, 1) := by decide +kernel
theorem dX9_asked_82 : decode cX9_asked 82 = .ok (.aload_n 0, 1) := by decide +kernel
theorem dX9_asked_83 : decode cX9_asked 83 = .ok (.iload_n 1, 1) := by decide +kernel
theorem dX9_asked_84 : decode cX9_asked 84 = .ok (.iconst 0, 1) := by decide +kernel
theorem dX9_asked_85 : decode cX9_asked 85 = .ok (.invokevirtual 130, 3) := by decide +kernel
theorem dX9_asked_88 : decode cX9_asked 88 = .ok (.ireturn, 1) := by decide +kernel
theorem dX9_asked_89 : decode cX9_asked 89 = .ok (.aload_n 0, 1) := by decide +kernel
theorem dX9_asked_90 : decode cX9_asked 90 = .ok (.iload_n 1, 1) := by decide +kernel
theorem dX9_asked_91 : decode cX9_asked 91 = .ok (.iconst 3, 1) := by decide +kernel
theorem dX9_asked_92 : decode cX9_asked 92 = .ok (.invokevirtual 130, 3) := by decide +kernel
theorem dX9_asked_95 : decode cX9_asked 95 = .ok (.ireturn, 1) := by decide +kernel
theorem dX9_asked_96 : decode cX9_asked 96 = .ok (.aload_n 0, 1) := by decide +kernel
theorem dX9_asked_97 : decode cX9_asked 97 = .ok (.iload_n 1, 1) := by decide +kernel
theorem dX9_asked_98 : decode cX9_asked 98 = .ok (.bipush 6, 2) := by decide +kernel
theorem dX9_asked_100 : decode cX9_asked 100 = .ok (.invokevirtual 130, 3) := by decide +kernel
theorem dX9_asked_103 : decode cX9_asked 103 = .ok (.ireturn, 1) := by decide +kernel
theorem dX9_holds_0 : decode cX9_holds 0 = .ok (.iconst 1, 1) := by decide +kernel
theorem dX9_holds_1 : decode cX9_holds 1 = .ok (.istore_n 3, 1) := by decide +kernel
theorem dX9_holds_2 : decode cX9_holds 2 = .ok (.iconst 0, 1) := by decide +kernel
theorem dX9_holds_3 : decode cX9_holds 3 = .ok (.istore 4, 2) := by decide +kernel
theorem dX9_holds_5 : decode cX9_holds 5 = .ok (.iload 4, 2) := by decide +kernel
theorem dX9_holds_7 : decode cX9_holds 7 = .ok (.aload_n 0, 1) := by decide +kernel
theorem dX9_holds_8 : decode cX9_holds 8 = .ok (.getfield 7, 3) := by decide +kernel
theorem dX9_holds_11 : decode cX9_holds 11 = .ok (.iload_n 2, 1) := by decide +kernel
theorem dX9_holds_12 : decode cX9_holds 12 = .ok (.iaload, 1) := by decide +kernel
theorem dX9_holds_13 : decode cX9_holds 13 = .ok (.if_icmp .ge 149, 3) := by decide +kernel
theorem dX9_holds_16 : decode cX9_holds 16 = .ok (.iload_n 3, 1) := by decide +kernel
theorem dX9_holds_17 : decode cX9_holds 17 = .ok (.ifCond .eq 145, 3) := by decide +kernel
theorem dX9_holds_20 : decode cX9_holds 20 = .ok (.iload_n 2, 1) := by decide +kernel
theorem dX9_holds_21 : decode cX9_holds 21 = .ok (.iconst 1, 1) := by decide +kernel
theorem dX9_holds_22 : decode cX9_holds 22 = .ok (.iadd, 1) := by decide +kernel
theorem dX9_holds_23 : decode cX9_holds 23 = .ok (.iconst 4, 1) := by decide +kernel
theorem dX9_holds_24 : decode cX9_holds 24 = .ok (.iload 4, 2) := by decide +kernel
theorem dX9_holds_26 : decode cX9_holds 26 = .ok (.imul, 1) := by decide +kernel
theorem dX9_holds_27 : decode cX9_holds 27 = .ok (.iadd, 1) := by decide +kernel
theorem dX9_holds_28 : decode cX9_holds 28 = .ok (.istore 5, 2) := by decide +kernel
theorem dX9_holds_30 : decode cX9_holds 30 = .ok (.aload_n 0, 1) := by decide +kernel
theorem dX9_holds_31 : decode cX9_holds 31 = .ok (.iload_n 1, 1) := by decide +kernel
theorem dX9_holds_32 : decode cX9_holds 32 = .ok (.aload_n 0, 1) := by decide +kernel
theorem dX9_holds_33 : decode cX9_holds 33 = .ok (.getfield 7, 3) := by decide +kernel
theorem dX9_holds_36 : decode cX9_holds 36 = .ok (.iload 5, 2) := by decide +kernel
theorem dX9_holds_38 : decode cX9_holds 38 = .ok (.iconst 1, 1) := by decide +kernel
theorem dX9_holds_39 : decode cX9_holds 39 = .ok (.iadd, 1) := by decide +kernel
theorem dX9_holds_40 : decode cX9_holds 40 = .ok (.iaload, 1) := by decide +kernel
theorem dX9_holds_41 : decode cX9_holds 41 = .ok (.invokevirtual 178, 3) := by decide +kernel
theorem dX9_holds_44 : decode cX9_holds 44 = .ok (.istore 6, 2) := by decide +kernel
theorem dX9_holds_46 : decode cX9_holds 46 = .ok (.aload_n 0, 1) := by decide +kernel
theorem dX9_holds_47 : decode cX9_holds 47 = .ok (.getfield 7, 3) := by decide +kernel
theorem dX9_holds_50 : decode cX9_holds 50 = .ok (.iload 5, 2) := by decide +kernel
theorem dX9_holds_52 : decode cX9_holds 52 = .ok (.iconst 3, 1) := by decide +kernel
theorem dX9_holds_53 : decode cX9_holds 53 = .ok (.iadd, 1) := by decide +kernel
theorem dX9_holds_54 : decode cX9_holds 54 = .ok (.iaload, 1) := by decide +kernel
theorem dX9_holds_55 : decode cX9_holds 55 = .ok (.istore 7, 2) := by decide +kernel
theorem dX9_holds_57 : decode cX9_holds 57 = .ok (.aload_n 0, 1) := by decide +kernel
theorem dX9_holds_58 : decode cX9_holds 58 = .ok (.getfield 7, 3) := by decide +kernel
theorem dX9_holds_61 : decode cX9_holds 61 = .ok (.iload 5, 2) := by decide +kernel
theorem dX9_holds_63 : decode cX9_holds 63 = .ok (.iconst 2, 1) := by decide +kernel
theorem dX9_holds_64 : decode cX9_holds 64 = .ok (.iadd, 1) := by decide +kernel
theorem dX9_holds_65 : decode cX9_holds 65 = .ok (.iaload, 1) := by decide +kernel
theorem dX9_holds_66 : decode cX9_holds 66 = .ok (.bipush 60, 2) := by decide +kernel
theorem dX9_holds_68 : decode cX9_holds 68 = .ok (.if_icmp .ne 18, 3) := by decide +kernel
theorem dX9_holds_71 : decode cX9_holds 71 = .ok (.iload 6, 2) := by decide +kernel
theorem dX9_holds_73 : decode cX9_holds 73 = .ok (.iload 7, 2) := by decide +kernel
theorem dX9_holds_75 : decode cX9_holds 75 = .ok (.if_icmp .ge 7, 3) := by decide +kernel
theorem dX9_holds_78 : decode cX9_holds 78 = .ok (.iconst 1, 1) := by decide +kernel
theorem dX9_holds_79 : decode cX9_holds 79 = .ok (.goto 48, 3) := by decide +kernel
theorem dX9_holds_82 : decode cX9_holds 82 = .ok (.iconst 0, 1) := by decide +kernel
theorem dX9_holds_83 : decode cX9_holds 83 = .ok (.goto 44, 3) := by decide +kernel
theorem dX9_holds_86 : decode cX9_holds 86 = .ok (.aload_n 0, 1) := by decide +kernel
theorem dX9_holds_87 : decode cX9_holds 87 = .ok (.getfield 7, 3) := by decide +kernel
theorem dX9_holds_90 : decode cX9_holds 90 = .ok (.iload 5, 2) := by decide +kernel
theorem dX9_holds_92 : decode cX9_holds 92 = .ok (.iconst 2, 1) := by decide +kernel
theorem dX9_holds_93 : decode cX9_holds 93 = .ok (.iadd, 1) := by decide +kernel
theorem dX9_holds_94 : decode cX9_holds 94 = .ok (.iaload, 1) := by decide +kernel
theorem dX9_holds_95 : decode cX9_holds 95 = .ok (.bipush 62, 2) := by decide +kernel
theorem dX9_holds_97 : decode cX9_holds 97 = .ok (.if_icmp .ne 18, 3) := by decide +kernel
theorem dX9_holds_100 : decode cX9_holds 100 = .ok (.iload 6, 2) := by decide +kernel
theorem dX9_holds_102 : decode cX9_holds 102 = .ok (.iload 7, 2) := by decide +kernel
theorem dX9_holds_104 : decode cX9_holds 104 = .ok (.if_icmp .le 7, 3) := by decide +kernel
theorem dX9_holds_107 : decode cX9_holds 107 = .ok (.iconst 1, 1) := by decide +kernel
theorem dX9_holds_108 : decode cX9_holds 108 = .ok (.goto 19, 3) := by decide +kernel
theorem dX9_holds_111 : decode cX9_holds 111 = .ok (.iconst 0, 1) := by decide +kernel
theorem dX9_holds_112 : decode cX9_holds 112 = .ok (.goto 15, 3) := by decide +kernel
theorem dX9_holds_115 : decode cX9_holds 115 = .ok (.iload 6, 2) := by decide +kernel
theorem dX9_holds_117 : decode cX9_holds 117 = .ok (.iload 7, 2) := by decide +kernel
theorem dX9_holds_119 : decode cX9_holds 119 = .ok (.if_icmp .ne 7, 3) := by decide +kernel
theorem dX9_holds_122 : decode cX9_holds 122 = .ok (.iconst 1, 1) := by decide +kernel
theorem dX9_holds_123 : decode cX9_holds 123 = .ok (.goto 4, 3) := by decide +kernel
theorem dX9_holds_126 : decode cX9_holds 126 = .ok (.iconst 0, 1) := by decide +kernel
theorem dX9_holds_127 : decode cX9_holds 127 = .ok (.istore 8, 2) := by decide +kernel
theorem dX9_holds_129 : decode cX9_holds 129 = .ok (.iload 8, 2) := by decide +kernel
theorem dX9_holds_131 : decode cX9_holds 131 = .ok (.aload_n 0, 1) := by decide +kernel
theorem dX9_holds_132 : decode cX9_holds 132 = .ok (.getfield 7, 3) := by decide +kernel
theorem dX9_holds_135 : decode cX9_holds 135 = .ok (.iload 5, 2) := by decide +kernel
theorem dX9_holds_137 : decode cX9_holds 137 = .ok (.iaload, 1) := by decide +kernel
theorem dX9_holds_138 : decode cX9_holds 138 = .ok (.iconst 1, 1) := by decide +kernel
theorem dX9_holds_139 : decode cX9_holds 139 = .ok (.if_icmp .ne 7, 3) := by decide +kernel
theorem dX9_holds_142 : decode cX9_holds 142 = .ok (.iconst 1, 1) := by decide +kernel
theorem dX9_holds_143 : decode cX9_holds 143 = .ok (.goto 4, 3) := by decide +kernel
theorem dX9_holds_146 : decode cX9_holds 146 = .ok (.iconst 0, 1) := by decide +kernel
theorem dX9_holds_147 : decode cX9_holds 147 = .ok (.if_icmp .eq 7, 3) := by decide +kernel
theorem dX9_holds_150 : decode cX9_holds 150 = .ok (.iconst 1, 1) := by decide +kernel
theorem dX9_holds_151 : decode cX9_holds 151 = .ok (.goto 4, 3) := by decide +kernel
theorem dX9_holds_154 : decode cX9_holds 154 = .ok (.iconst 0, 1) := by decide +kernel
theorem dX9_holds_155 : decode cX9_holds 155 = .ok (.istore_n 3, 1) := by decide +kernel
theorem dX9_holds_156 : decode cX9_holds 156 = .ok (.iinc 4 1, 3) := by decide +kernel
theorem dX9_holds_159 : decode cX9_holds 159 = .ok (.goto (-154), 3) := by decide +kernel
theorem dX9_holds_162 : decode cX9_holds 162 = .ok (.iload_n 3, 1) := by decide +kernel
theorem dX9_holds_163 : decode cX9_holds 163 = .ok (.ireturn, 1) := by decide +kernel
theorem dX9_customOf_0 : decode cX9_customOf 0 = .ok (.iconst 0, 1) := by decide +kernel
theorem dX9_customOf_1 : decode cX9_customOf 1 = .ok (.istore_n 2, 1) := by decide +kernel
theorem dX9_customOf_2 : decode cX9_customOf 2 = .ok (.iload_n 2, 1) := by decide +kernel
theorem dX9_customOf_3 : decode cX9_customOf 3 = .ok (.aload_n 0, 1) := by decide +kernel
theorem dX9_customOf_4 : decode cX9_customOf 4 = .ok (.getfield 7, 3) := by decide +kernel
theorem dX9_customOf_7 : decode cX9_customOf 7 = .ok (.bipush 6, 2) := by decide +kernel
theorem dX9_customOf_9 : decode cX9_customOf 9 = .ok (.iaload, 1) := by decide +kernel
theorem dX9_customOf_10 : decode cX9_customOf 10 = .ok (.if_icmp .ge 42, 3) := by decide +kernel
theorem dX9_customOf_13 : decode cX9_customOf 13 = .ok (.aload_n 0, 1) := by decide +kernel
theorem dX9_customOf_14 : decode cX9_customOf 14 = .ok (.iload_n 1, 1) := by decide +kernel
theorem dX9_customOf_15 : decode cX9_customOf 15 = .ok (.sipush 500, 3) := by decide +kernel
theorem dX9_customOf_18 : decode cX9_customOf 18 = .ok (.bipush 18, 2) := by decide +kernel
theorem dX9_customOf_20 : decode cX9_customOf 20 = .ok (.iload_n 2, 1) := by decide +kernel
theorem dX9_customOf_21 : decode cX9_customOf 21 = .ok (.imul, 1) := by decide +kernel
theorem dX9_customOf_22 : decode cX9_customOf 22 = .ok (.iadd, 1) := by decide +kernel
theorem dX9_customOf_23 : decode cX9_customOf 23 = .ok (.invokevirtual 181, 3) := by decide +kernel
theorem dX9_customOf_26 : decode cX9_customOf 26 = .ok (.ifCond .eq 20, 3) := by decide +kernel
theorem dX9_customOf_29 : decode cX9_customOf 29 = .ok (.aload_n 0, 1) := by decide +kernel
theorem dX9_customOf_30 : decode cX9_customOf 30 = .ok (.getfield 7, 3) := by decide +kernel
theorem dX9_customOf_33 : decode cX9_customOf 33 = .ok (.sipush 500, 3) := by decide +kernel
theorem dX9_customOf_36 : decode cX9_customOf 36 = .ok (.bipush 18, 2) := by decide +kernel
theorem dX9_customOf_38 : decode cX9_customOf 38 = .ok (.iload_n 2, 1) := by decide +kernel
theorem dX9_customOf_39 : decode cX9_customOf 39 = .ok (.imul, 1) := by decide +kernel
theorem dX9_customOf_40 : decode cX9_customOf 40 = .ok (.iadd, 1) := by decide +kernel
theorem dX9_customOf_41 : decode cX9_customOf 41 = .ok (.bipush 17, 2) := by decide +kernel
theorem dX9_customOf_43 : decode cX9_customOf 43 = .ok (.iadd, 1) := by decide +kernel
theorem dX9_customOf_44 : decode cX9_customOf 44 = .ok (.iaload, 1) := by decide +kernel
theorem dX9_customOf_45 : decode cX9_customOf 45 = .ok (.ireturn, 1) := by decide +kernel
theorem dX9_customOf_46 : decode cX9_customOf 46 = .ok (.iinc 2 1, 3) := by decide +kernel
theorem dX9_customOf_49 : decode cX9_customOf 49 = .ok (.goto (-47), 3) := by decide +kernel
theorem dX9_customOf_52 : decode cX9_customOf 52 = .ok (.iconst 0, 1) := by decide +kernel
theorem dX9_customOf_53 : decode cX9_customOf 53 = .ok (.ireturn, 1) := by decide +kernel
theorem dX9_isRipe_0 : decode cX9_isRipe 0 = .ok (.aload_n 0, 1) := by decide +kernel
theorem dX9_isRipe_1 : decode cX9_isRipe 1 = .ok (.getfield 7, 3) := by decide +kernel
theorem dX9_isRipe_4 : decode cX9_isRipe 4 = .ok (.bipush 50, 2) := by decide +kernel
theorem dX9_isRipe_6 : decode cX9_isRipe 6 = .ok (.aload_n 0, 1) := by decide +kernel
theorem dX9_isRipe_7 : decode cX9_isRipe 7 = .ok (.iload_n 1, 1) := by decide +kernel
theorem dX9_isRipe_8 : decode cX9_isRipe 8 = .ok (.iconst 2, 1) := by decide +kernel
theorem dX9_isRipe_9 : decode cX9_isRipe 9 = .ok (.invokevirtual 130, 3) := by decide +kernel
theorem dX9_isRipe_12 : decode cX9_isRipe 12 = .ok (.iadd, 1) := by decide +kernel
theorem dX9_isRipe_13 : decode cX9_isRipe 13 = .ok (.iaload, 1) := by decide +kernel
theorem dX9_isRipe_14 : decode cX9_isRipe 14 = .ok (.istore_n 2, 1) := by decide +kernel
theorem dX9_isRipe_15 : decode cX9_isRipe 15 = .ok (.bipush 8, 2) := by decide +kernel
theorem dX9_isRipe_17 : decode cX9_isRipe 17 = .ok (.bipush 10, 2) := by decide +kernel
theorem dX9_isRipe_19 : decode cX9_isRipe 19 = .ok (.iload_n 2, 1) := by decide +kernel
theorem dX9_isRipe_20 : decode cX9_isRipe 20 = .ok (.isub, 1) := by decide +kernel
theorem dX9_isRipe_21 : decode cX9_isRipe 21 = .ok (.imul, 1) := by decide +kernel
theorem dX9_isRipe_22 : decode cX9_isRipe 22 = .ok (.bipush 20, 2) := by decide +kernel
theorem dX9_isRipe_24 : decode cX9_isRipe 24 = .ok (.iadd, 1) := by decide +kernel
theorem dX9_isRipe_25 : decode cX9_isRipe 25 = .ok (.istore_n 3, 1) := by decide +kernel
theorem dX9_isRipe_26 : decode cX9_isRipe 26 = .ok (.aload_n 0, 1) := by decide +kernel
theorem dX9_isRipe_27 : decode cX9_isRipe 27 = .ok (.iload_n 1, 1) := by decide +kernel
theorem dX9_isRipe_28 : decode cX9_isRipe 28 = .ok (.bipush 6, 2) := by decide +kernel
theorem dX9_isRipe_30 : decode cX9_isRipe 30 = .ok (.invokevirtual 130, 3) := by decide +kernel
theorem dX9_isRipe_33 : decode cX9_isRipe 33 = .ok (.iload_n 3, 1) := by decide +kernel
theorem dX9_isRipe_34 : decode cX9_isRipe 34 = .ok (.iload_n 3, 1) := by decide +kernel
theorem dX9_isRipe_35 : decode cX9_isRipe 35 = .ok (.bipush 6, 2) := by decide +kernel
theorem dX9_isRipe_37 : decode cX9_isRipe 37 = .ok (.iload_n 2, 1) := by decide +kernel
theorem dX9_isRipe_38 : decode cX9_isRipe 38 = .ok (.imul, 1) := by decide +kernel
theorem dX9_isRipe_39 : decode cX9_isRipe 39 = .ok (.iadd, 1) := by decide +kernel
theorem dX9_isRipe_40 : decode cX9_isRipe 40 = .ok (.invokestatic 103, 3) := by decide +kernel
theorem dX9_isRipe_43 : decode cX9_isRipe 43 = .ok (.ireturn, 1) := by decide +kernel
theorem dX9_gives_0 : decode cX9_gives 0 = .ok (.aload_n 0, 1) := by decide +kernel
theorem dX9_gives_1 : decode cX9_gives 1 = .ok (.iload_n 1, 1) := by decide +kernel
theorem dX9_gives_2 : decode cX9_gives 2 = .ok (.iconst 0, 1) := by decide +kernel
theorem dX9_gives_3 : decode cX9_gives 3 = .ok (.invokevirtual 130, 3) := by decide +kernel
theorem dX9_gives_6 : decode cX9_gives 6 = .ok (.istore_n 2, 1) := by decide +kernel
theorem dX9_gives_7 : decode cX9_gives 7 = .ok (.aload_n 0, 1) := by decide +kernel
theorem dX9_gives_8 : decode cX9_gives 8 = .ok (.getfield 7, 3) := by decide +kernel
theorem dX9_gives_11 : decode cX9_gives 11 = .ok (.bipush 40, 2) := by decide +kernel
theorem dX9_gives_13 : decode cX9_gives 13 = .ok (.iconst 2, 1) := by decide +kernel
theorem dX9_gives_14 : decode cX9_gives 14 = .ok (.aload_n 0, 1) := by decide +kernel
theorem dX9_gives_15 : decode cX9_gives 15 = .ok (.iload_n 1, 1) := by decide +kernel
theorem dX9_gives_16 : decode cX9_gives 16 = .ok (.iconst 1, 1) := by decide +kernel
theorem dX9_gives_17 : decode cX9_gives 17 = .ok (.invokevirtual 130, 3) := by decide +kernel
theorem dX9_gives_20 : decode cX9_gives 20 = .ok (.imul, 1) := by decide +kernel
theorem dX9_gives_21 : decode cX9_gives 21 = .ok (.iadd, 1) := by decide +kernel
theorem dX9_gives_22 : decode cX9_gives 22 = .ok (.iaload, 1) := by decide +kernel
theorem dX9_gives_23 : decode cX9_gives 23 = .ok (.istore_n 3, 1) := by decide +kernel
theorem dX9_gives_24 : decode cX9_gives 24 = .ok (.aload_n 0, 1) := by decide +kernel
theorem dX9_gives_25 : decode cX9_gives 25 = .ok (.iload_n 1, 1) := by decide +kernel
theorem dX9_gives_26 : decode cX9_gives 26 = .ok (.iconst 5, 1) := by decide +kernel
theorem dX9_gives_27 : decode cX9_gives 27 = .ok (.invokevirtual 130, 3) := by decide +kernel
theorem dX9_gives_30 : decode cX9_gives 30 = .ok (.ifCond .ne 30, 3) := by decide +kernel
theorem dX9_gives_33 : decode cX9_gives 33 = .ok (.aload_n 0, 1) := by decide +kernel
theorem dX9_gives_34 : decode cX9_gives 34 = .ok (.iload_n 2, 1) := by decide +kernel
theorem dX9_gives_35 : decode cX9_gives 35 = .ok (.iconst 0, 1) := by decide +kernel
theorem dX9_gives_36 : decode cX9_gives 36 = .ok (.aload_n 0, 1) := by decide +kernel
theorem dX9_gives_37 : decode cX9_gives 37 = .ok (.iload_n 1, 1) := by decide +kernel
theorem dX9_gives_38 : decode cX9_gives 38 = .ok (.invokevirtual 184, 3) := by decide +kernel
theorem dX9_gives_41 : decode cX9_gives 41 = .ok (.ifCond .eq 7, 3) := by decide +kernel
theorem dX9_gives_44 : decode cX9_gives 44 = .ok (.iload_n 3, 1) := by decide +kernel
theorem dX9_gives_45 : decode cX9_gives 45 = .ok (.goto 6, 3) := by decide +kernel
theorem dX9_gives_48 : decode cX9_gives 48 = .ok (.iload_n 3, 1) := by decide +kernel
theorem dX9_gives_49 : decode cX9_gives 49 = .ok (.iconst 2, 1) := by decide +kernel
theorem dX9_gives_50 : decode cX9_gives 50 = .ok (.idiv, 1) := by decide +kernel
theorem dX9_gives_51 : decode cX9_gives 51 = .ok (.invokevirtual 169, 3) := by decide +kernel
theorem dX9_gives_54 : decode cX9_gives 54 = .ok (.aload_n 0, 1) := by decide +kernel
theorem dX9_gives_55 : decode cX9_gives 55 = .ok (.iload_n 1, 1) := by decide +kernel
theorem dX9_gives_56 : decode cX9_gives 56 = .ok (.invokevirtual 184, 3) := by decide +kernel
theorem dX9_gives_59 : decode cX9_gives 59 = .ok (.ireturn, 1) := by decide +kernel
theorem dX9_gives_60 : decode cX9_gives 60 = .ok (.iload_n 3, 1) := by decide +kernel
theorem dX9_gives_61 : decode cX9_gives 61 = .ok (.aload_n 0, 1) := by decide +kernel
theorem dX9_gives_62 : decode cX9_gives 62 = .ok (.iload_n 1, 1) := by decide +kernel
theorem dX9_gives_63 : decode cX9_gives 63 = .ok (.invokevirtual 187, 3) := by decide +kernel
theorem dX9_gives_66 : decode cX9_gives 66 = .ok (.imul, 1) := by decide +kernel
theorem dX9_gives_67 : decode cX9_gives 67 = .ok (.bipush 100, 2) := by decide +kernel
theorem dX9_gives_69 : decode cX9_gives 69 = .ok (.idiv, 1) := by decide +kernel
theorem dX9_gives_70 : decode cX9_gives 70 = .ok (.aload_n 0, 1) := by decide +kernel
theorem dX9_gives_71 : decode cX9_gives 71 = .ok (.getfield 7, 3) := by decide +kernel
theorem dX9_gives_74 : decode cX9_gives 74 = .ok (.iconst 0, 1) := by decide +kernel
theorem dX9_gives_75 : decode cX9_gives 75 = .ok (.iaload, 1) := by decide +kernel
theorem dX9_gives_76 : decode cX9_gives 76 = .ok (.idiv, 1) := by decide +kernel
theorem dX9_gives_77 : decode cX9_gives 77 = .ok (.istore 4, 2) := by decide +kernel
theorem dX9_gives_79 : decode cX9_gives 79 = .ok (.iconst 0, 1) := by decide +kernel
theorem dX9_gives_80 : decode cX9_gives 80 = .ok (.istore 5, 2) := by decide +kernel
theorem dX9_gives_82 : decode cX9_gives 82 = .ok (.iload 5, 2) := by decide +kernel
theorem dX9_gives_84 : decode cX9_gives 84 = .ok (.aload_n 0, 1) := by decide +kernel
theorem dX9_gives_85 : decode cX9_gives 85 = .ok (.getfield 7, 3) := by decide +kernel
theorem dX9_gives_88 : decode cX9_gives 88 = .ok (.iconst 0, 1) := by decide +kernel
theorem dX9_gives_89 : decode cX9_gives 89 = .ok (.iaload, 1) := by decide +kernel
theorem dX9_gives_90 : decode cX9_gives 90 = .ok (.if_icmp .ge 19, 3) := by decide +kernel
theorem dX9_gives_93 : decode cX9_gives 93 = .ok (.aload_n 0, 1) := by decide +kernel
theorem dX9_gives_94 : decode cX9_gives 94 = .ok (.iload 5, 2) := by decide +kernel
theorem dX9_gives_96 : decode cX9_gives 96 = .ok (.iconst 0, 1) := by decide +kernel
theorem dX9_gives_97 : decode cX9_gives 97 = .ok (.iload 4, 2) := by decide +kernel
theorem dX9_gives_99 : decode cX9_gives 99 = .ok (.ineg, 1) := by decide +kernel
theorem dX9_gives_100 : decode cX9_gives 100 = .ok (.invokevirtual 169, 3) := by decide +kernel
theorem dX9_gives_103 : decode cX9_gives 103 = .ok (.iinc 5 1, 3) := by decide +kernel
theorem dX9_gives_106 : decode cX9_gives 106 = .ok (.goto (-24), 3) := by decide +kernel
theorem dX9_gives_109 : decode cX9_gives 109 = .ok (.aload_n 0, 1) := by decide +kernel
theorem dX9_gives_110 : decode cX9_gives 110 = .ok (.iload_n 2, 1) := by decide +kernel
theorem dX9_gives_111 : decode cX9_gives 111 = .ok (.iconst 0, 1) := by decide +kernel
theorem dX9_gives_112 : decode cX9_gives 112 = .ok (.iload 4, 2) := by decide +kernel
theorem dX9_gives_114 : decode cX9_gives 114 = .ok (.aload_n 0, 1) := by decide +kernel
theorem dX9_gives_115 : decode cX9_gives 115 = .ok (.getfield 7, 3) := by decide +kernel
theorem dX9_gives_118 : decode cX9_gives 118 = .ok (.iconst 0, 1) := by decide +kernel
theorem dX9_gives_119 : decode cX9_gives 119 = .ok (.iaload, 1) := by decide +kernel
theorem dX9_gives_120 : decode cX9_gives 120 = .ok (.imul, 1) := by decide +kernel
theorem dX9_gives_121 : decode cX9_gives 121 = .ok (.invokevirtual 169, 3) := by decide +kernel
theorem dX9_gives_124 : decode cX9_gives 124 = .ok (.aload_n 0, 1) := by decide +kernel
theorem dX9_gives_125 : decode cX9_gives 125 = .ok (.iload_n 2, 1) := by decide +kernel
theorem dX9_gives_126 : decode cX9_gives 126 = .ok (.iconst 3, 1) := by decide +kernel
theorem dX9_gives_127 : decode cX9_gives 127 = .ok (.iconst 1, 1) := by decide +kernel
theorem dX9_gives_128 : decode cX9_gives 128 = .ok (.invokevirtual 169, 3) := by decide +kernel
theorem dX9_gives_131 : decode cX9_gives 131 = .ok (.iconst 0, 1) := by decide +kernel
theorem dX9_gives_132 : decode cX9_gives 132 = .ok (.ireturn, 1) := by decide +kernel
theorem dX9_open_0 : decode cX9_open 0 = .ok (.aload_n 0, 1) := by decide +kernel
theorem dX9_open_1 : decode cX9_open 1 = .ok (.invokevirtual 160, 3) := by decide +kernel
theorem dX9_open_4 : decode cX9_open 4 = .ok (.sipush 200, 3) := by decide +kernel
theorem dX9_open_7 : decode cX9_open 7 = .ok (.if_icmp .gt 10, 3) := by decide +kernel
theorem dX9_open_10 : decode cX9_open 10 = .ok (.aload_n 0, 1) := by decide +kernel
theorem dX9_open_11 : decode cX9_open 11 = .ok (.invokevirtual 137, 3) := by decide +kernel
theorem dX9_open_14 : decode cX9_open 14 = .ok (.ifCond .ne 5, 3) := by decide +kernel
theorem dX9_open_17 : decode cX9_open 17 = .ok (.iconst (-1), 1) := by decide +kernel
theorem dX9_open_18 : decode cX9_open 18 = .ok (.ireturn, 1) := by decide +kernel
theorem dX9_open_19 : decode cX9_open 19 = .ok (.iconst 0, 1) := by decide +kernel
theorem dX9_open_20 : decode cX9_open 20 = .ok (.istore_n 1, 1) := by decide +kernel
theorem dX9_open_21 : decode cX9_open 21 = .ok (.iconst 0, 1) := by decide +kernel
theorem dX9_open_22 : decode cX9_open 22 = .ok (.istore_n 2, 1) := by decide +kernel
theorem dX9_open_23 : decode cX9_open 23 = .ok (.iload_n 2, 1) := by decide +kernel
theorem dX9_open_24 : decode cX9_open 24 = .ok (.aload_n 0, 1) := by decide +kernel
theorem dX9_open_25 : decode cX9_open 25 = .ok (.getfield 7, 3) := by decide +kernel
theorem dX9_open_28 : decode cX9_open 28 = .ok (.iconst 1, 1) := by decide +kernel
theorem dX9_open_29 : decode cX9_open 29 = .ok (.iaload, 1) := by decide +kernel
theorem dX9_open_30 : decode cX9_open 30 = .ok (.if_icmp .ge 28, 3) := by decide +kernel
theorem dX9_open_33 : decode cX9_open 33 = .ok (.aload_n 0, 1) := by decide +kernel
theorem dX9_open_34 : decode cX9_open 34 = .ok (.iload_n 2, 1) := by decide +kernel
theorem dX9_open_35 : decode cX9_open 35 = .ok (.invokevirtual 134, 3) := by decide +kernel
theorem dX9_open_38 : decode cX9_open 38 = .ok (.ifCond .eq 14, 3) := by decide +kernel
theorem dX9_open_41 : decode cX9_open 41 = .ok (.aload_n 0, 1) := by decide +kernel
theorem dX9_open_42 : decode cX9_open 42 = .ok (.iload_n 2, 1) := by decide +kernel
theorem dX9_open_43 : decode cX9_open 43 = .ok (.invokevirtual 190, 3) := by decide +kernel
theorem dX9_open_46 : decode cX9_open 46 = .ok (.ifCond .eq 6, 3) := by decide +kernel
theorem dX9_open_49 : decode cX9_open 49 = .ok (.iinc 1 1, 3) := by decide +kernel
theorem dX9_open_52 : decode cX9_open 52 = .ok (.iinc 2 1, 3) := by decide +kernel
theorem dX9_open_55 : decode cX9_open 55 = .ok (.goto (-32), 3) := by decide +kernel
theorem dX9_open_58 : decode cX9_open 58 = .ok (.iconst 0, 1) := by decide +kernel
theorem dX9_open_59 : decode cX9_open 59 = .ok (.istore_n 2, 1) := by decide +kernel
theorem dX9_open_60 : decode cX9_open 60 = .ok (.iconst 0, 1) := by decide +kernel
theorem dX9_open_61 : decode cX9_open 61 = .ok (.istore_n 3, 1) := by decide +kernel
theorem dX9_open_62 : decode cX9_open 62 = .ok (.iload_n 3, 1) := by decide +kernel
theorem dX9_open_63 : decode cX9_open 63 = .ok (.aload_n 0, 1) := by decide +kernel
theorem dX9_open_64 : decode cX9_open 64 = .ok (.getfield 7, 3) := by decide +kernel
theorem dX9_open_67 : decode cX9_open 67 = .ok (.iconst 1, 1) := by decide +kernel
theorem dX9_open_68 : decode cX9_open 68 = .ok (.iaload, 1) := by decide +kernel
theorem dX9_open_69 : decode cX9_open 69 = .ok (.if_icmp .ge 53, 3) := by decide +kernel
theorem dX9_open_72 : decode cX9_open 72 = .ok (.aload_n 0, 1) := by decide +kernel
theorem dX9_open_73 : decode cX9_open 73 = .ok (.iload_n 3, 1) := by decide +kernel
theorem dX9_open_74 : decode cX9_open 74 = .ok (.invokevirtual 134, 3) := by decide +kernel
theorem dX9_open_77 : decode cX9_open 77 = .ok (.ifCond .eq 6, 3) := by decide +kernel
theorem dX9_open_80 : decode cX9_open 80 = .ok (.goto 36, 3) := by decide +kernel
theorem dX9_open_83 : decode cX9_open 83 = .ok (.iconst 0, 1) := by decide +kernel
theorem dX9_open_84 : decode cX9_open 84 = .ok (.istore 4, 2) := by decide +kernel
theorem dX9_open_86 : decode cX9_open 86 = .ok (.iload 4, 2) := by decide +kernel
theorem dX9_open_88 : decode cX9_open 88 = .ok (.bipush 8, 2) := by decide +kernel
theorem dX9_open_90 : decode cX9_open 90 = .ok (.if_icmp .ge 23, 3) := by decide +kernel
theorem dX9_open_93 : decode cX9_open 93 = .ok (.aload_n 0, 1) := by decide +kernel
theorem dX9_open_94 : decode cX9_open 94 = .ok (.iload_n 2, 1) := by decide +kernel
theorem dX9_open_95 : decode cX9_open 95 = .ok (.iload 4, 2) := by decide +kernel
theorem dX9_open_97 : decode cX9_open 97 = .ok (.aload_n 0, 1) := by decide +kernel
theorem dX9_open_98 : decode cX9_open 98 = .ok (.iload_n 3, 1) := by decide +kernel
theorem dX9_open_99 : decode cX9_open 99 = .ok (.iload 4, 2) := by decide +kernel
theorem dX9_open_101 : decode cX9_open 101 = .ok (.invokevirtual 130, 3) := by decide +kernel
theorem dX9_open_104 : decode cX9_open 104 = .ok (.invokevirtual 147, 3) := by decide +kernel
theorem dX9_open_107 : decode cX9_open 107 = .ok (.iinc 4 1, 3) := by decide +kernel
theorem dX9_open_110 : decode cX9_open 110 = .ok (.goto (-24), 3) := by decide +kernel
theorem dX9_open_113 : decode cX9_open 113 = .ok (.iinc 2 1, 3) := by decide +kernel
theorem dX9_open_116 : decode cX9_open 116 = .ok (.iinc 3 1, 3) := by decide +kernel
theorem dX9_open_119 : decode cX9_open 119 = .ok (.goto (-57), 3) := by decide +kernel
theorem dX9_open_122 : decode cX9_open 122 = .ok (.aload_n 0, 1) := by decide +kernel
theorem dX9_open_123 : decode cX9_open 123 = .ok (.getfield 7, 3) := by decide +kernel
theorem dX9_open_126 : decode cX9_open 126 = .ok (.iconst 1, 1) := by decide +kernel
theorem dX9_open_127 : decode cX9_open 127 = .ok (.iload_n 2, 1) := by decide +kernel
theorem dX9_open_128 : decode cX9_open 128 = .ok (.iastore, 1) := by decide +kernel
theorem dX9_open_129 : decode cX9_open 129 = .ok (.aload_n 0, 1) := by decide +kernel
theorem dX9_open_130 : decode cX9_open 130 = .ok (.getfield 7, 3) := by decide +kernel
theorem dX9_open_133 : decode cX9_open 133 = .ok (.iconst 5, 1) := by decide +kernel
theorem dX9_open_134 : decode cX9_open 134 = .ok (.dup2, 1) := by decide +kernel
theorem dX9_open_135 : decode cX9_open 135 = .ok (.iaload, 1) := by decide +kernel
theorem dX9_open_136 : decode cX9_open 136 = .ok (.iconst 1, 1) := by decide +kernel
theorem dX9_open_137 : decode cX9_open 137 = .ok (.iadd, 1) := by decide +kernel
theorem dX9_open_138 : decode cX9_open 138 = .ok (.iastore, 1) := by decide +kernel
theorem dX9_open_139 : decode cX9_open 139 = .ok (.iload_n 1, 1) := by decide +kernel
theorem dX9_open_140 : decode cX9_open 140 = .ok (.ireturn, 1) := by decide +kernel
theorem dX9_about_0 : decode cX9_about 0 = .ok (.iload_n 1, 1) := by decide +kernel
theorem dX9_about_1 : decode cX9_about 1 = .ok (.iconst 0, 1) := by decide +kernel
theorem dX9_about_2 : decode cX9_about 2 = .ok (.aload_n 0, 1) := by decide +kernel
theorem dX9_about_3 : decode cX9_about 3 = .ok (.getfield 7, 3) := by decide +kernel
theorem dX9_about_6 : decode cX9_about 6 = .ok (.iconst 1, 1) := by decide +kernel
theorem dX9_about_7 : decode cX9_about 7 = .ok (.iaload, 1) := by decide +kernel
theorem dX9_about_8 : decode cX9_about 8 = .ok (.iconst 1, 1) := by decide +kernel
theorem dX9_about_9 : decode cX9_about 9 = .ok (.isub, 1) := by decide +kernel
theorem dX9_about_10 : decode cX9_about 10 = .ok (.invokestatic 103, 3) := by decide +kernel
theorem dX9_about_13 : decode cX9_about 13 = .ok (.ifCond .ne 5, 3) := by decide +kernel
theorem dX9_about_16 : decode cX9_about 16 = .ok (.iconst (-1), 1) := by decide +kernel
theorem dX9_about_17 : decode cX9_about 17 = .ok (.ireturn, 1) := by decide +kernel
theorem dX9_about_18 : decode cX9_about 18 = .ok (.iload_n 2, 1) := by decide +kernel
theorem dX9_about_19 : decode cX9_about 19 = .ok (.tableswitch 119 0 8 #[49, 49, 49, 49, 56, 77, 98, 105, 113], 49) := by decide +kernel
theorem dX9_about_68 : decode cX9_about 68 = .ok (.aload_n 0, 1) := by decide +kernel
theorem dX9_about_69 : decode cX9_about 69 = .ok (.iload_n 1, 1) := by decide +kernel
theorem dX9_about_70 : decode cX9_about 70 = .ok (.iload_n 2, 1) := by decide +kernel
theorem dX9_about_71 : decode cX9_about 71 = .ok (.invokevirtual 130, 3) := by decide +kernel
theorem dX9_about_74 : decode cX9_about 74 = .ok (.ireturn, 1) := by decide +kernel
theorem dX9_about_75 : decode cX9_about 75 = .ok (.aload_n 0, 1) := by decide +kernel
theorem dX9_about_76 : decode cX9_about 76 = .ok (.iload_n 1, 1) := by decide +kernel
theorem dX9_about_77 : decode cX9_about 77 = .ok (.invokevirtual 134, 3) := by decide +kernel
theorem dX9_about_80 : decode cX9_about 80 = .ok (.ifCond .eq 14, 3) := by decide +kernel
theorem dX9_about_83 : decode cX9_about 83 = .ok (.aload_n 0, 1) := by decide +kernel
theorem dX9_about_84 : decode cX9_about 84 = .ok (.iload_n 1, 1) := by decide +kernel
theorem dX9_about_85 : decode cX9_about 85 = .ok (.iconst 4, 1) := by decide +kernel
theorem dX9_about_86 : decode cX9_about 86 = .ok (.invokevirtual 130, 3) := by decide +kernel
theorem dX9_about_89 : decode cX9_about 89 = .ok (.iconst 4, 1) := by decide +kernel
theorem dX9_about_90 : decode cX9_about 90 = .ok (.idiv, 1) := by decide +kernel
theorem dX9_about_91 : decode cX9_about 91 = .ok (.goto 4, 3) := by decide +kernel
theorem dX9_about_94 : decode cX9_about 94 = .ok (.iconst (-1), 1) := by decide +kernel
theorem dX9_about_95 : decode cX9_about 95 = .ok (.ireturn, 1) := by decide +kernel
theorem dX9_about_96 : decode cX9_about 96 = .ok (.aload_n 0, 1) := by decide +kernel
theorem dX9_about_97 : decode cX9_about 97 = .ok (.iload_n 1, 1) := by decide +kernel
theorem dX9_about_98 : decode cX9_about 98 = .ok (.invokevirtual 134, 3) := by decide +kernel
theorem dX9_about_101 : decode cX9_about 101 = .ok (.ifCond .eq 14, 3) := by decide +kernel
theorem dX9_about_104 : decode cX9_about 104 = .ok (.aload_n 0, 1) := by decide +kernel
theorem dX9_about_105 : decode cX9_about 105 = .ok (.iload_n 1, 1) := by decide +kernel
theorem dX9_about_106 : decode cX9_about 106 = .ok (.iconst 4, 1) := by decide +kernel
theorem dX9_about_107 : decode cX9_about 107 = .ok (.invokevirtual 130, 3) := by decide +kernel
theorem dX9_about_110 : decode cX9_about 110 = .ok (.iconst 4, 1) := by decide +kernel
theorem dX9_about_111 : decode cX9_about 111 = .ok (.irem, 1) := by decide +kernel
theorem dX9_about_112 : decode cX9_about 112 = .ok (.goto 4, 3) := by decide +kernel
theorem dX9_about_115 : decode cX9_about 115 = .ok (.iconst (-1), 1) := by decide +kernel
theorem dX9_about_116 : decode cX9_about 116 = .ok (.ireturn, 1) := by decide +kernel
theorem dX9_about_117 : decode cX9_about 117 = .ok (.aload_n 0, 1) := by decide +kernel
theorem dX9_about_118 : decode cX9_about 118 = .ok (.iload_n 1, 1) := by decide +kernel
theorem dX9_about_119 : decode cX9_about 119 = .ok (.iconst 5, 1) := by decide +kernel
theorem dX9_about_120 : decode cX9_about 120 = .ok (.invokevirtual 130, 3) := by decide +kernel
theorem dX9_about_123 : decode cX9_about 123 = .ok (.ireturn, 1) := by decide +kernel
theorem dX9_about_124 : decode cX9_about 124 = .ok (.aload_n 0, 1) := by decide +kernel
theorem dX9_about_125 : decode cX9_about 125 = .ok (.iload_n 1, 1) := by decide +kernel
theorem dX9_about_126 : decode cX9_about 126 = .ok (.bipush 6, 2) := by decide +kernel
theorem dX9_about_128 : decode cX9_about 128 = .ok (.invokevirtual 130, 3) := by decide +kernel
theorem dX9_about_131 : decode cX9_about 131 = .ok (.ireturn, 1) := by decide +kernel
theorem dX9_about_132 : decode cX9_about 132 = .ok (.aload_n 0, 1) := by decide +kernel
theorem dX9_about_133 : decode cX9_about 133 = .ok (.iload_n 1, 1) := by decide +kernel
theorem dX9_about_134 : decode cX9_about 134 = .ok (.invokevirtual 187, 3) := by decide +kernel
theorem dX9_about_137 : decode cX9_about 137 = .ok (.ireturn, 1) := by decide +kernel
theorem dX9_about_138 : decode cX9_about 138 = .ok (.iconst (-1), 1) := by decide +kernel
theorem dX9_about_139 : decode cX9_about 139 = .ok (.ireturn, 1) := by decide +kernel
theorem dX9_at_0 : decode cX9_at 0 = .ok (.aload_n 0, 1) := by decide +kernel
theorem dX9_at_1 : decode cX9_at 1 = .ok (.iload_n 1, 1) := by decide +kernel
theorem dX9_at_2 : decode cX9_at 2 = .ok (.iload_n 2, 1) := by decide +kernel
theorem dX9_at_3 : decode cX9_at 3 = .ok (.invokevirtual 140, 3) := by decide +kernel
theorem dX9_at_6 : decode cX9_at 6 = .ok (.ifCond .eq 15, 3) := by decide +kernel
theorem dX9_at_9 : decode cX9_at 9 = .ok (.aload_n 0, 1) := by decide +kernel
theorem dX9_at_10 : decode cX9_at 10 = .ok (.iconst 4, 1) := by decide +kernel
theorem dX9_at_11 : decode cX9_at 11 = .ok (.iload_n 1, 1) := by decide +kernel
theorem dX9_at_12 : decode cX9_at 12 = .ok (.imul, 1) := by decide +kernel
theorem dX9_at_13 : decode cX9_at 13 = .ok (.iload_n 2, 1) := by decide +kernel
theorem dX9_at_14 : decode cX9_at 14 = .ok (.iadd, 1) := by decide +kernel
theorem dX9_at_15 : decode cX9_at 15 = .ok (.invokevirtual 151, 3) := by decide +kernel
theorem dX9_at_18 : decode cX9_at 18 = .ok (.goto 4, 3) := by decide +kernel
theorem dX9_at_21 : decode cX9_at 21 = .ok (.iconst (-1), 1) := by decide +kernel
theorem dX9_at_22 : decode cX9_at 22 = .ok (.ireturn, 1) := by decide +kernel
theorem dX9_order_0 : decode cX9_order 0 = .ok (.aload_n 0, 1) := by decide +kernel
theorem dX9_order_1 : decode cX9_order 1 = .ok (.iload_n 1, 1) := by decide +kernel
theorem dX9_order_2 : decode cX9_order 2 = .ok (.invokevirtual 144, 3) := by decide +kernel
theorem dX9_order_5 : decode cX9_order 5 = .ok (.ifCond .eq 47, 3) := by decide +kernel
theorem dX9_order_8 : decode cX9_order 8 = .ok (.aload_n 0, 1) := by decide +kernel
theorem dX9_order_9 : decode cX9_order 9 = .ok (.iload_n 1, 1) := by decide +kernel
theorem dX9_order_10 : decode cX9_order 10 = .ok (.iconst 4, 1) := by decide +kernel
theorem dX9_order_11 : decode cX9_order 11 = .ok (.invokevirtual 157, 3) := by decide +kernel
theorem dX9_order_14 : decode cX9_order 14 = .ok (.bipush 8, 2) := by decide +kernel
theorem dX9_order_16 : decode cX9_order 16 = .ok (.if_icmp .eq 36, 3) := by decide +kernel
theorem dX9_order_19 : decode cX9_order 19 = .ok (.iload_n 2, 1) := by decide +kernel
theorem dX9_order_20 : decode cX9_order 20 = .ok (.iconst 1, 1) := by decide +kernel
theorem dX9_order_21 : decode cX9_order 21 = .ok (.bipush 30, 2) := by decide +kernel
theorem dX9_order_23 : decode cX9_order 23 = .ok (.invokestatic 103, 3) := by decide +kernel
theorem dX9_order_26 : decode cX9_order 26 = .ok (.ifCond .eq 26, 3) := by decide +kernel
theorem dX9_order_29 : decode cX9_order 29 = .ok (.iload_n 3, 1) := by decide +kernel
theorem dX9_order_30 : decode cX9_order 30 = .ok (.iconst 1, 1) := by decide +kernel
theorem dX9_order_31 : decode cX9_order 31 = .ok (.sipush 200, 3) := by decide +kernel
theorem dX9_order_34 : decode cX9_order 34 = .ok (.invokestatic 103, 3) := by decide +kernel
theorem dX9_order_37 : decode cX9_order 37 = .ok (.ifCond .eq 15, 3) := by decide +kernel
theorem dX9_order_40 : decode cX9_order 40 = .ok (.iload 4, 2) := by decide +kernel
theorem dX9_order_42 : decode cX9_order 42 = .ok (.iconst 1, 1) := by decide +kernel
theorem dX9_order_43 : decode cX9_order 43 = .ok (.sipush 999, 3) := by decide +kernel
theorem dX9_order_46 : decode cX9_order 46 = .ok (.invokestatic 103, 3) := by decide +kernel
theorem dX9_order_49 : decode cX9_order 49 = .ok (.ifCond .ne 5, 3) := by decide +kernel
theorem dX9_order_52 : decode cX9_order 52 = .ok (.iconst (-1), 1) := by decide +kernel
theorem dX9_order_53 : decode cX9_order 53 = .ok (.ireturn, 1) := by decide +kernel
theorem dX9_order_54 : decode cX9_order 54 = .ok (.aload_n 0, 1) := by decide +kernel
theorem dX9_order_55 : decode cX9_order 55 = .ok (.iload_n 1, 1) := by decide +kernel
theorem dX9_order_56 : decode cX9_order 56 = .ok (.iconst 4, 1) := by decide +kernel
theorem dX9_order_57 : decode cX9_order 57 = .ok (.invokevirtual 157, 3) := by decide +kernel
theorem dX9_order_60 : decode cX9_order 60 = .ok (.istore 5, 2) := by decide +kernel
theorem dX9_order_62 : decode cX9_order 62 = .ok (.bipush 60, 2) := by decide +kernel
theorem dX9_order_64 : decode cX9_order 64 = .ok (.bipush 30, 2) := by decide +kernel
theorem dX9_order_66 : decode cX9_order 66 = .ok (.iload_n 1, 1) := by decide +kernel
theorem dX9_order_67 : decode cX9_order 67 = .ok (.imul, 1) := by decide +kernel
theorem dX9_order_68 : decode cX9_order 68 = .ok (.iadd, 1) := by decide +kernel
theorem dX9_order_69 : decode cX9_order 69 = .ok (.iconst 5, 1) := by decide +kernel
theorem dX9_order_70 : decode cX9_order 70 = .ok (.iadd, 1) := by decide +kernel
theorem dX9_order_71 : decode cX9_order 71 = .ok (.iconst 3, 1) := by decide +kernel
theorem dX9_order_72 : decode cX9_order 72 = .ok (.iload 5, 2) := by decide +kernel
theorem dX9_order_74 : decode cX9_order 74 = .ok (.imul, 1) := by decide +kernel
theorem dX9_order_75 : decode cX9_order 75 = .ok (.iadd, 1) := by decide +kernel
theorem dX9_order_76 : decode cX9_order 76 = .ok (.istore 6, 2) := by decide +kernel
theorem dX9_order_78 : decode cX9_order 78 = .ok (.aload_n 0, 1) := by decide +kernel
theorem dX9_order_79 : decode cX9_order 79 = .ok (.getfield 7, 3) := by decide +kernel
theorem dX9_order_82 : decode cX9_order 82 = .ok (.iload 6, 2) := by decide +kernel
theorem dX9_order_84 : decode cX9_order 84 = .ok (.iload_n 2, 1) := by decide +kernel
theorem dX9_order_85 : decode cX9_order 85 = .ok (.iastore, 1) := by decide +kernel
theorem dX9_order_86 : decode cX9_order 86 = .ok (.aload_n 0, 1) := by decide +kernel
theorem dX9_order_87 : decode cX9_order 87 = .ok (.getfield 7, 3) := by decide +kernel
theorem dX9_order_90 : decode cX9_order 90 = .ok (.iload 6, 2) := by decide +kernel
theorem dX9_order_92 : decode cX9_order 92 = .ok (.iconst 1, 1) := by decide +kernel
theorem dX9_order_93 : decode cX9_order 93 = .ok (.iadd, 1) := by decide +kernel
theorem dX9_order_94 : decode cX9_order 94 = .ok (.iload_n 3, 1) := by decide +kernel
theorem dX9_order_95 : decode cX9_order 95 = .ok (.iastore, 1) := by decide +kernel
theorem dX9_order_96 : decode cX9_order 96 = .ok (.aload_n 0, 1) := by decide +kernel
theorem dX9_order_97 : decode cX9_order 97 = .ok (.getfield 7, 3) := by decide +kernel
theorem dX9_order_100 : decode cX9_order 100 = .ok (.iload 6, 2) := by decide +kernel
theorem dX9_order_102 : decode cX9_order 102 = .ok (.iconst 2, 1) := by decide +kernel
theorem dX9_order_103 : decode cX9_order 103 = .ok (.iadd, 1) := by decide +kernel
theorem dX9_order_104 : decode cX9_order 104 = .ok (.iload 4, 2) := by decide +kernel
theorem dX9_order_106 : decode cX9_order 106 = .ok (.iastore, 1) := by decide +kernel
theorem dX9_order_107 : decode cX9_order 107 = .ok (.aload_n 0, 1) := by decide +kernel
theorem dX9_order_108 : decode cX9_order 108 = .ok (.iload_n 1, 1) := by decide +kernel
theorem dX9_order_109 : decode cX9_order 109 = .ok (.iconst 4, 1) := by decide +kernel
theorem dX9_order_110 : decode cX9_order 110 = .ok (.iconst 1, 1) := by decide +kernel
theorem dX9_order_111 : decode cX9_order 111 = .ok (.invokevirtual 169, 3) := by decide +kernel
theorem dX9_order_114 : decode cX9_order 114 = .ok (.iload 5, 2) := by decide +kernel
theorem dX9_order_116 : decode cX9_order 116 = .ok (.ireturn, 1) := by decide +kernel
theorem dX9_can_0 : decode cX9_can 0 = .ok (.iconst 0, 1) := by decide +kernel
theorem dX9_can_1 : decode cX9_can 1 = .ok (.istore_n 3, 1) := by decide +kernel
theorem dX9_can_2 : decode cX9_can 2 = .ok (.iload_n 3, 1) := by decide +kernel
theorem dX9_can_3 : decode cX9_can 3 = .ok (.aload_n 0, 1) := by decide +kernel
theorem dX9_can_4 : decode cX9_can 4 = .ok (.iload_n 1, 1) := by decide +kernel
theorem dX9_can_5 : decode cX9_can 5 = .ok (.iconst 4, 1) := by decide +kernel
theorem dX9_can_6 : decode cX9_can 6 = .ok (.invokevirtual 157, 3) := by decide +kernel
theorem dX9_can_9 : decode cX9_can 9 = .ok (.if_icmp .ge 108, 3) := by decide +kernel
theorem dX9_can_12 : decode cX9_can 12 = .ok (.iload_n 2, 1) := by decide +kernel
theorem dX9_can_13 : decode cX9_can 13 = .ok (.iload_n 3, 1) := by decide +kernel
theorem dX9_can_14 : decode cX9_can 14 = .ok (.ishr, 1) := by decide +kernel
theorem dX9_can_15 : decode cX9_can 15 = .ok (.iconst 1, 1) := by decide +kernel
theorem dX9_can_16 : decode cX9_can 16 = .ok (.iand, 1) := by decide +kernel
theorem dX9_can_17 : decode cX9_can 17 = .ok (.ifCond .ne 6, 3) := by decide +kernel
theorem dX9_can_20 : decode cX9_can 20 = .ok (.goto 91, 3) := by decide +kernel
theorem dX9_can_23 : decode cX9_can 23 = .ok (.aload_n 0, 1) := by decide +kernel
theorem dX9_can_24 : decode cX9_can 24 = .ok (.iload_n 1, 1) := by decide +kernel
theorem dX9_can_25 : decode cX9_can 25 = .ok (.bipush 6, 2) := by decide +kernel
theorem dX9_can_27 : decode cX9_can 27 = .ok (.iconst 3, 1) := by decide +kernel
theorem dX9_can_28 : decode cX9_can 28 = .ok (.iload_n 3, 1) := by decide +kernel
theorem dX9_can_29 : decode cX9_can 29 = .ok (.imul, 1) := by decide +kernel
theorem dX9_can_30 : decode cX9_can 30 = .ok (.iadd, 1) := by decide +kernel
theorem dX9_can_31 : decode cX9_can 31 = .ok (.invokevirtual 157, 3) := by decide +kernel
theorem dX9_can_34 : decode cX9_can 34 = .ok (.istore 4, 2) := by decide +kernel
theorem dX9_can_36 : decode cX9_can 36 = .ok (.iconst 0, 1) := by decide +kernel
theorem dX9_can_37 : decode cX9_can 37 = .ok (.istore 5, 2) := by decide +kernel
theorem dX9_can_39 : decode cX9_can 39 = .ok (.iconst 0, 1) := by decide +kernel
theorem dX9_can_40 : decode cX9_can 40 = .ok (.istore 6, 2) := by decide +kernel
theorem dX9_can_42 : decode cX9_can 42 = .ok (.iload 6, 2) := by decide +kernel
theorem dX9_can_44 : decode cX9_can 44 = .ok (.aload_n 0, 1) := by decide +kernel
theorem dX9_can_45 : decode cX9_can 45 = .ok (.iload_n 1, 1) := by decide +kernel
theorem dX9_can_46 : decode cX9_can 46 = .ok (.iconst 4, 1) := by decide +kernel
theorem dX9_can_47 : decode cX9_can 47 = .ok (.invokevirtual 157, 3) := by decide +kernel
theorem dX9_can_50 : decode cX9_can 50 = .ok (.if_icmp .ge 52, 3) := by decide +kernel
theorem dX9_can_53 : decode cX9_can 53 = .ok (.iload_n 2, 1) := by decide +kernel
theorem dX9_can_54 : decode cX9_can 54 = .ok (.iload 6, 2) := by decide +kernel
theorem dX9_can_56 : decode cX9_can 56 = .ok (.ishr, 1) := by decide +kernel
theorem dX9_can_57 : decode cX9_can 57 = .ok (.iconst 1, 1) := by decide +kernel
theorem dX9_can_58 : decode cX9_can 58 = .ok (.iand, 1) := by decide +kernel
theorem dX9_can_59 : decode cX9_can 59 = .ok (.iconst 1, 1) := by decide +kernel
theorem dX9_can_60 : decode cX9_can 60 = .ok (.if_icmp .ne 36, 3) := by decide +kernel
theorem dX9_can_63 : decode cX9_can 63 = .ok (.aload_n 0, 1) := by decide +kernel
theorem dX9_can_64 : decode cX9_can 64 = .ok (.iload_n 1, 1) := by decide +kernel
theorem dX9_can_65 : decode cX9_can 65 = .ok (.bipush 6, 2) := by decide +kernel
theorem dX9_can_67 : decode cX9_can 67 = .ok (.iconst 3, 1) := by decide +kernel
theorem dX9_can_68 : decode cX9_can 68 = .ok (.iload 6, 2) := by decide +kernel
theorem dX9_can_70 : decode cX9_can 70 = .ok (.imul, 1) := by decide +kernel
theorem dX9_can_71 : decode cX9_can 71 = .ok (.iadd, 1) := by decide +kernel
theorem dX9_can_72 : decode cX9_can 72 = .ok (.invokevirtual 157, 3) := by decide +kernel
theorem dX9_can_75 : decode cX9_can 75 = .ok (.iload 4, 2) := by decide +kernel
theorem dX9_can_77 : decode cX9_can 77 = .ok (.if_icmp .gt 19, 3) := by decide +kernel
theorem dX9_can_80 : decode cX9_can 80 = .ok (.iload 5, 2) := by decide +kernel
theorem dX9_can_82 : decode cX9_can 82 = .ok (.aload_n 0, 1) := by decide +kernel
theorem dX9_can_83 : decode cX9_can 83 = .ok (.iload_n 1, 1) := by decide +kernel
theorem dX9_can_84 : decode cX9_can 84 = .ok (.iconst 5, 1) := by decide +kernel
theorem dX9_can_85 : decode cX9_can 85 = .ok (.iconst 3, 1) := by decide +kernel
theorem dX9_can_86 : decode cX9_can 86 = .ok (.iload 6, 2) := by decide +kernel
theorem dX9_can_88 : decode cX9_can 88 = .ok (.imul, 1) := by decide +kernel
theorem dX9_can_89 : decode cX9_can 89 = .ok (.iadd, 1) := by decide +kernel
theorem dX9_can_90 : decode cX9_can 90 = .ok (.invokevirtual 157, 3) := by decide +kernel
theorem dX9_can_93 : decode cX9_can 93 = .ok (.iadd, 1) := by decide +kernel
theorem dX9_can_94 : decode cX9_can 94 = .ok (.istore 5, 2) := by decide +kernel
theorem dX9_can_96 : decode cX9_can 96 = .ok (.iinc 6 1, 3) := by decide +kernel
theorem dX9_can_99 : decode cX9_can 99 = .ok (.goto (-57), 3) := by decide +kernel
theorem dX9_can_102 : decode cX9_can 102 = .ok (.iload 5, 2) := by decide +kernel
theorem dX9_can_104 : decode cX9_can 104 = .ok (.iload 4, 2) := by decide +kernel
theorem dX9_can_106 : decode cX9_can 106 = .ok (.if_icmp .le 5, 3) := by decide +kernel
theorem dX9_can_109 : decode cX9_can 109 = .ok (.iconst 0, 1) := by decide +kernel
theorem dX9_can_110 : decode cX9_can 110 = .ok (.ireturn, 1) := by decide +kernel
theorem dX9_can_111 : decode cX9_can 111 = .ok (.iinc 3 1, 3) := by decide +kernel
theorem dX9_can_114 : decode cX9_can 114 = .ok (.goto (-112), 3) := by decide +kernel
theorem dX9_can_117 : decode cX9_can 117 = .ok (.iconst 1, 1) := by decide +kernel
theorem dX9_can_118 : decode cX9_can 118 = .ok (.ireturn, 1) := by decide +kernel
theorem dX9_inTime_0 : decode cX9_inTime 0 = .ok (.aload_n 0, 1) := by decide +kernel
theorem dX9_inTime_1 : decode cX9_inTime 1 = .ok (.iload_n 1, 1) := by decide +kernel
theorem dX9_inTime_2 : decode cX9_inTime 2 = .ok (.invokevirtual 144, 3) := by decide +kernel
theorem dX9_inTime_5 : decode cX9_inTime 5 = .ok (.ifCond .eq 34, 3) := by decide +kernel
theorem dX9_inTime_8 : decode cX9_inTime 8 = .ok (.iload_n 2, 1) := by decide +kernel
theorem dX9_inTime_9 : decode cX9_inTime 9 = .ok (.iconst 0, 1) := by decide +kernel
theorem dX9_inTime_10 : decode cX9_inTime 10 = .ok (.iconst 1, 1) := by decide +kernel
theorem dX9_inTime_11 : decode cX9_inTime 11 = .ok (.aload_n 0, 1) := by decide +kernel
theorem dX9_inTime_12 : decode cX9_inTime 12 = .ok (.iload_n 1, 1) := by decide +kernel
theorem dX9_inTime_13 : decode cX9_inTime 13 = .ok (.iconst 4, 1) := by decide +kernel
theorem dX9_inTime_14 : decode cX9_inTime 14 = .ok (.invokevirtual 157, 3) := by decide +kernel
theorem dX9_inTime_17 : decode cX9_inTime 17 = .ok (.ishl, 1) := by decide +kernel
theorem dX9_inTime_18 : decode cX9_inTime 18 = .ok (.iconst 1, 1) := by decide +kernel
theorem dX9_inTime_19 : decode cX9_inTime 19 = .ok (.isub, 1) := by decide +kernel
theorem dX9_inTime_20 : decode cX9_inTime 20 = .ok (.invokestatic 103, 3) := by decide +kernel
theorem dX9_inTime_23 : decode cX9_inTime 23 = .ok (.ifCond .eq 16, 3) := by decide +kernel
theorem dX9_inTime_26 : decode cX9_inTime 26 = .ok (.aload_n 0, 1) := by decide +kernel
theorem dX9_inTime_27 : decode cX9_inTime 27 = .ok (.iload_n 1, 1) := by decide +kernel
theorem dX9_inTime_28 : decode cX9_inTime 28 = .ok (.iload_n 2, 1) := by decide +kernel
theorem dX9_inTime_29 : decode cX9_inTime 29 = .ok (.invokevirtual 193, 3) := by decide +kernel
theorem dX9_inTime_32 : decode cX9_inTime 32 = .ok (.ifCond .eq 7, 3) := by decide +kernel
theorem dX9_inTime_35 : decode cX9_inTime 35 = .ok (.iconst 1, 1) := by decide +kernel
theorem dX9_inTime_36 : decode cX9_inTime 36 = .ok (.goto 4, 3) := by decide +kernel
theorem dX9_inTime_39 : decode cX9_inTime 39 = .ok (.iconst 0, 1) := by decide +kernel
theorem dX9_inTime_40 : decode cX9_inTime 40 = .ok (.ireturn, 1) := by decide +kernel
theorem dX9_worthOf_0 : decode cX9_worthOf 0 = .ok (.iconst 0, 1) := by decide +kernel
theorem dX9_worthOf_1 : decode cX9_worthOf 1 = .ok (.istore_n 3, 1) := by decide +kernel
theorem dX9_worthOf_2 : decode cX9_worthOf 2 = .ok (.iconst 0, 1) := by decide +kernel
theorem dX9_worthOf_3 : decode cX9_worthOf 3 = .ok (.istore 4, 2) := by decide +kernel
theorem dX9_worthOf_5 : decode cX9_worthOf 5 = .ok (.iload 4, 2) := by decide +kernel
theorem dX9_worthOf_7 : decode cX9_worthOf 7 = .ok (.aload_n 0, 1) := by decide +kernel
theorem dX9_worthOf_8 : decode cX9_worthOf 8 = .ok (.iload_n 1, 1) := by decide +kernel
theorem dX9_worthOf_9 : decode cX9_worthOf 9 = .ok (.iconst 4, 1) := by decide +kernel
theorem dX9_worthOf_10 : decode cX9_worthOf 10 = .ok (.invokevirtual 157, 3) := by decide +kernel
theorem dX9_worthOf_13 : decode cX9_worthOf 13 = .ok (.if_icmp .ge 31, 3) := by decide +kernel
theorem dX9_worthOf_16 : decode cX9_worthOf 16 = .ok (.iload_n 3, 1) := by decide +kernel
theorem dX9_worthOf_17 : decode cX9_worthOf 17 = .ok (.iload_n 2, 1) := by decide +kernel
theorem dX9_worthOf_18 : decode cX9_worthOf 18 = .ok (.iload 4, 2) := by decide +kernel
theorem dX9_worthOf_20 : decode cX9_worthOf 20 = .ok (.ishr, 1) := by decide +kernel
theorem dX9_worthOf_21 : decode cX9_worthOf 21 = .ok (.iconst 1, 1) := by decide +kernel
theorem dX9_worthOf_22 : decode cX9_worthOf 22 = .ok (.iand, 1) := by decide +kernel
theorem dX9_worthOf_23 : decode cX9_worthOf 23 = .ok (.aload_n 0, 1) := by decide +kernel
theorem dX9_worthOf_24 : decode cX9_worthOf 24 = .ok (.iload_n 1, 1) := by decide +kernel
theorem dX9_worthOf_25 : decode cX9_worthOf 25 = .ok (.bipush 7, 2) := by decide +kernel
theorem dX9_worthOf_27 : decode cX9_worthOf 27 = .ok (.iconst 3, 1) := by decide +kernel
theorem dX9_worthOf_28 : decode cX9_worthOf 28 = .ok (.iload 4, 2) := by decide +kernel
theorem dX9_worthOf_30 : decode cX9_worthOf 30 = .ok (.imul, 1) := by decide +kernel
theorem dX9_worthOf_31 : decode cX9_worthOf 31 = .ok (.iadd, 1) := by decide +kernel
theorem dX9_worthOf_32 : decode cX9_worthOf 32 = .ok (.invokevirtual 157, 3) := by decide +kernel
theorem dX9_worthOf_35 : decode cX9_worthOf 35 = .ok (.imul, 1) := by decide +kernel
theorem dX9_worthOf_36 : decode cX9_worthOf 36 = .ok (.iadd, 1) := by decide +kernel
theorem dX9_worthOf_37 : decode cX9_worthOf 37 = .ok (.istore_n 3, 1) := by decide +kernel
theorem dX9_worthOf_38 : decode cX9_worthOf 38 = .ok (.iinc 4 1, 3) := by decide +kernel
theorem dX9_worthOf_41 : decode cX9_worthOf 41 = .ok (.goto (-36), 3) := by decide +kernel
theorem dX9_worthOf_44 : decode cX9_worthOf 44 = .ok (.iload_n 3, 1) := by decide +kernel
theorem dX9_worthOf_45 : decode cX9_worthOf 45 = .ok (.ireturn, 1) := by decide +kernel
theorem dX9_best_0 : decode cX9_best 0 = .ok (.iconst 0, 1) := by decide +kernel
theorem dX9_best_1 : decode cX9_best 1 = .ok (.istore_n 2, 1) := by decide +kernel
theorem dX9_best_2 : decode cX9_best 2 = .ok (.iconst 1, 1) := by decide +kernel
theorem dX9_best_3 : decode cX9_best 3 = .ok (.istore_n 3, 1) := by decide +kernel
theorem dX9_best_4 : decode cX9_best 4 = .ok (.iload_n 3, 1) := by decide +kernel
theorem dX9_best_5 : decode cX9_best 5 = .ok (.iconst 1, 1) := by decide +kernel
theorem dX9_best_6 : decode cX9_best 6 = .ok (.aload_n 0, 1) := by decide +kernel
theorem dX9_best_7 : decode cX9_best 7 = .ok (.iload_n 1, 1) := by decide +kernel
theorem dX9_best_8 : decode cX9_best 8 = .ok (.iconst 4, 1) := by decide +kernel
theorem dX9_best_9 : decode cX9_best 9 = .ok (.invokevirtual 157, 3) := by decide +kernel
theorem dX9_best_12 : decode cX9_best 12 = .ok (.ishl, 1) := by decide +kernel
theorem dX9_best_13 : decode cX9_best 13 = .ok (.if_icmp .ge 35, 3) := by decide +kernel
theorem dX9_best_16 : decode cX9_best 16 = .ok (.aload_n 0, 1) := by decide +kernel
theorem dX9_best_17 : decode cX9_best 17 = .ok (.iload_n 1, 1) := by decide +kernel
theorem dX9_best_18 : decode cX9_best 18 = .ok (.iload_n 3, 1) := by decide +kernel
theorem dX9_best_19 : decode cX9_best 19 = .ok (.invokevirtual 196, 3) := by decide +kernel
theorem dX9_best_22 : decode cX9_best 22 = .ok (.aload_n 0, 1) := by decide +kernel
theorem dX9_best_23 : decode cX9_best 23 = .ok (.iload_n 1, 1) := by decide +kernel
theorem dX9_best_24 : decode cX9_best 24 = .ok (.iload_n 2, 1) := by decide +kernel
theorem dX9_best_25 : decode cX9_best 25 = .ok (.invokevirtual 196, 3) := by decide +kernel
theorem dX9_best_28 : decode cX9_best 28 = .ok (.if_icmp .le 14, 3) := by decide +kernel
theorem dX9_best_31 : decode cX9_best 31 = .ok (.aload_n 0, 1) := by decide +kernel
theorem dX9_best_32 : decode cX9_best 32 = .ok (.iload_n 1, 1) := by decide +kernel
theorem dX9_best_33 : decode cX9_best 33 = .ok (.iload_n 3, 1) := by decide +kernel
theorem dX9_best_34 : decode cX9_best 34 = .ok (.invokevirtual 193, 3) := by decide +kernel
theorem dX9_best_37 : decode cX9_best 37 = .ok (.ifCond .eq 5, 3) := by decide +kernel
theorem dX9_best_40 : decode cX9_best 40 = .ok (.iload_n 3, 1) := by decide +kernel
theorem dX9_best_41 : decode cX9_best 41 = .ok (.istore_n 2, 1) := by decide +kernel
theorem dX9_best_42 : decode cX9_best 42 = .ok (.iinc 3 1, 3) := by decide +kernel
theorem dX9_best_45 : decode cX9_best 45 = .ok (.goto (-41), 3) := by decide +kernel
theorem dX9_best_48 : decode cX9_best 48 = .ok (.iload_n 2, 1) := by decide +kernel
theorem dX9_best_49 : decode cX9_best 49 = .ok (.ireturn, 1) := by decide +kernel
theorem dX9_forget_0 : decode cX9_forget 0 = .ok (.aload_n 0, 1) := by decide +kernel
theorem dX9_forget_1 : decode cX9_forget 1 = .ok (.iload_n 1, 1) := by decide +kernel
theorem dX9_forget_2 : decode cX9_forget 2 = .ok (.invokevirtual 144, 3) := by decide +kernel
theorem dX9_forget_5 : decode cX9_forget 5 = .ok (.ifCond .ne 5, 3) := by decide +kernel
theorem dX9_forget_8 : decode cX9_forget 8 = .ok (.iconst 0, 1) := by decide +kernel
theorem dX9_forget_9 : decode cX9_forget 9 = .ok (.ireturn, 1) := by decide +kernel
theorem dX9_forget_10 : decode cX9_forget 10 = .ok (.aload_n 0, 1) := by decide +kernel
theorem dX9_forget_11 : decode cX9_forget 11 = .ok (.getfield 7, 3) := by decide +kernel
theorem dX9_forget_14 : decode cX9_forget 14 = .ok (.bipush 60, 2) := by decide +kernel
theorem dX9_forget_16 : decode cX9_forget 16 = .ok (.bipush 30, 2) := by decide +kernel
theorem dX9_forget_18 : decode cX9_forget 18 = .ok (.iload_n 1, 1) := by decide +kernel
theorem dX9_forget_19 : decode cX9_forget 19 = .ok (.imul, 1) := by decide +kernel
theorem dX9_forget_20 : decode cX9_forget 20 = .ok (.iadd, 1) := by decide +kernel
theorem dX9_forget_21 : decode cX9_forget 21 = .ok (.iconst 4, 1) := by decide +kernel
theorem dX9_forget_22 : decode cX9_forget 22 = .ok (.iadd, 1) := by decide +kernel
theorem dX9_forget_23 : decode cX9_forget 23 = .ok (.iconst 0, 1) := by decide +kernel
theorem dX9_forget_24 : decode cX9_forget 24 = .ok (.iastore, 1) := by decide +kernel
theorem dX9_forget_25 : decode cX9_forget 25 = .ok (.iconst 1, 1) := by decide +kernel
theorem dX9_forget_26 : decode cX9_forget 26 = .ok (.ireturn, 1) := by decide +kernel
theorem dX9_tell_0 : decode cX9_tell 0 = .ok (.aload_n 0, 1) := by decide +kernel
theorem dX9_tell_1 : decode cX9_tell 1 = .ok (.iload_n 1, 1) := by decide +kernel
theorem dX9_tell_2 : decode cX9_tell 2 = .ok (.invokevirtual 144, 3) := by decide +kernel
theorem dX9_tell_5 : decode cX9_tell 5 = .ok (.ifCond .ne 6, 3) := by decide +kernel
theorem dX9_tell_8 : decode cX9_tell 8 = .ok (.ldc 199, 2) := by decide +kernel
theorem dX9_tell_10 : decode cX9_tell 10 = .ok (.ireturn, 1) := by decide +kernel
theorem dX9_tell_11 : decode cX9_tell 11 = .ok (.iconst 0, 1) := by decide +kernel
theorem dX9_tell_12 : decode cX9_tell 12 = .ok (.istore_n 3, 1) := by decide +kernel
theorem dX9_tell_13 : decode cX9_tell 13 = .ok (.iconst 0, 1) := by decide +kernel
theorem dX9_tell_14 : decode cX9_tell 14 = .ok (.istore 4, 2) := by decide +kernel
theorem dX9_tell_16 : decode cX9_tell 16 = .ok (.iconst 0, 1) := by decide +kernel
theorem dX9_tell_17 : decode cX9_tell 17 = .ok (.istore 5, 2) := by decide +kernel
theorem dX9_tell_19 : decode cX9_tell 19 = .ok (.iload 5, 2) := by decide +kernel
theorem dX9_tell_21 : decode cX9_tell 21 = .ok (.aload_n 0, 1) := by decide +kernel
theorem dX9_tell_22 : decode cX9_tell 22 = .ok (.getfield 7, 3) := by decide +kernel
theorem dX9_tell_25 : decode cX9_tell 25 = .ok (.iconst 1, 1) := by decide +kernel
theorem dX9_tell_26 : decode cX9_tell 26 = .ok (.iaload, 1) := by decide +kernel
theorem dX9_tell_27 : decode cX9_tell 27 = .ok (.if_icmp .ge 58, 3) := by decide +kernel
theorem dX9_tell_30 : decode cX9_tell 30 = .ok (.iload_n 3, 1) := by decide +kernel
theorem dX9_tell_31 : decode cX9_tell 31 = .ok (.aload_n 0, 1) := by decide +kernel
theorem dX9_tell_32 : decode cX9_tell 32 = .ok (.iload 5, 2) := by decide +kernel
theorem dX9_tell_34 : decode cX9_tell 34 = .ok (.iconst 0, 1) := by decide +kernel
theorem dX9_tell_35 : decode cX9_tell 35 = .ok (.invokevirtual 130, 3) := by decide +kernel
theorem dX9_tell_38 : decode cX9_tell 38 = .ok (.iload_n 1, 1) := by decide +kernel
theorem dX9_tell_39 : decode cX9_tell 39 = .ok (.if_icmp .ne 7, 3) := by decide +kernel
theorem dX9_tell_42 : decode cX9_tell 42 = .ok (.iconst 1, 1) := by decide +kernel
theorem dX9_tell_43 : decode cX9_tell 43 = .ok (.goto 4, 3) := by decide +kernel
theorem dX9_tell_46 : decode cX9_tell 46 = .ok (.iconst 0, 1) := by decide +kernel
theorem dX9_tell_47 : decode cX9_tell 47 = .ok (.iadd, 1) := by decide +kernel
theorem dX9_tell_48 : decode cX9_tell 48 = .ok (.istore_n 3, 1) := by decide +kernel
theorem dX9_tell_49 : decode cX9_tell 49 = .ok (.iload 4, 2) := by decide +kernel
theorem dX9_tell_51 : decode cX9_tell 51 = .ok (.aload_n 0, 1) := by decide +kernel
theorem dX9_tell_52 : decode cX9_tell 52 = .ok (.iload 5, 2) := by decide +kernel
theorem dX9_tell_54 : decode cX9_tell 54 = .ok (.iconst 0, 1) := by decide +kernel
theorem dX9_tell_55 : decode cX9_tell 55 = .ok (.invokevirtual 130, 3) := by decide +kernel
theorem dX9_tell_58 : decode cX9_tell 58 = .ok (.iload_n 1, 1) := by decide +kernel
theorem dX9_tell_59 : decode cX9_tell 59 = .ok (.if_icmp .ne 16, 3) := by decide +kernel
theorem dX9_tell_62 : decode cX9_tell 62 = .ok (.aload_n 0, 1) := by decide +kernel
theorem dX9_tell_63 : decode cX9_tell 63 = .ok (.iload 5, 2) := by decide +kernel
theorem dX9_tell_65 : decode cX9_tell 65 = .ok (.invokevirtual 134, 3) := by decide +kernel
theorem dX9_tell_68 : decode cX9_tell 68 = .ok (.ifCond .eq 7, 3) := by decide +kernel
theorem dX9_tell_71 : decode cX9_tell 71 = .ok (.iconst 1, 1) := by decide +kernel
theorem dX9_tell_72 : decode cX9_tell 72 = .ok (.goto 4, 3) := by decide +kernel
theorem dX9_tell_75 : decode cX9_tell 75 = .ok (.iconst 0, 1) := by decide +kernel
theorem dX9_tell_76 : decode cX9_tell 76 = .ok (.iadd, 1) := by decide +kernel
theorem dX9_tell_77 : decode cX9_tell 77 = .ok (.istore 4, 2) := by decide +kernel
theorem dX9_tell_79 : decode cX9_tell 79 = .ok (.iinc 5 1, 3) := by decide +kernel
theorem dX9_tell_82 : decode cX9_tell 82 = .ok (.goto (-63), 3) := by decide +kernel
theorem dX9_tell_85 : decode cX9_tell 85 = .ok (.iload_n 2, 1) := by decide +kernel
theorem dX9_tell_86 : decode cX9_tell 86 = .ok (.tableswitch 89 0 7 #[46, 46, 53, 55, 58, 65, 76, 82], 46) := by decide +kernel
theorem dX9_tell_132 : decode cX9_tell 132 = .ok (.aload_n 0, 1) := by decide +kernel
theorem dX9_tell_133 : decode cX9_tell 133 = .ok (.iload_n 1, 1) := by decide +kernel
theorem dX9_tell_134 : decode cX9_tell 134 = .ok (.iload_n 2, 1) := by decide +kernel
theorem dX9_tell_135 : decode cX9_tell 135 = .ok (.invokevirtual 157, 3) := by decide +kernel
theorem dX9_tell_138 : decode cX9_tell 138 = .ok (.ireturn, 1) := by decide +kernel
theorem dX9_tell_139 : decode cX9_tell 139 = .ok (.iload_n 3, 1) := by decide +kernel
theorem dX9_tell_140 : decode cX9_tell 140 = .ok (.ireturn, 1) := by decide +kernel
theorem dX9_tell_141 : decode cX9_tell 141 = .ok (.iload 4, 2) := by decide +kernel
theorem dX9_tell_143 : decode cX9_tell 143 = .ok (.ireturn, 1) := by decide +kernel
theorem dX9_tell_144 : decode cX9_tell 144 = .ok (.aload_n 0, 1) := by decide +kernel
theorem dX9_tell_145 : decode cX9_tell 145 = .ok (.iload_n 1, 1) := by decide +kernel
theorem dX9_tell_146 : decode cX9_tell 146 = .ok (.iconst 4, 1) := by decide +kernel
theorem dX9_tell_147 : decode cX9_tell 147 = .ok (.invokevirtual 157, 3) := by decide +kernel
theorem dX9_tell_150 : decode cX9_tell 150 = .ok (.ireturn, 1) := by decide +kernel
theorem dX9_tell_151 : decode cX9_tell 151 = .ok (.aload_n 0, 1) := by decide +kernel
theorem dX9_tell_152 : decode cX9_tell 152 = .ok (.iload_n 1, 1) := by decide +kernel
theorem dX9_tell_153 : decode cX9_tell 153 = .ok (.aload_n 0, 1) := by decide +kernel
theorem dX9_tell_154 : decode cX9_tell 154 = .ok (.iload_n 1, 1) := by decide +kernel
theorem dX9_tell_155 : decode cX9_tell 155 = .ok (.invokevirtual 200, 3) := by decide +kernel
theorem dX9_tell_158 : decode cX9_tell 158 = .ok (.invokevirtual 196, 3) := by decide +kernel
theorem dX9_tell_161 : decode cX9_tell 161 = .ok (.ireturn, 1) := by decide +kernel
theorem dX9_tell_162 : decode cX9_tell 162 = .ok (.aload_n 0, 1) := by decide +kernel
theorem dX9_tell_163 : decode cX9_tell 163 = .ok (.iload_n 1, 1) := by decide +kernel
theorem dX9_tell_164 : decode cX9_tell 164 = .ok (.invokevirtual 200, 3) := by decide +kernel
theorem dX9_tell_167 : decode cX9_tell 167 = .ok (.ireturn, 1) := by decide +kernel
theorem dX9_tell_168 : decode cX9_tell 168 = .ok (.aload_n 0, 1) := by decide +kernel
theorem dX9_tell_169 : decode cX9_tell 169 = .ok (.iload_n 1, 1) := by decide +kernel
theorem dX9_tell_170 : decode cX9_tell 170 = .ok (.iconst 3, 1) := by decide +kernel
theorem dX9_tell_171 : decode cX9_tell 171 = .ok (.invokevirtual 157, 3) := by decide +kernel
theorem dX9_tell_174 : decode cX9_tell 174 = .ok (.ireturn, 1) := by decide +kernel
theorem dX9_tell_175 : decode cX9_tell 175 = .ok (.ldc 199, 2) := by decide +kernel
theorem dX9_tell_177 : decode cX9_tell 177 = .ok (.ireturn, 1) := by decide +kernel
theorem dX9_count_0 : decode cX9_count 0 = .ok (.iconst 0, 1) := by decide +kernel
theorem dX9_count_1 : decode cX9_count 1 = .ok (.istore_n 2, 1) := by decide +kernel
theorem dX9_count_2 : decode cX9_count 2 = .ok (.iconst 0, 1) := by decide +kernel
theorem dX9_count_3 : decode cX9_count 3 = .ok (.istore_n 3, 1) := by decide +kernel
theorem dX9_count_4 : decode cX9_count 4 = .ok (.iload_n 3, 1) := by decide +kernel
theorem dX9_count_5 : decode cX9_count 5 = .ok (.aload_n 0, 1) := by decide +kernel
theorem dX9_count_6 : decode cX9_count 6 = .ok (.getfield 7, 3) := by decide +kernel
theorem dX9_count_9 : decode cX9_count 9 = .ok (.iconst 2, 1) := by decide +kernel
theorem dX9_count_10 : decode cX9_count 10 = .ok (.iaload, 1) := by decide +kernel
theorem dX9_count_11 : decode cX9_count 11 = .ok (.if_icmp .ge 21, 3) := by decide +kernel
theorem dX9_count_14 : decode cX9_count 14 = .ok (.iload_n 2, 1) := by decide +kernel
theorem dX9_count_15 : decode cX9_count 15 = .ok (.aload_n 0, 1) := by decide +kernel
theorem dX9_count_16 : decode cX9_count 16 = .ok (.getfield 7, 3) := by decide +kernel
theorem dX9_count_19 : decode cX9_count 19 = .ok (.bipush 10, 2) := by decide +kernel
theorem dX9_count_21 : decode cX9_count 21 = .ok (.iload_n 3, 1) := by decide +kernel
theorem dX9_count_22 : decode cX9_count 22 = .ok (.iadd, 1) := by decide +kernel
theorem dX9_count_23 : decode cX9_count 23 = .ok (.iaload, 1) := by decide +kernel
theorem dX9_count_24 : decode cX9_count 24 = .ok (.iadd, 1) := by decide +kernel
theorem dX9_count_25 : decode cX9_count 25 = .ok (.istore_n 2, 1) := by decide +kernel
theorem dX9_count_26 : decode cX9_count 26 = .ok (.iinc 3 1, 3) := by decide +kernel
theorem dX9_count_29 : decode cX9_count 29 = .ok (.goto (-25), 3) := by decide +kernel
theorem dX9_count_32 : decode cX9_count 32 = .ok (.iload_n 1, 1) := by decide +kernel
theorem dX9_count_33 : decode cX9_count 33 = .ok (.tableswitch 108 0 8 #[51, 58, 65, 70, 77, 84, 91, 99, 106], 51) := by decide +kernel
theorem dX9_count_84 : decode cX9_count 84 = .ok (.aload_n 0, 1) := by decide +kernel
theorem dX9_count_85 : decode cX9_count 85 = .ok (.getfield 7, 3) := by decide +kernel
theorem dX9_count_88 : decode cX9_count 88 = .ok (.iconst 0, 1) := by decide +kernel
theorem dX9_count_89 : decode cX9_count 89 = .ok (.iaload, 1) := by decide +kernel
theorem dX9_count_90 : decode cX9_count 90 = .ok (.ireturn, 1) := by decide +kernel
theorem dX9_count_91 : decode cX9_count 91 = .ok (.aload_n 0, 1) := by decide +kernel
theorem dX9_count_92 : decode cX9_count 92 = .ok (.getfield 7, 3) := by decide +kernel
theorem dX9_count_95 : decode cX9_count 95 = .ok (.iconst 1, 1) := by decide +kernel
theorem dX9_count_96 : decode cX9_count 96 = .ok (.iaload, 1) := by decide +kernel
theorem dX9_count_97 : decode cX9_count 97 = .ok (.ireturn, 1) := by decide +kernel
theorem dX9_count_98 : decode cX9_count 98 = .ok (.aload_n 0, 1) := by decide +kernel
theorem dX9_count_99 : decode cX9_count 99 = .ok (.invokevirtual 137, 3) := by decide +kernel
theorem dX9_count_102 : decode cX9_count 102 = .ok (.ireturn, 1) := by decide +kernel
theorem dX9_count_103 : decode cX9_count 103 = .ok (.aload_n 0, 1) := by decide +kernel
theorem dX9_count_104 : decode cX9_count 104 = .ok (.getfield 7, 3) := by decide +kernel
theorem dX9_count_107 : decode cX9_count 107 = .ok (.iconst 3, 1) := by decide +kernel
theorem dX9_count_108 : decode cX9_count 108 = .ok (.iaload, 1) := by decide +kernel
theorem dX9_count_109 : decode cX9_count 109 = .ok (.ireturn, 1) := by decide +kernel
theorem dX9_count_110 : decode cX9_count 110 = .ok (.aload_n 0, 1) := by decide +kernel
theorem dX9_count_111 : decode cX9_count 111 = .ok (.getfield 7, 3) := by decide +kernel
theorem dX9_count_114 : decode cX9_count 114 = .ok (.iconst 4, 1) := by decide +kernel
theorem dX9_count_115 : decode cX9_count 115 = .ok (.iaload, 1) := by decide +kernel
theorem dX9_count_116 : decode cX9_count 116 = .ok (.ireturn, 1) := by decide +kernel
theorem dX9_count_117 : decode cX9_count 117 = .ok (.aload_n 0, 1) := by decide +kernel
theorem dX9_count_118 : decode cX9_count 118 = .ok (.getfield 7, 3) := by decide +kernel
theorem dX9_count_121 : decode cX9_count 121 = .ok (.iconst 5, 1) := by decide +kernel
theorem dX9_count_122 : decode cX9_count 122 = .ok (.iaload, 1) := by decide +kernel
theorem dX9_count_123 : decode cX9_count 123 = .ok (.ireturn, 1) := by decide +kernel
theorem dX9_count_124 : decode cX9_count 124 = .ok (.aload_n 0, 1) := by decide +kernel
theorem dX9_count_125 : decode cX9_count 125 = .ok (.getfield 7, 3) := by decide +kernel
theorem dX9_count_128 : decode cX9_count 128 = .ok (.bipush 6, 2) := by decide +kernel
theorem dX9_count_130 : decode cX9_count 130 = .ok (.iaload, 1) := by decide +kernel
theorem dX9_count_131 : decode cX9_count 131 = .ok (.ireturn, 1) := by decide +kernel
theorem dX9_count_132 : decode cX9_count 132 = .ok (.aload_n 0, 1) := by decide +kernel
theorem dX9_count_133 : decode cX9_count 133 = .ok (.getfield 7, 3) := by decide +kernel
theorem dX9_count_136 : decode cX9_count 136 = .ok (.iconst 2, 1) := by decide +kernel
theorem dX9_count_137 : decode cX9_count 137 = .ok (.iaload, 1) := by decide +kernel
theorem dX9_count_138 : decode cX9_count 138 = .ok (.ireturn, 1) := by decide +kernel
theorem dX9_count_139 : decode cX9_count 139 = .ok (.iload_n 2, 1) := by decide +kernel
theorem dX9_count_140 : decode cX9_count 140 = .ok (.ireturn, 1) := by decide +kernel
theorem dX9_count_141 : decode cX9_count 141 = .ok (.iconst (-1), 1) := by decide +kernel
theorem dX9_count_142 : decode cX9_count 142 = .ok (.ireturn, 1) := by decide +kernel
theorem dX9_image_0 : decode cX9_image 0 = .ok (.iload_n 1, 1) := by decide +kernel
theorem dX9_image_1 : decode cX9_image 1 = .ok (.iconst 0, 1) := by decide +kernel
theorem dX9_image_2 : decode cX9_image 2 = .ok (.iconst 2, 1) := by decide +kernel
theorem dX9_image_3 : decode cX9_image 3 = .ok (.invokestatic 103, 3) := by decide +kernel
theorem dX9_image_6 : decode cX9_image 6 = .ok (.ifCond .ne 5, 3) := by decide +kernel
theorem dX9_image_9 : decode cX9_image 9 = .ok (.iconst 0, 1) := by decide +kernel
theorem dX9_image_10 : decode cX9_image 10 = .ok (.ireturn, 1) := by decide +kernel
theorem dX9_image_11 : decode cX9_image 11 = .ok (.aload_n 0, 1) := by decide +kernel
theorem dX9_image_12 : decode cX9_image 12 = .ok (.getfield 13, 3) := by decide +kernel
theorem dX9_image_15 : decode cX9_image 15 = .ok (.iload_n 1, 1) := by decide +kernel
theorem dX9_image_16 : decode cX9_image 16 = .ok (.iconst 1, 1) := by decide +kernel
theorem dX9_image_17 : decode cX9_image 17 = .ok (.bastore, 1) := by decide +kernel
theorem dX9_image_18 : decode cX9_image 18 = .ok (.iconst 0, 1) := by decide +kernel
theorem dX9_image_19 : decode cX9_image 19 = .ok (.istore_n 2, 1) := by decide +kernel
theorem dX9_image_20 : decode cX9_image 20 = .ok (.iload_n 2, 1) := by decide +kernel
theorem dX9_image_21 : decode cX9_image 21 = .ok (.sipush 1020, 3) := by decide +kernel
theorem dX9_image_24 : decode cX9_image 24 = .ok (.if_icmp .ge 29, 3) := by decide +kernel
theorem dX9_image_27 : decode cX9_image 27 = .ok (.aload_n 0, 1) := by decide +kernel
theorem dX9_image_28 : decode cX9_image 28 = .ok (.getfield 7, 3) := by decide +kernel
theorem dX9_image_31 : decode cX9_image 31 = .ok (.sipush 1020, 3) := by decide +kernel
theorem dX9_image_34 : decode cX9_image 34 = .ok (.iload_n 1, 1) := by decide +kernel
theorem dX9_image_35 : decode cX9_image 35 = .ok (.iconst 1, 1) := by decide +kernel
theorem dX9_image_36 : decode cX9_image 36 = .ok (.iadd, 1) := by decide +kernel
theorem dX9_image_37 : decode cX9_image 37 = .ok (.imul, 1) := by decide +kernel
theorem dX9_image_38 : decode cX9_image 38 = .ok (.iload_n 2, 1) := by decide +kernel
theorem dX9_image_39 : decode cX9_image 39 = .ok (.iadd, 1) := by decide +kernel
theorem dX9_image_40 : decode cX9_image 40 = .ok (.aload_n 0, 1) := by decide +kernel
theorem dX9_image_41 : decode cX9_image 41 = .ok (.getfield 7, 3) := by decide +kernel
theorem dX9_image_44 : decode cX9_image 44 = .ok (.iload_n 2, 1) := by decide +kernel
theorem dX9_image_45 : decode cX9_image 45 = .ok (.iaload, 1) := by decide +kernel
theorem dX9_image_46 : decode cX9_image 46 = .ok (.iastore, 1) := by decide +kernel
theorem dX9_image_47 : decode cX9_image 47 = .ok (.iinc 2 1, 3) := by decide +kernel
theorem dX9_image_50 : decode cX9_image 50 = .ok (.goto (-30), 3) := by decide +kernel
theorem dX9_image_53 : decode cX9_image 53 = .ok (.iconst 1, 1) := by decide +kernel
theorem dX9_image_54 : decode cX9_image 54 = .ok (.ireturn, 1) := by decide +kernel
theorem dX9_again_0 : decode cX9_again 0 = .ok (.iload_n 1, 1) := by decide +kernel
theorem dX9_again_1 : decode cX9_again 1 = .ok (.iconst 0, 1) := by decide +kernel
theorem dX9_again_2 : decode cX9_again 2 = .ok (.iconst 2, 1) := by decide +kernel
theorem dX9_again_3 : decode cX9_again 3 = .ok (.invokestatic 103, 3) := by decide +kernel
theorem dX9_again_6 : decode cX9_again 6 = .ok (.ifCond .eq 12, 3) := by decide +kernel
theorem dX9_again_9 : decode cX9_again 9 = .ok (.aload_n 0, 1) := by decide +kernel
theorem dX9_again_10 : decode cX9_again 10 = .ok (.getfield 13, 3) := by decide +kernel
theorem dX9_again_13 : decode cX9_again 13 = .ok (.iload_n 1, 1) := by decide +kernel
theorem dX9_again_14 : decode cX9_again 14 = .ok (.baload, 1) := by decide +kernel
theorem dX9_again_15 : decode cX9_again 15 = .ok (.ifCond .ne 5, 3) := by decide +kernel
theorem dX9_again_18 : decode cX9_again 18 = .ok (.iconst 0, 1) := by decide +kernel
theorem dX9_again_19 : decode cX9_again 19 = .ok (.ireturn, 1) := by decide +kernel
theorem dX9_again_20 : decode cX9_again 20 = .ok (.iconst 0, 1) := by decide +kernel
theorem dX9_again_21 : decode cX9_again 21 = .ok (.istore_n 2, 1) := by decide +kernel
theorem dX9_again_22 : decode cX9_again 22 = .ok (.iload_n 2, 1) := by decide +kernel
theorem dX9_again_23 : decode cX9_again 23 = .ok (.sipush 1020, 3) := by decide +kernel
theorem dX9_again_26 : decode cX9_again 26 = .ok (.if_icmp .ge 29, 3) := by decide +kernel
theorem dX9_again_29 : decode cX9_again 29 = .ok (.aload_n 0, 1) := by decide +kernel
theorem dX9_again_30 : decode cX9_again 30 = .ok (.getfield 7, 3) := by decide +kernel
theorem dX9_again_33 : decode cX9_again 33 = .ok (.iload_n 2, 1) := by decide +kernel
theorem dX9_again_34 : decode cX9_again 34 = .ok (.aload_n 0, 1) := by decide +kernel
theorem dX9_again_35 : decode cX9_again 35 = .ok (.getfield 7, 3) := by decide +kernel
theorem dX9_again_38 : decode cX9_again 38 = .ok (.sipush 1020, 3) := by decide +kernel
theorem dX9_again_41 : decode cX9_again 41 = .ok (.iload_n 1, 1) := by decide +kernel
theorem dX9_again_42 : decode cX9_again 42 = .ok (.iconst 1, 1) := by decide +kernel
theorem dX9_again_43 : decode cX9_again 43 = .ok (.iadd, 1) := by decide +kernel
theorem dX9_again_44 : decode cX9_again 44 = .ok (.imul, 1) := by decide +kernel
theorem dX9_again_45 : decode cX9_again 45 = .ok (.iload_n 2, 1) := by decide +kernel
theorem dX9_again_46 : decode cX9_again 46 = .ok (.iadd, 1) := by decide +kernel
theorem dX9_again_47 : decode cX9_again 47 = .ok (.iaload, 1) := by decide +kernel
theorem dX9_again_48 : decode cX9_again 48 = .ok (.iastore, 1) := by decide +kernel
theorem dX9_again_49 : decode cX9_again 49 = .ok (.iinc 2 1, 3) := by decide +kernel
theorem dX9_again_52 : decode cX9_again 52 = .ok (.goto (-30), 3) := by decide +kernel
theorem dX9_again_55 : decode cX9_again 55 = .ok (.iconst 1, 1) := by decide +kernel
theorem dX9_again_56 : decode cX9_again 56 = .ok (.ireturn, 1) := by decide +kernel
theorem dJ9_abs_0f7a4_0 : decode cJ9_abs_0f7a4 0 = .ok (.iload_n 0, 1) := by decide +kernel
theorem dJ9_abs_0f7a4_1 : decode cJ9_abs_0f7a4 1 = .ok (.ifCond .ge 8, 3) := by decide +kernel
theorem dJ9_abs_0f7a4_4 : decode cJ9_abs_0f7a4 4 = .ok (.iload_n 0, 1) := by decide +kernel
theorem dJ9_abs_0f7a4_5 : decode cJ9_abs_0f7a4 5 = .ok (.ineg, 1) := by decide +kernel
theorem dJ9_abs_0f7a4_6 : decode cJ9_abs_0f7a4 6 = .ok (.goto 4, 3) := by decide +kernel
theorem dJ9_abs_0f7a4_9 : decode cJ9_abs_0f7a4 9 = .ok (.iload_n 0, 1) := by decide +kernel
theorem dJ9_abs_0f7a4_10 : decode cJ9_abs_0f7a4 10 = .ok (.ireturn, 1) := by decide +kernel
theorem dJ9_max_7cf53_0 : decode cJ9_max_7cf53 0 = .ok (.iload_n 0, 1) := by decide +kernel
theorem dJ9_max_7cf53_1 : decode cJ9_max_7cf53 1 = .ok (.iload_n 1, 1) := by decide +kernel
theorem dJ9_max_7cf53_2 : decode cJ9_max_7cf53 2 = .ok (.if_icmp .lt 7, 3) := by decide +kernel
theorem dJ9_max_7cf53_5 : decode cJ9_max_7cf53 5 = .ok (.iload_n 0, 1) := by decide +kernel
theorem dJ9_max_7cf53_6 : decode cJ9_max_7cf53 6 = .ok (.goto 4, 3) := by decide +kernel
theorem dJ9_max_7cf53_9 : decode cJ9_max_7cf53 9 = .ok (.iload_n 1, 1) := by decide +kernel
theorem dJ9_max_7cf53_10 : decode cJ9_max_7cf53 10 = .ok (.ireturn, 1) := by decide +kernel
theorem dJ9_min_7cf53_0 : decode cJ9_min_7cf53 0 = .ok (.iload_n 0, 1) := by decide +kernel
theorem dJ9_min_7cf53_1 : decode cJ9_min_7cf53 1 = .ok (.iload_n 1, 1) := by decide +kernel
theorem dJ9_min_7cf53_2 : decode cJ9_min_7cf53 2 = .ok (.if_icmp .gt 7, 3) := by decide +kernel
theorem dJ9_min_7cf53_5 : decode cJ9_min_7cf53 5 = .ok (.iload_n 0, 1) := by decide +kernel
theorem dJ9_min_7cf53_6 : decode cJ9_min_7cf53 6 = .ok (.goto 4, 3) := by decide +kernel
theorem dJ9_min_7cf53_9 : decode cJ9_min_7cf53 9 = .ok (.iload_n 1, 1) := by decide +kernel
theorem dJ9_min_7cf53_10 : decode cJ9_min_7cf53 10 = .ok (.ireturn, 1) := by decide +kernel
end
section
theorem dL_law_0 : decode cL_law 0 = .ok (.new 7, 3) := by decide +kernel
theorem dL_law_3 : decode cL_law 3 = .ok (.dup, 1) := by decide +kernel
theorem dL_law_4 : decode cL_law 4 = .ok (.invokespecial 9, 3) := by decide +kernel
theorem dL_law_7 : decode cL_law 7 = .ok (.astore_n 1, 1) := by decide +kernel
theorem dL_law_8 : decode cL_law 8 = .ok (.new 10, 3) := by decide +kernel
theorem dL_law_11 : decode cL_law 11 = .ok (.dup, 1) := by decide +kernel
theorem dL_law_12 : decode cL_law 12 = .ok (.invokespecial 12, 3) := by decide +kernel
theorem dL_law_15 : decode cL_law 15 = .ok (.astore_n 2, 1) := by decide +kernel
theorem dL_law_16 : decode cL_law 16 = .ok (.iconst 0, 1) := by decide +kernel
theorem dL_law_17 : decode cL_law 17 = .ok (.istore_n 3, 1) := by decide +kernel
theorem dL_law_18 : decode cL_law 18 = .ok (.iload_n 3, 1) := by decide +kernel
theorem dL_law_19 : decode cL_law 19 = .ok (.aload_n 0, 1) := by decide +kernel
theorem dL_law_20 : decode cL_law 20 = .ok (.arraylength, 1) := by decide +kernel
theorem dL_law_21 : decode cL_law 21 = .ok (.bipush 6, 2) := by decide +kernel
theorem dL_law_23 : decode cL_law 23 = .ok (.isub, 1) := by decide +kernel
theorem dL_law_24 : decode cL_law 24 = .ok (.if_icmp .gt 882, 3) := by decide +kernel
theorem dL_law_27 : decode cL_law 27 = .ok (.aload_n 0, 1) := by decide +kernel
theorem dL_law_28 : decode cL_law 28 = .ok (.iload_n 3, 1) := by decide +kernel
theorem dL_law_29 : decode cL_law 29 = .ok (.iaload, 1) := by decide +kernel
theorem dL_law_30 : decode cL_law 30 = .ok (.bipush 31, 2) := by decide +kernel
theorem dL_law_32 : decode cL_law 32 = .ok (.iand, 1) := by decide +kernel
theorem dL_law_33 : decode cL_law 33 = .ok (.tableswitch 867 0 25 #[119, 182, 205, 218, 241, 254, 297, 330, 353, 396, 449, 472, 485, 498, 531, 554, 577, 590, 623, 656, 689, 742, 775, 798, 821, 844], 119) := by decide +kernel
theorem dL_law_152 : decode cL_law 152 = .ok (.aload_n 1, 1) := by decide +kernel
theorem dL_law_153 : decode cL_law 153 = .ok (.aload_n 0, 1) := by decide +kernel
theorem dL_law_154 : decode cL_law 154 = .ok (.iload_n 3, 1) := by decide +kernel
theorem dL_law_155 : decode cL_law 155 = .ok (.iconst 1, 1) := by decide +kernel
theorem dL_law_156 : decode cL_law 156 = .ok (.iadd, 1) := by decide +kernel
theorem dL_law_157 : decode cL_law 157 = .ok (.iaload, 1) := by decide +kernel
theorem dL_law_158 : decode cL_law 158 = .ok (.aload_n 0, 1) := by decide +kernel
theorem dL_law_159 : decode cL_law 159 = .ok (.iload_n 3, 1) := by decide +kernel
theorem dL_law_160 : decode cL_law 160 = .ok (.iconst 2, 1) := by decide +kernel
theorem dL_law_161 : decode cL_law 161 = .ok (.iadd, 1) := by decide +kernel
theorem dL_law_162 : decode cL_law 162 = .ok (.iaload, 1) := by decide +kernel
theorem dL_law_163 : decode cL_law 163 = .ok (.aload_n 0, 1) := by decide +kernel
theorem dL_law_164 : decode cL_law 164 = .ok (.iload_n 3, 1) := by decide +kernel
theorem dL_law_165 : decode cL_law 165 = .ok (.iconst 3, 1) := by decide +kernel
theorem dL_law_166 : decode cL_law 166 = .ok (.iadd, 1) := by decide +kernel
theorem dL_law_167 : decode cL_law 167 = .ok (.iaload, 1) := by decide +kernel
theorem dL_law_168 : decode cL_law 168 = .ok (.aload_n 0, 1) := by decide +kernel
theorem dL_law_169 : decode cL_law 169 = .ok (.iload_n 3, 1) := by decide +kernel
theorem dL_law_170 : decode cL_law 170 = .ok (.iconst 4, 1) := by decide +kernel
theorem dL_law_171 : decode cL_law 171 = .ok (.iadd, 1) := by decide +kernel
theorem dL_law_172 : decode cL_law 172 = .ok (.iaload, 1) := by decide +kernel
theorem dL_law_173 : decode cL_law 173 = .ok (.aload_n 0, 1) := by decide +kernel
theorem dL_law_174 : decode cL_law 174 = .ok (.iload_n 3, 1) := by decide +kernel
theorem dL_law_175 : decode cL_law 175 = .ok (.iconst 5, 1) := by decide +kernel
theorem dL_law_176 : decode cL_law 176 = .ok (.iadd, 1) := by decide +kernel
theorem dL_law_177 : decode cL_law 177 = .ok (.iaload, 1) := by decide +kernel
theorem dL_law_178 : decode cL_law 178 = .ok (.invokevirtual 13, 3) := by decide +kernel
theorem dL_law_181 : decode cL_law 181 = .ok (.aload_n 2, 1) := by decide +kernel
theorem dL_law_182 : decode cL_law 182 = .ok (.aload_n 0, 1) := by decide +kernel
theorem dL_law_183 : decode cL_law 183 = .ok (.iload_n 3, 1) := by decide +kernel
theorem dL_law_184 : decode cL_law 184 = .ok (.iconst 1, 1) := by decide +kernel
theorem dL_law_185 : decode cL_law 185 = .ok (.iadd, 1) := by decide +kernel
theorem dL_law_186 : decode cL_law 186 = .ok (.iaload, 1) := by decide +kernel
theorem dL_law_187 : decode cL_law 187 = .ok (.aload_n 0, 1) := by decide +kernel
theorem dL_law_188 : decode cL_law 188 = .ok (.iload_n 3, 1) := by decide +kernel
theorem dL_law_189 : decode cL_law 189 = .ok (.iconst 2, 1) := by decide +kernel
theorem dL_law_190 : decode cL_law 190 = .ok (.iadd, 1) := by decide +kernel
theorem dL_law_191 : decode cL_law 191 = .ok (.iaload, 1) := by decide +kernel
theorem dL_law_192 : decode cL_law 192 = .ok (.aload_n 0, 1) := by decide +kernel
theorem dL_law_193 : decode cL_law 193 = .ok (.iload_n 3, 1) := by decide +kernel
theorem dL_law_194 : decode cL_law 194 = .ok (.iconst 3, 1) := by decide +kernel
theorem dL_law_195 : decode cL_law 195 = .ok (.iadd, 1) := by decide +kernel
theorem dL_law_196 : decode cL_law 196 = .ok (.iaload, 1) := by decide +kernel
theorem dL_law_197 : decode cL_law 197 = .ok (.aload_n 0, 1) := by decide +kernel
theorem dL_law_198 : decode cL_law 198 = .ok (.iload_n 3, 1) := by decide +kernel
theorem dL_law_199 : decode cL_law 199 = .ok (.iconst 4, 1) := by decide +kernel
theorem dL_law_200 : decode cL_law 200 = .ok (.iadd, 1) := by decide +kernel
theorem dL_law_201 : decode cL_law 201 = .ok (.iaload, 1) := by decide +kernel
theorem dL_law_202 : decode cL_law 202 = .ok (.aload_n 0, 1) := by decide +kernel
theorem dL_law_203 : decode cL_law 203 = .ok (.iload_n 3, 1) := by decide +kernel
theorem dL_law_204 : decode cL_law 204 = .ok (.iconst 5, 1) := by decide +kernel
theorem dL_law_205 : decode cL_law 205 = .ok (.iadd, 1) := by decide +kernel
theorem dL_law_206 : decode cL_law 206 = .ok (.iaload, 1) := by decide +kernel
theorem dL_law_207 : decode cL_law 207 = .ok (.invokevirtual 17, 3) := by decide +kernel
theorem dL_law_210 : decode cL_law 210 = .ok (.if_icmp .eq 690, 3) := by decide +kernel
theorem dL_law_213 : decode cL_law 213 = .ok (.iconst 0, 1) := by decide +kernel
theorem dL_law_214 : decode cL_law 214 = .ok (.ireturn, 1) := by decide +kernel
theorem dL_law_215 : decode cL_law 215 = .ok (.aload_n 1, 1) := by decide +kernel
theorem dL_law_216 : decode cL_law 216 = .ok (.aload_n 0, 1) := by decide +kernel
theorem dL_law_217 : decode cL_law 217 = .ok (.iload_n 3, 1) := by decide +kernel
theorem dL_law_218 : decode cL_law 218 = .ok (.iconst 1, 1) := by decide +kernel
theorem dL_law_219 : decode cL_law 219 = .ok (.iadd, 1) := by decide +kernel
theorem dL_law_220 : decode cL_law 220 = .ok (.iaload, 1) := by decide +kernel
theorem dL_law_221 : decode cL_law 221 = .ok (.invokevirtual 18, 3) := by decide +kernel
theorem dL_law_224 : decode cL_law 224 = .ok (.aload_n 2, 1) := by decide +kernel
theorem dL_law_225 : decode cL_law 225 = .ok (.aload_n 0, 1) := by decide +kernel
theorem dL_law_226 : decode cL_law 226 = .ok (.iload_n 3, 1) := by decide +kernel
theorem dL_law_227 : decode cL_law 227 = .ok (.iconst 1, 1) := by decide +kernel
theorem dL_law_228 : decode cL_law 228 = .ok (.iadd, 1) := by decide +kernel
theorem dL_law_229 : decode cL_law 229 = .ok (.iaload, 1) := by decide +kernel
theorem dL_law_230 : decode cL_law 230 = .ok (.invokevirtual 22, 3) := by decide +kernel
theorem dL_law_233 : decode cL_law 233 = .ok (.if_icmp .eq 667, 3) := by decide +kernel
theorem dL_law_236 : decode cL_law 236 = .ok (.iconst 0, 1) := by decide +kernel
theorem dL_law_237 : decode cL_law 237 = .ok (.ireturn, 1) := by decide +kernel
theorem dL_law_238 : decode cL_law 238 = .ok (.aload_n 1, 1) := by decide +kernel
theorem dL_law_239 : decode cL_law 239 = .ok (.invokevirtual 23, 3) := by decide +kernel
theorem dL_law_242 : decode cL_law 242 = .ok (.aload_n 2, 1) := by decide +kernel
theorem dL_law_243 : decode cL_law 243 = .ok (.invokevirtual 27, 3) := by decide +kernel
theorem dL_law_246 : decode cL_law 246 = .ok (.if_icmp .eq 654, 3) := by decide +kernel
theorem dL_law_249 : decode cL_law 249 = .ok (.iconst 0, 1) := by decide +kernel
theorem dL_law_250 : decode cL_law 250 = .ok (.ireturn, 1) := by decide +kernel
theorem dL_law_251 : decode cL_law 251 = .ok (.aload_n 1, 1) := by decide +kernel
theorem dL_law_252 : decode cL_law 252 = .ok (.aload_n 0, 1) := by decide +kernel
theorem dL_law_253 : decode cL_law 253 = .ok (.iload_n 3, 1) := by decide +kernel
theorem dL_law_254 : decode cL_law 254 = .ok (.iconst 1, 1) := by decide +kernel
theorem dL_law_255 : decode cL_law 255 = .ok (.iadd, 1) := by decide +kernel
theorem dL_law_256 : decode cL_law 256 = .ok (.iaload, 1) := by decide +kernel
theorem dL_law_257 : decode cL_law 257 = .ok (.invokevirtual 28, 3) := by decide +kernel
theorem dL_law_260 : decode cL_law 260 = .ok (.aload_n 2, 1) := by decide +kernel
theorem dL_law_261 : decode cL_law 261 = .ok (.aload_n 0, 1) := by decide +kernel
theorem dL_law_262 : decode cL_law 262 = .ok (.iload_n 3, 1) := by decide +kernel
theorem dL_law_263 : decode cL_law 263 = .ok (.iconst 1, 1) := by decide +kernel
theorem dL_law_264 : decode cL_law 264 = .ok (.iadd, 1) := by decide +kernel
theorem dL_law_265 : decode cL_law 265 = .ok (.iaload, 1) := by decide +kernel
theorem dL_law_266 : decode cL_law 266 = .ok (.invokevirtual 31, 3) := by decide +kernel
theorem dL_law_269 : decode cL_law 269 = .ok (.if_icmp .eq 631, 3) := by decide +kernel
theorem dL_law_272 : decode cL_law 272 = .ok (.iconst 0, 1) := by decide +kernel
theorem dL_law_273 : decode cL_law 273 = .ok (.ireturn, 1) := by decide +kernel
theorem dL_law_274 : decode cL_law 274 = .ok (.aload_n 1, 1) := by decide +kernel
theorem dL_law_275 : decode cL_law 275 = .ok (.invokevirtual 32, 3) := by decide +kernel
theorem dL_law_278 : decode cL_law 278 = .ok (.aload_n 2, 1) := by decide +kernel
theorem dL_law_279 : decode cL_law 279 = .ok (.invokevirtual 35, 3) := by decide +kernel
theorem dL_law_282 : decode cL_law 282 = .ok (.if_icmp .eq 618, 3) := by decide +kernel
theorem dL_law_285 : decode cL_law 285 = .ok (.iconst 0, 1) := by decide +kernel
theorem dL_law_286 : decode cL_law 286 = .ok (.ireturn, 1) := by decide +kernel
theorem dL_law_287 : decode cL_law 287 = .ok (.aload_n 1, 1) := by decide +kernel
theorem dL_law_288 : decode cL_law 288 = .ok (.aload_n 0, 1) := by decide +kernel
theorem dL_law_289 : decode cL_law 289 = .ok (.iload_n 3, 1) := by decide +kernel
theorem dL_law_290 : decode cL_law 290 = .ok (.iconst 1, 1) := by decide +kernel
theorem dL_law_291 : decode cL_law 291 = .ok (.iadd, 1) := by decide +kernel
theorem dL_law_292 : decode cL_law 292 = .ok (.iaload, 1) := by decide +kernel
theorem dL_law_293 : decode cL_law 293 = .ok (.aload_n 0, 1) := by decide +kernel
theorem dL_law_294 : decode cL_law 294 = .ok (.iload_n 3, 1) := by decide +kernel
theorem dL_law_295 : decode cL_law 295 = .ok (.iconst 2, 1) := by decide +kernel
theorem dL_law_296 : decode cL_law 296 = .ok (.iadd, 1) := by decide +kernel
theorem dL_law_297 : decode cL_law 297 = .ok (.iaload, 1) := by decide +kernel
theorem dL_law_298 : decode cL_law 298 = .ok (.aload_n 0, 1) := by decide +kernel
theorem dL_law_299 : decode cL_law 299 = .ok (.iload_n 3, 1) := by decide +kernel
theorem dL_law_300 : decode cL_law 300 = .ok (.iconst 3, 1) := by decide +kernel
theorem dL_law_301 : decode cL_law 301 = .ok (.iadd, 1) := by decide +kernel
theorem dL_law_302 : decode cL_law 302 = .ok (.iaload, 1) := by decide +kernel
theorem dL_law_303 : decode cL_law 303 = .ok (.invokevirtual 36, 3) := by decide +kernel
theorem dL_law_306 : decode cL_law 306 = .ok (.aload_n 2, 1) := by decide +kernel
theorem dL_law_307 : decode cL_law 307 = .ok (.aload_n 0, 1) := by decide +kernel
theorem dL_law_308 : decode cL_law 308 = .ok (.iload_n 3, 1) := by decide +kernel
theorem dL_law_309 : decode cL_law 309 = .ok (.iconst 1, 1) := by decide +kernel
theorem dL_law_310 : decode cL_law 310 = .ok (.iadd, 1) := by decide +kernel
theorem dL_law_311 : decode cL_law 311 = .ok (.iaload, 1) := by decide +kernel
theorem dL_law_312 : decode cL_law 312 = .ok (.aload_n 0, 1) := by decide +kernel
theorem dL_law_313 : decode cL_law 313 = .ok (.iload_n 3, 1) := by decide +kernel
theorem dL_law_314 : decode cL_law 314 = .ok (.iconst 2, 1) := by decide +kernel
theorem dL_law_315 : decode cL_law 315 = .ok (.iadd, 1) := by decide +kernel
theorem dL_law_316 : decode cL_law 316 = .ok (.iaload, 1) := by decide +kernel
theorem dL_law_317 : decode cL_law 317 = .ok (.aload_n 0, 1) := by decide +kernel
theorem dL_law_318 : decode cL_law 318 = .ok (.iload_n 3, 1) := by decide +kernel
theorem dL_law_319 : decode cL_law 319 = .ok (.iconst 3, 1) := by decide +kernel
theorem dL_law_320 : decode cL_law 320 = .ok (.iadd, 1) := by decide +kernel
theorem dL_law_321 : decode cL_law 321 = .ok (.iaload, 1) := by decide +kernel
theorem dL_law_322 : decode cL_law 322 = .ok (.invokevirtual 40, 3) := by decide +kernel
theorem dL_law_325 : decode cL_law 325 = .ok (.if_icmp .eq 575, 3) := by decide +kernel
theorem dL_law_328 : decode cL_law 328 = .ok (.iconst 0, 1) := by decide +kernel
theorem dL_law_329 : decode cL_law 329 = .ok (.ireturn, 1) := by decide +kernel
theorem dL_law_330 : decode cL_law 330 = .ok (.aload_n 1, 1) := by decide +kernel
theorem dL_law_331 : decode cL_law 331 = .ok (.aload_n 0, 1) := by decide +kernel
theorem dL_law_332 : decode cL_law 332 = .ok (.iload_n 3, 1) := by decide +kernel
theorem dL_law_333 : decode cL_law 333 = .ok (.iconst 1, 1) := by decide +kernel
theorem dL_law_334 : decode cL_law 334 = .ok (.iadd, 1) := by decide +kernel
theorem dL_law_335 : decode cL_law 335 = .ok (.iaload, 1) := by decide +kernel
theorem dL_law_336 : decode cL_law 336 = .ok (.aload_n 0, 1) := by decide +kernel
theorem dL_law_337 : decode cL_law 337 = .ok (.iload_n 3, 1) := by decide +kernel
theorem dL_law_338 : decode cL_law 338 = .ok (.iconst 2, 1) := by decide +kernel
theorem dL_law_339 : decode cL_law 339 = .ok (.iadd, 1) := by decide +kernel
theorem dL_law_340 : decode cL_law 340 = .ok (.iaload, 1) := by decide +kernel
theorem dL_law_341 : decode cL_law 341 = .ok (.invokevirtual 41, 3) := by decide +kernel
theorem dL_law_344 : decode cL_law 344 = .ok (.aload_n 2, 1) := by decide +kernel
theorem dL_law_345 : decode cL_law 345 = .ok (.aload_n 0, 1) := by decide +kernel
theorem dL_law_346 : decode cL_law 346 = .ok (.iload_n 3, 1) := by decide +kernel
theorem dL_law_347 : decode cL_law 347 = .ok (.iconst 1, 1) := by decide +kernel
theorem dL_law_348 : decode cL_law 348 = .ok (.iadd, 1) := by decide +kernel
theorem dL_law_349 : decode cL_law 349 = .ok (.iaload, 1) := by decide +kernel
theorem dL_law_350 : decode cL_law 350 = .ok (.aload_n 0, 1) := by decide +kernel
theorem dL_law_351 : decode cL_law 351 = .ok (.iload_n 3, 1) := by decide +kernel
theorem dL_law_352 : decode cL_law 352 = .ok (.iconst 2, 1) := by decide +kernel
theorem dL_law_353 : decode cL_law 353 = .ok (.iadd, 1) := by decide +kernel
theorem dL_law_354 : decode cL_law 354 = .ok (.iaload, 1) := by decide +kernel
theorem dL_law_355 : decode cL_law 355 = .ok (.invokevirtual 45, 3) := by decide +kernel
theorem dL_law_358 : decode cL_law 358 = .ok (.if_icmp .eq 542, 3) := by decide +kernel
theorem dL_law_361 : decode cL_law 361 = .ok (.iconst 0, 1) := by decide +kernel
theorem dL_law_362 : decode cL_law 362 = .ok (.ireturn, 1) := by decide +kernel
theorem dL_law_363 : decode cL_law 363 = .ok (.aload_n 1, 1) := by decide +kernel
theorem dL_law_364 : decode cL_law 364 = .ok (.aload_n 0, 1) := by decide +kernel
theorem dL_law_365 : decode cL_law 365 = .ok (.iload_n 3, 1) := by decide +kernel
theorem dL_law_366 : decode cL_law 366 = .ok (.iconst 1, 1) := by decide +kernel
theorem dL_law_367 : decode cL_law 367 = .ok (.iadd, 1) := by decide +kernel
theorem dL_law_368 : decode cL_law 368 = .ok (.iaload, 1) := by decide +kernel
theorem dL_law_369 : decode cL_law 369 = .ok (.invokevirtual 46, 3) := by decide +kernel
theorem dL_law_372 : decode cL_law 372 = .ok (.aload_n 2, 1) := by decide +kernel
theorem dL_law_373 : decode cL_law 373 = .ok (.aload_n 0, 1) := by decide +kernel
theorem dL_law_374 : decode cL_law 374 = .ok (.iload_n 3, 1) := by decide +kernel
theorem dL_law_375 : decode cL_law 375 = .ok (.iconst 1, 1) := by decide +kernel
theorem dL_law_376 : decode cL_law 376 = .ok (.iadd, 1) := by decide +kernel
theorem dL_law_377 : decode cL_law 377 = .ok (.iaload, 1) := by decide +kernel
theorem dL_law_378 : decode cL_law 378 = .ok (.invokevirtual 50, 3) := by decide +kernel
theorem dL_law_381 : decode cL_law 381 = .ok (.if_icmp .eq 519, 3) := by decide +kernel
theorem dL_law_384 : decode cL_law 384 = .ok (.iconst 0, 1) := by decide +kernel
theorem dL_law_385 : decode cL_law 385 = .ok (.ireturn, 1) := by decide +kernel
theorem dL_law_386 : decode cL_law 386 = .ok (.aload_n 1, 1) := by decide +kernel
theorem dL_law_387 : decode cL_law 387 = .ok (.aload_n 0, 1) := by decide +kernel
theorem dL_law_388 : decode cL_law 388 = .ok (.iload_n 3, 1) := by decide +kernel
theorem dL_law_389 : decode cL_law 389 = .ok (.iconst 1, 1) := by decide +kernel
theorem dL_law_390 : decode cL_law 390 = .ok (.iadd, 1) := by decide +kernel
theorem dL_law_391 : decode cL_law 391 = .ok (.iaload, 1) := by decide +kernel
theorem dL_law_392 : decode cL_law 392 = .ok (.aload_n 0, 1) := by decide +kernel
theorem dL_law_393 : decode cL_law 393 = .ok (.iload_n 3, 1) := by decide +kernel
theorem dL_law_394 : decode cL_law 394 = .ok (.iconst 2, 1) := by decide +kernel
theorem dL_law_395 : decode cL_law 395 = .ok (.iadd, 1) := by decide +kernel
theorem dL_law_396 : decode cL_law 396 = .ok (.iaload, 1) := by decide +kernel
theorem dL_law_397 : decode cL_law 397 = .ok (.aload_n 0, 1) := by decide +kernel
theorem dL_law_398 : decode cL_law 398 = .ok (.iload_n 3, 1) := by decide +kernel
theorem dL_law_399 : decode cL_law 399 = .ok (.iconst 3, 1) := by decide +kernel
theorem dL_law_400 : decode cL_law 400 = .ok (.iadd, 1) := by decide +kernel
theorem dL_law_401 : decode cL_law 401 = .ok (.iaload, 1) := by decide +kernel
theorem dL_law_402 : decode cL_law 402 = .ok (.invokevirtual 51, 3) := by decide +kernel
theorem dL_law_405 : decode cL_law 405 = .ok (.aload_n 2, 1) := by decide +kernel
theorem dL_law_406 : decode cL_law 406 = .ok (.aload_n 0, 1) := by decide +kernel
theorem dL_law_407 : decode cL_law 407 = .ok (.iload_n 3, 1) := by decide +kernel
theorem dL_law_408 : decode cL_law 408 = .ok (.iconst 1, 1) := by decide +kernel
theorem dL_law_409 : decode cL_law 409 = .ok (.iadd, 1) := by decide +kernel
theorem dL_law_410 : decode cL_law 410 = .ok (.iaload, 1) := by decide +kernel
theorem dL_law_411 : decode cL_law 411 = .ok (.aload_n 0, 1) := by decide +kernel
theorem dL_law_412 : decode cL_law 412 = .ok (.iload_n 3, 1) := by decide +kernel
theorem dL_law_413 : decode cL_law 413 = .ok (.iconst 2, 1) := by decide +kernel
theorem dL_law_414 : decode cL_law 414 = .ok (.iadd, 1) := by decide +kernel
theorem dL_law_415 : decode cL_law 415 = .ok (.iaload, 1) := by decide +kernel
theorem dL_law_416 : decode cL_law 416 = .ok (.aload_n 0, 1) := by decide +kernel
theorem dL_law_417 : decode cL_law 417 = .ok (.iload_n 3, 1) := by decide +kernel
theorem dL_law_418 : decode cL_law 418 = .ok (.iconst 3, 1) := by decide +kernel
theorem dL_law_419 : decode cL_law 419 = .ok (.iadd, 1) := by decide +kernel
theorem dL_law_420 : decode cL_law 420 = .ok (.iaload, 1) := by decide +kernel
theorem dL_law_421 : decode cL_law 421 = .ok (.invokevirtual 54, 3) := by decide +kernel
theorem dL_law_424 : decode cL_law 424 = .ok (.if_icmp .eq 476, 3) := by decide +kernel
theorem dL_law_427 : decode cL_law 427 = .ok (.iconst 0, 1) := by decide +kernel
theorem dL_law_428 : decode cL_law 428 = .ok (.ireturn, 1) := by decide +kernel
theorem dL_law_429 : decode cL_law 429 = .ok (.aload_n 1, 1) := by decide +kernel
theorem dL_law_430 : decode cL_law 430 = .ok (.aload_n 0, 1) := by decide +kernel
theorem dL_law_431 : decode cL_law 431 = .ok (.iload_n 3, 1) := by decide +kernel
theorem dL_law_432 : decode cL_law 432 = .ok (.iconst 1, 1) := by decide +kernel
theorem dL_law_433 : decode cL_law 433 = .ok (.iadd, 1) := by decide +kernel
theorem dL_law_434 : decode cL_law 434 = .ok (.iaload, 1) := by decide +kernel
theorem dL_law_435 : decode cL_law 435 = .ok (.aload_n 0, 1) := by decide +kernel
theorem dL_law_436 : decode cL_law 436 = .ok (.iload_n 3, 1) := by decide +kernel
theorem dL_law_437 : decode cL_law 437 = .ok (.iconst 2, 1) := by decide +kernel
theorem dL_law_438 : decode cL_law 438 = .ok (.iadd, 1) := by decide +kernel
theorem dL_law_439 : decode cL_law 439 = .ok (.iaload, 1) := by decide +kernel
theorem dL_law_440 : decode cL_law 440 = .ok (.aload_n 0, 1) := by decide +kernel
theorem dL_law_441 : decode cL_law 441 = .ok (.iload_n 3, 1) := by decide +kernel
theorem dL_law_442 : decode cL_law 442 = .ok (.iconst 3, 1) := by decide +kernel
theorem dL_law_443 : decode cL_law 443 = .ok (.iadd, 1) := by decide +kernel
theorem dL_law_444 : decode cL_law 444 = .ok (.iaload, 1) := by decide +kernel
theorem dL_law_445 : decode cL_law 445 = .ok (.aload_n 0, 1) := by decide +kernel
theorem dL_law_446 : decode cL_law 446 = .ok (.iload_n 3, 1) := by decide +kernel
theorem dL_law_447 : decode cL_law 447 = .ok (.iconst 4, 1) := by decide +kernel
theorem dL_law_448 : decode cL_law 448 = .ok (.iadd, 1) := by decide +kernel
theorem dL_law_449 : decode cL_law 449 = .ok (.iaload, 1) := by decide +kernel
theorem dL_law_450 : decode cL_law 450 = .ok (.invokevirtual 55, 3) := by decide +kernel
theorem dL_law_453 : decode cL_law 453 = .ok (.aload_n 2, 1) := by decide +kernel
theorem dL_law_454 : decode cL_law 454 = .ok (.aload_n 0, 1) := by decide +kernel
theorem dL_law_455 : decode cL_law 455 = .ok (.iload_n 3, 1) := by decide +kernel
theorem dL_law_456 : decode cL_law 456 = .ok (.iconst 1, 1) := by decide +kernel
theorem dL_law_457 : decode cL_law 457 = .ok (.iadd, 1) := by decide +kernel
theorem dL_law_458 : decode cL_law 458 = .ok (.iaload, 1) := by decide +kernel
theorem dL_law_459 : decode cL_law 459 = .ok (.aload_n 0, 1) := by decide +kernel
theorem dL_law_460 : decode cL_law 460 = .ok (.iload_n 3, 1) := by decide +kernel
theorem dL_law_461 : decode cL_law 461 = .ok (.iconst 2, 1) := by decide +kernel
theorem dL_law_462 : decode cL_law 462 = .ok (.iadd, 1) := by decide +kernel
theorem dL_law_463 : decode cL_law 463 = .ok (.iaload, 1) := by decide +kernel
theorem dL_law_464 : decode cL_law 464 = .ok (.aload_n 0, 1) := by decide +kernel
theorem dL_law_465 : decode cL_law 465 = .ok (.iload_n 3, 1) := by decide +kernel
theorem dL_law_466 : decode cL_law 466 = .ok (.iconst 3, 1) := by decide +kernel
theorem dL_law_467 : decode cL_law 467 = .ok (.iadd, 1) := by decide +kernel
theorem dL_law_468 : decode cL_law 468 = .ok (.iaload, 1) := by decide +kernel
theorem dL_law_469 : decode cL_law 469 = .ok (.aload_n 0, 1) := by decide +kernel
theorem dL_law_470 : decode cL_law 470 = .ok (.iload_n 3, 1) := by decide +kernel
theorem dL_law_471 : decode cL_law 471 = .ok (.iconst 4, 1) := by decide +kernel
theorem dL_law_472 : decode cL_law 472 = .ok (.iadd, 1) := by decide +kernel
theorem dL_law_473 : decode cL_law 473 = .ok (.iaload, 1) := by decide +kernel
theorem dL_law_474 : decode cL_law 474 = .ok (.invokevirtual 59, 3) := by decide +kernel
theorem dL_law_477 : decode cL_law 477 = .ok (.if_icmp .eq 423, 3) := by decide +kernel
theorem dL_law_480 : decode cL_law 480 = .ok (.iconst 0, 1) := by decide +kernel
theorem dL_law_481 : decode cL_law 481 = .ok (.ireturn, 1) := by decide +kernel
theorem dL_law_482 : decode cL_law 482 = .ok (.aload_n 1, 1) := by decide +kernel
theorem dL_law_483 : decode cL_law 483 = .ok (.aload_n 0, 1) := by decide +kernel
theorem dL_law_484 : decode cL_law 484 = .ok (.iload_n 3, 1) := by decide +kernel
theorem dL_law_485 : decode cL_law 485 = .ok (.iconst 1, 1) := by decide +kernel
theorem dL_law_486 : decode cL_law 486 = .ok (.iadd, 1) := by decide +kernel
theorem dL_law_487 : decode cL_law 487 = .ok (.iaload, 1) := by decide +kernel
theorem dL_law_488 : decode cL_law 488 = .ok (.invokevirtual 60, 3) := by decide +kernel
theorem dL_law_491 : decode cL_law 491 = .ok (.aload_n 2, 1) := by decide +kernel
theorem dL_law_492 : decode cL_law 492 = .ok (.aload_n 0, 1) := by decide +kernel
theorem dL_law_493 : decode cL_law 493 = .ok (.iload_n 3, 1) := by decide +kernel
theorem dL_law_494 : decode cL_law 494 = .ok (.iconst 1, 1) := by decide +kernel
theorem dL_law_495 : decode cL_law 495 = .ok (.iadd, 1) := by decide +kernel
theorem dL_law_496 : decode cL_law 496 = .ok (.iaload, 1) := by decide +kernel
theorem dL_law_497 : decode cL_law 497 = .ok (.invokevirtual 63, 3) := by decide +kernel
theorem dL_law_500 : decode cL_law 500 = .ok (.if_icmp .eq 400, 3) := by decide +kernel
theorem dL_law_503 : decode cL_law 503 = .ok (.iconst 0, 1) := by decide +kernel
theorem dL_law_504 : decode cL_law 504 = .ok (.ireturn, 1) := by decide +kernel
theorem dL_law_505 : decode cL_law 505 = .ok (.aload_n 1, 1) := by decide +kernel
theorem dL_law_506 : decode cL_law 506 = .ok (.invokevirtual 64, 3) := by decide +kernel
theorem dL_law_509 : decode cL_law 509 = .ok (.aload_n 2, 1) := by decide +kernel
theorem dL_law_510 : decode cL_law 510 = .ok (.invokevirtual 67, 3) := by decide +kernel
theorem dL_law_513 : decode cL_law 513 = .ok (.if_icmp .eq 387, 3) := by decide +kernel
theorem dL_law_516 : decode cL_law 516 = .ok (.iconst 0, 1) := by decide +kernel
theorem dL_law_517 : decode cL_law 517 = .ok (.ireturn, 1) := by decide +kernel
theorem dL_law_518 : decode cL_law 518 = .ok (.aload_n 1, 1) := by decide +kernel
theorem dL_law_519 : decode cL_law 519 = .ok (.invokevirtual 68, 3) := by decide +kernel
theorem dL_law_522 : decode cL_law 522 = .ok (.aload_n 2, 1) := by decide +kernel
theorem dL_law_523 : decode cL_law 523 = .ok (.invokevirtual 71, 3) := by decide +kernel
theorem dL_law_526 : decode cL_law 526 = .ok (.if_icmp .eq 374, 3) := by decide +kernel
theorem dL_law_529 : decode cL_law 529 = .ok (.iconst 0, 1) := by decide +kernel
theorem dL_law_530 : decode cL_law 530 = .ok (.ireturn, 1) := by decide +kernel
theorem dL_law_531 : decode cL_law 531 = .ok (.aload_n 1, 1) := by decide +kernel
theorem dL_law_532 : decode cL_law 532 = .ok (.aload_n 0, 1) := by decide +kernel
theorem dL_law_533 : decode cL_law 533 = .ok (.iload_n 3, 1) := by decide +kernel
theorem dL_law_534 : decode cL_law 534 = .ok (.iconst 1, 1) := by decide +kernel
theorem dL_law_535 : decode cL_law 535 = .ok (.iadd, 1) := by decide +kernel
theorem dL_law_536 : decode cL_law 536 = .ok (.iaload, 1) := by decide +kernel
theorem dL_law_537 : decode cL_law 537 = .ok (.aload_n 0, 1) := by decide +kernel
theorem dL_law_538 : decode cL_law 538 = .ok (.iload_n 3, 1) := by decide +kernel
theorem dL_law_539 : decode cL_law 539 = .ok (.iconst 2, 1) := by decide +kernel
theorem dL_law_540 : decode cL_law 540 = .ok (.iadd, 1) := by decide +kernel
theorem dL_law_541 : decode cL_law 541 = .ok (.iaload, 1) := by decide +kernel
theorem dL_law_542 : decode cL_law 542 = .ok (.invokevirtual 72, 3) := by decide +kernel
theorem dL_law_545 : decode cL_law 545 = .ok (.aload_n 2, 1) := by decide +kernel
theorem dL_law_546 : decode cL_law 546 = .ok (.aload_n 0, 1) := by decide +kernel
theorem dL_law_547 : decode cL_law 547 = .ok (.iload_n 3, 1) := by decide +kernel
theorem dL_law_548 : decode cL_law 548 = .ok (.iconst 1, 1) := by decide +kernel
theorem dL_law_549 : decode cL_law 549 = .ok (.iadd, 1) := by decide +kernel
theorem dL_law_550 : decode cL_law 550 = .ok (.iaload, 1) := by decide +kernel
theorem dL_law_551 : decode cL_law 551 = .ok (.aload_n 0, 1) := by decide +kernel
theorem dL_law_552 : decode cL_law 552 = .ok (.iload_n 3, 1) := by decide +kernel
theorem dL_law_553 : decode cL_law 553 = .ok (.iconst 2, 1) := by decide +kernel
theorem dL_law_554 : decode cL_law 554 = .ok (.iadd, 1) := by decide +kernel
theorem dL_law_555 : decode cL_law 555 = .ok (.iaload, 1) := by decide +kernel
theorem dL_law_556 : decode cL_law 556 = .ok (.invokevirtual 76, 3) := by decide +kernel
theorem dL_law_559 : decode cL_law 559 = .ok (.if_icmp .eq 341, 3) := by decide +kernel
theorem dL_law_562 : decode cL_law 562 = .ok (.iconst 0, 1) := by decide +kernel
theorem dL_law_563 : decode cL_law 563 = .ok (.ireturn, 1) := by decide +kernel
theorem dL_law_564 : decode cL_law 564 = .ok (.aload_n 1, 1) := by decide +kernel
theorem dL_law_565 : decode cL_law 565 = .ok (.aload_n 0, 1) := by decide +kernel
theorem dL_law_566 : decode cL_law 566 = .ok (.iload_n 3, 1) := by decide +kernel
theorem dL_law_567 : decode cL_law 567 = .ok (.iconst 1, 1) := by decide +kernel
theorem dL_law_568 : decode cL_law 568 = .ok (.iadd, 1) := by decide +kernel
theorem dL_law_569 : decode cL_law 569 = .ok (.iaload, 1) := by decide +kernel
theorem dL_law_570 : decode cL_law 570 = .ok (.invokevirtual 77, 3) := by decide +kernel
theorem dL_law_573 : decode cL_law 573 = .ok (.aload_n 2, 1) := by decide +kernel
theorem dL_law_574 : decode cL_law 574 = .ok (.aload_n 0, 1) := by decide +kernel
theorem dL_law_575 : decode cL_law 575 = .ok (.iload_n 3, 1) := by decide +kernel
theorem dL_law_576 : decode cL_law 576 = .ok (.iconst 1, 1) := by decide +kernel
theorem dL_law_577 : decode cL_law 577 = .ok (.iadd, 1) := by decide +kernel
theorem dL_law_578 : decode cL_law 578 = .ok (.iaload, 1) := by decide +kernel
theorem dL_law_579 : decode cL_law 579 = .ok (.invokevirtual 80, 3) := by decide +kernel
theorem dL_law_582 : decode cL_law 582 = .ok (.if_icmp .eq 318, 3) := by decide +kernel
theorem dL_law_585 : decode cL_law 585 = .ok (.iconst 0, 1) := by decide +kernel
theorem dL_law_586 : decode cL_law 586 = .ok (.ireturn, 1) := by decide +kernel
theorem dL_law_587 : decode cL_law 587 = .ok (.aload_n 1, 1) := by decide +kernel
theorem dL_law_588 : decode cL_law 588 = .ok (.aload_n 0, 1) := by decide +kernel
theorem dL_law_589 : decode cL_law 589 = .ok (.iload_n 3, 1) := by decide +kernel
theorem dL_law_590 : decode cL_law 590 = .ok (.iconst 1, 1) := by decide +kernel
theorem dL_law_591 : decode cL_law 591 = .ok (.iadd, 1) := by decide +kernel
theorem dL_law_592 : decode cL_law 592 = .ok (.iaload, 1) := by decide +kernel
theorem dL_law_593 : decode cL_law 593 = .ok (.invokevirtual 81, 3) := by decide +kernel
theorem dL_law_596 : decode cL_law 596 = .ok (.aload_n 2, 1) := by decide +kernel
theorem dL_law_597 : decode cL_law 597 = .ok (.aload_n 0, 1) := by decide +kernel
theorem dL_law_598 : decode cL_law 598 = .ok (.iload_n 3, 1) := by decide +kernel
theorem dL_law_599 : decode cL_law 599 = .ok (.iconst 1, 1) := by decide +kernel
theorem dL_law_600 : decode cL_law 600 = .ok (.iadd, 1) := by decide +kernel
theorem dL_law_601 : decode cL_law 601 = .ok (.iaload, 1) := by decide +kernel
theorem dL_law_602 : decode cL_law 602 = .ok (.invokevirtual 84, 3) := by decide +kernel
theorem dL_law_605 : decode cL_law 605 = .ok (.if_icmp .eq 295, 3) := by decide +kernel
theorem dL_law_608 : decode cL_law 608 = .ok (.iconst 0, 1) := by decide +kernel
theorem dL_law_609 : decode cL_law 609 = .ok (.ireturn, 1) := by decide +kernel
theorem dL_law_610 : decode cL_law 610 = .ok (.aload_n 1, 1) := by decide +kernel
theorem dL_law_611 : decode cL_law 611 = .ok (.invokevirtual 85, 3) := by decide +kernel
theorem dL_law_614 : decode cL_law 614 = .ok (.aload_n 2, 1) := by decide +kernel
theorem dL_law_615 : decode cL_law 615 = .ok (.invokevirtual 88, 3) := by decide +kernel
theorem dL_law_618 : decode cL_law 618 = .ok (.if_icmp .eq 282, 3) := by decide +kernel
theorem dL_law_621 : decode cL_law 621 = .ok (.iconst 0, 1) := by decide +kernel
theorem dL_law_622 : decode cL_law 622 = .ok (.ireturn, 1) := by decide +kernel
theorem dL_law_623 : decode cL_law 623 = .ok (.aload_n 1, 1) := by decide +kernel
theorem dL_law_624 : decode cL_law 624 = .ok (.aload_n 0, 1) := by decide +kernel
theorem dL_law_625 : decode cL_law 625 = .ok (.iload_n 3, 1) := by decide +kernel
theorem dL_law_626 : decode cL_law 626 = .ok (.iconst 1, 1) := by decide +kernel
theorem dL_law_627 : decode cL_law 627 = .ok (.iadd, 1) := by decide +kernel
theorem dL_law_628 : decode cL_law 628 = .ok (.iaload, 1) := by decide +kernel
theorem dL_law_629 : decode cL_law 629 = .ok (.aload_n 0, 1) := by decide +kernel
theorem dL_law_630 : decode cL_law 630 = .ok (.iload_n 3, 1) := by decide +kernel
theorem dL_law_631 : decode cL_law 631 = .ok (.iconst 2, 1) := by decide +kernel
theorem dL_law_632 : decode cL_law 632 = .ok (.iadd, 1) := by decide +kernel
theorem dL_law_633 : decode cL_law 633 = .ok (.iaload, 1) := by decide +kernel
theorem dL_law_634 : decode cL_law 634 = .ok (.invokevirtual 89, 3) := by decide +kernel
theorem dL_law_637 : decode cL_law 637 = .ok (.aload_n 2, 1) := by decide +kernel
theorem dL_law_638 : decode cL_law 638 = .ok (.aload_n 0, 1) := by decide +kernel
theorem dL_law_639 : decode cL_law 639 = .ok (.iload_n 3, 1) := by decide +kernel
theorem dL_law_640 : decode cL_law 640 = .ok (.iconst 1, 1) := by decide +kernel
theorem dL_law_641 : decode cL_law 641 = .ok (.iadd, 1) := by decide +kernel
theorem dL_law_642 : decode cL_law 642 = .ok (.iaload, 1) := by decide +kernel
theorem dL_law_643 : decode cL_law 643 = .ok (.aload_n 0, 1) := by decide +kernel
theorem dL_law_644 : decode cL_law 644 = .ok (.iload_n 3, 1) := by decide +kernel
theorem dL_law_645 : decode cL_law 645 = .ok (.iconst 2, 1) := by decide +kernel
theorem dL_law_646 : decode cL_law 646 = .ok (.iadd, 1) := by decide +kernel
theorem dL_law_647 : decode cL_law 647 = .ok (.iaload, 1) := by decide +kernel
theorem dL_law_648 : decode cL_law 648 = .ok (.invokevirtual 92, 3) := by decide +kernel
theorem dL_law_651 : decode cL_law 651 = .ok (.if_icmp .eq 249, 3) := by decide +kernel
theorem dL_law_654 : decode cL_law 654 = .ok (.iconst 0, 1) := by decide +kernel
theorem dL_law_655 : decode cL_law 655 = .ok (.ireturn, 1) := by decide +kernel
theorem dL_law_656 : decode cL_law 656 = .ok (.aload_n 1, 1) := by decide +kernel
theorem dL_law_657 : decode cL_law 657 = .ok (.aload_n 0, 1) := by decide +kernel
theorem dL_law_658 : decode cL_law 658 = .ok (.iload_n 3, 1) := by decide +kernel
theorem dL_law_659 : decode cL_law 659 = .ok (.iconst 1, 1) := by decide +kernel
theorem dL_law_660 : decode cL_law 660 = .ok (.iadd, 1) := by decide +kernel
theorem dL_law_661 : decode cL_law 661 = .ok (.iaload, 1) := by decide +kernel
theorem dL_law_662 : decode cL_law 662 = .ok (.aload_n 0, 1) := by decide +kernel
theorem dL_law_663 : decode cL_law 663 = .ok (.iload_n 3, 1) := by decide +kernel
theorem dL_law_664 : decode cL_law 664 = .ok (.iconst 2, 1) := by decide +kernel
theorem dL_law_665 : decode cL_law 665 = .ok (.iadd, 1) := by decide +kernel
theorem dL_law_666 : decode cL_law 666 = .ok (.iaload, 1) := by decide +kernel
theorem dL_law_667 : decode cL_law 667 = .ok (.invokevirtual 93, 3) := by decide +kernel
theorem dL_law_670 : decode cL_law 670 = .ok (.aload_n 2, 1) := by decide +kernel
theorem dL_law_671 : decode cL_law 671 = .ok (.aload_n 0, 1) := by decide +kernel
theorem dL_law_672 : decode cL_law 672 = .ok (.iload_n 3, 1) := by decide +kernel
theorem dL_law_673 : decode cL_law 673 = .ok (.iconst 1, 1) := by decide +kernel
theorem dL_law_674 : decode cL_law 674 = .ok (.iadd, 1) := by decide +kernel
theorem dL_law_675 : decode cL_law 675 = .ok (.iaload, 1) := by decide +kernel
theorem dL_law_676 : decode cL_law 676 = .ok (.aload_n 0, 1) := by decide +kernel
theorem dL_law_677 : decode cL_law 677 = .ok (.iload_n 3, 1) := by decide +kernel
theorem dL_law_678 : decode cL_law 678 = .ok (.iconst 2, 1) := by decide +kernel
theorem dL_law_679 : decode cL_law 679 = .ok (.iadd, 1) := by decide +kernel
theorem dL_law_680 : decode cL_law 680 = .ok (.iaload, 1) := by decide +kernel
theorem dL_law_681 : decode cL_law 681 = .ok (.invokevirtual 96, 3) := by decide +kernel
theorem dL_law_684 : decode cL_law 684 = .ok (.if_icmp .eq 216, 3) := by decide +kernel
theorem dL_law_687 : decode cL_law 687 = .ok (.iconst 0, 1) := by decide +kernel
theorem dL_law_688 : decode cL_law 688 = .ok (.ireturn, 1) := by decide +kernel
theorem dL_law_689 : decode cL_law 689 = .ok (.aload_n 1, 1) := by decide +kernel
theorem dL_law_690 : decode cL_law 690 = .ok (.aload_n 0, 1) := by decide +kernel
theorem dL_law_691 : decode cL_law 691 = .ok (.iload_n 3, 1) := by decide +kernel
theorem dL_law_692 : decode cL_law 692 = .ok (.iconst 1, 1) := by decide +kernel
theorem dL_law_693 : decode cL_law 693 = .ok (.iadd, 1) := by decide +kernel
theorem dL_law_694 : decode cL_law 694 = .ok (.iaload, 1) := by decide +kernel
theorem dL_law_695 : decode cL_law 695 = .ok (.aload_n 0, 1) := by decide +kernel
theorem dL_law_696 : decode cL_law 696 = .ok (.iload_n 3, 1) := by decide +kernel
theorem dL_law_697 : decode cL_law 697 = .ok (.iconst 2, 1) := by decide +kernel
theorem dL_law_698 : decode cL_law 698 = .ok (.iadd, 1) := by decide +kernel
theorem dL_law_699 : decode cL_law 699 = .ok (.iaload, 1) := by decide +kernel
theorem dL_law_700 : decode cL_law 700 = .ok (.invokevirtual 97, 3) := by decide +kernel
theorem dL_law_703 : decode cL_law 703 = .ok (.aload_n 2, 1) := by decide +kernel
theorem dL_law_704 : decode cL_law 704 = .ok (.aload_n 0, 1) := by decide +kernel
theorem dL_law_705 : decode cL_law 705 = .ok (.iload_n 3, 1) := by decide +kernel
theorem dL_law_706 : decode cL_law 706 = .ok (.iconst 1, 1) := by decide +kernel
theorem dL_law_707 : decode cL_law 707 = .ok (.iadd, 1) := by decide +kernel
theorem dL_law_708 : decode cL_law 708 = .ok (.iaload, 1) := by decide +kernel
theorem dL_law_709 : decode cL_law 709 = .ok (.aload_n 0, 1) := by decide +kernel
theorem dL_law_710 : decode cL_law 710 = .ok (.iload_n 3, 1) := by decide +kernel
theorem dL_law_711 : decode cL_law 711 = .ok (.iconst 2, 1) := by decide +kernel
theorem dL_law_712 : decode cL_law 712 = .ok (.iadd, 1) := by decide +kernel
theorem dL_law_713 : decode cL_law 713 = .ok (.iaload, 1) := by decide +kernel
theorem dL_law_714 : decode cL_law 714 = .ok (.invokevirtual 100, 3) := by decide +kernel
theorem dL_law_717 : decode cL_law 717 = .ok (.if_icmp .eq 183, 3) := by decide +kernel
theorem dL_law_720 : decode cL_law 720 = .ok (.iconst 0, 1) := by decide +kernel
theorem dL_law_721 : decode cL_law 721 = .ok (.ireturn, 1) := by decide +kernel
theorem dL_law_722 : decode cL_law 722 = .ok (.aload_n 1, 1) := by decide +kernel
theorem dL_law_723 : decode cL_law 723 = .ok (.aload_n 0, 1) := by decide +kernel
theorem dL_law_724 : decode cL_law 724 = .ok (.iload_n 3, 1) := by decide +kernel
theorem dL_law_725 : decode cL_law 725 = .ok (.iconst 1, 1) := by decide +kernel
theorem dL_law_726 : decode cL_law 726 = .ok (.iadd, 1) := by decide +kernel
theorem dL_law_727 : decode cL_law 727 = .ok (.iaload, 1) := by decide +kernel
theorem dL_law_728 : decode cL_law 728 = .ok (.aload_n 0, 1) := by decide +kernel
theorem dL_law_729 : decode cL_law 729 = .ok (.iload_n 3, 1) := by decide +kernel
theorem dL_law_730 : decode cL_law 730 = .ok (.iconst 2, 1) := by decide +kernel
theorem dL_law_731 : decode cL_law 731 = .ok (.iadd, 1) := by decide +kernel
theorem dL_law_732 : decode cL_law 732 = .ok (.iaload, 1) := by decide +kernel
theorem dL_law_733 : decode cL_law 733 = .ok (.aload_n 0, 1) := by decide +kernel
theorem dL_law_734 : decode cL_law 734 = .ok (.iload_n 3, 1) := by decide +kernel
theorem dL_law_735 : decode cL_law 735 = .ok (.iconst 3, 1) := by decide +kernel
theorem dL_law_736 : decode cL_law 736 = .ok (.iadd, 1) := by decide +kernel
theorem dL_law_737 : decode cL_law 737 = .ok (.iaload, 1) := by decide +kernel
theorem dL_law_738 : decode cL_law 738 = .ok (.aload_n 0, 1) := by decide +kernel
theorem dL_law_739 : decode cL_law 739 = .ok (.iload_n 3, 1) := by decide +kernel
theorem dL_law_740 : decode cL_law 740 = .ok (.iconst 4, 1) := by decide +kernel
theorem dL_law_741 : decode cL_law 741 = .ok (.iadd, 1) := by decide +kernel
theorem dL_law_742 : decode cL_law 742 = .ok (.iaload, 1) := by decide +kernel
theorem dL_law_743 : decode cL_law 743 = .ok (.invokevirtual 101, 3) := by decide +kernel
theorem dL_law_746 : decode cL_law 746 = .ok (.aload_n 2, 1) := by decide +kernel
theorem dL_law_747 : decode cL_law 747 = .ok (.aload_n 0, 1) := by decide +kernel
theorem dL_law_748 : decode cL_law 748 = .ok (.iload_n 3, 1) := by decide +kernel
theorem dL_law_749 : decode cL_law 749 = .ok (.iconst 1, 1) := by decide +kernel
theorem dL_law_750 : decode cL_law 750 = .ok (.iadd, 1) := by decide +kernel
theorem dL_law_751 : decode cL_law 751 = .ok (.iaload, 1) := by decide +kernel
theorem dL_law_752 : decode cL_law 752 = .ok (.aload_n 0, 1) := by decide +kernel
theorem dL_law_753 : decode cL_law 753 = .ok (.iload_n 3, 1) := by decide +kernel
theorem dL_law_754 : decode cL_law 754 = .ok (.iconst 2, 1) := by decide +kernel
theorem dL_law_755 : decode cL_law 755 = .ok (.iadd, 1) := by decide +kernel
theorem dL_law_756 : decode cL_law 756 = .ok (.iaload, 1) := by decide +kernel
theorem dL_law_757 : decode cL_law 757 = .ok (.aload_n 0, 1) := by decide +kernel
theorem dL_law_758 : decode cL_law 758 = .ok (.iload_n 3, 1) := by decide +kernel
theorem dL_law_759 : decode cL_law 759 = .ok (.iconst 3, 1) := by decide +kernel
theorem dL_law_760 : decode cL_law 760 = .ok (.iadd, 1) := by decide +kernel
theorem dL_law_761 : decode cL_law 761 = .ok (.iaload, 1) := by decide +kernel
theorem dL_law_762 : decode cL_law 762 = .ok (.aload_n 0, 1) := by decide +kernel
theorem dL_law_763 : decode cL_law 763 = .ok (.iload_n 3, 1) := by decide +kernel
theorem dL_law_764 : decode cL_law 764 = .ok (.iconst 4, 1) := by decide +kernel
theorem dL_law_765 : decode cL_law 765 = .ok (.iadd, 1) := by decide +kernel
theorem dL_law_766 : decode cL_law 766 = .ok (.iaload, 1) := by decide +kernel
theorem dL_law_767 : decode cL_law 767 = .ok (.invokevirtual 104, 3) := by decide +kernel
theorem dL_law_770 : decode cL_law 770 = .ok (.if_icmp .eq 130, 3) := by decide +kernel
theorem dL_law_773 : decode cL_law 773 = .ok (.iconst 0, 1) := by decide +kernel
theorem dL_law_774 : decode cL_law 774 = .ok (.ireturn, 1) := by decide +kernel
theorem dL_law_775 : decode cL_law 775 = .ok (.aload_n 1, 1) := by decide +kernel
theorem dL_law_776 : decode cL_law 776 = .ok (.aload_n 0, 1) := by decide +kernel
theorem dL_law_777 : decode cL_law 777 = .ok (.iload_n 3, 1) := by decide +kernel
theorem dL_law_778 : decode cL_law 778 = .ok (.iconst 1, 1) := by decide +kernel
theorem dL_law_779 : decode cL_law 779 = .ok (.iadd, 1) := by decide +kernel
theorem dL_law_780 : decode cL_law 780 = .ok (.iaload, 1) := by decide +kernel
theorem dL_law_781 : decode cL_law 781 = .ok (.aload_n 0, 1) := by decide +kernel
theorem dL_law_782 : decode cL_law 782 = .ok (.iload_n 3, 1) := by decide +kernel
theorem dL_law_783 : decode cL_law 783 = .ok (.iconst 2, 1) := by decide +kernel
theorem dL_law_784 : decode cL_law 784 = .ok (.iadd, 1) := by decide +kernel
theorem dL_law_785 : decode cL_law 785 = .ok (.iaload, 1) := by decide +kernel
theorem dL_law_786 : decode cL_law 786 = .ok (.invokevirtual 105, 3) := by decide +kernel
theorem dL_law_789 : decode cL_law 789 = .ok (.aload_n 2, 1) := by decide +kernel
theorem dL_law_790 : decode cL_law 790 = .ok (.aload_n 0, 1) := by decide +kernel
theorem dL_law_791 : decode cL_law 791 = .ok (.iload_n 3, 1) := by decide +kernel
theorem dL_law_792 : decode cL_law 792 = .ok (.iconst 1, 1) := by decide +kernel
theorem dL_law_793 : decode cL_law 793 = .ok (.iadd, 1) := by decide +kernel
theorem dL_law_794 : decode cL_law 794 = .ok (.iaload, 1) := by decide +kernel
theorem dL_law_795 : decode cL_law 795 = .ok (.aload_n 0, 1) := by decide +kernel
theorem dL_law_796 : decode cL_law 796 = .ok (.iload_n 3, 1) := by decide +kernel
theorem dL_law_797 : decode cL_law 797 = .ok (.iconst 2, 1) := by decide +kernel
theorem dL_law_798 : decode cL_law 798 = .ok (.iadd, 1) := by decide +kernel
theorem dL_law_799 : decode cL_law 799 = .ok (.iaload, 1) := by decide +kernel
theorem dL_law_800 : decode cL_law 800 = .ok (.invokevirtual 108, 3) := by decide +kernel
theorem dL_law_803 : decode cL_law 803 = .ok (.if_icmp .eq 97, 3) := by decide +kernel
theorem dL_law_806 : decode cL_law 806 = .ok (.iconst 0, 1) := by decide +kernel
theorem dL_law_807 : decode cL_law 807 = .ok (.ireturn, 1) := by decide +kernel
theorem dL_law_808 : decode cL_law 808 = .ok (.aload_n 1, 1) := by decide +kernel
theorem dL_law_809 : decode cL_law 809 = .ok (.aload_n 0, 1) := by decide +kernel
theorem dL_law_810 : decode cL_law 810 = .ok (.iload_n 3, 1) := by decide +kernel
theorem dL_law_811 : decode cL_law 811 = .ok (.iconst 1, 1) := by decide +kernel
theorem dL_law_812 : decode cL_law 812 = .ok (.iadd, 1) := by decide +kernel
theorem dL_law_813 : decode cL_law 813 = .ok (.iaload, 1) := by decide +kernel
theorem dL_law_814 : decode cL_law 814 = .ok (.invokevirtual 109, 3) := by decide +kernel
theorem dL_law_817 : decode cL_law 817 = .ok (.aload_n 2, 1) := by decide +kernel
theorem dL_law_818 : decode cL_law 818 = .ok (.aload_n 0, 1) := by decide +kernel
theorem dL_law_819 : decode cL_law 819 = .ok (.iload_n 3, 1) := by decide +kernel
theorem dL_law_820 : decode cL_law 820 = .ok (.iconst 1, 1) := by decide +kernel
theorem dL_law_821 : decode cL_law 821 = .ok (.iadd, 1) := by decide +kernel
theorem dL_law_822 : decode cL_law 822 = .ok (.iaload, 1) := by decide +kernel
theorem dL_law_823 : decode cL_law 823 = .ok (.invokevirtual 112, 3) := by decide +kernel
theorem dL_law_826 : decode cL_law 826 = .ok (.if_icmp .eq 74, 3) := by decide +kernel
theorem dL_law_829 : decode cL_law 829 = .ok (.iconst 0, 1) := by decide +kernel
theorem dL_law_830 : decode cL_law 830 = .ok (.ireturn, 1) := by decide +kernel
theorem dL_law_831 : decode cL_law 831 = .ok (.aload_n 1, 1) := by decide +kernel
theorem dL_law_832 : decode cL_law 832 = .ok (.aload_n 0, 1) := by decide +kernel
theorem dL_law_833 : decode cL_law 833 = .ok (.iload_n 3, 1) := by decide +kernel
theorem dL_law_834 : decode cL_law 834 = .ok (.iconst 1, 1) := by decide +kernel
theorem dL_law_835 : decode cL_law 835 = .ok (.iadd, 1) := by decide +kernel
theorem dL_law_836 : decode cL_law 836 = .ok (.iaload, 1) := by decide +kernel
theorem dL_law_837 : decode cL_law 837 = .ok (.invokevirtual 113, 3) := by decide +kernel
theorem dL_law_840 : decode cL_law 840 = .ok (.aload_n 2, 1) := by decide +kernel
theorem dL_law_841 : decode cL_law 841 = .ok (.aload_n 0, 1) := by decide +kernel
theorem dL_law_842 : decode cL_law 842 = .ok (.iload_n 3, 1) := by decide +kernel
theorem dL_law_843 : decode cL_law 843 = .ok (.iconst 1, 1) := by decide +kernel
theorem dL_law_844 : decode cL_law 844 = .ok (.iadd, 1) := by decide +kernel
theorem dL_law_845 : decode cL_law 845 = .ok (.iaload, 1) := by decide +kernel
theorem dL_law_846 : decode cL_law 846 = .ok (.invokevirtual 116, 3) := by decide +kernel
theorem dL_law_849 : decode cL_law 849 = .ok (.if_icmp .eq 51, 3) := by decide +kernel
theorem dL_law_852 : decode cL_law 852 = .ok (.iconst 0, 1) := by decide +kernel
theorem dL_law_853 : decode cL_law 853 = .ok (.ireturn, 1) := by decide +kernel
theorem dL_law_854 : decode cL_law 854 = .ok (.aload_n 1, 1) := by decide +kernel
theorem dL_law_855 : decode cL_law 855 = .ok (.aload_n 0, 1) := by decide +kernel
theorem dL_law_856 : decode cL_law 856 = .ok (.iload_n 3, 1) := by decide +kernel
theorem dL_law_857 : decode cL_law 857 = .ok (.iconst 1, 1) := by decide +kernel
theorem dL_law_858 : decode cL_law 858 = .ok (.iadd, 1) := by decide +kernel
theorem dL_law_859 : decode cL_law 859 = .ok (.iaload, 1) := by decide +kernel
theorem dL_law_860 : decode cL_law 860 = .ok (.invokevirtual 117, 3) := by decide +kernel
theorem dL_law_863 : decode cL_law 863 = .ok (.aload_n 2, 1) := by decide +kernel
theorem dL_law_864 : decode cL_law 864 = .ok (.aload_n 0, 1) := by decide +kernel
theorem dL_law_865 : decode cL_law 865 = .ok (.iload_n 3, 1) := by decide +kernel
theorem dL_law_866 : decode cL_law 866 = .ok (.iconst 1, 1) := by decide +kernel
theorem dL_law_867 : decode cL_law 867 = .ok (.iadd, 1) := by decide +kernel
theorem dL_law_868 : decode cL_law 868 = .ok (.iaload, 1) := by decide +kernel
theorem dL_law_869 : decode cL_law 869 = .ok (.invokevirtual 120, 3) := by decide +kernel
theorem dL_law_872 : decode cL_law 872 = .ok (.if_icmp .eq 28, 3) := by decide +kernel
theorem dL_law_875 : decode cL_law 875 = .ok (.iconst 0, 1) := by decide +kernel
theorem dL_law_876 : decode cL_law 876 = .ok (.ireturn, 1) := by decide +kernel
theorem dL_law_877 : decode cL_law 877 = .ok (.aload_n 1, 1) := by decide +kernel
theorem dL_law_878 : decode cL_law 878 = .ok (.aload_n 0, 1) := by decide +kernel
theorem dL_law_879 : decode cL_law 879 = .ok (.iload_n 3, 1) := by decide +kernel
theorem dL_law_880 : decode cL_law 880 = .ok (.iconst 1, 1) := by decide +kernel
theorem dL_law_881 : decode cL_law 881 = .ok (.iadd, 1) := by decide +kernel
theorem dL_law_882 : decode cL_law 882 = .ok (.iaload, 1) := by decide +kernel
theorem dL_law_883 : decode cL_law 883 = .ok (.invokevirtual 121, 3) := by decide +kernel
theorem dL_law_886 : decode cL_law 886 = .ok (.aload_n 2, 1) := by decide +kernel
theorem dL_law_887 : decode cL_law 887 = .ok (.aload_n 0, 1) := by decide +kernel
theorem dL_law_888 : decode cL_law 888 = .ok (.iload_n 3, 1) := by decide +kernel
theorem dL_law_889 : decode cL_law 889 = .ok (.iconst 1, 1) := by decide +kernel
theorem dL_law_890 : decode cL_law 890 = .ok (.iadd, 1) := by decide +kernel
theorem dL_law_891 : decode cL_law 891 = .ok (.iaload, 1) := by decide +kernel
theorem dL_law_892 : decode cL_law 892 = .ok (.invokevirtual 124, 3) := by decide +kernel
theorem dL_law_895 : decode cL_law 895 = .ok (.if_icmp .eq 5, 3) := by decide +kernel
theorem dL_law_898 : decode cL_law 898 = .ok (.iconst 0, 1) := by decide +kernel
theorem dL_law_899 : decode cL_law 899 = .ok (.ireturn, 1) := by decide +kernel
theorem dL_law_900 : decode cL_law 900 = .ok (.iinc 3 6, 3) := by decide +kernel
theorem dL_law_903 : decode cL_law 903 = .ok (.goto (-885), 3) := by decide +kernel
theorem dL_law_906 : decode cL_law 906 = .ok (.iconst 1, 1) := by decide +kernel
theorem dL_law_907 : decode cL_law 907 = .ok (.ireturn, 1) := by decide +kernel
end
section
abbrev MJ9_abs_0f7a4 : MT := (yJ9_abs_0f7a4, cJ9_abs_0f7a4, 1, some .int, 0, 0)
abbrev MJ9_max_7cf53 : MT := (yJ9_max_7cf53, cJ9_max_7cf53, 2, some .int, 0, 0)
abbrev MJ9_min_7cf53 : MT := (yJ9_min_7cf53, cJ9_min_7cf53, 2, some .int, 0, 0)
abbrev ML_law : MT := (yL_law, cL_law, maxLocals, ret, 12, 252)
abbrev MX0_allHold : MT := (yX0_allHold, cX0_allHold, 4, some .boolean, 2, 46)
abbrev MX0_copyFrom : MT := (yX0_copyFrom, cX0_copyFrom, 2, none, 1, 49)
abbrev MX0_holds : MT := (yX0_holds, cX0_holds, 6, some .boolean, 1, 21)
abbrev MX0_init : MT := (yX0_init, cX0_init, 1, none, 1, 20)
abbrev MX0_partFor : MT := (yX0_partFor, cX0_partFor, 3, some .int, 3, 69)
abbrev MX1_bestOrders : MT := (yX1_bestOrders, cX1_bestOrders, 5, some .int, 1, 24)
abbrev MX1_canDo : MT := (yX1_canDo, cX1_canDo, 5, some .boolean, 0, 0)
abbrev MX1_copyFrom : MT := (yX1_copyFrom, cX1_copyFrom, 2, none, 1, 49)
abbrev MX1_hasOrders : MT := (yX1_hasOrders, cX1_hasOrders, 2, some .boolean, 0, 0)
abbrev MX1_init : MT := (yX1_init, cX1_init, 1, none, 1, 20)
abbrev MX1_takeOrder : MT := (yX1_takeOrder, cX1_takeOrder, 5, none, 0, 0)
abbrev MX1_worthOf : MT := (yX1_worthOf, cX1_worthOf, 4, some .int, 0, 0)
abbrev MX2_bestFreePlace : MT := (yX2_bestFreePlace, cX2_bestFreePlace, 4, some .int, 0, 0)
abbrev MX2_build : MT := (yX2_build, cX2_build, 3, none, 0, 0)
abbrev MX2_burn : MT := (yX2_burn, cX2_burn, 5, none, 1, 49)
abbrev MX2_changeOf : MT := (yX2_changeOf, cX2_changeOf, 2, some .int, 1, 21)
abbrev MX2_clear : MT := (yX2_clear, cX2_clear, 2, none, 0, 0)
abbrev MX2_copyFrom : MT := (yX2_copyFrom, cX2_copyFrom, 2, none, 1, 49)
abbrev MX2_greatestHeat : MT := (yX2_greatestHeat, cX2_greatestHeat, 3, some .int, 1, 21)
abbrev MX2_hasChamber : MT := (yX2_hasChamber, cX2_hasChamber, 2, some .boolean, 1, 22)
abbrev MX2_hasPlace : MT := (yX2_hasPlace, cX2_hasPlace, 3, some .boolean, 2, 43)
abbrev MX2_heatsTogether : MT := (yX2_heatsTogether, cX2_heatsTogether, 3, some .int, 0, 0)
abbrev MX2_init : MT := (yX2_init, cX2_init, 1, none, 1, 22)
abbrev MX3_bear : MT := (yX3_bear, cX3_bear, 4, none, 0, 0)
abbrev MX3_copyFrom : MT := (yX3_copyFrom, cX3_copyFrom, 2, none, 0, 0)
abbrev MX3_init : MT := (yX3_init, cX3_init, 1, none, 1, 20)
abbrev MX3_stands : MT := (yX3_stands, cX3_stands, 1, some .boolean, 0, 0)
abbrev MX3_subject : MT := (yX3_subject, cX3_subject, 2, some .int, 0, 0)
abbrev MX3_turn : MT := (yX3_turn, cX3_turn, 5, none, 0, 0)
abbrev MX4_init : MT := (yX4_init, cX4_init, 2, none, 2, 41)
abbrev MX4_isAt : MT := (yX4_isAt, cX4_isAt, 2, some .boolean, 0, 0)
abbrev MX4_keepTest : MT := (yX4_keepTest, cX4_keepTest, 7, none, 0, 0)
abbrev MX4_note : MT := (yX4_note, cX4_note, 2, none, 0, 0)
abbrev MX4_read : MT := (yX4_read, cX4_read, 3, none, 10, 210)
abbrev MX4_readCondition : MT := (yX4_readCondition, cX4_readCondition, 4, some .boolean, 3, 67)
abbrev MX4_readDuty : MT := (yX4_readDuty, cX4_readDuty, 3, some .boolean, 2, 42)
abbrev MX4_readLine : MT := (yX4_readLine, cX4_readLine, 2, some .boolean, 4, 90)
abbrev MX4_readTest : MT := (yX4_readTest, cX4_readTest, 6, some .boolean, 2, 42)
abbrev MX4_take : MT := (yX4_take, cX4_take, 2, some .boolean, 1, 21)
abbrev MX5_append : MT := (yX5_append, cX5_append, 3, none, 0, 0)
abbrev MX5_copyFrom : MT := (yX5_copyFrom, cX5_copyFrom, 2, none, 1, 49)
abbrev MX5_init : MT := (yX5_init, cX5_init, 1, none, 1, 20)
abbrev MX6_init : MT := (yX6_init, cX6_init, 2, none, 1, 20)
abbrev MX6_isBlank : MT := (yX6_isBlank, cX6_isBlank, 1, some .boolean, 0, 0)
abbrev MX6_isDigit : MT := (yX6_isDigit, cX6_isDigit, 1, some .boolean, 0, 0)
abbrev MX6_isLetter : MT := (yX6_isLetter, cX6_isLetter, 1, some .boolean, 0, 0)
abbrev MX6_scan : MT := (yX6_scan, cX6_scan, 3, none, 9, 188)
abbrev MX6_scanNumber : MT := (yX6_scanNumber, cX6_scanNumber, 1, some .int, 1, 20)
abbrev MX6_scanOne : MT := (yX6_scanOne, cX6_scanOne, 1, some .int, 8, 168)
abbrev MX6_scanSign : MT := (yX6_scanSign, cX6_scanSign, 2, some .int, 0, 0)
abbrev MX6_scanWord : MT := (yX6_scanWord, cX6_scanWord, 1, some .int, 7, 148)
abbrev MX6_subjectOfWord : MT := (yX6_subjectOfWord, cX6_subjectOfWord, 1, some .int, 6, 128)
abbrev MX6_wordIs : MT := (yX6_wordIs, cX6_wordIs, 3, some .boolean, 5, 106)
abbrev MX7_copyFrom : MT := (yX7_copyFrom, cX7_copyFrom, 3, none, 2, 70)
abbrev MX7_dealPlaces : MT := (yX7_dealPlaces, cX7_dealPlaces, 5, some .int, 2, 46)
abbrev MX7_dryWaiting : MT := (yX7_dryWaiting, cX7_dryWaiting, 3, none, 1, 21)
abbrev MX7_giveAllBack : MT := (yX7_giveAllBack, cX7_giveAllBack, 5, some .int, 5, 115)
abbrev MX7_giveBack : MT := (yX7_giveBack, cX7_giveBack, 5, some .boolean, 4, 91)
abbrev MX7_goesBefore : MT := (yX7_goesBefore, cX7_goesBefore, 5, some .boolean, 0, 0)
abbrev MX7_hasHouse : MT := (yX7_hasHouse, cX7_hasHouse, 2, some .boolean, 1, 22)
abbrev MX7_init : MT := (yX7_init, cX7_init, 2, none, 2, 42)
abbrev MX7_isRipe : MT := (yX7_isRipe, cX7_isRipe, 4, some .boolean, 1, 22)
abbrev MX7_nextPot : MT := (yX7_nextPot, cX7_nextPot, 3, some .int, 1, 24)
abbrev MX7_passHour : MT := (yX7_passHour, cX7_passHour, 5, none, 2, 73)
abbrev MX7_potsOf : MT := (yX7_potsOf, cX7_potsOf, 5, some .int, 1, 20)
abbrev MX7_shareLoss : MT := (yX7_shareLoss, cX7_shareLoss, 5, none, 0, 0)
abbrev MX7_spreadOfHad : MT := (yX7_spreadOfHad, cX7_spreadOfHad, 6, some .int, 1, 21)
abbrev MX7_standingPots : MT := (yX7_standingPots, cX7_standingPots, 3, some .int, 1, 20)
abbrev MX8_about : MT := (yX8_about, cX8_about, 4, some .int, 4, 91)
abbrev MX8_again : MT := (yX8_again, cX8_again, 2, some .boolean, 3, 92)
abbrev MX8_at : MT := (yX8_at, cX8_at, 3, some .int, 3, 65)
abbrev MX8_count : MT := (yX8_count, cX8_count, 2, some .int, 2, 42)
abbrev MX8_custom : MT := (yX8_custom, cX8_custom, 1, some .int, 11, 232)
abbrev MX8_deal : MT := (yX8_deal, cX8_deal, 1, some .int, 3, 70)
abbrev MX8_dry : MT := (yX8_dry, cX8_dry, 2, some .boolean, 2, 43)
abbrev MX8_end : MT := (yX8_end, cX8_end, 2, some .int, 1, 22)
abbrev MX8_fault : MT := (yX8_fault, cX8_fault, 2, some .int, 0, 0)
abbrev MX8_feed : MT := (yX8_feed, cX8_feed, 7, some .int, 1, 22)
abbrev MX8_fire : MT := (yX8_fire, cX8_fire, 3, some .int, 3, 97)
abbrev MX8_forget : MT := (yX8_forget, cX8_forget, 2, some .boolean, 2, 43)
abbrev MX8_glaze : MT := (yX8_glaze, cX8_glaze, 3, some .boolean, 1, 22)
abbrev MX8_heat : MT := (yX8_heat, cX8_heat, 2, some .int, 2, 43)
abbrev MX8_house : MT := (yX8_house, cX8_house, 1, some .int, 0, 0)
abbrev MX8_image : MT := (yX8_image, cX8_image, 2, some .boolean, 3, 92)
abbrev MX8_inTime : MT := (yX8_inTime, cX8_inTime, 3, some .boolean, 2, 43)
abbrev MX8_init : MT := (yX8_init, cX8_init, 1, none, 3, 63)
abbrev MX8_kiln : MT := (yX8_kiln, cX8_kiln, 2, some .boolean, 2, 42)
abbrev MX8_open : MT := (yX8_open, cX8_open, 1, some .int, 6, 139)
abbrev MX8_order : MT := (yX8_order, cX8_order, 6, some .int, 2, 43)
abbrev MX8_pot : MT := (yX8_pot, cX8_pot, 5, some .int, 2, 43)
abbrev MX8_rest : MT := (yX8_rest, cX8_rest, 3, some .int, 3, 97)
abbrev MX8_shape : MT := (yX8_shape, cX8_shape, 4, some .boolean, 1, 22)
abbrev MX8_spread : MT := (yX8_spread, cX8_spread, 1, some .int, 2, 46)
abbrev MX8_tell : MT := (yX8_tell, cX8_tell, 4, some .int, 2, 48)
abbrev MX8_value : MT := (yX8_value, cX8_value, 4, some .boolean, 3, 65)
abbrev MX8_within : MT := (yX8_within, cX8_within, 3, some .boolean, 0, 0)
abbrev MX9_aLine : MT := (yX9_aLine, cX9_aLine, 4, none, 6, 130)
abbrev MX9_aTest : MT := (yX9_aTest, cX9_aTest, 1, none, 5, 110)
abbrev MX9_about : MT := (yX9_about, cX9_about, 3, some .int, 5, 116)
abbrev MX9_adds : MT := (yX9_adds, cX9_adds, 4, none, 0, 0)
abbrev MX9_advance : MT := (yX9_advance, cX9_advance, 4, none, 3, 66)
abbrev MX9_again : MT := (yX9_again, cX9_again, 3, some .boolean, 1, 22)
abbrev MX9_asked : MT := (yX9_asked, cX9_asked, 4, some .int, 2, 43)
abbrev MX9_at : MT := (yX9_at, cX9_at, 3, some .int, 2, 44)
abbrev MX9_at0 : MT := (yX9_at0, cX9_at0, 3, some .int, 1, 22)
abbrev MX9_bakes : MT := (yX9_bakes, cX9_bakes, 5, none, 1, 23)
abbrev MX9_begins : MT := (yX9_begins, cX9_begins, 4, none, 0, 0)
abbrev MX9_best : MT := (yX9_best, cX9_best, 4, some .int, 2, 48)
abbrev MX9_bestPlace : MT := (yX9_bestPlace, cX9_bestPlace, 3, some .int, 2, 44)
abbrev MX9_byteAt : MT := (yX9_byteAt, cX9_byteAt, 2, some .int, 0, 0)
abbrev MX9_can : MT := (yX9_can, cX9_can, 7, some .boolean, 1, 22)
abbrev MX9_count : MT := (yX9_count, cX9_count, 4, some .int, 3, 65)
abbrev MX9_custom : MT := (yX9_custom, cX9_custom, 2, some .int, 7, 153)
abbrev MX9_customOf : MT := (yX9_customOf, cX9_customOf, 3, some .int, 4, 94)
abbrev MX9_deal : MT := (yX9_deal, cX9_deal, 4, some .int, 4, 87)
abbrev MX9_dry : MT := (yX9_dry, cX9_dry, 3, some .boolean, 2, 43)
abbrev MX9_end : MT := (yX9_end, cX9_end, 2, some .int, 0, 0)
abbrev MX9_fault : MT := (yX9_fault, cX9_fault, 2, some .int, 0, 0)
abbrev MX9_feed : MT := (yX9_feed, cX9_feed, 8, some .int, 0, 0)
abbrev MX9_fire : MT := (yX9_fire, cX9_fire, 3, some .int, 3, 72)
abbrev MX9_forget : MT := (yX9_forget, cX9_forget, 2, some .boolean, 2, 43)
abbrev MX9_four : MT := (yX9_four, cX9_four, 4, some .long, 1, 22)
abbrev MX9_gives : MT := (yX9_gives, cX9_gives, 6, some .boolean, 5, 116)
abbrev MX9_glaze : MT := (yX9_glaze, cX9_glaze, 3, some .boolean, 1, 22)
abbrev MX9_greatestHeat : MT := (yX9_greatestHeat, cX9_greatestHeat, 3, some .int, 0, 0)
abbrev MX9_heat : MT := (yX9_heat, cX9_heat, 2, some .int, 1, 22)
abbrev MX9_holds : MT := (yX9_holds, cX9_holds, 9, some .boolean, 3, 66)
abbrev MX9_hour : MT := (yX9_hour, cX9_hour, 6, none, 2, 47)
abbrev MX9_house : MT := (yX9_house, cX9_house, 2, some .int, 0, 0)
abbrev MX9_image : MT := (yX9_image, cX9_image, 3, some .boolean, 1, 22)
abbrev MX9_inTime : MT := (yX9_inTime, cX9_inTime, 3, some .boolean, 2, 48)
abbrev MX9_init : MT := (yX9_init, cX9_init, 2, none, 1, 23)
abbrev MX9_isDigit : MT := (yX9_isDigit, cX9_isDigit, 1, some .boolean, 0, 0)
abbrev MX9_isHouse : MT := (yX9_isHouse, cX9_isHouse, 2, some .boolean, 1, 22)
abbrev MX9_isIn : MT := (yX9_isIn, cX9_isIn, 3, some .boolean, 0, 0)
abbrev MX9_isLetter : MT := (yX9_isLetter, cX9_isLetter, 1, some .boolean, 0, 0)
abbrev MX9_isPlace : MT := (yX9_isPlace, cX9_isPlace, 3, some .boolean, 1, 22)
abbrev MX9_isRipe : MT := (yX9_isRipe, cX9_isRipe, 4, some .boolean, 1, 22)
abbrev MX9_isSignByte : MT := (yX9_isSignByte, cX9_isSignByte, 1, some .boolean, 0, 0)
abbrev MX9_its : MT := (yX9_its, cX9_its, 3, some .int, 0, 0)
abbrev MX9_kiln : MT := (yX9_kiln, cX9_kiln, 2, some .boolean, 3, 65)
abbrev MX9_must : MT := (yX9_must, cX9_must, 2, none, 4, 89)
abbrev MX9_nextHouse : MT := (yX9_nextHouse, cX9_nextHouse, 3, some .int, 3, 65)
abbrev MX9_numbered : MT := (yX9_numbered, cX9_numbered, 2, some .int, 4, 89)
abbrev MX9_of : MT := (yX9_of, cX9_of, 3, some .int, 0, 0)
abbrev MX9_open : MT := (yX9_open, cX9_open, 5, some .int, 6, 141)
abbrev MX9_order : MT := (yX9_order, cX9_order, 7, some .int, 2, 43)
abbrev MX9_pot : MT := (yX9_pot, cX9_pot, 7, some .int, 2, 43)
abbrev MX9_puts : MT := (yX9_puts, cX9_puts, 3, none, 0, 0)
abbrev MX9_rest : MT := (yX9_rest, cX9_rest, 3, some .int, 3, 72)
abbrev MX9_sets : MT := (yX9_sets, cX9_sets, 4, none, 0, 0)
abbrev MX9_shape : MT := (yX9_shape, cX9_shape, 4, some .boolean, 1, 22)
abbrev MX9_spread : MT := (yX9_spread, cX9_spread, 5, some .int, 1, 22)
abbrev MX9_standing : MT := (yX9_standing, cX9_standing, 3, some .int, 2, 43)
abbrev MX9_stands : MT := (yX9_stands, cX9_stands, 2, some .boolean, 1, 22)
abbrev MX9_stops : MT := (yX9_stops, cX9_stops, 1, none, 0, 0)
abbrev MX9_takes : MT := (yX9_takes, cX9_takes, 2, some .boolean, 4, 89)
abbrev MX9_tell : MT := (yX9_tell, cX9_tell, 6, some .int, 3, 71)
abbrev MX9_tells : MT := (yX9_tells, cX9_tells, 3, none, 0, 0)
abbrev MX9_three : MT := (yX9_three, cX9_three, 3, some .long, 0, 0)
abbrev MX9_value : MT := (yX9_value, cX9_value, 4, some .boolean, 2, 44)
abbrev MX9_waiting : MT := (yX9_waiting, cX9_waiting, 3, some .int, 2, 43)
abbrev MX9_wordOf : MT := (yX9_wordOf, cX9_wordOf, 2, some .int, 2, 45)
abbrev MX9_worthOf : MT := (yX9_worthOf, cX9_worthOf, 5, some .int, 1, 22)
theorem ms_J9_abs_0f7a4 : MS MJ9_abs_0f7a4 1 := ⟨⟨gw_at 676 (by decide +kernel) rfl, gw_at 71 (by decide +kernel) rfl, ⟨by decide, by decide⟩, by decide +kernel⟩, gw_at 675 (by decide +kernel) rfl⟩
theorem ms_J9_max_7cf53 : MS MJ9_max_7cf53 2 := ⟨⟨gw_at 619 (by decide +kernel) rfl, gw_at 71 (by decide +kernel) rfl, ⟨by decide, by decide⟩, by decide +kernel⟩, gw_at 618 (by decide +kernel) rfl⟩
theorem ms_J9_min_7cf53 : MS MJ9_min_7cf53 2 := ⟨⟨gw_at 655 (by decide +kernel) rfl, gw_at 71 (by decide +kernel) rfl, ⟨by decide, by decide⟩, by decide +kernel⟩, gw_at 654 (by decide +kernel) rfl⟩
theorem mv_X0_allHold : MV MX0_allHold 2 0 := ⟨⟨gw_at 712 (by decide +kernel) rfl, gw_at 59 (by decide +kernel) rfl, ⟨by decide, by decide⟩, by decide +kernel⟩, gw_at 711 (by decide +kernel) rfl, gw_at 17 (by decide +kernel) rfl, (RX0, TX0, 6), rfl, rfl⟩
theorem mv_X0_copyFrom : MV MX0_copyFrom 1 0 := ⟨⟨gw_at 550 (by decide +kernel) rfl, gw_at 59 (by decide +kernel) rfl, ⟨by decide, by decide⟩, by decide +kernel⟩, gw_at 548 (by decide +kernel) rfl, gw_at 549 (by decide +kernel) rfl, (RX0, TX0, 6), rfl, rfl⟩
theorem mv_X0_holds : MV MX0_holds 2 0 := ⟨⟨gw_at 716 (by decide +kernel) rfl, gw_at 59 (by decide +kernel) rfl, ⟨by decide, by decide⟩, by decide +kernel⟩, gw_at 715 (by decide +kernel) rfl, gw_at 18 (by decide +kernel) rfl, (RX0, TX0, 6), rfl, rfl⟩
theorem mi_X0_init : MI MX0_init 0 := ⟨⟨gw_at 107 (by decide +kernel) rfl, gw_at 59 (by decide +kernel) rfl, ⟨by decide, by decide⟩, by decide +kernel⟩, gw_at 106 (by decide +kernel) rfl, rfl, rfl⟩
theorem mv_X0_partFor : MV MX0_partFor 1 0 := ⟨⟨gw_at 708 (by decide +kernel) rfl, gw_at 59 (by decide +kernel) rfl, ⟨by decide, by decide⟩, by decide +kernel⟩, gw_at 706 (by decide +kernel) rfl, gw_at 707 (by decide +kernel) rfl, (RX0, TX0, 6), rfl, rfl⟩
theorem mv_X1_bestOrders : MV MX1_bestOrders 0 1 := ⟨⟨gw_at 751 (by decide +kernel) rfl, gw_at 61 (by decide +kernel) rfl, ⟨by decide, by decide⟩, by decide +kernel⟩, gw_at 749 (by decide +kernel) rfl, gw_at 750 (by decide +kernel) rfl, (RX1, TX1, 9), rfl, rfl⟩
theorem mv_X1_canDo : MV MX1_canDo 1 1 := ⟨⟨gw_at 759 (by decide +kernel) rfl, gw_at 61 (by decide +kernel) rfl, ⟨by decide, by decide⟩, by decide +kernel⟩, gw_at 757 (by decide +kernel) rfl, gw_at 758 (by decide +kernel) rfl, (RX1, TX1, 9), rfl, rfl⟩
theorem mv_X1_copyFrom : MV MX1_copyFrom 1 1 := ⟨⟨gw_at 807 (by decide +kernel) rfl, gw_at 61 (by decide +kernel) rfl, ⟨by decide, by decide⟩, by decide +kernel⟩, gw_at 805 (by decide +kernel) rfl, gw_at 806 (by decide +kernel) rfl, (RX1, TX1, 9), rfl, rfl⟩
theorem mv_X1_hasOrders : MV MX1_hasOrders 1 1 := ⟨⟨gw_at 776 (by decide +kernel) rfl, gw_at 61 (by decide +kernel) rfl, ⟨by decide, by decide⟩, by decide +kernel⟩, gw_at 774 (by decide +kernel) rfl, gw_at 775 (by decide +kernel) rfl, (RX1, TX1, 9), rfl, rfl⟩
theorem mi_X1_init : MI MX1_init 0 := ⟨⟨gw_at 188 (by decide +kernel) rfl, gw_at 61 (by decide +kernel) rfl, ⟨by decide, by decide⟩, by decide +kernel⟩, gw_at 187 (by decide +kernel) rfl, rfl, rfl⟩
theorem mv_X1_takeOrder : MV MX1_takeOrder 3 1 := ⟨⟨gw_at 768 (by decide +kernel) rfl, gw_at 61 (by decide +kernel) rfl, ⟨by decide, by decide⟩, by decide +kernel⟩, gw_at 766 (by decide +kernel) rfl, gw_at 767 (by decide +kernel) rfl, (RX1, TX1, 9), rfl, rfl⟩
theorem mv_X1_worthOf : MV MX1_worthOf 1 1 := ⟨⟨gw_at 755 (by decide +kernel) rfl, gw_at 61 (by decide +kernel) rfl, ⟨by decide, by decide⟩, by decide +kernel⟩, gw_at 753 (by decide +kernel) rfl, gw_at 754 (by decide +kernel) rfl, (RX1, TX1, 9), rfl, rfl⟩
theorem mv_X2_bestFreePlace : MV MX2_bestFreePlace 0 2 := ⟨⟨gw_at 636 (by decide +kernel) rfl, gw_at 60 (by decide +kernel) rfl, ⟨by decide, by decide⟩, by decide +kernel⟩, gw_at 634 (by decide +kernel) rfl, gw_at 635 (by decide +kernel) rfl, (RX2, TX2, 7), rfl, rfl⟩
theorem mv_X2_build : MV MX2_build 1 2 := ⟨⟨gw_at 147 (by decide +kernel) rfl, gw_at 60 (by decide +kernel) rfl, ⟨by decide, by decide⟩, by decide +kernel⟩, gw_at 145 (by decide +kernel) rfl, gw_at 146 (by decide +kernel) rfl, (RX2, TX2, 7), rfl, rfl⟩
theorem mv_X2_burn : MV MX2_burn 2 2 := ⟨⟨gw_at 668 (by decide +kernel) rfl, gw_at 60 (by decide +kernel) rfl, ⟨by decide, by decide⟩, by decide +kernel⟩, gw_at 666 (by decide +kernel) rfl, gw_at 667 (by decide +kernel) rfl, (RX2, TX2, 7), rfl, rfl⟩
theorem mv_X2_changeOf : MV MX2_changeOf 1 2 := ⟨⟨gw_at 673 (by decide +kernel) rfl, gw_at 60 (by decide +kernel) rfl, ⟨by decide, by decide⟩, by decide +kernel⟩, gw_at 671 (by decide +kernel) rfl, gw_at 672 (by decide +kernel) rfl, (RX2, TX2, 7), rfl, rfl⟩
theorem mv_X2_clear : MV MX2_clear 0 2 := ⟨⟨gw_at 151 (by decide +kernel) rfl, gw_at 60 (by decide +kernel) rfl, ⟨by decide, by decide⟩, by decide +kernel⟩, gw_at 149 (by decide +kernel) rfl, gw_at 150 (by decide +kernel) rfl, (RX2, TX2, 7), rfl, rfl⟩
theorem mv_X2_copyFrom : MV MX2_copyFrom 1 2 := ⟨⟨gw_at 813 (by decide +kernel) rfl, gw_at 60 (by decide +kernel) rfl, ⟨by decide, by decide⟩, by decide +kernel⟩, gw_at 811 (by decide +kernel) rfl, gw_at 812 (by decide +kernel) rfl, (RX2, TX2, 7), rfl, rfl⟩
theorem mv_X2_greatestHeat : MV MX2_greatestHeat 0 2 := ⟨⟨gw_at 627 (by decide +kernel) rfl, gw_at 60 (by decide +kernel) rfl, ⟨by decide, by decide⟩, by decide +kernel⟩, gw_at 625 (by decide +kernel) rfl, gw_at 626 (by decide +kernel) rfl, (RX2, TX2, 7), rfl, rfl⟩
theorem mv_X2_hasChamber : MV MX2_hasChamber 1 2 := ⟨⟨gw_at 594 (by decide +kernel) rfl, gw_at 60 (by decide +kernel) rfl, ⟨by decide, by decide⟩, by decide +kernel⟩, gw_at 592 (by decide +kernel) rfl, gw_at 593 (by decide +kernel) rfl, (RX2, TX2, 7), rfl, rfl⟩
theorem mv_X2_hasPlace : MV MX2_hasPlace 2 2 := ⟨⟨gw_at 590 (by decide +kernel) rfl, gw_at 60 (by decide +kernel) rfl, ⟨by decide, by decide⟩, by decide +kernel⟩, gw_at 588 (by decide +kernel) rfl, gw_at 589 (by decide +kernel) rfl, (RX2, TX2, 7), rfl, rfl⟩
theorem mv_X2_heatsTogether : MV MX2_heatsTogether 0 2 := ⟨⟨gw_at 789 (by decide +kernel) rfl, gw_at 60 (by decide +kernel) rfl, ⟨by decide, by decide⟩, by decide +kernel⟩, gw_at 787 (by decide +kernel) rfl, gw_at 788 (by decide +kernel) rfl, (RX2, TX2, 7), rfl, rfl⟩
theorem mi_X2_init : MI MX2_init 0 := ⟨⟨gw_at 142 (by decide +kernel) rfl, gw_at 60 (by decide +kernel) rfl, ⟨by decide, by decide⟩, by decide +kernel⟩, gw_at 141 (by decide +kernel) rfl, rfl, rfl⟩
theorem mv_X3_bear : MV MX3_bear 3 3 := ⟨⟨gw_at 680 (by decide +kernel) rfl, gw_at 62 (by decide +kernel) rfl, ⟨by decide, by decide⟩, by decide +kernel⟩, gw_at 678 (by decide +kernel) rfl, gw_at 679 (by decide +kernel) rfl, (RX3, TX3, 8), rfl, rfl⟩
theorem mv_X3_copyFrom : MV MX3_copyFrom 1 3 := ⟨⟨gw_at 700 (by decide +kernel) rfl, gw_at 62 (by decide +kernel) rfl, ⟨by decide, by decide⟩, by decide +kernel⟩, gw_at 698 (by decide +kernel) rfl, gw_at 699 (by decide +kernel) rfl, (RX3, TX3, 8), rfl, rfl⟩
theorem mi_X3_init : MI MX3_init 0 := ⟨⟨gw_at 230 (by decide +kernel) rfl, gw_at 62 (by decide +kernel) rfl, ⟨by decide, by decide⟩, by decide +kernel⟩, gw_at 229 (by decide +kernel) rfl, rfl, rfl⟩
theorem mv_X3_stands : MV MX3_stands 0 3 := ⟨⟨gw_at 581 (by decide +kernel) rfl, gw_at 62 (by decide +kernel) rfl, ⟨by decide, by decide⟩, by decide +kernel⟩, gw_at 579 (by decide +kernel) rfl, gw_at 580 (by decide +kernel) rfl, (RX3, TX3, 8), rfl, rfl⟩
theorem mv_X3_subject : MV MX3_subject 1 3 := ⟨⟨gw_at 720 (by decide +kernel) rfl, gw_at 62 (by decide +kernel) rfl, ⟨by decide, by decide⟩, by decide +kernel⟩, gw_at 718 (by decide +kernel) rfl, gw_at 719 (by decide +kernel) rfl, (RX3, TX3, 8), rfl, rfl⟩
theorem mv_X3_turn : MV MX3_turn 4 3 := ⟨⟨gw_at 608 (by decide +kernel) rfl, gw_at 62 (by decide +kernel) rfl, ⟨by decide, by decide⟩, by decide +kernel⟩, gw_at 606 (by decide +kernel) rfl, gw_at 607 (by decide +kernel) rfl, (RX3, TX3, 8), rfl, rfl⟩
theorem mi_X4_init : MI MX4_init 1 := ⟨⟨gw_at 330 (by decide +kernel) rfl, gw_at 63 (by decide +kernel) rfl, ⟨by decide, by decide⟩, by decide +kernel⟩, gw_at 329 (by decide +kernel) rfl, rfl, rfl⟩
theorem mv_X4_isAt : MV MX4_isAt 1 4 := ⟨⟨gw_at 518 (by decide +kernel) rfl, gw_at 63 (by decide +kernel) rfl, ⟨by decide, by decide⟩, by decide +kernel⟩, gw_at 517 (by decide +kernel) rfl, gw_at 6 (by decide +kernel) rfl, (RX4, TX4, 5), rfl, rfl⟩
theorem mv_X4_keepTest : MV MX4_keepTest 4 4 := ⟨⟨gw_at 542 (by decide +kernel) rfl, gw_at 63 (by decide +kernel) rfl, ⟨by decide, by decide⟩, by decide +kernel⟩, gw_at 541 (by decide +kernel) rfl, gw_at 12 (by decide +kernel) rfl, (RX4, TX4, 5), rfl, rfl⟩
theorem mv_X4_note : MV MX4_note 1 4 := ⟨⟨gw_at 526 (by decide +kernel) rfl, gw_at 63 (by decide +kernel) rfl, ⟨by decide, by decide⟩, by decide +kernel⟩, gw_at 525 (by decide +kernel) rfl, gw_at 8 (by decide +kernel) rfl, (RX4, TX4, 5), rfl, rfl⟩
theorem mv_X4_read : MV MX4_read 0 4 := ⟨⟨gw_at 417 (by decide +kernel) rfl, gw_at 63 (by decide +kernel) rfl, ⟨by decide, by decide⟩, by decide +kernel⟩, gw_at 415 (by decide +kernel) rfl, gw_at 416 (by decide +kernel) rfl, (RX4, TX4, 5), rfl, rfl⟩
theorem mv_X4_readCondition : MV MX4_readCondition 1 4 := ⟨⟨gw_at 530 (by decide +kernel) rfl, gw_at 63 (by decide +kernel) rfl, ⟨by decide, by decide⟩, by decide +kernel⟩, gw_at 529 (by decide +kernel) rfl, gw_at 9 (by decide +kernel) rfl, (RX4, TX4, 5), rfl, rfl⟩
theorem mv_X4_readDuty : MV MX4_readDuty 1 4 := ⟨⟨gw_at 546 (by decide +kernel) rfl, gw_at 63 (by decide +kernel) rfl, ⟨by decide, by decide⟩, by decide +kernel⟩, gw_at 545 (by decide +kernel) rfl, gw_at 13 (by decide +kernel) rfl, (RX4, TX4, 5), rfl, rfl⟩
theorem mv_X4_readLine : MV MX4_readLine 1 4 := ⟨⟨gw_at 522 (by decide +kernel) rfl, gw_at 63 (by decide +kernel) rfl, ⟨by decide, by decide⟩, by decide +kernel⟩, gw_at 521 (by decide +kernel) rfl, gw_at 7 (by decide +kernel) rfl, (RX4, TX4, 5), rfl, rfl⟩
theorem mv_X4_readTest : MV MX4_readTest 2 4 := ⟨⟨gw_at 538 (by decide +kernel) rfl, gw_at 63 (by decide +kernel) rfl, ⟨by decide, by decide⟩, by decide +kernel⟩, gw_at 537 (by decide +kernel) rfl, gw_at 11 (by decide +kernel) rfl, (RX4, TX4, 5), rfl, rfl⟩
theorem mv_X4_take : MV MX4_take 1 4 := ⟨⟨gw_at 534 (by decide +kernel) rfl, gw_at 63 (by decide +kernel) rfl, ⟨by decide, by decide⟩, by decide +kernel⟩, gw_at 533 (by decide +kernel) rfl, gw_at 10 (by decide +kernel) rfl, (RX4, TX4, 5), rfl, rfl⟩
theorem mv_X5_append : MV MX5_append 1 5 := ⟨⟨gw_at 402 (by decide +kernel) rfl, gw_at 58 (by decide +kernel) rfl, ⟨by decide, by decide⟩, by decide +kernel⟩, gw_at 400 (by decide +kernel) rfl, gw_at 401 (by decide +kernel) rfl, (RX5, TX5, 2), rfl, rfl⟩
theorem mv_X5_copyFrom : MV MX5_copyFrom 1 5 := ⟨⟨gw_at 801 (by decide +kernel) rfl, gw_at 58 (by decide +kernel) rfl, ⟨by decide, by decide⟩, by decide +kernel⟩, gw_at 799 (by decide +kernel) rfl, gw_at 800 (by decide +kernel) rfl, (RX5, TX5, 2), rfl, rfl⟩
theorem mi_X5_init : MI MX5_init 0 := ⟨⟨gw_at 90 (by decide +kernel) rfl, gw_at 58 (by decide +kernel) rfl, ⟨by decide, by decide⟩, by decide +kernel⟩, gw_at 89 (by decide +kernel) rfl, rfl, rfl⟩
theorem mi_X6_init : MI MX6_init 1 := ⟨⟨gw_at 338 (by decide +kernel) rfl, gw_at 64 (by decide +kernel) rfl, ⟨by decide, by decide⟩, by decide +kernel⟩, gw_at 337 (by decide +kernel) rfl, rfl, rfl⟩
theorem ms_X6_isBlank : MS MX6_isBlank 1 := ⟨⟨gw_at 428 (by decide +kernel) rfl, gw_at 64 (by decide +kernel) rfl, ⟨by decide, by decide⟩, by decide +kernel⟩, gw_at 427 (by decide +kernel) rfl⟩
theorem ms_X6_isDigit : MS MX6_isDigit 1 := ⟨⟨gw_at 506 (by decide +kernel) rfl, gw_at 64 (by decide +kernel) rfl, ⟨by decide, by decide⟩, by decide +kernel⟩, gw_at 505 (by decide +kernel) rfl⟩
theorem ms_X6_isLetter : MS MX6_isLetter 1 := ⟨⟨gw_at 431 (by decide +kernel) rfl, gw_at 64 (by decide +kernel) rfl, ⟨by decide, by decide⟩, by decide +kernel⟩, gw_at 430 (by decide +kernel) rfl⟩
theorem mv_X6_scan : MV MX6_scan 0 6 := ⟨⟨gw_at 421 (by decide +kernel) rfl, gw_at 64 (by decide +kernel) rfl, ⟨by decide, by decide⟩, by decide +kernel⟩, gw_at 419 (by decide +kernel) rfl, gw_at 420 (by decide +kernel) rfl, (RX6, TX6, 7), rfl, rfl⟩
theorem mv_X6_scanNumber : MV MX6_scanNumber 0 6 := ⟨⟨gw_at 510 (by decide +kernel) rfl, gw_at 64 (by decide +kernel) rfl, ⟨by decide, by decide⟩, by decide +kernel⟩, gw_at 509 (by decide +kernel) rfl, gw_at 4 (by decide +kernel) rfl, (RX6, TX6, 7), rfl, rfl⟩
theorem mv_X6_scanOne : MV MX6_scanOne 0 6 := ⟨⟨gw_at 425 (by decide +kernel) rfl, gw_at 64 (by decide +kernel) rfl, ⟨by decide, by decide⟩, by decide +kernel⟩, gw_at 424 (by decide +kernel) rfl, gw_at 0 (by decide +kernel) rfl, (RX6, TX6, 7), rfl, rfl⟩
theorem mv_X6_scanSign : MV MX6_scanSign 0 6 := ⟨⟨gw_at 514 (by decide +kernel) rfl, gw_at 64 (by decide +kernel) rfl, ⟨by decide, by decide⟩, by decide +kernel⟩, gw_at 513 (by decide +kernel) rfl, gw_at 5 (by decide +kernel) rfl, (RX6, TX6, 7), rfl, rfl⟩
theorem mv_X6_scanWord : MV MX6_scanWord 0 6 := ⟨⟨gw_at 435 (by decide +kernel) rfl, gw_at 64 (by decide +kernel) rfl, ⟨by decide, by decide⟩, by decide +kernel⟩, gw_at 434 (by decide +kernel) rfl, gw_at 1 (by decide +kernel) rfl, (RX6, TX6, 7), rfl, rfl⟩
theorem mv_X6_subjectOfWord : MV MX6_subjectOfWord 0 6 := ⟨⟨gw_at 496 (by decide +kernel) rfl, gw_at 64 (by decide +kernel) rfl, ⟨by decide, by decide⟩, by decide +kernel⟩, gw_at 495 (by decide +kernel) rfl, gw_at 3 (by decide +kernel) rfl, (RX6, TX6, 7), rfl, rfl⟩
theorem mv_X6_wordIs : MV MX6_wordIs 1 6 := ⟨⟨gw_at 440 (by decide +kernel) rfl, gw_at 64 (by decide +kernel) rfl, ⟨by decide, by decide⟩, by decide +kernel⟩, gw_at 439 (by decide +kernel) rfl, gw_at 2 (by decide +kernel) rfl, (RX6, TX6, 7), rfl, rfl⟩
theorem mv_X7_copyFrom : MV MX7_copyFrom 1 7 := ⟨⟨gw_at 797 (by decide +kernel) rfl, gw_at 57 (by decide +kernel) rfl, ⟨by decide, by decide⟩, by decide +kernel⟩, gw_at 795 (by decide +kernel) rfl, gw_at 796 (by decide +kernel) rfl, (RX7, TX7, 13), rfl, rfl⟩
theorem mv_X7_dealPlaces : MV MX7_dealPlaces 0 7 := ⟨⟨gw_at 632 (by decide +kernel) rfl, gw_at 57 (by decide +kernel) rfl, ⟨by decide, by decide⟩, by decide +kernel⟩, gw_at 630 (by decide +kernel) rfl, gw_at 631 (by decide +kernel) rfl, (RX7, TX7, 13), rfl, rfl⟩
theorem mv_X7_dryWaiting : MV MX7_dryWaiting 1 7 := ⟨⟨gw_at 616 (by decide +kernel) rfl, gw_at 57 (by decide +kernel) rfl, ⟨by decide, by decide⟩, by decide +kernel⟩, gw_at 614 (by decide +kernel) rfl, gw_at 615 (by decide +kernel) rfl, (RX7, TX7, 13), rfl, rfl⟩
theorem mv_X7_giveAllBack : MV MX7_giveAllBack 0 7 := ⟨⟨gw_at 696 (by decide +kernel) rfl, gw_at 57 (by decide +kernel) rfl, ⟨by decide, by decide⟩, by decide +kernel⟩, gw_at 694 (by decide +kernel) rfl, gw_at 695 (by decide +kernel) rfl, (RX7, TX7, 13), rfl, rfl⟩
theorem mv_X7_giveBack : MV MX7_giveBack 1 7 := ⟨⟨gw_at 704 (by decide +kernel) rfl, gw_at 57 (by decide +kernel) rfl, ⟨by decide, by decide⟩, by decide +kernel⟩, gw_at 703 (by decide +kernel) rfl, gw_at 16 (by decide +kernel) rfl, (RX7, TX7, 13), rfl, rfl⟩
theorem mv_X7_goesBefore : MV MX7_goesBefore 2 7 := ⟨⟨gw_at 644 (by decide +kernel) rfl, gw_at 57 (by decide +kernel) rfl, ⟨by decide, by decide⟩, by decide +kernel⟩, gw_at 643 (by decide +kernel) rfl, gw_at 15 (by decide +kernel) rfl, (RX7, TX7, 13), rfl, rfl⟩
theorem mv_X7_hasHouse : MV MX7_hasHouse 1 7 := ⟨⟨gw_at 603 (by decide +kernel) rfl, gw_at 57 (by decide +kernel) rfl, ⟨by decide, by decide⟩, by decide +kernel⟩, gw_at 601 (by decide +kernel) rfl, gw_at 602 (by decide +kernel) rfl, (RX7, TX7, 13), rfl, rfl⟩
theorem mi_X7_init : MI MX7_init 0 := ⟨⟨gw_at 84 (by decide +kernel) rfl, gw_at 57 (by decide +kernel) rfl, ⟨by decide, by decide⟩, by decide +kernel⟩, gw_at 83 (by decide +kernel) rfl, rfl, rfl⟩
theorem mv_X7_isRipe : MV MX7_isRipe 1 7 := ⟨⟨gw_at 728 (by decide +kernel) rfl, gw_at 57 (by decide +kernel) rfl, ⟨by decide, by decide⟩, by decide +kernel⟩, gw_at 727 (by decide +kernel) rfl, gw_at 20 (by decide +kernel) rfl, (RX7, TX7, 13), rfl, rfl⟩
theorem mv_X7_nextPot : MV MX7_nextPot 0 7 := ⟨⟨gw_at 640 (by decide +kernel) rfl, gw_at 57 (by decide +kernel) rfl, ⟨by decide, by decide⟩, by decide +kernel⟩, gw_at 639 (by decide +kernel) rfl, gw_at 14 (by decide +kernel) rfl, (RX7, TX7, 13), rfl, rfl⟩
theorem mv_X7_passHour : MV MX7_passHour 2 7 := ⟨⟨gw_at 664 (by decide +kernel) rfl, gw_at 57 (by decide +kernel) rfl, ⟨by decide, by decide⟩, by decide +kernel⟩, gw_at 662 (by decide +kernel) rfl, gw_at 663 (by decide +kernel) rfl, (RX7, TX7, 13), rfl, rfl⟩
theorem mv_X7_potsOf : MV MX7_potsOf 2 7 := ⟨⟨gw_at 747 (by decide +kernel) rfl, gw_at 57 (by decide +kernel) rfl, ⟨by decide, by decide⟩, by decide +kernel⟩, gw_at 745 (by decide +kernel) rfl, gw_at 746 (by decide +kernel) rfl, (RX7, TX7, 13), rfl, rfl⟩
theorem mv_X7_shareLoss : MV MX7_shareLoss 2 7 := ⟨⟨gw_at 724 (by decide +kernel) rfl, gw_at 57 (by decide +kernel) rfl, ⟨by decide, by decide⟩, by decide +kernel⟩, gw_at 723 (by decide +kernel) rfl, gw_at 19 (by decide +kernel) rfl, (RX7, TX7, 13), rfl, rfl⟩
theorem mv_X7_spreadOfHad : MV MX7_spreadOfHad 0 7 := ⟨⟨gw_at 652 (by decide +kernel) rfl, gw_at 57 (by decide +kernel) rfl, ⟨by decide, by decide⟩, by decide +kernel⟩, gw_at 650 (by decide +kernel) rfl, gw_at 651 (by decide +kernel) rfl, (RX7, TX7, 13), rfl, rfl⟩
theorem mv_X7_standingPots : MV MX7_standingPots 0 7 := ⟨⟨gw_at 577 (by decide +kernel) rfl, gw_at 57 (by decide +kernel) rfl, ⟨by decide, by decide⟩, by decide +kernel⟩, gw_at 575 (by decide +kernel) rfl, gw_at 576 (by decide +kernel) rfl, (RX7, TX7, 13), rfl, rfl⟩
theorem mv_X8_about : MV MX8_about 2 8 := ⟨⟨gw_at 733 (by decide +kernel) rfl, gw_at 56 (by decide +kernel) rfl, ⟨by decide, by decide⟩, by decide +kernel⟩, gw_at 731 (by decide +kernel) rfl, gw_at 732 (by decide +kernel) rfl, (RX8, TX8, 3), rfl, rfl⟩
theorem mv_X8_again : MV MX8_again 1 8 := ⟨⟨gw_at 817 (by decide +kernel) rfl, gw_at 56 (by decide +kernel) rfl, ⟨by decide, by decide⟩, by decide +kernel⟩, gw_at 815 (by decide +kernel) rfl, gw_at 816 (by decide +kernel) rfl, (RX8, TX8, 3), rfl, rfl⟩
theorem mv_X8_at : MV MX8_at 2 8 := ⟨⟨gw_at 738 (by decide +kernel) rfl, gw_at 56 (by decide +kernel) rfl, ⟨by decide, by decide⟩, by decide +kernel⟩, gw_at 736 (by decide +kernel) rfl, gw_at 737 (by decide +kernel) rfl, (RX8, TX8, 3), rfl, rfl⟩
theorem mv_X8_count : MV MX8_count 1 8 := ⟨⟨gw_at 785 (by decide +kernel) rfl, gw_at 56 (by decide +kernel) rfl, ⟨by decide, by decide⟩, by decide +kernel⟩, gw_at 783 (by decide +kernel) rfl, gw_at 784 (by decide +kernel) rfl, (RX8, TX8, 3), rfl, rfl⟩
theorem mv_X8_custom : MV MX8_custom 0 8 := ⟨⟨gw_at 413 (by decide +kernel) rfl, gw_at 56 (by decide +kernel) rfl, ⟨by decide, by decide⟩, by decide +kernel⟩, gw_at 411 (by decide +kernel) rfl, gw_at 412 (by decide +kernel) rfl, (RX8, TX8, 3), rfl, rfl⟩
theorem mv_X8_deal : MV MX8_deal 0 8 := ⟨⟨gw_at 623 (by decide +kernel) rfl, gw_at 56 (by decide +kernel) rfl, ⟨by decide, by decide⟩, by decide +kernel⟩, gw_at 621 (by decide +kernel) rfl, gw_at 622 (by decide +kernel) rfl, (RX8, TX8, 3), rfl, rfl⟩
theorem mv_X8_dry : MV MX8_dry 1 8 := ⟨⟨gw_at 612 (by decide +kernel) rfl, gw_at 56 (by decide +kernel) rfl, ⟨by decide, by decide⟩, by decide +kernel⟩, gw_at 610 (by decide +kernel) rfl, gw_at 611 (by decide +kernel) rfl, (RX8, TX8, 3), rfl, rfl⟩
theorem mv_X8_end : MV MX8_end 1 8 := ⟨⟨gw_at 406 (by decide +kernel) rfl, gw_at 56 (by decide +kernel) rfl, ⟨by decide, by decide⟩, by decide +kernel⟩, gw_at 404 (by decide +kernel) rfl, gw_at 405 (by decide +kernel) rfl, (RX8, TX8, 3), rfl, rfl⟩
theorem mv_X8_fault : MV MX8_fault 1 8 := ⟨⟨gw_at 557 (by decide +kernel) rfl, gw_at 56 (by decide +kernel) rfl, ⟨by decide, by decide⟩, by decide +kernel⟩, gw_at 555 (by decide +kernel) rfl, gw_at 556 (by decide +kernel) rfl, (RX8, TX8, 3), rfl, rfl⟩
theorem mv_X8_feed : MV MX8_feed 5 8 := ⟨⟨gw_at 398 (by decide +kernel) rfl, gw_at 56 (by decide +kernel) rfl, ⟨by decide, by decide⟩, by decide +kernel⟩, gw_at 396 (by decide +kernel) rfl, gw_at 397 (by decide +kernel) rfl, (RX8, TX8, 3), rfl, rfl⟩
theorem mv_X8_fire : MV MX8_fire 2 8 := ⟨⟨gw_at 659 (by decide +kernel) rfl, gw_at 56 (by decide +kernel) rfl, ⟨by decide, by decide⟩, by decide +kernel⟩, gw_at 657 (by decide +kernel) rfl, gw_at 658 (by decide +kernel) rfl, (RX8, TX8, 3), rfl, rfl⟩
theorem mv_X8_forget : MV MX8_forget 1 8 := ⟨⟨gw_at 781 (by decide +kernel) rfl, gw_at 56 (by decide +kernel) rfl, ⟨by decide, by decide⟩, by decide +kernel⟩, gw_at 779 (by decide +kernel) rfl, gw_at 780 (by decide +kernel) rfl, (RX8, TX8, 3), rfl, rfl⟩
theorem mv_X8_glaze : MV MX8_glaze 2 8 := ⟨⟨gw_at 569 (by decide +kernel) rfl, gw_at 56 (by decide +kernel) rfl, ⟨by decide, by decide⟩, by decide +kernel⟩, gw_at 567 (by decide +kernel) rfl, gw_at 568 (by decide +kernel) rfl, (RX8, TX8, 3), rfl, rfl⟩
theorem mv_X8_heat : MV MX8_heat 1 8 := ⟨⟨gw_at 688 (by decide +kernel) rfl, gw_at 56 (by decide +kernel) rfl, ⟨by decide, by decide⟩, by decide +kernel⟩, gw_at 686 (by decide +kernel) rfl, gw_at 687 (by decide +kernel) rfl, (RX8, TX8, 3), rfl, rfl⟩
theorem mv_X8_house : MV MX8_house 0 8 := ⟨⟨gw_at 561 (by decide +kernel) rfl, gw_at 56 (by decide +kernel) rfl, ⟨by decide, by decide⟩, by decide +kernel⟩, gw_at 559 (by decide +kernel) rfl, gw_at 560 (by decide +kernel) rfl, (RX8, TX8, 3), rfl, rfl⟩
theorem mv_X8_image : MV MX8_image 1 8 := ⟨⟨gw_at 793 (by decide +kernel) rfl, gw_at 56 (by decide +kernel) rfl, ⟨by decide, by decide⟩, by decide +kernel⟩, gw_at 791 (by decide +kernel) rfl, gw_at 792 (by decide +kernel) rfl, (RX8, TX8, 3), rfl, rfl⟩
theorem mv_X8_inTime : MV MX8_inTime 2 8 := ⟨⟨gw_at 772 (by decide +kernel) rfl, gw_at 56 (by decide +kernel) rfl, ⟨by decide, by decide⟩, by decide +kernel⟩, gw_at 770 (by decide +kernel) rfl, gw_at 771 (by decide +kernel) rfl, (RX8, TX8, 3), rfl, rfl⟩
theorem mi_X8_init : MI MX8_init 0 := ⟨⟨gw_at 76 (by decide +kernel) rfl, gw_at 56 (by decide +kernel) rfl, ⟨by decide, by decide⟩, by decide +kernel⟩, gw_at 75 (by decide +kernel) rfl, rfl, rfl⟩
theorem mv_X8_kiln : MV MX8_kiln 1 8 := ⟨⟨gw_at 573 (by decide +kernel) rfl, gw_at 56 (by decide +kernel) rfl, ⟨by decide, by decide⟩, by decide +kernel⟩, gw_at 571 (by decide +kernel) rfl, gw_at 572 (by decide +kernel) rfl, (RX8, TX8, 3), rfl, rfl⟩
theorem mv_X8_open : MV MX8_open 0 8 := ⟨⟨gw_at 692 (by decide +kernel) rfl, gw_at 56 (by decide +kernel) rfl, ⟨by decide, by decide⟩, by decide +kernel⟩, gw_at 690 (by decide +kernel) rfl, gw_at 691 (by decide +kernel) rfl, (RX8, TX8, 3), rfl, rfl⟩
theorem mv_X8_order : MV MX8_order 4 8 := ⟨⟨gw_at 764 (by decide +kernel) rfl, gw_at 56 (by decide +kernel) rfl, ⟨by decide, by decide⟩, by decide +kernel⟩, gw_at 762 (by decide +kernel) rfl, gw_at 763 (by decide +kernel) rfl, (RX8, TX8, 3), rfl, rfl⟩
theorem mv_X8_pot : MV MX8_pot 4 8 := ⟨⟨gw_at 599 (by decide +kernel) rfl, gw_at 56 (by decide +kernel) rfl, ⟨by decide, by decide⟩, by decide +kernel⟩, gw_at 597 (by decide +kernel) rfl, gw_at 598 (by decide +kernel) rfl, (RX8, TX8, 3), rfl, rfl⟩
theorem mv_X8_rest : MV MX8_rest 1 8 := ⟨⟨gw_at 684 (by decide +kernel) rfl, gw_at 56 (by decide +kernel) rfl, ⟨by decide, by decide⟩, by decide +kernel⟩, gw_at 682 (by decide +kernel) rfl, gw_at 683 (by decide +kernel) rfl, (RX8, TX8, 3), rfl, rfl⟩
theorem mv_X8_shape : MV MX8_shape 3 8 := ⟨⟨gw_at 565 (by decide +kernel) rfl, gw_at 56 (by decide +kernel) rfl, ⟨by decide, by decide⟩, by decide +kernel⟩, gw_at 563 (by decide +kernel) rfl, gw_at 564 (by decide +kernel) rfl, (RX8, TX8, 3), rfl, rfl⟩
theorem mv_X8_spread : MV MX8_spread 0 8 := ⟨⟨gw_at 648 (by decide +kernel) rfl, gw_at 56 (by decide +kernel) rfl, ⟨by decide, by decide⟩, by decide +kernel⟩, gw_at 646 (by decide +kernel) rfl, gw_at 647 (by decide +kernel) rfl, (RX8, TX8, 3), rfl, rfl⟩
theorem mv_X8_tell : MV MX8_tell 2 8 := ⟨⟨gw_at 742 (by decide +kernel) rfl, gw_at 56 (by decide +kernel) rfl, ⟨by decide, by decide⟩, by decide +kernel⟩, gw_at 740 (by decide +kernel) rfl, gw_at 741 (by decide +kernel) rfl, (RX8, TX8, 3), rfl, rfl⟩
theorem mv_X8_value : MV MX8_value 3 8 := ⟨⟨gw_at 586 (by decide +kernel) rfl, gw_at 56 (by decide +kernel) rfl, ⟨by decide, by decide⟩, by decide +kernel⟩, gw_at 584 (by decide +kernel) rfl, gw_at 585 (by decide +kernel) rfl, (RX8, TX8, 3), rfl, rfl⟩
theorem ms_X8_within : MS MX8_within 3 := ⟨⟨gw_at 409 (by decide +kernel) rfl, gw_at 56 (by decide +kernel) rfl, ⟨by decide, by decide⟩, by decide +kernel⟩, gw_at 408 (by decide +kernel) rfl⟩
theorem mv_X9_aLine : MV MX9_aLine 0 9 := ⟨⟨gw_at 919 (by decide +kernel) rfl, gw_at 65 (by decide +kernel) rfl, ⟨by decide, by decide⟩, by decide +kernel⟩, gw_at 918 (by decide +kernel) rfl, gw_at 24 (by decide +kernel) rfl, (RX9, TX9, 14), rfl, rfl⟩
theorem mv_X9_aTest : MV MX9_aTest 0 9 := ⟨⟨gw_at 931 (by decide +kernel) rfl, gw_at 65 (by decide +kernel) rfl, ⟨by decide, by decide⟩, by decide +kernel⟩, gw_at 930 (by decide +kernel) rfl, gw_at 27 (by decide +kernel) rfl, (RX9, TX9, 14), rfl, rfl⟩
theorem mv_X9_about : MV MX9_about 2 9 := ⟨⟨gw_at 1090 (by decide +kernel) rfl, gw_at 65 (by decide +kernel) rfl, ⟨by decide, by decide⟩, by decide +kernel⟩, gw_at 1088 (by decide +kernel) rfl, gw_at 1089 (by decide +kernel) rfl, (RX9, TX9, 14), rfl, rfl⟩
theorem mv_X9_adds : MV MX9_adds 3 9 := ⟨⟨gw_at 1038 (by decide +kernel) rfl, gw_at 65 (by decide +kernel) rfl, ⟨by decide, by decide⟩, by decide +kernel⟩, gw_at 1037 (by decide +kernel) rfl, gw_at 44 (by decide +kernel) rfl, (RX9, TX9, 14), rfl, rfl⟩
theorem mv_X9_advance : MV MX9_advance 0 9 := ⟨⟨gw_at 887 (by decide +kernel) rfl, gw_at 65 (by decide +kernel) rfl, ⟨by decide, by decide⟩, by decide +kernel⟩, gw_at 886 (by decide +kernel) rfl, gw_at 22 (by decide +kernel) rfl, (RX9, TX9, 14), rfl, rfl⟩
theorem mv_X9_again : MV MX9_again 1 9 := ⟨⟨gw_at 1135 (by decide +kernel) rfl, gw_at 65 (by decide +kernel) rfl, ⟨by decide, by decide⟩, by decide +kernel⟩, gw_at 1133 (by decide +kernel) rfl, gw_at 1134 (by decide +kernel) rfl, (RX9, TX9, 14), rfl, rfl⟩
theorem mv_X9_asked : MV MX9_asked 2 9 := ⟨⟨gw_at 1086 (by decide +kernel) rfl, gw_at 65 (by decide +kernel) rfl, ⟨by decide, by decide⟩, by decide +kernel⟩, gw_at 1085 (by decide +kernel) rfl, gw_at 51 (by decide +kernel) rfl, (RX9, TX9, 14), rfl, rfl⟩
theorem mv_X9_at : MV MX9_at 2 9 := ⟨⟨gw_at 1094 (by decide +kernel) rfl, gw_at 65 (by decide +kernel) rfl, ⟨by decide, by decide⟩, by decide +kernel⟩, gw_at 1092 (by decide +kernel) rfl, gw_at 1093 (by decide +kernel) rfl, (RX9, TX9, 14), rfl, rfl⟩
theorem mv_X9_at0 : MV MX9_at0 1 9 := ⟨⟨gw_at 1034 (by decide +kernel) rfl, gw_at 65 (by decide +kernel) rfl, ⟨by decide, by decide⟩, by decide +kernel⟩, gw_at 1033 (by decide +kernel) rfl, gw_at 43 (by decide +kernel) rfl, (RX9, TX9, 14), rfl, rfl⟩
theorem mv_X9_bakes : MV MX9_bakes 2 9 := ⟨⟨gw_at 1054 (by decide +kernel) rfl, gw_at 65 (by decide +kernel) rfl, ⟨by decide, by decide⟩, by decide +kernel⟩, gw_at 1053 (by decide +kernel) rfl, gw_at 46 (by decide +kernel) rfl, (RX9, TX9, 14), rfl, rfl⟩
theorem mv_X9_begins : MV MX9_begins 1 9 := ⟨⟨gw_at 827 (by decide +kernel) rfl, gw_at 65 (by decide +kernel) rfl, ⟨by decide, by decide⟩, by decide +kernel⟩, gw_at 826 (by decide +kernel) rfl, gw_at 21 (by decide +kernel) rfl, (RX9, TX9, 14), rfl, rfl⟩
theorem mv_X9_best : MV MX9_best 1 9 := ⟨⟨gw_at 1119 (by decide +kernel) rfl, gw_at 65 (by decide +kernel) rfl, ⟨by decide, by decide⟩, by decide +kernel⟩, gw_at 1118 (by decide +kernel) rfl, gw_at 53 (by decide +kernel) rfl, (RX9, TX9, 14), rfl, rfl⟩
theorem mv_X9_bestPlace : MV MX9_bestPlace 0 9 := ⟨⟨gw_at 1030 (by decide +kernel) rfl, gw_at 65 (by decide +kernel) rfl, ⟨by decide, by decide⟩, by decide +kernel⟩, gw_at 1029 (by decide +kernel) rfl, gw_at 42 (by decide +kernel) rfl, (RX9, TX9, 14), rfl, rfl⟩
theorem mv_X9_byteAt : MV MX9_byteAt 1 9 := ⟨⟨gw_at 891 (by decide +kernel) rfl, gw_at 65 (by decide +kernel) rfl, ⟨by decide, by decide⟩, by decide +kernel⟩, gw_at 890 (by decide +kernel) rfl, gw_at 23 (by decide +kernel) rfl, (RX9, TX9, 14), rfl, rfl⟩
theorem mv_X9_can : MV MX9_can 2 9 := ⟨⟨gw_at 1106 (by decide +kernel) rfl, gw_at 65 (by decide +kernel) rfl, ⟨by decide, by decide⟩, by decide +kernel⟩, gw_at 1105 (by decide +kernel) rfl, gw_at 52 (by decide +kernel) rfl, (RX9, TX9, 14), rfl, rfl⟩
theorem mv_X9_count : MV MX9_count 1 9 := ⟨⟨gw_at 1127 (by decide +kernel) rfl, gw_at 65 (by decide +kernel) rfl, ⟨by decide, by decide⟩, by decide +kernel⟩, gw_at 1125 (by decide +kernel) rfl, gw_at 1126 (by decide +kernel) rfl, (RX9, TX9, 14), rfl, rfl⟩
theorem mv_X9_custom : MV MX9_custom 0 9 := ⟨⟨gw_at 883 (by decide +kernel) rfl, gw_at 65 (by decide +kernel) rfl, ⟨by decide, by decide⟩, by decide +kernel⟩, gw_at 881 (by decide +kernel) rfl, gw_at 882 (by decide +kernel) rfl, (RX9, TX9, 14), rfl, rfl⟩
theorem mv_X9_customOf : MV MX9_customOf 1 9 := ⟨⟨gw_at 1078 (by decide +kernel) rfl, gw_at 65 (by decide +kernel) rfl, ⟨by decide, by decide⟩, by decide +kernel⟩, gw_at 1077 (by decide +kernel) rfl, gw_at 49 (by decide +kernel) rfl, (RX9, TX9, 14), rfl, rfl⟩
theorem mv_X9_deal : MV MX9_deal 0 9 := ⟨⟨gw_at 1010 (by decide +kernel) rfl, gw_at 65 (by decide +kernel) rfl, ⟨by decide, by decide⟩, by decide +kernel⟩, gw_at 1008 (by decide +kernel) rfl, gw_at 1009 (by decide +kernel) rfl, (RX9, TX9, 14), rfl, rfl⟩
theorem mv_X9_dry : MV MX9_dry 1 9 := ⟨⟨gw_at 1006 (by decide +kernel) rfl, gw_at 65 (by decide +kernel) rfl, ⟨by decide, by decide⟩, by decide +kernel⟩, gw_at 1004 (by decide +kernel) rfl, gw_at 1005 (by decide +kernel) rfl, (RX9, TX9, 14), rfl, rfl⟩
theorem mv_X9_end : MV MX9_end 1 9 := ⟨⟨gw_at 879 (by decide +kernel) rfl, gw_at 65 (by decide +kernel) rfl, ⟨by decide, by decide⟩, by decide +kernel⟩, gw_at 877 (by decide +kernel) rfl, gw_at 878 (by decide +kernel) rfl, (RX9, TX9, 14), rfl, rfl⟩
theorem mv_X9_fault : MV MX9_fault 1 9 := ⟨⟨gw_at 954 (by decide +kernel) rfl, gw_at 65 (by decide +kernel) rfl, ⟨by decide, by decide⟩, by decide +kernel⟩, gw_at 952 (by decide +kernel) rfl, gw_at 953 (by decide +kernel) rfl, (RX9, TX9, 14), rfl, rfl⟩
theorem mv_X9_feed : MV MX9_feed 5 9 := ⟨⟨gw_at 875 (by decide +kernel) rfl, gw_at 65 (by decide +kernel) rfl, ⟨by decide, by decide⟩, by decide +kernel⟩, gw_at 873 (by decide +kernel) rfl, gw_at 874 (by decide +kernel) rfl, (RX9, TX9, 14), rfl, rfl⟩
theorem mv_X9_fire : MV MX9_fire 2 9 := ⟨⟨gw_at 1046 (by decide +kernel) rfl, gw_at 65 (by decide +kernel) rfl, ⟨by decide, by decide⟩, by decide +kernel⟩, gw_at 1044 (by decide +kernel) rfl, gw_at 1045 (by decide +kernel) rfl, (RX9, TX9, 14), rfl, rfl⟩
theorem mv_X9_forget : MV MX9_forget 1 9 := ⟨⟨gw_at 1110 (by decide +kernel) rfl, gw_at 65 (by decide +kernel) rfl, ⟨by decide, by decide⟩, by decide +kernel⟩, gw_at 1108 (by decide +kernel) rfl, gw_at 1109 (by decide +kernel) rfl, (RX9, TX9, 14), rfl, rfl⟩
theorem ms_X9_four : MS MX9_four 4 := ⟨⟨gw_at 907 (by decide +kernel) rfl, gw_at 65 (by decide +kernel) rfl, ⟨by decide, by decide⟩, by decide +kernel⟩, gw_at 906 (by decide +kernel) rfl⟩
theorem mv_X9_gives : MV MX9_gives 1 9 := ⟨⟨gw_at 1070 (by decide +kernel) rfl, gw_at 65 (by decide +kernel) rfl, ⟨by decide, by decide⟩, by decide +kernel⟩, gw_at 1069 (by decide +kernel) rfl, gw_at 47 (by decide +kernel) rfl, (RX9, TX9, 14), rfl, rfl⟩
theorem mv_X9_glaze : MV MX9_glaze 2 9 := ⟨⟨gw_at 966 (by decide +kernel) rfl, gw_at 65 (by decide +kernel) rfl, ⟨by decide, by decide⟩, by decide +kernel⟩, gw_at 964 (by decide +kernel) rfl, gw_at 965 (by decide +kernel) rfl, (RX9, TX9, 14), rfl, rfl⟩
theorem mv_X9_greatestHeat : MV MX9_greatestHeat 0 9 := ⟨⟨gw_at 1014 (by decide +kernel) rfl, gw_at 65 (by decide +kernel) rfl, ⟨by decide, by decide⟩, by decide +kernel⟩, gw_at 1013 (by decide +kernel) rfl, gw_at 38 (by decide +kernel) rfl, (RX9, TX9, 14), rfl, rfl⟩
theorem mv_X9_heat : MV MX9_heat 1 9 := ⟨⟨gw_at 1062 (by decide +kernel) rfl, gw_at 65 (by decide +kernel) rfl, ⟨by decide, by decide⟩, by decide +kernel⟩, gw_at 1060 (by decide +kernel) rfl, gw_at 1061 (by decide +kernel) rfl, (RX9, TX9, 14), rfl, rfl⟩
theorem mv_X9_holds : MV MX9_holds 2 9 := ⟨⟨gw_at 1082 (by decide +kernel) rfl, gw_at 65 (by decide +kernel) rfl, ⟨by decide, by decide⟩, by decide +kernel⟩, gw_at 1081 (by decide +kernel) rfl, gw_at 50 (by decide +kernel) rfl, (RX9, TX9, 14), rfl, rfl⟩
theorem mv_X9_hour : MV MX9_hour 2 9 := ⟨⟨gw_at 1050 (by decide +kernel) rfl, gw_at 65 (by decide +kernel) rfl, ⟨by decide, by decide⟩, by decide +kernel⟩, gw_at 1049 (by decide +kernel) rfl, gw_at 45 (by decide +kernel) rfl, (RX9, TX9, 14), rfl, rfl⟩
theorem mv_X9_house : MV MX9_house 0 9 := ⟨⟨gw_at 958 (by decide +kernel) rfl, gw_at 65 (by decide +kernel) rfl, ⟨by decide, by decide⟩, by decide +kernel⟩, gw_at 956 (by decide +kernel) rfl, gw_at 957 (by decide +kernel) rfl, (RX9, TX9, 14), rfl, rfl⟩
theorem mv_X9_image : MV MX9_image 1 9 := ⟨⟨gw_at 1131 (by decide +kernel) rfl, gw_at 65 (by decide +kernel) rfl, ⟨by decide, by decide⟩, by decide +kernel⟩, gw_at 1129 (by decide +kernel) rfl, gw_at 1130 (by decide +kernel) rfl, (RX9, TX9, 14), rfl, rfl⟩
theorem mv_X9_inTime : MV MX9_inTime 2 9 := ⟨⟨gw_at 1102 (by decide +kernel) rfl, gw_at 65 (by decide +kernel) rfl, ⟨by decide, by decide⟩, by decide +kernel⟩, gw_at 1100 (by decide +kernel) rfl, gw_at 1101 (by decide +kernel) rfl, (RX9, TX9, 14), rfl, rfl⟩
theorem mi_X9_init : MI MX9_init 0 := ⟨⟨gw_at 822 (by decide +kernel) rfl, gw_at 65 (by decide +kernel) rfl, ⟨by decide, by decide⟩, by decide +kernel⟩, gw_at 821 (by decide +kernel) rfl, rfl, rfl⟩
theorem ms_X9_isDigit : MS MX9_isDigit 1 := ⟨⟨gw_at 912 (by decide +kernel) rfl, gw_at 65 (by decide +kernel) rfl, ⟨by decide, by decide⟩, by decide +kernel⟩, gw_at 911 (by decide +kernel) rfl⟩
theorem mv_X9_isHouse : MV MX9_isHouse 1 9 := ⟨⟨gw_at 998 (by decide +kernel) rfl, gw_at 65 (by decide +kernel) rfl, ⟨by decide, by decide⟩, by decide +kernel⟩, gw_at 997 (by decide +kernel) rfl, gw_at 36 (by decide +kernel) rfl, (RX9, TX9, 14), rfl, rfl⟩
theorem ms_X9_isIn : MS MX9_isIn 3 := ⟨⟨gw_at 934 (by decide +kernel) rfl, gw_at 65 (by decide +kernel) rfl, ⟨by decide, by decide⟩, by decide +kernel⟩, gw_at 933 (by decide +kernel) rfl⟩
theorem ms_X9_isLetter : MS MX9_isLetter 1 := ⟨⟨gw_at 894 (by decide +kernel) rfl, gw_at 65 (by decide +kernel) rfl, ⟨by decide, by decide⟩, by decide +kernel⟩, gw_at 893 (by decide +kernel) rfl⟩
theorem mv_X9_isPlace : MV MX9_isPlace 2 9 := ⟨⟨gw_at 990 (by decide +kernel) rfl, gw_at 65 (by decide +kernel) rfl, ⟨by decide, by decide⟩, by decide +kernel⟩, gw_at 989 (by decide +kernel) rfl, gw_at 35 (by decide +kernel) rfl, (RX9, TX9, 14), rfl, rfl⟩
theorem mv_X9_isRipe : MV MX9_isRipe 1 9 := ⟨⟨gw_at 1074 (by decide +kernel) rfl, gw_at 65 (by decide +kernel) rfl, ⟨by decide, by decide⟩, by decide +kernel⟩, gw_at 1073 (by decide +kernel) rfl, gw_at 48 (by decide +kernel) rfl, (RX9, TX9, 14), rfl, rfl⟩
theorem ms_X9_isSignByte : MS MX9_isSignByte 1 := ⟨⟨gw_at 915 (by decide +kernel) rfl, gw_at 65 (by decide +kernel) rfl, ⟨by decide, by decide⟩, by decide +kernel⟩, gw_at 914 (by decide +kernel) rfl⟩
theorem mv_X9_its : MV MX9_its 2 9 := ⟨⟨gw_at 982 (by decide +kernel) rfl, gw_at 65 (by decide +kernel) rfl, ⟨by decide, by decide⟩, by decide +kernel⟩, gw_at 981 (by decide +kernel) rfl, gw_at 34 (by decide +kernel) rfl, (RX9, TX9, 14), rfl, rfl⟩
theorem mv_X9_kiln : MV MX9_kiln 1 9 := ⟨⟨gw_at 970 (by decide +kernel) rfl, gw_at 65 (by decide +kernel) rfl, ⟨by decide, by decide⟩, by decide +kernel⟩, gw_at 968 (by decide +kernel) rfl, gw_at 969 (by decide +kernel) rfl, (RX9, TX9, 14), rfl, rfl⟩
theorem mv_X9_must : MV MX9_must 1 9 := ⟨⟨gw_at 950 (by decide +kernel) rfl, gw_at 65 (by decide +kernel) rfl, ⟨by decide, by decide⟩, by decide +kernel⟩, gw_at 949 (by decide +kernel) rfl, gw_at 31 (by decide +kernel) rfl, (RX9, TX9, 14), rfl, rfl⟩
theorem mv_X9_nextHouse : MV MX9_nextHouse 0 9 := ⟨⟨gw_at 1018 (by decide +kernel) rfl, gw_at 65 (by decide +kernel) rfl, ⟨by decide, by decide⟩, by decide +kernel⟩, gw_at 1017 (by decide +kernel) rfl, gw_at 39 (by decide +kernel) rfl, (RX9, TX9, 14), rfl, rfl⟩
theorem mv_X9_numbered : MV MX9_numbered 0 9 := ⟨⟨gw_at 942 (by decide +kernel) rfl, gw_at 65 (by decide +kernel) rfl, ⟨by decide, by decide⟩, by decide +kernel⟩, gw_at 941 (by decide +kernel) rfl, gw_at 29 (by decide +kernel) rfl, (RX9, TX9, 14), rfl, rfl⟩
theorem mv_X9_of : MV MX9_of 2 9 := ⟨⟨gw_at 1026 (by decide +kernel) rfl, gw_at 65 (by decide +kernel) rfl, ⟨by decide, by decide⟩, by decide +kernel⟩, gw_at 1025 (by decide +kernel) rfl, gw_at 41 (by decide +kernel) rfl, (RX9, TX9, 14), rfl, rfl⟩
theorem mv_X9_open : MV MX9_open 0 9 := ⟨⟨gw_at 1066 (by decide +kernel) rfl, gw_at 65 (by decide +kernel) rfl, ⟨by decide, by decide⟩, by decide +kernel⟩, gw_at 1064 (by decide +kernel) rfl, gw_at 1065 (by decide +kernel) rfl, (RX9, TX9, 14), rfl, rfl⟩
theorem mv_X9_order : MV MX9_order 4 9 := ⟨⟨gw_at 1098 (by decide +kernel) rfl, gw_at 65 (by decide +kernel) rfl, ⟨by decide, by decide⟩, by decide +kernel⟩, gw_at 1096 (by decide +kernel) rfl, gw_at 1097 (by decide +kernel) rfl, (RX9, TX9, 14), rfl, rfl⟩
theorem mv_X9_pot : MV MX9_pot 4 9 := ⟨⟨gw_at 994 (by decide +kernel) rfl, gw_at 65 (by decide +kernel) rfl, ⟨by decide, by decide⟩, by decide +kernel⟩, gw_at 992 (by decide +kernel) rfl, gw_at 993 (by decide +kernel) rfl, (RX9, TX9, 14), rfl, rfl⟩
theorem mv_X9_puts : MV MX9_puts 2 9 := ⟨⟨gw_at 946 (by decide +kernel) rfl, gw_at 65 (by decide +kernel) rfl, ⟨by decide, by decide⟩, by decide +kernel⟩, gw_at 945 (by decide +kernel) rfl, gw_at 30 (by decide +kernel) rfl, (RX9, TX9, 14), rfl, rfl⟩
theorem mv_X9_rest : MV MX9_rest 1 9 := ⟨⟨gw_at 1058 (by decide +kernel) rfl, gw_at 65 (by decide +kernel) rfl, ⟨by decide, by decide⟩, by decide +kernel⟩, gw_at 1056 (by decide +kernel) rfl, gw_at 1057 (by decide +kernel) rfl, (RX9, TX9, 14), rfl, rfl⟩
theorem mv_X9_sets : MV MX9_sets 3 9 := ⟨⟨gw_at 1002 (by decide +kernel) rfl, gw_at 65 (by decide +kernel) rfl, ⟨by decide, by decide⟩, by decide +kernel⟩, gw_at 1001 (by decide +kernel) rfl, gw_at 37 (by decide +kernel) rfl, (RX9, TX9, 14), rfl, rfl⟩
theorem mv_X9_shape : MV MX9_shape 3 9 := ⟨⟨gw_at 962 (by decide +kernel) rfl, gw_at 65 (by decide +kernel) rfl, ⟨by decide, by decide⟩, by decide +kernel⟩, gw_at 960 (by decide +kernel) rfl, gw_at 961 (by decide +kernel) rfl, (RX9, TX9, 14), rfl, rfl⟩
theorem mv_X9_spread : MV MX9_spread 0 9 := ⟨⟨gw_at 1042 (by decide +kernel) rfl, gw_at 65 (by decide +kernel) rfl, ⟨by decide, by decide⟩, by decide +kernel⟩, gw_at 1040 (by decide +kernel) rfl, gw_at 1041 (by decide +kernel) rfl, (RX9, TX9, 14), rfl, rfl⟩
theorem mv_X9_standing : MV MX9_standing 0 9 := ⟨⟨gw_at 974 (by decide +kernel) rfl, gw_at 65 (by decide +kernel) rfl, ⟨by decide, by decide⟩, by decide +kernel⟩, gw_at 973 (by decide +kernel) rfl, gw_at 32 (by decide +kernel) rfl, (RX9, TX9, 14), rfl, rfl⟩
theorem mv_X9_stands : MV MX9_stands 1 9 := ⟨⟨gw_at 978 (by decide +kernel) rfl, gw_at 65 (by decide +kernel) rfl, ⟨by decide, by decide⟩, by decide +kernel⟩, gw_at 977 (by decide +kernel) rfl, gw_at 33 (by decide +kernel) rfl, (RX9, TX9, 14), rfl, rfl⟩
theorem mv_X9_stops : MV MX9_stops 0 9 := ⟨⟨gw_at 938 (by decide +kernel) rfl, gw_at 65 (by decide +kernel) rfl, ⟨by decide, by decide⟩, by decide +kernel⟩, gw_at 937 (by decide +kernel) rfl, gw_at 28 (by decide +kernel) rfl, (RX9, TX9, 14), rfl, rfl⟩
theorem mv_X9_takes : MV MX9_takes 1 9 := ⟨⟨gw_at 927 (by decide +kernel) rfl, gw_at 65 (by decide +kernel) rfl, ⟨by decide, by decide⟩, by decide +kernel⟩, gw_at 926 (by decide +kernel) rfl, gw_at 26 (by decide +kernel) rfl, (RX9, TX9, 14), rfl, rfl⟩
theorem mv_X9_tell : MV MX9_tell 2 9 := ⟨⟨gw_at 1114 (by decide +kernel) rfl, gw_at 65 (by decide +kernel) rfl, ⟨by decide, by decide⟩, by decide +kernel⟩, gw_at 1112 (by decide +kernel) rfl, gw_at 1113 (by decide +kernel) rfl, (RX9, TX9, 14), rfl, rfl⟩
theorem mv_X9_tells : MV MX9_tells 2 9 := ⟨⟨gw_at 923 (by decide +kernel) rfl, gw_at 65 (by decide +kernel) rfl, ⟨by decide, by decide⟩, by decide +kernel⟩, gw_at 922 (by decide +kernel) rfl, gw_at 25 (by decide +kernel) rfl, (RX9, TX9, 14), rfl, rfl⟩
theorem ms_X9_three : MS MX9_three 3 := ⟨⟨gw_at 902 (by decide +kernel) rfl, gw_at 65 (by decide +kernel) rfl, ⟨by decide, by decide⟩, by decide +kernel⟩, gw_at 901 (by decide +kernel) rfl⟩
theorem mv_X9_value : MV MX9_value 3 9 := ⟨⟨gw_at 986 (by decide +kernel) rfl, gw_at 65 (by decide +kernel) rfl, ⟨by decide, by decide⟩, by decide +kernel⟩, gw_at 984 (by decide +kernel) rfl, gw_at 985 (by decide +kernel) rfl, (RX9, TX9, 14), rfl, rfl⟩
theorem mv_X9_waiting : MV MX9_waiting 1 9 := ⟨⟨gw_at 1022 (by decide +kernel) rfl, gw_at 65 (by decide +kernel) rfl, ⟨by decide, by decide⟩, by decide +kernel⟩, gw_at 1021 (by decide +kernel) rfl, gw_at 40 (by decide +kernel) rfl, (RX9, TX9, 14), rfl, rfl⟩
theorem ms_X9_wordOf : MS MX9_wordOf 1 := ⟨⟨gw_at 899 (by decide +kernel) rfl, gw_at 65 (by decide +kernel) rfl, ⟨by decide, by decide⟩, by decide +kernel⟩, gw_at 898 (by decide +kernel) rfl⟩
theorem mv_X9_worthOf : MV MX9_worthOf 2 9 := ⟨⟨gw_at 1123 (by decide +kernel) rfl, gw_at 65 (by decide +kernel) rfl, ⟨by decide, by decide⟩, by decide +kernel⟩, gw_at 1122 (by decide +kernel) rfl, gw_at 54 (by decide +kernel) rfl, (RX9, TX9, 14), rfl, rfl⟩
theorem fl_8_10 : FL RX8 10 8 0 true := ⟨(RX8, TX8, 3), rfl, by decide, gw_at 385 (by decide +kernel) rfl, rfl, rfl⟩
theorem fw_8_10 : FW RX8 10 8 0 true true (.object "KilnVillage$Village") := ⟨(RX8, TX8, 3), rfl, by decide, gw_at 385 (by decide +kernel) rfl, rfl, rfl, rfl, by decide +kernel, by decide⟩
theorem fl_8_18 : FL RX8 18 7 0 true := ⟨(RX7, TX7, 13), rfl, by decide, gw_at 274 (by decide +kernel) rfl, rfl, rfl⟩
theorem fl_8_25 : FL RX8 25 8 1 true := ⟨(RX8, TX8, 3), rfl, by decide, gw_at 386 (by decide +kernel) rfl, rfl, rfl⟩
theorem fw_8_25 : FW RX8 25 8 1 true true (.object "KilnVillage$Reader") := ⟨(RX8, TX8, 3), rfl, by decide, gw_at 386 (by decide +kernel) rfl, rfl, rfl, rfl, by decide +kernel, by decide⟩
theorem fl_8_29 : FL RX8 29 8 2 true := ⟨(RX8, TX8, 3), rfl, by decide, gw_at 387 (by decide +kernel) rfl, rfl, rfl⟩
theorem fw_8_29 : FW RX8 29 8 2 true true (.array (.object "KilnVillage$Village")) := ⟨(RX8, TX8, 3), rfl, by decide, gw_at 387 (by decide +kernel) rfl, rfl, rfl, rfl, by decide +kernel, by decide⟩
theorem fl_8_33 : FL RX8 33 5 1 false := ⟨(RX5, TX5, 2), rfl, by decide, gw_at 95 (by decide +kernel) rfl, rfl, rfl⟩
theorem fw_8_33 : FW RX8 33 5 1 false false .int := ⟨(RX5, TX5, 2), rfl, by decide, gw_at 95 (by decide +kernel) rfl, rfl, rfl, rfl, by decide +kernel, by decide⟩
theorem fl_8_50 : FL RX8 50 4 1 false := ⟨(RX4, TX4, 5), rfl, by decide, gw_at 368 (by decide +kernel) rfl, rfl, rfl⟩
theorem fl_8_53 : FL RX8 53 7 2 false := ⟨(RX7, TX7, 13), rfl, by decide, gw_at 278 (by decide +kernel) rfl, rfl, rfl⟩
theorem fw_8_53 : FW RX8 53 7 2 false false .int := ⟨(RX7, TX7, 13), rfl, by decide, gw_at 278 (by decide +kernel) rfl, rfl, rfl, rfl, by decide +kernel, by decide⟩
theorem fl_8_54 : FL RX8 54 4 2 false := ⟨(RX4, TX4, 5), rfl, by decide, gw_at 370 (by decide +kernel) rfl, rfl, rfl⟩
theorem fl_8_57 : FL RX8 57 7 3 false := ⟨(RX7, TX7, 13), rfl, by decide, gw_at 280 (by decide +kernel) rfl, rfl, rfl⟩
theorem fw_8_57 : FW RX8 57 7 3 false false .int := ⟨(RX7, TX7, 13), rfl, by decide, gw_at 280 (by decide +kernel) rfl, rfl, rfl, rfl, by decide +kernel, by decide⟩
theorem fl_8_58 : FL RX8 58 7 1 true := ⟨(RX7, TX7, 13), rfl, by decide, gw_at 276 (by decide +kernel) rfl, rfl, rfl⟩
theorem fl_8_62 : FL RX8 62 4 0 true := ⟨(RX4, TX4, 5), rfl, by decide, gw_at 366 (by decide +kernel) rfl, rfl, rfl⟩
theorem fl_8_71 : FL RX8 71 0 0 false := ⟨(RX0, TX0, 6), rfl, by decide, gw_at 111 (by decide +kernel) rfl, rfl, rfl⟩
theorem fl_8_74 : FL RX8 74 7 5 false := ⟨(RX7, TX7, 13), rfl, by decide, gw_at 284 (by decide +kernel) rfl, rfl, rfl⟩
theorem fw_8_74 : FW RX8 74 7 5 false false .int := ⟨(RX7, TX7, 13), rfl, by decide, gw_at 284 (by decide +kernel) rfl, rfl, rfl, rfl, by decide +kernel, by decide⟩
theorem fl_8_77 : FL RX8 77 7 6 true := ⟨(RX7, TX7, 13), rfl, by decide, gw_at 286 (by decide +kernel) rfl, rfl, rfl⟩
theorem fl_8_81 : FL RX8 81 7 7 true := ⟨(RX7, TX7, 13), rfl, by decide, gw_at 288 (by decide +kernel) rfl, rfl, rfl⟩
theorem fl_8_84 : FL RX8 84 7 8 true := ⟨(RX7, TX7, 13), rfl, by decide, gw_at 290 (by decide +kernel) rfl, rfl, rfl⟩
theorem fl_8_91 : FL RX8 91 7 9 true := ⟨(RX7, TX7, 13), rfl, by decide, gw_at 292 (by decide +kernel) rfl, rfl, rfl⟩
theorem fl_8_104 : FL RX8 104 2 5 true := ⟨(RX2, TX2, 7), rfl, by decide, gw_at 164 (by decide +kernel) rfl, rfl, rfl⟩
theorem fl_8_107 : FL RX8 107 7 11 false := ⟨(RX7, TX7, 13), rfl, by decide, gw_at 296 (by decide +kernel) rfl, rfl, rfl⟩
theorem fw_8_107 : FW RX8 107 7 11 false false .int := ⟨(RX7, TX7, 13), rfl, by decide, gw_at 296 (by decide +kernel) rfl, rfl, rfl, rfl, by decide +kernel, by decide⟩
theorem fl_8_114 : FL RX8 114 7 10 true := ⟨(RX7, TX7, 13), rfl, by decide, gw_at 294 (by decide +kernel) rfl, rfl, rfl⟩
theorem fl_8_124 : FL RX8 124 7 4 true := ⟨(RX7, TX7, 13), rfl, by decide, gw_at 282 (by decide +kernel) rfl, rfl, rfl⟩
theorem fw_8_128 : FW RX8 128 1 2 false false .boolean := ⟨(RX1, TX1, 9), rfl, by decide, gw_at 198 (by decide +kernel) rfl, rfl, rfl, rfl, by decide +kernel, by decide⟩
theorem fl_8_153 : FL RX8 153 2 3 true := ⟨(RX2, TX2, 7), rfl, by decide, gw_at 160 (by decide +kernel) rfl, rfl, rfl⟩
theorem fl_8_159 : FL RX8 159 3 0 false := ⟨(RX3, TX3, 8), rfl, by decide, gw_at 234 (by decide +kernel) rfl, rfl, rfl⟩
theorem fl_8_162 : FL RX8 162 3 1 false := ⟨(RX3, TX3, 8), rfl, by decide, gw_at 237 (by decide +kernel) rfl, rfl, rfl⟩
theorem fl_8_165 : FL RX8 165 3 2 false := ⟨(RX3, TX3, 8), rfl, by decide, gw_at 240 (by decide +kernel) rfl, rfl, rfl⟩
theorem fl_8_168 : FL RX8 168 3 3 false := ⟨(RX3, TX3, 8), rfl, by decide, gw_at 243 (by decide +kernel) rfl, rfl, rfl⟩
theorem fl_8_171 : FL RX8 171 3 4 false := ⟨(RX3, TX3, 8), rfl, by decide, gw_at 246 (by decide +kernel) rfl, rfl, rfl⟩
theorem fl_8_174 : FL RX8 174 3 5 false := ⟨(RX3, TX3, 8), rfl, by decide, gw_at 249 (by decide +kernel) rfl, rfl, rfl⟩
theorem fl_8_177 : FL RX8 177 3 6 false := ⟨(RX3, TX3, 8), rfl, by decide, gw_at 252 (by decide +kernel) rfl, rfl, rfl⟩
theorem fl_8_180 : FL RX8 180 3 7 false := ⟨(RX3, TX3, 8), rfl, by decide, gw_at 255 (by decide +kernel) rfl, rfl, rfl⟩
theorem fl_8_187 : FL RX8 187 2 6 true := ⟨(RX2, TX2, 7), rfl, by decide, gw_at 167 (by decide +kernel) rfl, rfl, rfl⟩
theorem fl_8_191 : FL RX8 191 1 0 false := ⟨(RX1, TX1, 9), rfl, by decide, gw_at 192 (by decide +kernel) rfl, rfl, rfl⟩
theorem fl_8_194 : FL RX8 194 1 1 false := ⟨(RX1, TX1, 9), rfl, by decide, gw_at 195 (by decide +kernel) rfl, rfl, rfl⟩
theorem fl_8_201 : FL RX8 201 1 4 false := ⟨(RX1, TX1, 9), rfl, by decide, gw_at 203 (by decide +kernel) rfl, rfl, rfl⟩
theorem fw_8_201 : FW RX8 201 1 4 false false .int := ⟨(RX1, TX1, 9), rfl, by decide, gw_at 203 (by decide +kernel) rfl, rfl, rfl, rfl, by decide +kernel, by decide⟩
theorem fl_8_211 : FL RX8 211 1 3 false := ⟨(RX1, TX1, 9), rfl, by decide, gw_at 201 (by decide +kernel) rfl, rfl, rfl⟩
theorem fl_8_224 : FL RX8 224 2 1 false := ⟨(RX2, TX2, 7), rfl, by decide, gw_at 155 (by decide +kernel) rfl, rfl, rfl⟩
theorem fl_8_227 : FL RX8 227 2 2 false := ⟨(RX2, TX2, 7), rfl, by decide, gw_at 157 (by decide +kernel) rfl, rfl, rfl⟩
theorem fl_8_230 : FL RX8 230 7 12 false := ⟨(RX7, TX7, 13), rfl, by decide, gw_at 298 (by decide +kernel) rfl, rfl, rfl⟩
theorem fl_8_233 : FL RX8 233 2 0 false := ⟨(RX2, TX2, 7), rfl, by decide, gw_at 153 (by decide +kernel) rfl, rfl, rfl⟩
theorem fl_0_9 : FL RX0 9 0 0 false := ⟨(RX0, TX0, 6), rfl, by decide, gw_at 109 (by decide +kernel) rfl, rfl, rfl⟩
theorem fw_0_9 : FW RX0 9 0 0 false false .int := ⟨(RX0, TX0, 6), rfl, by decide, gw_at 109 (by decide +kernel) rfl, rfl, rfl, rfl, by decide +kernel, by decide⟩
theorem fl_0_15 : FL RX0 15 0 1 true := ⟨(RX0, TX0, 6), rfl, by decide, gw_at 112 (by decide +kernel) rfl, rfl, rfl⟩
theorem fw_0_15 : FW RX0 15 0 1 true true (.array .int) := ⟨(RX0, TX0, 6), rfl, by decide, gw_at 112 (by decide +kernel) rfl, rfl, rfl, rfl, by decide +kernel, by decide⟩
theorem fl_0_19 : FL RX0 19 0 2 true := ⟨(RX0, TX0, 6), rfl, by decide, gw_at 114 (by decide +kernel) rfl, rfl, rfl⟩
theorem fw_0_19 : FW RX0 19 0 2 true true (.array .int) := ⟨(RX0, TX0, 6), rfl, by decide, gw_at 114 (by decide +kernel) rfl, rfl, rfl, rfl, by decide +kernel, by decide⟩
theorem fl_0_22 : FL RX0 22 0 3 true := ⟨(RX0, TX0, 6), rfl, by decide, gw_at 116 (by decide +kernel) rfl, rfl, rfl⟩
theorem fw_0_22 : FW RX0 22 0 3 true true (.array .int) := ⟨(RX0, TX0, 6), rfl, by decide, gw_at 116 (by decide +kernel) rfl, rfl, rfl, rfl, by decide +kernel, by decide⟩
theorem fl_0_25 : FL RX0 25 0 4 true := ⟨(RX0, TX0, 6), rfl, by decide, gw_at 118 (by decide +kernel) rfl, rfl, rfl⟩
theorem fw_0_25 : FW RX0 25 0 4 true true (.array .int) := ⟨(RX0, TX0, 6), rfl, by decide, gw_at 118 (by decide +kernel) rfl, rfl, rfl, rfl, by decide +kernel, by decide⟩
theorem fl_0_28 : FL RX0 28 0 5 true := ⟨(RX0, TX0, 6), rfl, by decide, gw_at 120 (by decide +kernel) rfl, rfl, rfl⟩
theorem fw_0_28 : FW RX0 28 0 5 true true (.array .int) := ⟨(RX0, TX0, 6), rfl, by decide, gw_at 120 (by decide +kernel) rfl, rfl, rfl, rfl, by decide +kernel, by decide⟩
theorem fl_1_9 : FL RX1 9 1 0 false := ⟨(RX1, TX1, 9), rfl, by decide, gw_at 190 (by decide +kernel) rfl, rfl, rfl⟩
theorem fw_1_9 : FW RX1 9 1 0 false false .int := ⟨(RX1, TX1, 9), rfl, by decide, gw_at 190 (by decide +kernel) rfl, rfl, rfl, rfl, by decide +kernel, by decide⟩
theorem fl_1_15 : FL RX1 15 1 1 false := ⟨(RX1, TX1, 9), rfl, by decide, gw_at 193 (by decide +kernel) rfl, rfl, rfl⟩
theorem fw_1_15 : FW RX1 15 1 1 false false .int := ⟨(RX1, TX1, 9), rfl, by decide, gw_at 193 (by decide +kernel) rfl, rfl, rfl, rfl, by decide +kernel, by decide⟩
theorem fl_1_18 : FL RX1 18 1 2 false := ⟨(RX1, TX1, 9), rfl, by decide, gw_at 196 (by decide +kernel) rfl, rfl, rfl⟩
theorem fw_1_18 : FW RX1 18 1 2 false false .boolean := ⟨(RX1, TX1, 9), rfl, by decide, gw_at 196 (by decide +kernel) rfl, rfl, rfl, rfl, by decide +kernel, by decide⟩
theorem fl_1_22 : FL RX1 22 1 3 false := ⟨(RX1, TX1, 9), rfl, by decide, gw_at 199 (by decide +kernel) rfl, rfl, rfl⟩
theorem fw_1_22 : FW RX1 22 1 3 false false .int := ⟨(RX1, TX1, 9), rfl, by decide, gw_at 199 (by decide +kernel) rfl, rfl, rfl, rfl, by decide +kernel, by decide⟩
theorem fl_1_25 : FL RX1 25 1 4 false := ⟨(RX1, TX1, 9), rfl, by decide, gw_at 202 (by decide +kernel) rfl, rfl, rfl⟩
theorem fw_1_25 : FW RX1 25 1 4 false false .int := ⟨(RX1, TX1, 9), rfl, by decide, gw_at 202 (by decide +kernel) rfl, rfl, rfl, rfl, by decide +kernel, by decide⟩
theorem fl_1_28 : FL RX1 28 1 5 true := ⟨(RX1, TX1, 9), rfl, by decide, gw_at 204 (by decide +kernel) rfl, rfl, rfl⟩
theorem fw_1_28 : FW RX1 28 1 5 true true (.array .int) := ⟨(RX1, TX1, 9), rfl, by decide, gw_at 204 (by decide +kernel) rfl, rfl, rfl, rfl, by decide +kernel, by decide⟩
theorem fl_1_32 : FL RX1 32 1 6 true := ⟨(RX1, TX1, 9), rfl, by decide, gw_at 205 (by decide +kernel) rfl, rfl, rfl⟩
theorem fw_1_32 : FW RX1 32 1 6 true true (.array .int) := ⟨(RX1, TX1, 9), rfl, by decide, gw_at 205 (by decide +kernel) rfl, rfl, rfl, rfl, by decide +kernel, by decide⟩
theorem fl_1_35 : FL RX1 35 1 7 true := ⟨(RX1, TX1, 9), rfl, by decide, gw_at 206 (by decide +kernel) rfl, rfl, rfl⟩
theorem fw_1_35 : FW RX1 35 1 7 true true (.array .int) := ⟨(RX1, TX1, 9), rfl, by decide, gw_at 206 (by decide +kernel) rfl, rfl, rfl, rfl, by decide +kernel, by decide⟩
theorem fl_1_38 : FL RX1 38 1 8 true := ⟨(RX1, TX1, 9), rfl, by decide, gw_at 207 (by decide +kernel) rfl, rfl, rfl⟩
theorem fw_1_38 : FW RX1 38 1 8 true true (.array .int) := ⟨(RX1, TX1, 9), rfl, by decide, gw_at 207 (by decide +kernel) rfl, rfl, rfl, rfl, by decide +kernel, by decide⟩
theorem fl_2_9 : FL RX2 9 2 0 false := ⟨(RX2, TX2, 7), rfl, by decide, gw_at 152 (by decide +kernel) rfl, rfl, rfl⟩
theorem fw_2_9 : FW RX2 9 2 0 false false .int := ⟨(RX2, TX2, 7), rfl, by decide, gw_at 152 (by decide +kernel) rfl, rfl, rfl, rfl, by decide +kernel, by decide⟩
theorem fl_2_15 : FL RX2 15 2 1 false := ⟨(RX2, TX2, 7), rfl, by decide, gw_at 154 (by decide +kernel) rfl, rfl, rfl⟩
theorem fw_2_15 : FW RX2 15 2 1 false false .int := ⟨(RX2, TX2, 7), rfl, by decide, gw_at 154 (by decide +kernel) rfl, rfl, rfl, rfl, by decide +kernel, by decide⟩
theorem fl_2_18 : FL RX2 18 2 2 false := ⟨(RX2, TX2, 7), rfl, by decide, gw_at 156 (by decide +kernel) rfl, rfl, rfl⟩
theorem fw_2_18 : FW RX2 18 2 2 false false .int := ⟨(RX2, TX2, 7), rfl, by decide, gw_at 156 (by decide +kernel) rfl, rfl, rfl, rfl, by decide +kernel, by decide⟩
theorem fl_2_21 : FL RX2 21 2 3 true := ⟨(RX2, TX2, 7), rfl, by decide, gw_at 158 (by decide +kernel) rfl, rfl, rfl⟩
theorem fw_2_21 : FW RX2 21 2 3 true true (.array .int) := ⟨(RX2, TX2, 7), rfl, by decide, gw_at 158 (by decide +kernel) rfl, rfl, rfl, rfl, by decide +kernel, by decide⟩
theorem fl_2_25 : FL RX2 25 2 4 true := ⟨(RX2, TX2, 7), rfl, by decide, gw_at 161 (by decide +kernel) rfl, rfl, rfl⟩
theorem fw_2_25 : FW RX2 25 2 4 true true (.array .int) := ⟨(RX2, TX2, 7), rfl, by decide, gw_at 161 (by decide +kernel) rfl, rfl, rfl, rfl, by decide +kernel, by decide⟩
theorem fl_2_28 : FL RX2 28 2 5 true := ⟨(RX2, TX2, 7), rfl, by decide, gw_at 162 (by decide +kernel) rfl, rfl, rfl⟩
theorem fw_2_28 : FW RX2 28 2 5 true true (.array .int) := ⟨(RX2, TX2, 7), rfl, by decide, gw_at 162 (by decide +kernel) rfl, rfl, rfl, rfl, by decide +kernel, by decide⟩
theorem fl_2_31 : FL RX2 31 2 6 true := ⟨(RX2, TX2, 7), rfl, by decide, gw_at 165 (by decide +kernel) rfl, rfl, rfl⟩
theorem fw_2_31 : FW RX2 31 2 6 true true (.array .int) := ⟨(RX2, TX2, 7), rfl, by decide, gw_at 165 (by decide +kernel) rfl, rfl, rfl, rfl, by decide +kernel, by decide⟩
theorem fl_3_9 : FL RX3 9 3 0 false := ⟨(RX3, TX3, 8), rfl, by decide, gw_at 232 (by decide +kernel) rfl, rfl, rfl⟩
theorem fw_3_9 : FW RX3 9 3 0 false false .int := ⟨(RX3, TX3, 8), rfl, by decide, gw_at 232 (by decide +kernel) rfl, rfl, rfl, rfl, by decide +kernel, by decide⟩
theorem fl_3_15 : FL RX3 15 3 1 false := ⟨(RX3, TX3, 8), rfl, by decide, gw_at 235 (by decide +kernel) rfl, rfl, rfl⟩
theorem fw_3_15 : FW RX3 15 3 1 false false .int := ⟨(RX3, TX3, 8), rfl, by decide, gw_at 235 (by decide +kernel) rfl, rfl, rfl, rfl, by decide +kernel, by decide⟩
theorem fl_3_18 : FL RX3 18 3 2 false := ⟨(RX3, TX3, 8), rfl, by decide, gw_at 238 (by decide +kernel) rfl, rfl, rfl⟩
theorem fw_3_18 : FW RX3 18 3 2 false false .int := ⟨(RX3, TX3, 8), rfl, by decide, gw_at 238 (by decide +kernel) rfl, rfl, rfl, rfl, by decide +kernel, by decide⟩
theorem fl_3_21 : FL RX3 21 3 3 false := ⟨(RX3, TX3, 8), rfl, by decide, gw_at 241 (by decide +kernel) rfl, rfl, rfl⟩
theorem fw_3_21 : FW RX3 21 3 3 false false .int := ⟨(RX3, TX3, 8), rfl, by decide, gw_at 241 (by decide +kernel) rfl, rfl, rfl, rfl, by decide +kernel, by decide⟩
theorem fl_3_24 : FL RX3 24 3 4 false := ⟨(RX3, TX3, 8), rfl, by decide, gw_at 244 (by decide +kernel) rfl, rfl, rfl⟩
theorem fw_3_24 : FW RX3 24 3 4 false false .int := ⟨(RX3, TX3, 8), rfl, by decide, gw_at 244 (by decide +kernel) rfl, rfl, rfl, rfl, by decide +kernel, by decide⟩
theorem fl_3_27 : FL RX3 27 3 5 false := ⟨(RX3, TX3, 8), rfl, by decide, gw_at 247 (by decide +kernel) rfl, rfl, rfl⟩
theorem fw_3_27 : FW RX3 27 3 5 false false .int := ⟨(RX3, TX3, 8), rfl, by decide, gw_at 247 (by decide +kernel) rfl, rfl, rfl, rfl, by decide +kernel, by decide⟩
theorem fl_3_30 : FL RX3 30 3 6 false := ⟨(RX3, TX3, 8), rfl, by decide, gw_at 250 (by decide +kernel) rfl, rfl, rfl⟩
theorem fw_3_30 : FW RX3 30 3 6 false false .boolean := ⟨(RX3, TX3, 8), rfl, by decide, gw_at 250 (by decide +kernel) rfl, rfl, rfl, rfl, by decide +kernel, by decide⟩
theorem fl_3_34 : FL RX3 34 3 7 false := ⟨(RX3, TX3, 8), rfl, by decide, gw_at 253 (by decide +kernel) rfl, rfl, rfl⟩
theorem fw_3_34 : FW RX3 34 3 7 false false .int := ⟨(RX3, TX3, 8), rfl, by decide, gw_at 253 (by decide +kernel) rfl, rfl, rfl, rfl, by decide +kernel, by decide⟩
theorem fl_4_12 : FL RX4 12 4 0 true := ⟨(RX4, TX4, 5), rfl, by decide, gw_at 365 (by decide +kernel) rfl, rfl, rfl⟩
theorem fw_4_12 : FW RX4 12 4 0 true true (.object "KilnVillage$Custom") := ⟨(RX4, TX4, 5), rfl, by decide, gw_at 365 (by decide +kernel) rfl, rfl, rfl, rfl, by decide +kernel, by decide⟩
theorem fl_4_18 : FL RX4 18 4 1 false := ⟨(RX4, TX4, 5), rfl, by decide, gw_at 367 (by decide +kernel) rfl, rfl, rfl⟩
theorem fw_4_18 : FW RX4 18 4 1 false false .int := ⟨(RX4, TX4, 5), rfl, by decide, gw_at 367 (by decide +kernel) rfl, rfl, rfl, rfl, by decide +kernel, by decide⟩
theorem fw_4_22 : FW RX4 22 4 2 false false .int := ⟨(RX4, TX4, 5), rfl, by decide, gw_at 369 (by decide +kernel) rfl, rfl, rfl, rfl, by decide +kernel, by decide⟩
theorem fl_4_25 : FL RX4 25 4 4 false := ⟨(RX4, TX4, 5), rfl, by decide, gw_at 372 (by decide +kernel) rfl, rfl, rfl⟩
theorem fw_4_25 : FW RX4 25 4 4 false false .int := ⟨(RX4, TX4, 5), rfl, by decide, gw_at 372 (by decide +kernel) rfl, rfl, rfl, rfl, by decide +kernel, by decide⟩
theorem fl_4_33 : FL RX4 33 4 3 true := ⟨(RX4, TX4, 5), rfl, by decide, gw_at 371 (by decide +kernel) rfl, rfl, rfl⟩
theorem fw_4_33 : FW RX4 33 4 3 true true (.object "KilnVillage$Tokens") := ⟨(RX4, TX4, 5), rfl, by decide, gw_at 371 (by decide +kernel) rfl, rfl, rfl, rfl, by decide +kernel, by decide⟩
theorem fw_4_40 : FW RX4 40 0 0 false false .int := ⟨(RX0, TX0, 6), rfl, by decide, gw_at 110 (by decide +kernel) rfl, rfl, rfl, rfl, by decide +kernel, by decide⟩
theorem fl_4_50 : FL RX4 50 6 3 true := ⟨(RX6, TX6, 7), rfl, by decide, gw_at 346 (by decide +kernel) rfl, rfl, rfl⟩
theorem fl_4_54 : FL RX4 54 0 2 true := ⟨(RX0, TX0, 6), rfl, by decide, gw_at 115 (by decide +kernel) rfl, rfl, rfl⟩
theorem fl_4_57 : FL RX4 57 0 1 true := ⟨(RX0, TX0, 6), rfl, by decide, gw_at 113 (by decide +kernel) rfl, rfl, rfl⟩
theorem fl_4_81 : FL RX4 81 6 2 true := ⟨(RX6, TX6, 7), rfl, by decide, gw_at 344 (by decide +kernel) rfl, rfl, rfl⟩
theorem fl_4_84 : FL RX4 84 0 3 true := ⟨(RX0, TX0, 6), rfl, by decide, gw_at 117 (by decide +kernel) rfl, rfl, rfl⟩
theorem fl_4_87 : FL RX4 87 0 4 true := ⟨(RX0, TX0, 6), rfl, by decide, gw_at 119 (by decide +kernel) rfl, rfl, rfl⟩
theorem fl_4_90 : FL RX4 90 0 5 true := ⟨(RX0, TX0, 6), rfl, by decide, gw_at 121 (by decide +kernel) rfl, rfl, rfl⟩
theorem fl_4_93 : FL RX4 93 6 1 true := ⟨(RX6, TX6, 7), rfl, by decide, gw_at 342 (by decide +kernel) rfl, rfl, rfl⟩
theorem fl_5_9 : FL RX5 9 5 0 true := ⟨(RX5, TX5, 2), rfl, by decide, gw_at 92 (by decide +kernel) rfl, rfl, rfl⟩
theorem fw_5_9 : FW RX5 9 5 0 true true (.array .byte) := ⟨(RX5, TX5, 2), rfl, by decide, gw_at 92 (by decide +kernel) rfl, rfl, rfl, rfl, by decide +kernel, by decide⟩
theorem fl_5_15 : FL RX5 15 5 1 false := ⟨(RX5, TX5, 2), rfl, by decide, gw_at 94 (by decide +kernel) rfl, rfl, rfl⟩
theorem fw_5_15 : FW RX5 15 5 1 false false .int := ⟨(RX5, TX5, 2), rfl, by decide, gw_at 94 (by decide +kernel) rfl, rfl, rfl, rfl, by decide +kernel, by decide⟩
theorem fl_6_9 : FL RX6 9 6 1 true := ⟨(RX6, TX6, 7), rfl, by decide, gw_at 341 (by decide +kernel) rfl, rfl, rfl⟩
theorem fw_6_9 : FW RX6 9 6 1 true true (.array .int) := ⟨(RX6, TX6, 7), rfl, by decide, gw_at 341 (by decide +kernel) rfl, rfl, rfl, rfl, by decide +kernel, by decide⟩
theorem fl_6_15 : FL RX6 15 6 2 true := ⟨(RX6, TX6, 7), rfl, by decide, gw_at 343 (by decide +kernel) rfl, rfl, rfl⟩
theorem fw_6_15 : FW RX6 15 6 2 true true (.array .int) := ⟨(RX6, TX6, 7), rfl, by decide, gw_at 343 (by decide +kernel) rfl, rfl, rfl, rfl, by decide +kernel, by decide⟩
theorem fl_6_18 : FL RX6 18 6 3 true := ⟨(RX6, TX6, 7), rfl, by decide, gw_at 345 (by decide +kernel) rfl, rfl, rfl⟩
theorem fw_6_18 : FW RX6 18 6 3 true true (.array .int) := ⟨(RX6, TX6, 7), rfl, by decide, gw_at 345 (by decide +kernel) rfl, rfl, rfl, rfl, by decide +kernel, by decide⟩
theorem fl_6_21 : FL RX6 21 6 4 false := ⟨(RX6, TX6, 7), rfl, by decide, gw_at 347 (by decide +kernel) rfl, rfl, rfl⟩
theorem fw_6_21 : FW RX6 21 6 4 false false .int := ⟨(RX6, TX6, 7), rfl, by decide, gw_at 347 (by decide +kernel) rfl, rfl, rfl, rfl, by decide +kernel, by decide⟩
theorem fl_6_25 : FL RX6 25 6 5 false := ⟨(RX6, TX6, 7), rfl, by decide, gw_at 348 (by decide +kernel) rfl, rfl, rfl⟩
theorem fw_6_25 : FW RX6 25 6 5 false false .int := ⟨(RX6, TX6, 7), rfl, by decide, gw_at 348 (by decide +kernel) rfl, rfl, rfl, rfl, by decide +kernel, by decide⟩
theorem fl_6_28 : FL RX6 28 6 6 false := ⟨(RX6, TX6, 7), rfl, by decide, gw_at 349 (by decide +kernel) rfl, rfl, rfl⟩
theorem fw_6_28 : FW RX6 28 6 6 false false .int := ⟨(RX6, TX6, 7), rfl, by decide, gw_at 349 (by decide +kernel) rfl, rfl, rfl, rfl, by decide +kernel, by decide⟩
theorem fl_6_31 : FL RX6 31 6 0 true := ⟨(RX6, TX6, 7), rfl, by decide, gw_at 340 (by decide +kernel) rfl, rfl, rfl⟩
theorem fw_6_31 : FW RX6 31 6 0 true true (.object "KilnVillage$Tape") := ⟨(RX6, TX6, 7), rfl, by decide, gw_at 340 (by decide +kernel) rfl, rfl, rfl, rfl, by decide +kernel, by decide⟩
theorem fl_6_39 : FL RX6 39 5 1 false := ⟨(RX5, TX5, 2), rfl, by decide, gw_at 96 (by decide +kernel) rfl, rfl, rfl⟩
theorem fl_6_44 : FL RX6 44 5 0 true := ⟨(RX5, TX5, 2), rfl, by decide, gw_at 93 (by decide +kernel) rfl, rfl, rfl⟩
theorem fl_7_12 : FL RX7 12 7 0 true := ⟨(RX7, TX7, 13), rfl, by decide, gw_at 273 (by decide +kernel) rfl, rfl, rfl⟩
theorem fw_7_12 : FW RX7 12 7 0 true true (.object "KilnVillage$Tape") := ⟨(RX7, TX7, 13), rfl, by decide, gw_at 273 (by decide +kernel) rfl, rfl, rfl, rfl, by decide +kernel, by decide⟩
theorem fl_7_21 : FL RX7 21 7 1 true := ⟨(RX7, TX7, 13), rfl, by decide, gw_at 275 (by decide +kernel) rfl, rfl, rfl⟩
theorem fw_7_21 : FW RX7 21 7 1 true true (.object "KilnVillage$Custom") := ⟨(RX7, TX7, 13), rfl, by decide, gw_at 275 (by decide +kernel) rfl, rfl, rfl, rfl, by decide +kernel, by decide⟩
theorem fl_7_25 : FL RX7 25 7 2 false := ⟨(RX7, TX7, 13), rfl, by decide, gw_at 277 (by decide +kernel) rfl, rfl, rfl⟩
theorem fw_7_25 : FW RX7 25 7 2 false false .int := ⟨(RX7, TX7, 13), rfl, by decide, gw_at 277 (by decide +kernel) rfl, rfl, rfl, rfl, by decide +kernel, by decide⟩
theorem fl_7_29 : FL RX7 29 7 3 false := ⟨(RX7, TX7, 13), rfl, by decide, gw_at 279 (by decide +kernel) rfl, rfl, rfl⟩
theorem fw_7_29 : FW RX7 29 7 3 false false .int := ⟨(RX7, TX7, 13), rfl, by decide, gw_at 279 (by decide +kernel) rfl, rfl, rfl, rfl, by decide +kernel, by decide⟩
theorem fl_7_34 : FL RX7 34 7 4 true := ⟨(RX7, TX7, 13), rfl, by decide, gw_at 281 (by decide +kernel) rfl, rfl, rfl⟩
theorem fw_7_34 : FW RX7 34 7 4 true true (.array (.object "KilnVillage$House")) := ⟨(RX7, TX7, 13), rfl, by decide, gw_at 281 (by decide +kernel) rfl, rfl, rfl, rfl, by decide +kernel, by decide⟩
theorem fl_7_38 : FL RX7 38 7 5 false := ⟨(RX7, TX7, 13), rfl, by decide, gw_at 283 (by decide +kernel) rfl, rfl, rfl⟩
theorem fw_7_38 : FW RX7 38 7 5 false false .int := ⟨(RX7, TX7, 13), rfl, by decide, gw_at 283 (by decide +kernel) rfl, rfl, rfl, rfl, by decide +kernel, by decide⟩
theorem fl_7_41 : FL RX7 41 7 6 true := ⟨(RX7, TX7, 13), rfl, by decide, gw_at 285 (by decide +kernel) rfl, rfl, rfl⟩
theorem fw_7_41 : FW RX7 41 7 6 true true (.array .int) := ⟨(RX7, TX7, 13), rfl, by decide, gw_at 285 (by decide +kernel) rfl, rfl, rfl, rfl, by decide +kernel, by decide⟩
theorem fl_7_45 : FL RX7 45 7 7 true := ⟨(RX7, TX7, 13), rfl, by decide, gw_at 287 (by decide +kernel) rfl, rfl, rfl⟩
theorem fw_7_45 : FW RX7 45 7 7 true true (.array .int) := ⟨(RX7, TX7, 13), rfl, by decide, gw_at 287 (by decide +kernel) rfl, rfl, rfl, rfl, by decide +kernel, by decide⟩
theorem fl_7_48 : FL RX7 48 7 8 true := ⟨(RX7, TX7, 13), rfl, by decide, gw_at 289 (by decide +kernel) rfl, rfl, rfl⟩
theorem fw_7_48 : FW RX7 48 7 8 true true (.array .int) := ⟨(RX7, TX7, 13), rfl, by decide, gw_at 289 (by decide +kernel) rfl, rfl, rfl, rfl, by decide +kernel, by decide⟩
theorem fl_7_54 : FL RX7 54 7 9 true := ⟨(RX7, TX7, 13), rfl, by decide, gw_at 291 (by decide +kernel) rfl, rfl, rfl⟩
theorem fw_7_54 : FW RX7 54 7 9 true true (.object "KilnVillage$Kiln") := ⟨(RX7, TX7, 13), rfl, by decide, gw_at 291 (by decide +kernel) rfl, rfl, rfl, rfl, by decide +kernel, by decide⟩
theorem fl_7_60 : FL RX7 60 7 10 true := ⟨(RX7, TX7, 13), rfl, by decide, gw_at 293 (by decide +kernel) rfl, rfl, rfl⟩
theorem fw_7_60 : FW RX7 60 7 10 true true (.array (.object "KilnVillage$Pot")) := ⟨(RX7, TX7, 13), rfl, by decide, gw_at 293 (by decide +kernel) rfl, rfl, rfl, rfl, by decide +kernel, by decide⟩
theorem fl_7_64 : FL RX7 64 7 11 false := ⟨(RX7, TX7, 13), rfl, by decide, gw_at 295 (by decide +kernel) rfl, rfl, rfl⟩
theorem fw_7_64 : FW RX7 64 7 11 false false .int := ⟨(RX7, TX7, 13), rfl, by decide, gw_at 295 (by decide +kernel) rfl, rfl, rfl, rfl, by decide +kernel, by decide⟩
theorem fl_7_67 : FL RX7 67 7 12 false := ⟨(RX7, TX7, 13), rfl, by decide, gw_at 297 (by decide +kernel) rfl, rfl, rfl⟩
theorem fw_7_67 : FW RX7 67 7 12 false false .int := ⟨(RX7, TX7, 13), rfl, by decide, gw_at 297 (by decide +kernel) rfl, rfl, rfl, rfl, by decide +kernel, by decide⟩
theorem fl_7_102 : FL RX7 102 3 0 false := ⟨(RX3, TX3, 8), rfl, by decide, gw_at 233 (by decide +kernel) rfl, rfl, rfl⟩
theorem fl_7_105 : FL RX7 105 3 3 false := ⟨(RX3, TX3, 8), rfl, by decide, gw_at 242 (by decide +kernel) rfl, rfl, rfl⟩
theorem fw_7_105 : FW RX7 105 3 3 false false .int := ⟨(RX3, TX3, 8), rfl, by decide, gw_at 242 (by decide +kernel) rfl, rfl, rfl, rfl, by decide +kernel, by decide⟩
theorem fl_7_121 : FL RX7 121 2 6 true := ⟨(RX2, TX2, 7), rfl, by decide, gw_at 166 (by decide +kernel) rfl, rfl, rfl⟩
theorem fl_7_124 : FL RX7 124 3 4 false := ⟨(RX3, TX3, 8), rfl, by decide, gw_at 245 (by decide +kernel) rfl, rfl, rfl⟩
theorem fw_7_124 : FW RX7 124 3 4 false false .int := ⟨(RX3, TX3, 8), rfl, by decide, gw_at 245 (by decide +kernel) rfl, rfl, rfl, rfl, by decide +kernel, by decide⟩
theorem fw_7_127 : FW RX7 127 3 5 false false .int := ⟨(RX3, TX3, 8), rfl, by decide, gw_at 248 (by decide +kernel) rfl, rfl, rfl, rfl, by decide +kernel, by decide⟩
theorem fl_7_130 : FL RX7 130 1 1 false := ⟨(RX1, TX1, 9), rfl, by decide, gw_at 194 (by decide +kernel) rfl, rfl, rfl⟩
theorem fw_7_130 : FW RX7 130 1 1 false false .int := ⟨(RX1, TX1, 9), rfl, by decide, gw_at 194 (by decide +kernel) rfl, rfl, rfl, rfl, by decide +kernel, by decide⟩
theorem fl_7_133 : FL RX7 133 2 5 true := ⟨(RX2, TX2, 7), rfl, by decide, gw_at 163 (by decide +kernel) rfl, rfl, rfl⟩
theorem fl_7_140 : FL RX7 140 1 2 false := ⟨(RX1, TX1, 9), rfl, by decide, gw_at 197 (by decide +kernel) rfl, rfl, rfl⟩
theorem fl_7_151 : FL RX7 151 3 6 false := ⟨(RX3, TX3, 8), rfl, by decide, gw_at 251 (by decide +kernel) rfl, rfl, rfl⟩
theorem fl_7_154 : FL RX7 154 2 3 true := ⟨(RX2, TX2, 7), rfl, by decide, gw_at 159 (by decide +kernel) rfl, rfl, rfl⟩
theorem fl_7_161 : FL RX7 161 3 1 false := ⟨(RX3, TX3, 8), rfl, by decide, gw_at 236 (by decide +kernel) rfl, rfl, rfl⟩
theorem fl_7_175 : FL RX7 175 1 3 false := ⟨(RX1, TX1, 9), rfl, by decide, gw_at 200 (by decide +kernel) rfl, rfl, rfl⟩
theorem fw_7_175 : FW RX7 175 1 3 false false .int := ⟨(RX1, TX1, 9), rfl, by decide, gw_at 200 (by decide +kernel) rfl, rfl, rfl, rfl, by decide +kernel, by decide⟩
theorem fl_7_189 : FL RX7 189 1 0 false := ⟨(RX1, TX1, 9), rfl, by decide, gw_at 191 (by decide +kernel) rfl, rfl, rfl⟩
theorem fw_7_189 : FW RX7 189 1 0 false false .int := ⟨(RX1, TX1, 9), rfl, by decide, gw_at 191 (by decide +kernel) rfl, rfl, rfl, rfl, by decide +kernel, by decide⟩
theorem fl_7_192 : FL RX7 192 3 2 false := ⟨(RX3, TX3, 8), rfl, by decide, gw_at 239 (by decide +kernel) rfl, rfl, rfl⟩
theorem fl_7_195 : FL RX7 195 3 7 false := ⟨(RX3, TX3, 8), rfl, by decide, gw_at 254 (by decide +kernel) rfl, rfl, rfl⟩
theorem fl_9_7 : FL RX9 7 9 0 true := ⟨(RX9, TX9, 14), rfl, by decide, gw_at 828 (by decide +kernel) rfl, rfl, rfl⟩
theorem fw_9_7 : FW RX9 7 9 0 true true (.array .int) := ⟨(RX9, TX9, 14), rfl, by decide, gw_at 828 (by decide +kernel) rfl, rfl, rfl, rfl, by decide +kernel, by decide⟩
theorem fl_9_13 : FL RX9 13 9 1 true := ⟨(RX9, TX9, 14), rfl, by decide, gw_at 829 (by decide +kernel) rfl, rfl, rfl⟩
theorem fw_9_13 : FW RX9 13 9 1 true true (.array .boolean) := ⟨(RX9, TX9, 14), rfl, by decide, gw_at 829 (by decide +kernel) rfl, rfl, rfl, rfl, by decide +kernel, by decide⟩
theorem fl_9_17 : FL RX9 17 9 11 true := ⟨(RX9, TX9, 14), rfl, by decide, gw_at 839 (by decide +kernel) rfl, rfl, rfl⟩
theorem fw_9_17 : FW RX9 17 9 11 true true (.array .int) := ⟨(RX9, TX9, 14), rfl, by decide, gw_at 839 (by decide +kernel) rfl, rfl, rfl, rfl, by decide +kernel, by decide⟩
theorem fl_9_20 : FL RX9 20 9 12 true := ⟨(RX9, TX9, 14), rfl, by decide, gw_at 840 (by decide +kernel) rfl, rfl, rfl⟩
theorem fw_9_20 : FW RX9 20 9 12 true true (.array .int) := ⟨(RX9, TX9, 14), rfl, by decide, gw_at 840 (by decide +kernel) rfl, rfl, rfl, rfl, by decide +kernel, by decide⟩
theorem fl_9_23 : FL RX9 23 9 13 true := ⟨(RX9, TX9, 14), rfl, by decide, gw_at 841 (by decide +kernel) rfl, rfl, rfl⟩
theorem fw_9_23 : FW RX9 23 9 13 true true (.array .int) := ⟨(RX9, TX9, 14), rfl, by decide, gw_at 841 (by decide +kernel) rfl, rfl, rfl, rfl, by decide +kernel, by decide⟩
theorem fl_9_30 : FL RX9 30 9 2 false := ⟨(RX9, TX9, 14), rfl, by decide, gw_at 830 (by decide +kernel) rfl, rfl, rfl⟩
theorem fw_9_30 : FW RX9 30 9 2 false false .int := ⟨(RX9, TX9, 14), rfl, by decide, gw_at 830 (by decide +kernel) rfl, rfl, rfl, rfl, by decide +kernel, by decide⟩
theorem fl_9_54 : FL RX9 54 9 3 false := ⟨(RX9, TX9, 14), rfl, by decide, gw_at 831 (by decide +kernel) rfl, rfl, rfl⟩
theorem fw_9_54 : FW RX9 54 9 3 false false .int := ⟨(RX9, TX9, 14), rfl, by decide, gw_at 831 (by decide +kernel) rfl, rfl, rfl, rfl, by decide +kernel, by decide⟩
theorem fl_9_61 : FL RX9 61 9 4 false := ⟨(RX9, TX9, 14), rfl, by decide, gw_at 832 (by decide +kernel) rfl, rfl, rfl⟩
theorem fw_9_61 : FW RX9 61 9 4 false false .int := ⟨(RX9, TX9, 14), rfl, by decide, gw_at 832 (by decide +kernel) rfl, rfl, rfl, rfl, by decide +kernel, by decide⟩
theorem fl_9_64 : FL RX9 64 9 5 false := ⟨(RX9, TX9, 14), rfl, by decide, gw_at 833 (by decide +kernel) rfl, rfl, rfl⟩
theorem fw_9_64 : FW RX9 64 9 5 false false .int := ⟨(RX9, TX9, 14), rfl, by decide, gw_at 833 (by decide +kernel) rfl, rfl, rfl, rfl, by decide +kernel, by decide⟩
theorem fl_9_75 : FL RX9 75 9 8 false := ⟨(RX9, TX9, 14), rfl, by decide, gw_at 836 (by decide +kernel) rfl, rfl, rfl⟩
theorem fw_9_75 : FW RX9 75 9 8 false false .int := ⟨(RX9, TX9, 14), rfl, by decide, gw_at 836 (by decide +kernel) rfl, rfl, rfl, rfl, by decide +kernel, by decide⟩
theorem fl_9_81 : FL RX9 81 9 6 false := ⟨(RX9, TX9, 14), rfl, by decide, gw_at 834 (by decide +kernel) rfl, rfl, rfl⟩
theorem fw_9_81 : FW RX9 81 9 6 false false .int := ⟨(RX9, TX9, 14), rfl, by decide, gw_at 834 (by decide +kernel) rfl, rfl, rfl, rfl, by decide +kernel, by decide⟩
theorem fl_9_84 : FL RX9 84 9 7 false := ⟨(RX9, TX9, 14), rfl, by decide, gw_at 835 (by decide +kernel) rfl, rfl, rfl⟩
theorem fw_9_84 : FW RX9 84 9 7 false false .int := ⟨(RX9, TX9, 14), rfl, by decide, gw_at 835 (by decide +kernel) rfl, rfl, rfl, rfl, by decide +kernel, by decide⟩
theorem fl_9_90 : FL RX9 90 9 9 false := ⟨(RX9, TX9, 14), rfl, by decide, gw_at 837 (by decide +kernel) rfl, rfl, rfl⟩
theorem fw_9_90 : FW RX9 90 9 9 false false .boolean := ⟨(RX9, TX9, 14), rfl, by decide, gw_at 837 (by decide +kernel) rfl, rfl, rfl, rfl, by decide +kernel, by decide⟩
theorem fl_9_111 : FL RX9 111 9 10 false := ⟨(RX9, TX9, 14), rfl, by decide, gw_at 838 (by decide +kernel) rfl, rfl, rfl⟩
theorem fw_9_111 : FW RX9 111 9 10 false false .int := ⟨(RX9, TX9, 14), rfl, by decide, gw_at 838 (by decide +kernel) rfl, rfl, rfl, rfl, by decide +kernel, by decide⟩
theorem lk_X0_3 : Cond.methodLink RX0 3 objectInit ∈ gws := gw_at 108 (by decide +kernel) rfl
theorem lk_X0_31 : Cond.methodLink RX0 31 arraycopyName ∈ gws := gw_at 551 (by decide +kernel) rfl
theorem lk_X0_37 : Cond.methodLink RX0 37 yX0_allHold ∈ gws := gw_at 709 (by decide +kernel) rfl
theorem lk_X0_41 : Cond.methodLink RX0 41 yX0_holds ∈ gws := gw_at 713 (by decide +kernel) rfl
theorem lk_X0_44 : Cond.methodLink RX0 44 yX3_subject ∈ gws := gw_at 717 (by decide +kernel) rfl
theorem lk_X1_3 : Cond.methodLink RX1 3 objectInit ∈ gws := gw_at 189 (by decide +kernel) rfl
theorem lk_X1_41 : Cond.methodLink RX1 41 arraycopyName ∈ gws := gw_at 808 (by decide +kernel) rfl
theorem lk_X1_47 : Cond.methodLink RX1 47 yX1_worthOf ∈ gws := gw_at 752 (by decide +kernel) rfl
theorem lk_X1_51 : Cond.methodLink RX1 51 yX1_canDo ∈ gws := gw_at 756 (by decide +kernel) rfl
theorem lk_X2_3 : Cond.methodLink RX2 3 objectInit ∈ gws := gw_at 143 (by decide +kernel) rfl
theorem lk_X2_34 : Cond.methodLink RX2 34 yX2_build ∈ gws := gw_at 144 (by decide +kernel) rfl
theorem lk_X2_38 : Cond.methodLink RX2 38 yX2_clear ∈ gws := gw_at 148 (by decide +kernel) rfl
theorem lk_X2_41 : Cond.methodLink RX2 41 arraycopyName ∈ gws := gw_at 669 (by decide +kernel) rfl
theorem lk_X2_51 : Cond.methodLink RX2 51 yX2_hasChamber ∈ gws := gw_at 591 (by decide +kernel) rfl
theorem lk_X2_55 : Cond.methodLink RX2 55 yJ9_abs_0f7a4 ∈ gws := gw_at 674 (by decide +kernel) rfl
theorem lk_X2_61 : Cond.methodLink RX2 61 yJ9_max_7cf53 ∈ gws := gw_at 628 (by decide +kernel) rfl
theorem lk_X3_3 : Cond.methodLink RX3 3 objectInit ∈ gws := gw_at 231 (by decide +kernel) rfl
theorem lk_X4_3 : Cond.methodLink RX4 3 objectInit ∈ gws := gw_at 331 (by decide +kernel) rfl
theorem ck_X4_9 : Cond.classLink RX4 9 RX0 ∈ gws := gw_at 332 (by decide +kernel) rfl
theorem ck_X4_28 : Cond.classLink RX4 28 RX6 ∈ gws := gw_at 334 (by decide +kernel) rfl
theorem lk_X4_30 : Cond.methodLink RX4 30 yX6_init ∈ gws := gw_at 336 (by decide +kernel) rfl
theorem lk_X4_37 : Cond.methodLink RX4 37 yX6_scan ∈ gws := gw_at 418 (by decide +kernel) rfl
theorem lk_X4_43 : Cond.methodLink RX4 43 yX4_isAt ∈ gws := gw_at 515 (by decide +kernel) rfl
theorem lk_X4_47 : Cond.methodLink RX4 47 yX4_readLine ∈ gws := gw_at 519 (by decide +kernel) rfl
theorem lk_X4_60 : Cond.methodLink RX4 60 yX4_note ∈ gws := gw_at 523 (by decide +kernel) rfl
theorem lk_X4_64 : Cond.methodLink RX4 64 yX4_readCondition ∈ gws := gw_at 527 (by decide +kernel) rfl
theorem lk_X4_67 : Cond.methodLink RX4 67 yX4_readDuty ∈ gws := gw_at 543 (by decide +kernel) rfl
theorem lk_X4_70 : Cond.methodLink RX4 70 yX4_take ∈ gws := gw_at 531 (by decide +kernel) rfl
theorem lk_X4_73 : Cond.methodLink RX4 73 yX4_readTest ∈ gws := gw_at 535 (by decide +kernel) rfl
theorem lk_X4_77 : Cond.methodLink RX4 77 yX4_keepTest ∈ gws := gw_at 539 (by decide +kernel) rfl
theorem lk_X5_3 : Cond.methodLink RX5 3 objectInit ∈ gws := gw_at 91 (by decide +kernel) rfl
theorem lk_X5_19 : Cond.methodLink RX5 19 arraycopyName ∈ gws := gw_at 802 (by decide +kernel) rfl
theorem lk_X6_3 : Cond.methodLink RX6 3 objectInit ∈ gws := gw_at 339 (by decide +kernel) rfl
theorem lk_X6_35 : Cond.methodLink RX6 35 yX6_scanOne ∈ gws := gw_at 422 (by decide +kernel) rfl
theorem lk_X6_48 : Cond.methodLink RX6 48 yX6_isBlank ∈ gws := gw_at 426 (by decide +kernel) rfl
theorem lk_X6_52 : Cond.methodLink RX6 52 yX6_isLetter ∈ gws := gw_at 429 (by decide +kernel) rfl
theorem lk_X6_55 : Cond.methodLink RX6 55 yX6_scanWord ∈ gws := gw_at 432 (by decide +kernel) rfl
theorem lk_X6_58 : Cond.methodLink RX6 58 yX6_isDigit ∈ gws := gw_at 504 (by decide +kernel) rfl
theorem lk_X6_61 : Cond.methodLink RX6 61 yX6_scanNumber ∈ gws := gw_at 507 (by decide +kernel) rfl
theorem lk_X6_64 : Cond.methodLink RX6 64 yX6_scanSign ∈ gws := gw_at 511 (by decide +kernel) rfl
theorem lk_X6_69 : Cond.methodLink RX6 69 yX6_wordIs ∈ gws := gw_at 437 (by decide +kernel) rfl
theorem lk_X6_81 : Cond.methodLink RX6 81 yX6_subjectOfWord ∈ gws := gw_at 493 (by decide +kernel) rfl
theorem lk_X7_3 : Cond.methodLink RX7 3 objectInit ∈ gws := gw_at 85 (by decide +kernel) rfl
theorem ck_X7_9 : Cond.classLink RX7 9 RX5 ∈ gws := gw_at 86 (by decide +kernel) rfl
theorem ck_X7_18 : Cond.classLink RX7 18 RX0 ∈ gws := gw_at 103 (by decide +kernel) rfl
theorem ck_X7_32 : Cond.classLink RX7 32 RX1 ∈ gws := gw_at 136 (by decide +kernel) rfl
theorem ck_X7_51 : Cond.classLink RX7 51 RX2 ∈ gws := gw_at 138 (by decide +kernel) rfl
theorem lk_X7_53 : Cond.methodLink RX7 53 yX2_init ∈ gws := gw_at 140 (by decide +kernel) rfl
theorem ck_X7_58 : Cond.classLink RX7 58 RX3 ∈ gws := gw_at 183 (by decide +kernel) rfl
theorem lk_X7_72 : Cond.methodLink RX7 72 yX5_copyFrom ∈ gws := gw_at 798 (by decide +kernel) rfl
theorem lk_X7_76 : Cond.methodLink RX7 76 yX0_copyFrom ∈ gws := gw_at 803 (by decide +kernel) rfl
theorem lk_X7_79 : Cond.methodLink RX7 79 yX1_copyFrom ∈ gws := gw_at 804 (by decide +kernel) rfl
theorem lk_X7_82 : Cond.methodLink RX7 82 arraycopyName ∈ gws := gw_at 809 (by decide +kernel) rfl
theorem lk_X7_88 : Cond.methodLink RX7 88 yX2_copyFrom ∈ gws := gw_at 810 (by decide +kernel) rfl
theorem lk_X7_91 : Cond.methodLink RX7 91 yX3_copyFrom ∈ gws := gw_at 697 (by decide +kernel) rfl
theorem lk_X7_98 : Cond.methodLink RX7 98 yX3_stands ∈ gws := gw_at 578 (by decide +kernel) rfl
theorem lk_X7_108 : Cond.methodLink RX7 108 yJ9_max_7cf53 ∈ gws := gw_at 617 (by decide +kernel) rfl
theorem lk_X7_114 : Cond.methodLink RX7 114 yX2_bestFreePlace ∈ gws := gw_at 633 (by decide +kernel) rfl
theorem lk_X7_118 : Cond.methodLink RX7 118 yX7_nextPot ∈ gws := gw_at 637 (by decide +kernel) rfl
theorem lk_X7_136 : Cond.methodLink RX7 136 yX7_goesBefore ∈ gws := gw_at 641 (by decide +kernel) rfl
theorem lk_X7_144 : Cond.methodLink RX7 144 yJ9_min_7cf53 ∈ gws := gw_at 653 (by decide +kernel) rfl
theorem lk_X7_147 : Cond.methodLink RX7 147 yX2_burn ∈ gws := gw_at 665 (by decide +kernel) rfl
theorem lk_X7_157 : Cond.methodLink RX7 157 yX2_changeOf ∈ gws := gw_at 670 (by decide +kernel) rfl
theorem lk_X7_164 : Cond.methodLink RX7 164 yX3_bear ∈ gws := gw_at 677 (by decide +kernel) rfl
theorem lk_X7_168 : Cond.methodLink RX7 168 yX7_giveBack ∈ gws := gw_at 701 (by decide +kernel) rfl
theorem lk_X7_172 : Cond.methodLink RX7 172 yX2_clear ∈ gws := gw_at 729 (by decide +kernel) rfl
theorem lk_X7_178 : Cond.methodLink RX7 178 yX0_partFor ∈ gws := gw_at 705 (by decide +kernel) rfl
theorem lk_X7_182 : Cond.methodLink RX7 182 yX7_shareLoss ∈ gws := gw_at 721 (by decide +kernel) rfl
theorem lk_X7_186 : Cond.methodLink RX7 186 yX7_isRipe ∈ gws := gw_at 725 (by decide +kernel) rfl
theorem lk_X8_1 : Cond.methodLink RX8 1 objectInit ∈ gws := gw_at 77 (by decide +kernel) rfl
theorem ck_X8_7 : Cond.classLink RX8 7 RX7 ∈ gws := gw_at 80 (by decide +kernel) rfl
theorem lk_X8_9 : Cond.methodLink RX8 9 yX7_init ∈ gws := gw_at 82 (by decide +kernel) rfl
theorem ck_X8_16 : Cond.classLink RX8 16 RX4 ∈ gws := gw_at 326 (by decide +kernel) rfl
theorem lk_X8_22 : Cond.methodLink RX8 22 yX4_init ∈ gws := gw_at 328 (by decide +kernel) rfl
theorem lk_X8_39 : Cond.methodLink RX8 39 yX5_append ∈ gws := gw_at 399 (by decide +kernel) rfl
theorem lk_X8_43 : Cond.methodLink RX8 43 yX8_within ∈ gws := gw_at 407 (by decide +kernel) rfl
theorem lk_X8_47 : Cond.methodLink RX8 47 yX4_read ∈ gws := gw_at 414 (by decide +kernel) rfl
theorem lk_X8_65 : Cond.methodLink RX8 65 yX0_copyFrom ∈ gws := gw_at 547 (by decide +kernel) rfl
theorem lk_X8_87 : Cond.methodLink RX8 87 yX7_standingPots ∈ gws := gw_at 574 (by decide +kernel) rfl
theorem lk_X8_95 : Cond.methodLink RX8 95 yX2_build ∈ gws := gw_at 582 (by decide +kernel) rfl
theorem lk_X8_100 : Cond.methodLink RX8 100 yX2_hasPlace ∈ gws := gw_at 587 (by decide +kernel) rfl
theorem lk_X8_110 : Cond.methodLink RX8 110 yX7_hasHouse ∈ gws := gw_at 600 (by decide +kernel) rfl
theorem lk_X8_118 : Cond.methodLink RX8 118 yX3_turn ∈ gws := gw_at 605 (by decide +kernel) rfl
theorem lk_X8_134 : Cond.methodLink RX8 134 yX7_dryWaiting ∈ gws := gw_at 613 (by decide +kernel) rfl
theorem lk_X8_137 : Cond.methodLink RX8 137 yX2_greatestHeat ∈ gws := gw_at 624 (by decide +kernel) rfl
theorem lk_X8_140 : Cond.methodLink RX8 140 yX7_dealPlaces ∈ gws := gw_at 629 (by decide +kernel) rfl
theorem lk_X8_143 : Cond.methodLink RX8 143 yX7_spreadOfHad ∈ gws := gw_at 649 (by decide +kernel) rfl
theorem lk_X8_146 : Cond.methodLink RX8 146 yX2_hasChamber ∈ gws := gw_at 660 (by decide +kernel) rfl
theorem lk_X8_149 : Cond.methodLink RX8 149 yX7_passHour ∈ gws := gw_at 661 (by decide +kernel) rfl
theorem lk_X8_156 : Cond.methodLink RX8 156 yX7_giveAllBack ∈ gws := gw_at 693 (by decide +kernel) rfl
theorem lk_X8_183 : Cond.methodLink RX8 183 yX0_partFor ∈ gws := gw_at 734 (by decide +kernel) rfl
theorem lk_X8_197 : Cond.methodLink RX8 197 yX7_potsOf ∈ gws := gw_at 744 (by decide +kernel) rfl
theorem lk_X8_204 : Cond.methodLink RX8 204 yX1_bestOrders ∈ gws := gw_at 748 (by decide +kernel) rfl
theorem lk_X8_207 : Cond.methodLink RX8 207 yX1_worthOf ∈ gws := gw_at 760 (by decide +kernel) rfl
theorem lk_X8_214 : Cond.methodLink RX8 214 yX1_takeOrder ∈ gws := gw_at 765 (by decide +kernel) rfl
theorem lk_X8_218 : Cond.methodLink RX8 218 yX1_hasOrders ∈ gws := gw_at 773 (by decide +kernel) rfl
theorem lk_X8_221 : Cond.methodLink RX8 221 yX1_canDo ∈ gws := gw_at 777 (by decide +kernel) rfl
theorem lk_X8_236 : Cond.methodLink RX8 236 yX2_heatsTogether ∈ gws := gw_at 786 (by decide +kernel) rfl
theorem lk_X8_239 : Cond.methodLink RX8 239 yX7_copyFrom ∈ gws := gw_at 794 (by decide +kernel) rfl
theorem lk_X9_1 : Cond.methodLink RX9 1 objectInit ∈ gws := gw_at 823 (by decide +kernel) rfl
theorem lk_X9_26 : Cond.methodLink RX9 26 yX9_begins ∈ gws := gw_at 824 (by decide +kernel) rfl
theorem lk_X9_38 : Cond.methodLink RX9 38 yX9_three ∈ gws := gw_at 900 (by decide +kernel) rfl
theorem lk_X9_46 : Cond.methodLink RX9 46 yX9_four ∈ gws := gw_at 905 (by decide +kernel) rfl
theorem lk_X9_57 : Cond.methodLink RX9 57 yX9_byteAt ∈ gws := gw_at 888 (by decide +kernel) rfl
theorem lk_X9_67 : Cond.methodLink RX9 67 yX9_isLetter ∈ gws := gw_at 892 (by decide +kernel) rfl
theorem lk_X9_71 : Cond.methodLink RX9 71 yX9_wordOf ∈ gws := gw_at 897 (by decide +kernel) rfl
theorem lk_X9_78 : Cond.methodLink RX9 78 yX9_isDigit ∈ gws := gw_at 910 (by decide +kernel) rfl
theorem lk_X9_87 : Cond.methodLink RX9 87 yX9_isSignByte ∈ gws := gw_at 913 (by decide +kernel) rfl
theorem lk_X9_94 : Cond.methodLink RX9 94 yX9_advance ∈ gws := gw_at 884 (by decide +kernel) rfl
theorem lk_X9_97 : Cond.methodLink RX9 97 yX9_stops ∈ gws := gw_at 935 (by decide +kernel) rfl
theorem lk_X9_100 : Cond.methodLink RX9 100 yX9_takes ∈ gws := gw_at 924 (by decide +kernel) rfl
theorem lk_X9_103 : Cond.methodLink RX9 103 yX9_isIn ∈ gws := gw_at 932 (by decide +kernel) rfl
theorem lk_X9_107 : Cond.methodLink RX9 107 yX9_numbered ∈ gws := gw_at 939 (by decide +kernel) rfl
theorem lk_X9_114 : Cond.methodLink RX9 114 yX9_tells ∈ gws := gw_at 920 (by decide +kernel) rfl
theorem lk_X9_118 : Cond.methodLink RX9 118 yX9_aTest ∈ gws := gw_at 928 (by decide +kernel) rfl
theorem lk_X9_121 : Cond.methodLink RX9 121 yX9_puts ∈ gws := gw_at 943 (by decide +kernel) rfl
theorem lk_X9_124 : Cond.methodLink RX9 124 yX9_must ∈ gws := gw_at 947 (by decide +kernel) rfl
theorem lk_X9_127 : Cond.methodLink RX9 127 yX9_aLine ∈ gws := gw_at 916 (by decide +kernel) rfl
theorem lk_X9_130 : Cond.methodLink RX9 130 yX9_its ∈ gws := gw_at 979 (by decide +kernel) rfl
theorem lk_X9_134 : Cond.methodLink RX9 134 yX9_stands ∈ gws := gw_at 975 (by decide +kernel) rfl
theorem lk_X9_137 : Cond.methodLink RX9 137 yX9_standing ∈ gws := gw_at 971 (by decide +kernel) rfl
theorem lk_X9_140 : Cond.methodLink RX9 140 yX9_isPlace ∈ gws := gw_at 987 (by decide +kernel) rfl
theorem lk_X9_144 : Cond.methodLink RX9 144 yX9_isHouse ∈ gws := gw_at 995 (by decide +kernel) rfl
theorem lk_X9_147 : Cond.methodLink RX9 147 yX9_sets ∈ gws := gw_at 999 (by decide +kernel) rfl
theorem lk_X9_151 : Cond.methodLink RX9 151 yX9_at0 ∈ gws := gw_at 1031 (by decide +kernel) rfl
theorem lk_X9_154 : Cond.methodLink RX9 154 yX9_waiting ∈ gws := gw_at 1019 (by decide +kernel) rfl
theorem lk_X9_157 : Cond.methodLink RX9 157 yX9_of ∈ gws := gw_at 1023 (by decide +kernel) rfl
theorem lk_X9_160 : Cond.methodLink RX9 160 yX9_greatestHeat ∈ gws := gw_at 1011 (by decide +kernel) rfl
theorem lk_X9_163 : Cond.methodLink RX9 163 yX9_nextHouse ∈ gws := gw_at 1015 (by decide +kernel) rfl
theorem lk_X9_166 : Cond.methodLink RX9 166 yX9_bestPlace ∈ gws := gw_at 1027 (by decide +kernel) rfl
theorem lk_X9_169 : Cond.methodLink RX9 169 yX9_adds ∈ gws := gw_at 1035 (by decide +kernel) rfl
theorem lk_X9_172 : Cond.methodLink RX9 172 yX9_bakes ∈ gws := gw_at 1051 (by decide +kernel) rfl
theorem lk_X9_175 : Cond.methodLink RX9 175 yX9_hour ∈ gws := gw_at 1047 (by decide +kernel) rfl
theorem lk_X9_178 : Cond.methodLink RX9 178 yX9_asked ∈ gws := gw_at 1083 (by decide +kernel) rfl
theorem lk_X9_181 : Cond.methodLink RX9 181 yX9_holds ∈ gws := gw_at 1079 (by decide +kernel) rfl
theorem lk_X9_184 : Cond.methodLink RX9 184 yX9_isRipe ∈ gws := gw_at 1071 (by decide +kernel) rfl
theorem lk_X9_187 : Cond.methodLink RX9 187 yX9_customOf ∈ gws := gw_at 1075 (by decide +kernel) rfl
theorem lk_X9_190 : Cond.methodLink RX9 190 yX9_gives ∈ gws := gw_at 1067 (by decide +kernel) rfl
theorem lk_X9_193 : Cond.methodLink RX9 193 yX9_can ∈ gws := gw_at 1103 (by decide +kernel) rfl
theorem lk_X9_196 : Cond.methodLink RX9 196 yX9_worthOf ∈ gws := gw_at 1120 (by decide +kernel) rfl
theorem lk_X9_200 : Cond.methodLink RX9 200 yX9_best ∈ gws := gw_at 1116 (by decide +kernel) rfl
theorem ck_L_7 : Cond.classLink RL 7 RX8 ∈ gws := gw_at 72 (by decide +kernel) rfl
theorem lk_L_9 : Cond.methodLink RL 9 yX8_init ∈ gws := gw_at 74 (by decide +kernel) rfl
theorem ck_L_10 : Cond.classLink RL 10 RX9 ∈ gws := gw_at 818 (by decide +kernel) rfl
theorem lk_L_12 : Cond.methodLink RL 12 yX9_init ∈ gws := gw_at 820 (by decide +kernel) rfl
theorem lk_L_13 : Cond.methodLink RL 13 yX8_feed ∈ gws := gw_at 395 (by decide +kernel) rfl
theorem lk_L_17 : Cond.methodLink RL 17 yX9_feed ∈ gws := gw_at 872 (by decide +kernel) rfl
theorem lk_L_18 : Cond.methodLink RL 18 yX8_end ∈ gws := gw_at 403 (by decide +kernel) rfl
theorem lk_L_22 : Cond.methodLink RL 22 yX9_end ∈ gws := gw_at 876 (by decide +kernel) rfl
theorem lk_L_23 : Cond.methodLink RL 23 yX8_custom ∈ gws := gw_at 410 (by decide +kernel) rfl
theorem lk_L_27 : Cond.methodLink RL 27 yX9_custom ∈ gws := gw_at 880 (by decide +kernel) rfl
theorem lk_L_28 : Cond.methodLink RL 28 yX8_fault ∈ gws := gw_at 554 (by decide +kernel) rfl
theorem lk_L_31 : Cond.methodLink RL 31 yX9_fault ∈ gws := gw_at 951 (by decide +kernel) rfl
theorem lk_L_32 : Cond.methodLink RL 32 yX8_house ∈ gws := gw_at 558 (by decide +kernel) rfl
theorem lk_L_35 : Cond.methodLink RL 35 yX9_house ∈ gws := gw_at 955 (by decide +kernel) rfl
theorem lk_L_36 : Cond.methodLink RL 36 yX8_shape ∈ gws := gw_at 562 (by decide +kernel) rfl
theorem lk_L_40 : Cond.methodLink RL 40 yX9_shape ∈ gws := gw_at 959 (by decide +kernel) rfl
theorem lk_L_41 : Cond.methodLink RL 41 yX8_glaze ∈ gws := gw_at 566 (by decide +kernel) rfl
theorem lk_L_45 : Cond.methodLink RL 45 yX9_glaze ∈ gws := gw_at 963 (by decide +kernel) rfl
theorem lk_L_46 : Cond.methodLink RL 46 yX8_kiln ∈ gws := gw_at 570 (by decide +kernel) rfl
theorem lk_L_50 : Cond.methodLink RL 50 yX9_kiln ∈ gws := gw_at 967 (by decide +kernel) rfl
theorem lk_L_51 : Cond.methodLink RL 51 yX8_value ∈ gws := gw_at 583 (by decide +kernel) rfl
theorem lk_L_54 : Cond.methodLink RL 54 yX9_value ∈ gws := gw_at 983 (by decide +kernel) rfl
theorem lk_L_55 : Cond.methodLink RL 55 yX8_pot ∈ gws := gw_at 596 (by decide +kernel) rfl
theorem lk_L_59 : Cond.methodLink RL 59 yX9_pot ∈ gws := gw_at 991 (by decide +kernel) rfl
theorem lk_L_60 : Cond.methodLink RL 60 yX8_dry ∈ gws := gw_at 609 (by decide +kernel) rfl
theorem lk_L_63 : Cond.methodLink RL 63 yX9_dry ∈ gws := gw_at 1003 (by decide +kernel) rfl
theorem lk_L_64 : Cond.methodLink RL 64 yX8_deal ∈ gws := gw_at 620 (by decide +kernel) rfl
theorem lk_L_67 : Cond.methodLink RL 67 yX9_deal ∈ gws := gw_at 1007 (by decide +kernel) rfl
theorem lk_L_68 : Cond.methodLink RL 68 yX8_spread ∈ gws := gw_at 645 (by decide +kernel) rfl
theorem lk_L_71 : Cond.methodLink RL 71 yX9_spread ∈ gws := gw_at 1039 (by decide +kernel) rfl
theorem lk_L_72 : Cond.methodLink RL 72 yX8_fire ∈ gws := gw_at 656 (by decide +kernel) rfl
theorem lk_L_76 : Cond.methodLink RL 76 yX9_fire ∈ gws := gw_at 1043 (by decide +kernel) rfl
theorem lk_L_77 : Cond.methodLink RL 77 yX8_rest ∈ gws := gw_at 681 (by decide +kernel) rfl
theorem lk_L_80 : Cond.methodLink RL 80 yX9_rest ∈ gws := gw_at 1055 (by decide +kernel) rfl
theorem lk_L_81 : Cond.methodLink RL 81 yX8_heat ∈ gws := gw_at 685 (by decide +kernel) rfl
theorem lk_L_84 : Cond.methodLink RL 84 yX9_heat ∈ gws := gw_at 1059 (by decide +kernel) rfl
theorem lk_L_85 : Cond.methodLink RL 85 yX8_open ∈ gws := gw_at 689 (by decide +kernel) rfl
theorem lk_L_88 : Cond.methodLink RL 88 yX9_open ∈ gws := gw_at 1063 (by decide +kernel) rfl
theorem lk_L_89 : Cond.methodLink RL 89 yX8_about ∈ gws := gw_at 730 (by decide +kernel) rfl
theorem lk_L_92 : Cond.methodLink RL 92 yX9_about ∈ gws := gw_at 1087 (by decide +kernel) rfl
theorem lk_L_93 : Cond.methodLink RL 93 yX8_at ∈ gws := gw_at 735 (by decide +kernel) rfl
theorem lk_L_96 : Cond.methodLink RL 96 yX9_at ∈ gws := gw_at 1091 (by decide +kernel) rfl
theorem lk_L_97 : Cond.methodLink RL 97 yX8_tell ∈ gws := gw_at 739 (by decide +kernel) rfl
theorem lk_L_100 : Cond.methodLink RL 100 yX9_tell ∈ gws := gw_at 1111 (by decide +kernel) rfl
theorem lk_L_101 : Cond.methodLink RL 101 yX8_order ∈ gws := gw_at 761 (by decide +kernel) rfl
theorem lk_L_104 : Cond.methodLink RL 104 yX9_order ∈ gws := gw_at 1095 (by decide +kernel) rfl
theorem lk_L_105 : Cond.methodLink RL 105 yX8_inTime ∈ gws := gw_at 769 (by decide +kernel) rfl
theorem lk_L_108 : Cond.methodLink RL 108 yX9_inTime ∈ gws := gw_at 1099 (by decide +kernel) rfl
theorem lk_L_109 : Cond.methodLink RL 109 yX8_forget ∈ gws := gw_at 778 (by decide +kernel) rfl
theorem lk_L_112 : Cond.methodLink RL 112 yX9_forget ∈ gws := gw_at 1107 (by decide +kernel) rfl
theorem lk_L_113 : Cond.methodLink RL 113 yX8_count ∈ gws := gw_at 782 (by decide +kernel) rfl
theorem lk_L_116 : Cond.methodLink RL 116 yX9_count ∈ gws := gw_at 1124 (by decide +kernel) rfl
theorem lk_L_117 : Cond.methodLink RL 117 yX8_image ∈ gws := gw_at 790 (by decide +kernel) rfl
theorem lk_L_120 : Cond.methodLink RL 120 yX9_image ∈ gws := gw_at 1128 (by decide +kernel) rfl
theorem lk_L_121 : Cond.methodLink RL 121 yX8_again ∈ gws := gw_at 814 (by decide +kernel) rfl
theorem lk_L_124 : Cond.methodLink RL 124 yX9_again ∈ gws := gw_at 1132 (by decide +kernel) rfl
theorem kc_X8_190 : Cond.constant RX8 190 (-1000000000) ∈ gws := gw_at 743 (by decide +kernel) rfl
theorem kc_X9_199 : Cond.constant RX9 199 (-1000000000) ∈ gws := gw_at 1115 (by decide +kernel) rfl
theorem kl_X9_34 : Cond.constantLong RX9 34 (32) ∈ gws := gw_at 895 (by decide +kernel) rfl
theorem kl_X9_36 : Cond.constantLong RX9 36 (96) ∈ gws := gw_at 896 (by decide +kernel) rfl
theorem kl_X9_42 : Cond.constantLong RX9 42 (32768) ∈ gws := gw_at 903 (by decide +kernel) rfl
theorem kl_X9_44 : Cond.constantLong RX9 44 (114) ∈ gws := gw_at 904 (by decide +kernel) rfl
theorem kl_X9_50 : Cond.constantLong RX9 50 (101) ∈ gws := gw_at 908 (by decide +kernel) rfl
theorem kl_X9_52 : Cond.constantLong RX9 52 (294) ∈ gws := gw_at 909 (by decide +kernel) rfl
theorem nw_0 : Cond.instantiable RX0 6 ∈ gws ∧ Cond.initialized RX0 ∈ gws := ⟨by decide +kernel, by decide +kernel⟩
theorem nw_1 : Cond.instantiable RX1 9 ∈ gws ∧ Cond.initialized RX1 ∈ gws := ⟨by decide +kernel, by decide +kernel⟩
theorem nw_2 : Cond.instantiable RX2 7 ∈ gws ∧ Cond.initialized RX2 ∈ gws := ⟨by decide +kernel, by decide +kernel⟩
theorem nw_3 : Cond.instantiable RX3 8 ∈ gws ∧ Cond.initialized RX3 ∈ gws := ⟨by decide +kernel, by decide +kernel⟩
theorem nw_4 : Cond.instantiable RX4 5 ∈ gws ∧ Cond.initialized RX4 ∈ gws := ⟨by decide +kernel, by decide +kernel⟩
theorem nw_5 : Cond.instantiable RX5 2 ∈ gws ∧ Cond.initialized RX5 ∈ gws := ⟨by decide +kernel, by decide +kernel⟩
theorem nw_6 : Cond.instantiable RX6 7 ∈ gws ∧ Cond.initialized RX6 ∈ gws := ⟨by decide +kernel, by decide +kernel⟩
theorem nw_7 : Cond.instantiable RX7 13 ∈ gws ∧ Cond.initialized RX7 ∈ gws := ⟨by decide +kernel, by decide +kernel⟩
theorem nw_8 : Cond.instantiable RX8 3 ∈ gws ∧ Cond.initialized RX8 ∈ gws := ⟨by decide +kernel, by decide +kernel⟩
theorem nw_9 : Cond.instantiable RX9 14 ∈ gws ∧ Cond.initialized RX9 ∈ gws := ⟨by decide +kernel, by decide +kernel⟩
theorem ac_int : Cond.arrayClass .int ∈ gws := by decide +kernel
theorem ac_byte : Cond.arrayClass .byte ∈ gws := by decide +kernel
theorem ac_boolean : Cond.arrayClass .boolean ∈ gws := by decide +kernel
end
section
/-! the layer of memories: a machine's heap as two tables of numbers and places, by address and slot -/
abbrev GT : Type := Launch × va_G × (Nat → ClassId) × Nat × Heap × (Nat → Nat) × (Nat → Nat)
abbrev ST : Type := Nat × (Nat → Nat) × (Nat → Nat)
abbrev PT : Type := Nat → Nat → Nat
abbrev IT : Type := Nat → Nat → Int32
abbrev QT : Type := Option Value → ST → PT → IT → Prop
abbrev gB (g : GT) : Nat := g.2.2.2.1
abbrev gH (g : GT) : Heap := g.2.2.2.2.1
abbrev gK (g : GT) : Nat → Nat := g.2.2.2.2.2.1
abbrev gV (g : GT) : Nat → Nat := g.2.2.2.2.2.2
abbrev sN (S : ST) : Nat := S.1
abbrev sT (S : ST) : Nat → Nat := S.2.1
abbrev sL (S : ST) : Nat → Nat := S.2.2
def rv (n : Nat) : Value := match n with
  | 0 => .null
  | n + 1 => .ref n
def f_v (T : u_T) (P : PT) (I : IT) (a k : Nat) : Value := if is_r (T k).2.2.1 then rv (P a k) else .int (I a k)
def e_v (P : PT) (I : IT) (a j k : Nat) : Value := if j < 3 then .int (I a k) else rv (P a k)
def a_ty (j : Nat) : FieldType := match j with
  | 0 => .int
  | 1 => .byte
  | 2 => .boolean
  | 3 => .object RX1
  | 4 => .object RX3
  | _ => .object RX7
def rp_at (g : GT) (S : ST) (P : PT) (I : IT) (H : Heap) (a : Nat) : Prop :=
  (∀ (ci : Nat) (r : vw_C), sT S a = ci + 1 → vwCl[ci]? = some r → t_OB a (g.2.1.1 ci) r.2.2 (g.2.1.2 ci) H (f_v r.2.1 P I a)) ∧
  (∀ j : Nat, sT S a = 40 + j → H[a]? = some (arrV (g.2.2.1 j) (sL S a) (e_v P I a j)))
def Rep (g : GT) (S : ST) (P : PT) (I : IT) (H : Heap) : Prop :=
  H.size = sN S ∧ gB g ≤ sN S ∧ (∀ q : Nat, q < gB g → H[q]? = (gH g)[q]?) ∧ ∀ a : Nat, sT S a ≠ 0 → gB g ≤ a ∧ a < sN S ∧ rp_at g S P I H a
def nst : List (Nat × String × Nat × MethodName × String) := [(88, RX7, 11, yX5_init, "KilnVillage"), (105, RX7, 20, yX0_init, "KilnVillage"), (186, RX7, 70, yX1_init, "KilnVillage"), (228, RX7, 71, yX3_init, "KilnVillage"), (333, RX4, 11, yX0_init, "KilnVillage"), (595, RX2, 47, yX8_within, "KilnVillage"), (604, RX7, 94, yX8_within, "KilnVillage")]
def t_ix : List Nat := [67, 73, 75, 77, 79, 84, 86, 88, 90, 92, 94, 96]
def t_tx : List String := ["if", "and", "not", "bear", "part", "chamber", "spot", "shape", "glaze", "house", "wet", "ripe"]
def t_ln : List Nat := [2, 3, 3, 4, 4, 7, 4, 5, 5, 5, 3, 4]
def t_by : List (List Int32) := [[105, 102], [97, 110, 100], [110, 111, 116], [98, 101, 97, 114], [112, 97, 114, 116], [99, 104, 97, 109, 98, 101, 114], [115, 112, 111, 116], [115, 104, 97, 112, 101], [103, 108, 97, 122, 101], [104, 111, 117, 115, 101], [119, 101, 116], [114, 105, 112, 101]]
def Kn (g : GT) (s : State) : Prop := va_K g.2.1 vwCl [] s ∧ (∀ j : Nat, j < 6 → ArrOfT s (g.2.2.1 j) (a_ty j) ∧ va_RA s (g.2.2.1 j) (a_ty j)) ∧ (∀ q ∈ nst, va_Nw (.methodLinkNest q.2.1 q.2.2.1 q.2.2.2.1 q.2.2.2.2) s) ∧ (∀ C ∈ [RX1, RX3, RX7], va_AO C s) ∧ (∀ i : Nat, i < 12 → vk_R RX6 (t_ix.getD i 0) (t_tx.getD i "") (gK g i) s) ∧ vk_S 12 t_ln t_by (gK g) (gV g) (fun q => gB g ≤ q) s (gH g) ∧ va_Z "java/lang/String" "COMPACT_STRINGS" "Z" (.int 1) (fun q => gB g ≤ q) s (gH g)
theorem Kn.same {g : GT} {u U : State} (hvm : U.vm = u.vm) (h : Kn g u) : Kn g U := by
  have ha : u.vm.Alike U.vm := by rw [hvm]; exact Vm.Alike.refl _
  exact ⟨va_K.moved ha h.1, fun j hj => ⟨arrOfT_moved ha (h.2.1 j hj).1, (h.2.1 j hj).2.moved ha⟩, fun q hq => va_Nw.same rfl hvm.symm (h.2.2.1 q hq), fun C hC => (h.2.2.2.1 C hC).moved ha, fun i hi => (h.2.2.2.2.1 i hi).same hvm, vk_S.moved ha h.2.2.2.2.2.1, va_Z.moved ha h.2.2.2.2.2.2⟩
theorem Kn.warm {g : GT} {u U : State} (hW : u.WarmedH U.vm) (h : Kn g u) : Kn g U := by
  have ha : u.vm.Alike U.vm := hW.alike
  exact ⟨va_K.moved ha h.1, fun j hj => ⟨arrOfT_moved ha (h.2.1 j hj).1, (h.2.1 j hj).2.moved ha⟩, fun q hq => va_Nw.warmM hW (h.2.2.1 q hq), fun C hC => (h.2.2.2.1 C hC).moved ha, fun i hi => (h.2.2.2.2.1 i hi).warm hW, vk_S.moved ha h.2.2.2.2.2.1, va_Z.moved ha h.2.2.2.2.2.2⟩
def wsM (M : MT) : List Cond := Cond.code (mY M) (mC M) (mX M) (mR M) :: gws
def rmM (M : MT) (mc ms : Nat) : Room := { frames := mF M, cells := mc, slots := ms, locals := mL M }
/-- a method's triple -/
def T (g : GT) (M : MT) (mc ms : Nat) (as : List Value) (S : ST) (P : PT) (I : IT) (Q : QT) : Prop :=
  Met g.1 (mY M) (wsM M) (rmM M mc ms) (va_Pc as (fun U => Rep g S P I U.heap ∧ Kn g U)) (fun _ _ o t => ∃ (r : Option Value) (S' : ST) (P' : PT) (I' : IT), o = .returned r ∧ Rep g S' P' I' t.heap ∧ Q r S' P' I') mc ms (fun q => gB g ≤ q)
def Cx (g : GT) (M : MT) (p : Program) (R : Room) (s : State) (m : MethodId) (args : Array Value) (meth : Method) (c : Code) : Prop :=
  p.tables.exec = Jvm.exec ∧ c.code = mC M ∧ c.maxLocals = mX M ∧ meth.locks = false ∧ s.vm.findClass (mY M).cls = some m.cls ∧ (∀ w ∈ gws, w.before args s = true) ∧ Kn g s ∧ mF M ≤ R.frames ∧ mL M ≤ R.locals ∧ meth.name = (mY M).name
def rsh (M : MT) (op : Instr) (r : Option Value) : Prop :=
  (op = .ireturn ∧ ∃ (v : Int32) (ty : FieldType), r = some (.int v) ∧ mR M = some ty ∧ narrow ty (.int v) = .int v) ∨ (op = .return_ ∧ r = none ∧ mR M = none) ∨ (op = .lreturn ∧ ∃ v : Int64, r = some (.long v) ∧ mR M = some .long)
def RO (g : GT) (M : MT) (p : Program) (e : Env) (R : Room) (s : State) (m : MethodId) (args : Array Value) (below : List Frame) (meth : Method) (c : Code) (Q : QT) (Z : State → Prop) : Prop :=
  ∀ (H : Heap) (locs : List Loc) (cells slots : Nat) (r : Option Value) (S : ST) (P : PT) (I : IT) (pc : Nat) (ls : Array Slot) (op : Instr), Rep g S P I H → (∀ q ∈ locs, gB g ≤ q.base) → cells ≤ R.cells → slots ≤ R.slots → Q r S P I → decode (mC M) pc = .ok (op, 1) → rsh M op r →
    W p g.1 e R s m args below meth c H locs cells slots Z (F0 m pc ls r.toList)
/-- a body from a pc on -/
def B (g : GT) (M : MT) (rc rs pc : Nat) (lv : List (Nat × Value)) (st : List Value) (S : ST) (P : PT) (I : IT) (Q : QT) : Prop :=
  ∀ (p : Program) (e : Env) (R : Room) (s : State) (m : MethodId) (args : Array Value) (below : List Frame) (meth : Method) (c : Code) (Z : State → Prop), Cx g M p R s m args meth c → RO g M p e R s m args below meth c Q Z →
  ∀ (H : Heap) (locs : List Loc) (cells slots : Nat) (ls : Array Slot), cells + rc ≤ R.cells → slots + rs ≤ R.slots → Rep g S P I H → (∀ q ∈ locs, gB g ≤ q.base) → lv_has ls (mX M) lv → W p g.1 e R s m args below meth c H locs cells slots Z (F0 m pc ls st)
theorem RO.mono {g : GT} {M : MT} {p : Program} {e : Env} {R : Room} {s : State} {m : MethodId} {args : Array Value} {below : List Frame} {meth : Method} {c : Code} {Q Q' : QT} {Z : State → Prop} (h : RO g M p e R s m args below meth c Q Z) (k : ∀ r S P I, Q' r S P I → Q r S P I) : RO g M p e R s m args below meth c Q' Z :=
  fun H locs cells slots r S P I pc ls op h1 h2 h3 h4 h5 h6 h7 => h H locs cells slots r S P I pc ls op h1 h2 h3 h4 (k _ _ _ _ h5) h6 h7
theorem B.mono {g : GT} {M : MT} {rc rs pc : Nat} {lv : List (Nat × Value)} {st : List Value} {S : ST} {P : PT} {I : IT} {Q Q' : QT} (h : B g M rc rs pc lv st S P I Q) (k : ∀ r S P I, Q r S P I → Q' r S P I) : B g M rc rs pc lv st S P I Q' :=
  fun p e R s m args below meth c Z hC hR => h p e R s m args below meth c Z hC (hR.mono k)
theorem B.less {g : GT} {M : MT} {rc rs rc' rs' pc : Nat} {lv : List (Nat × Value)} {st : List Value} {S : ST} {P : PT} {I : IT} {Q : QT} (h : B g M rc' rs' pc lv st S P I Q) (h1 : rc' ≤ rc) (h2 : rs' ≤ rs) : B g M rc rs pc lv st S P I Q :=
  fun p e R s m args below meth c Z hC hR H locs cells slots ls g1 g2 g3 g4 g5 => h p e R s m args below meth c Z hC hR H locs cells slots ls (by omega) (by omega) g3 g4 g5
theorem T_of {g : GT} {M : MT} {mc ms : Nat} {as : List Value} {S : ST} {P : PT} {I : IT} {Q : QT} (hy : plainName (mY M).cls = true) (hlen : (lg_sl as).length ≤ mX M) (K : B g M mc ms 0 (lv_args 0 as) [] S P I Q) : T g M mc ms as S P I Q := by
  refine Met.ofW (cc := mC M) (maxL := mX M) (ret := mR M) hy rfl ?_
  intro p e s m args below meth c s₁ Bd hml hv
  obtain ⟨rfl, hRp, hKn⟩ := hv
  have hts := atoms_spec (ws := wsM M) Bd.pre
  have hl := lv_entry as (n := mX M) hlen
  rw [lg_entry_eq]
  refine K p e _ s m _ below meth c _ ⟨Bd.exec, Bd.bytes, hml, Bd.notSynchronized, findClass_of_methodNamed Bd.named, fun w hw => hts w (List.mem_cons_of_mem _ hw), hKn, Nat.le_refl _, Nat.le_refl _, (name_of_methodNamed Bd.named Bd.method).1⟩ ?_ _ _ _ _ _ (by show 0 + mc ≤ mc; omega) (by show 0 + ms ≤ ms; omega) hRp (fun q h => by cases h) hl
  intro H locs cells slots r S2 P2 I2 pc ls op h1 h2 h3 h4 h5 h6 h7
  refine W.widen (k := mc) (n := ms) h3 h4 ?_
  have hr := Bd.returns
  have hlocks := Bd.notSynchronized
  rcases h7 with ⟨rfl, v, ty, rfl, e2, e3⟩ | ⟨rfl, rfl, e2⟩ | ⟨rfl, v, rfl, e2⟩
  · exact W.zret Bd.exec Bd.bytes (hr.trans e2) e3 (fun t ht hW => ⟨_, S2, P2, I2, rfl, by rw [ht]; exact h1, h5⟩) h2 h6
  · exact W.vret Bd.exec Bd.bytes (hr.trans e2) (fun t ht hW => ⟨_, S2, P2, I2, rfl, by rw [ht]; exact h1, h5⟩) h2 h6
  · exact W.lret Bd.exec Bd.bytes (hr.trans e2) (fun t ht hW => ⟨_, S2, P2, I2, rfl, by rw [ht]; exact h1, h5⟩) h2 h6
end
section
section RULES
variable {g : GT} {M : MT} {rc rs pc : Nat} {lv : List (Nat × Value)} {st : List Value} {S : ST} {P : PT} {I : IT} {Q : QT}
def lins (q : Nat × Value) : List (Nat × Value) → List (Nat × Value)
  | [] => [q]
  | r :: t => if q.1 < r.1 then q :: r :: t else r :: lins q t
theorem lins_mem {q z : Nat × Value} : ∀ {l : List (Nat × Value)}, z ∈ lins q l → z = q ∨ z ∈ l
  | [], h => Or.inl (List.mem_singleton.mp h)
  | r :: t, h => by
    unfold lins at h
    split at h
    · exact List.mem_cons.mp h
    · rcases List.mem_cons.mp h with h | h
      · exact Or.inr (List.mem_cons.mpr (Or.inl h))
      · exact (lins_mem h).imp id (List.mem_cons_of_mem _)
def lset (lv : List (Nat × Value)) (i : Nat) (v : Value) : List (Nat × Value) := lins (i, v) (lv.filter (fun q => !(q.1 == i) && !(q.1 + 1 == i && q.2.category == 2)))
def lset2 (lv : List (Nat × Value)) (i : Nat) (v : Value) : List (Nat × Value) := lins (i, v) (lv.filter (fun q => !(q.1 == i) && (!(q.1 == i + 1) && !(q.1 + 1 == i && q.2.category == 2))))
theorem lset_has {ls : Array Slot} {n i : Nat} {v : Value} (h : lv_has ls n ((i, v) :: lv.filter (fun q => !(q.1 == i) && !(q.1 + 1 == i && q.2.category == 2)))) : lv_has ls n (lset lv i v) :=
  ⟨h.1, h.2.1, fun q hq => h.2.2 q (List.mem_cons.mpr (lins_mem hq))⟩
theorem lset2_has {ls : Array Slot} {n i : Nat} {v : Value} (h : lv_has ls n ((i, v) :: lv.filter (fun q => !(q.1 == i) && (!(q.1 == i + 1) && !(q.1 + 1 == i && q.2.category == 2))))) : lv_has ls n (lset2 lv i v) :=
  ⟨h.1, h.2.1, fun q hq => h.2.2 q (List.mem_cons.mpr (lins_mem hq))⟩
theorem B.lvs (lv' : List (Nat × Value)) (ks : List Nat) (hk : lv_pick lv ks = lv') (K : B g M rc rs pc lv' st S P I Q) : B g M rc rs pc lv st S P I Q := by
  intro p e R s m args below meth c Z hC hR H locs cells slots ls h1 h2 h3 h4 hl
  exact K p e R s m args below meth c Z hC hR H locs cells slots ls h1 h2 h3 h4 (lv_sub hl ks hk)
theorem B.iload_n {n : Fin 4} {i : Nat} {x : Int32} (k : Nat) (hd : decode (mC M) pc = .ok (.iload_n n, 1)) (hi : (n : Nat) = i) (hk : lv[k]? = some (i, .int x)) (K : B g M rc rs (pc + 1) lv (.int x :: st) S P I Q) : B g M rc rs pc lv st S P I Q := by
  intro p e R s m args below meth c Z hC hR H locs cells slots ls h1 h2 h3 h4 hl
  exact lv_iload_n hC.1 hC.2.1 hd hi (lv_at hl k hk) (K p e R s m args below meth c Z hC hR H locs cells slots ls h1 h2 h3 h4 hl)
theorem B.aload_n {n : Fin 4} {i : Nat} {x : Nat} (k : Nat) (hd : decode (mC M) pc = .ok (.aload_n n, 1)) (hi : (n : Nat) = i) (hk : lv[k]? = some (i, .ref x)) (K : B g M rc rs (pc + 1) lv (.ref x :: st) S P I Q) : B g M rc rs pc lv st S P I Q := by
  intro p e R s m args below meth c Z hC hR H locs cells slots ls h1 h2 h3 h4 hl
  exact lv_aload_n hC.1 hC.2.1 hd hi (lv_at hl k hk) (K p e R s m args below meth c Z hC hR H locs cells slots ls h1 h2 h3 h4 hl)
theorem B.lload_n {n : Fin 4} {i : Nat} {x : Int64} (k : Nat) (hd : decode (mC M) pc = .ok (.lload_n n, 1)) (hi : (n : Nat) = i) (hk : lv[k]? = some (i, .long x)) (K : B g M rc rs (pc + 1) lv (.long x :: st) S P I Q) : B g M rc rs pc lv st S P I Q := by
  intro p e R s m args below meth c Z hC hR H locs cells slots ls h1 h2 h3 h4 hl
  exact lv_lload_n hC.1 hC.2.1 hd hi (lv_at hl k hk) (K p e R s m args below meth c Z hC hR H locs cells slots ls h1 h2 h3 h4 hl)
theorem B.iload {i : Nat} {x : Int32} (k : Nat) (hd : decode (mC M) pc = .ok (.iload i, 2)) (hk : lv[k]? = some (i, .int x)) (K : B g M rc rs (pc + 2) lv (.int x :: st) S P I Q) : B g M rc rs pc lv st S P I Q := by
  intro p e R s m args below meth c Z hC hR H locs cells slots ls h1 h2 h3 h4 hl
  exact lv_iload hC.1 hC.2.1 hd (lv_at hl k hk) (K p e R s m args below meth c Z hC hR H locs cells slots ls h1 h2 h3 h4 hl)
theorem B.aload {i : Nat} {x : Nat} (k : Nat) (hd : decode (mC M) pc = .ok (.aload i, 2)) (hk : lv[k]? = some (i, .ref x)) (K : B g M rc rs (pc + 2) lv (.ref x :: st) S P I Q) : B g M rc rs pc lv st S P I Q := by
  intro p e R s m args below meth c Z hC hR H locs cells slots ls h1 h2 h3 h4 hl
  exact lv_aload hC.1 hC.2.1 hd (lv_at hl k hk) (K p e R s m args below meth c Z hC hR H locs cells slots ls h1 h2 h3 h4 hl)
theorem B.istore_n {n : Fin 4} {i : Nat} {x : Int32} {lv' : List (Nat × Value)} (hd : decode (mC M) pc = .ok (.istore_n n, 1)) (hi : (n : Nat) = i) (hn : i < mX M) (hl' : lset lv i (.int x) = lv') (K : B g M rc rs (pc + 1) lv' st S P I Q) : B g M rc rs pc lv (.int x :: st) S P I Q := by
  subst hl'
  intro p e R s m args below meth c Z hC hR H locs cells slots ls h1 h2 h3 h4 hl
  exact lv_istore_n hC.1 hC.2.1 hd hi hl hn rfl (fun ls hl => K p e R s m args below meth c Z hC hR H locs cells slots ls h1 h2 h3 h4 (lset_has hl))
theorem B.astore_n {n : Fin 4} {i : Nat} {x : Nat} {lv' : List (Nat × Value)} (hd : decode (mC M) pc = .ok (.astore_n n, 1)) (hi : (n : Nat) = i) (hn : i < mX M) (hl' : lset lv i (.ref x) = lv') (K : B g M rc rs (pc + 1) lv' st S P I Q) : B g M rc rs pc lv (.ref x :: st) S P I Q := by
  subst hl'
  intro p e R s m args below meth c Z hC hR H locs cells slots ls h1 h2 h3 h4 hl
  exact lv_astore_n hC.1 hC.2.1 hd hi hl hn rfl (fun ls hl => K p e R s m args below meth c Z hC hR H locs cells slots ls h1 h2 h3 h4 (lset_has hl))
theorem B.lstore_n {n : Fin 4} {i : Nat} {x : Int64} {lv' : List (Nat × Value)} (hd : decode (mC M) pc = .ok (.lstore_n n, 1)) (hi : (n : Nat) = i) (hn : i + 1 < mX M) (hl' : lset2 lv i (.long x) = lv') (K : B g M rc rs (pc + 1) lv' st S P I Q) : B g M rc rs pc lv (.long x :: st) S P I Q := by
  subst hl'
  intro p e R s m args below meth c Z hC hR H locs cells slots ls h1 h2 h3 h4 hl
  exact lv_lstore_n hC.1 hC.2.1 hd hi hl hn rfl (fun ls hl => K p e R s m args below meth c Z hC hR H locs cells slots ls h1 h2 h3 h4 (lset2_has hl))
theorem B.istore {i : Nat} {x : Int32} {lv' : List (Nat × Value)} (hd : decode (mC M) pc = .ok (.istore i, 2)) (hn : i < mX M) (hl' : lset lv i (.int x) = lv') (K : B g M rc rs (pc + 2) lv' st S P I Q) : B g M rc rs pc lv (.int x :: st) S P I Q := by
  subst hl'
  intro p e R s m args below meth c Z hC hR H locs cells slots ls h1 h2 h3 h4 hl
  exact lv_istore hC.1 hC.2.1 hd hl hn rfl (fun ls hl => K p e R s m args below meth c Z hC hR H locs cells slots ls h1 h2 h3 h4 (lset_has hl))
theorem B.astore {i : Nat} {x : Nat} {lv' : List (Nat × Value)} (hd : decode (mC M) pc = .ok (.astore i, 2)) (hn : i < mX M) (hl' : lset lv i (.ref x) = lv') (K : B g M rc rs (pc + 2) lv' st S P I Q) : B g M rc rs pc lv (.ref x :: st) S P I Q := by
  subst hl'
  intro p e R s m args below meth c Z hC hR H locs cells slots ls h1 h2 h3 h4 hl
  exact lv_astore hC.1 hC.2.1 hd hl hn rfl (fun ls hl => K p e R s m args below meth c Z hC hR H locs cells slots ls h1 h2 h3 h4 (lset_has hl))
theorem B.iinc {i : Nat} {n : Int} {x : Int32} {lv' : List (Nat × Value)} (k : Nat) (v : Int32) (hd : decode (mC M) pc = .ok (.iinc i n, 3)) (hk : lv[k]? = some (i, .int x)) (hv : x + Int32.ofInt n = v) (hn : i < mX M) (hl' : lset lv i (.int v) = lv') (K : B g M rc rs (pc + 3) lv' st S P I Q) : B g M rc rs pc lv st S P I Q := by
  subst hl'
  intro p e R s m args below meth c Z hC hR H locs cells slots ls h1 h2 h3 h4 hl
  exact lv_iinc hC.1 hC.2.1 hd hl hk hv hn rfl (fun ls hl => K p e R s m args below meth c Z hC hR H locs cells slots ls h1 h2 h3 h4 (lset_has hl))
theorem B.iconst {n : Int} (v : Int32) (hd : decode (mC M) pc = .ok (.iconst n, 1)) (hv : Int32.ofInt n = v) (K : B g M rc rs (pc + 1) lv (.int v :: st) S P I Q) : B g M rc rs pc lv st S P I Q := by
  intro p e R s m args below meth c Z hC hR H locs cells slots ls h1 h2 h3 h4 hl
  exact lv_iconst hC.1 hC.2.1 hd hv (K p e R s m args below meth c Z hC hR H locs cells slots ls h1 h2 h3 h4 hl)
theorem B.bipush {n : Int} (v : Int32) (hd : decode (mC M) pc = .ok (.bipush n, 2)) (hv : (Int8.ofInt n).toInt32 = v) (K : B g M rc rs (pc + 2) lv (.int v :: st) S P I Q) : B g M rc rs pc lv st S P I Q := by
  intro p e R s m args below meth c Z hC hR H locs cells slots ls h1 h2 h3 h4 hl
  exact lv_bipush hC.1 hC.2.1 hd hv (K p e R s m args below meth c Z hC hR H locs cells slots ls h1 h2 h3 h4 hl)
theorem B.sipush {n : Int} (v : Int32) (hd : decode (mC M) pc = .ok (.sipush n, 3)) (hv : (Int16.ofInt n).toInt32 = v) (K : B g M rc rs (pc + 3) lv (.int v :: st) S P I Q) : B g M rc rs pc lv st S P I Q := by
  intro p e R s m args below meth c Z hC hR H locs cells slots ls h1 h2 h3 h4 hl
  exact lv_sipush hC.1 hC.2.1 hd hv (K p e R s m args below meth c Z hC hR H locs cells slots ls h1 h2 h3 h4 hl)
theorem B.iadd {x y : Int32} (hd : decode (mC M) pc = .ok (.iadd, 1)) (K : B g M rc rs (pc + 1) lv (.int (x + y) :: st) S P I Q) : B g M rc rs pc lv (.int y :: .int x :: st) S P I Q := by
  intro p e R s m args below meth c Z hC hR H locs cells slots ls h1 h2 h3 h4 hl
  exact lv_iadd hC.1 hC.2.1 hd (K p e R s m args below meth c Z hC hR H locs cells slots ls h1 h2 h3 h4 hl)
theorem B.isub {x y : Int32} (hd : decode (mC M) pc = .ok (.isub, 1)) (K : B g M rc rs (pc + 1) lv (.int (x - y) :: st) S P I Q) : B g M rc rs pc lv (.int y :: .int x :: st) S P I Q := by
  intro p e R s m args below meth c Z hC hR H locs cells slots ls h1 h2 h3 h4 hl
  exact lv_isub hC.1 hC.2.1 hd (K p e R s m args below meth c Z hC hR H locs cells slots ls h1 h2 h3 h4 hl)
theorem B.imul {x y : Int32} (hd : decode (mC M) pc = .ok (.imul, 1)) (K : B g M rc rs (pc + 1) lv (.int (x * y) :: st) S P I Q) : B g M rc rs pc lv (.int y :: .int x :: st) S P I Q := by
  intro p e R s m args below meth c Z hC hR H locs cells slots ls h1 h2 h3 h4 hl
  exact lv_imul hC.1 hC.2.1 hd (K p e R s m args below meth c Z hC hR H locs cells slots ls h1 h2 h3 h4 hl)
theorem B.iand {x y : Int32} (hd : decode (mC M) pc = .ok (.iand, 1)) (K : B g M rc rs (pc + 1) lv (.int (x &&& y) :: st) S P I Q) : B g M rc rs pc lv (.int y :: .int x :: st) S P I Q := by
  intro p e R s m args below meth c Z hC hR H locs cells slots ls h1 h2 h3 h4 hl
  exact lv_iand hC.1 hC.2.1 hd (K p e R s m args below meth c Z hC hR H locs cells slots ls h1 h2 h3 h4 hl)
theorem B.ishl {x y : Int32} (hd : decode (mC M) pc = .ok (.ishl, 1)) (K : B g M rc rs (pc + 1) lv (.int (x <<< (y &&& 31)) :: st) S P I Q) : B g M rc rs pc lv (.int y :: .int x :: st) S P I Q := by
  intro p e R s m args below meth c Z hC hR H locs cells slots ls h1 h2 h3 h4 hl
  exact lv_ishl hC.1 hC.2.1 hd (K p e R s m args below meth c Z hC hR H locs cells slots ls h1 h2 h3 h4 hl)
theorem B.ishr {x y : Int32} (hd : decode (mC M) pc = .ok (.ishr, 1)) (K : B g M rc rs (pc + 1) lv (.int (x >>> (y &&& 31)) :: st) S P I Q) : B g M rc rs pc lv (.int y :: .int x :: st) S P I Q := by
  intro p e R s m args below meth c Z hC hR H locs cells slots ls h1 h2 h3 h4 hl
  exact lv_ishr hC.1 hC.2.1 hd (K p e R s m args below meth c Z hC hR H locs cells slots ls h1 h2 h3 h4 hl)
theorem B.ladd {x y : Int64} (hd : decode (mC M) pc = .ok (.ladd, 1)) (K : B g M rc rs (pc + 1) lv (.long (x + y) :: st) S P I Q) : B g M rc rs pc lv (.long y :: .long x :: st) S P I Q := by
  intro p e R s m args below meth c Z hC hR H locs cells slots ls h1 h2 h3 h4 hl
  exact lv_ladd hC.1 hC.2.1 hd (K p e R s m args below meth c Z hC hR H locs cells slots ls h1 h2 h3 h4 hl)
theorem B.lsub {x y : Int64} (hd : decode (mC M) pc = .ok (.lsub, 1)) (K : B g M rc rs (pc + 1) lv (.long (x - y) :: st) S P I Q) : B g M rc rs pc lv (.long y :: .long x :: st) S P I Q := by
  intro p e R s m args below meth c Z hC hR H locs cells slots ls h1 h2 h3 h4 hl
  exact lv_lsub hC.1 hC.2.1 hd (K p e R s m args below meth c Z hC hR H locs cells slots ls h1 h2 h3 h4 hl)
theorem B.lmul {x y : Int64} (hd : decode (mC M) pc = .ok (.lmul, 1)) (K : B g M rc rs (pc + 1) lv (.long (x * y) :: st) S P I Q) : B g M rc rs pc lv (.long y :: .long x :: st) S P I Q := by
  intro p e R s m args below meth c Z hC hR H locs cells slots ls h1 h2 h3 h4 hl
  exact lv_lmul hC.1 hC.2.1 hd (K p e R s m args below meth c Z hC hR H locs cells slots ls h1 h2 h3 h4 hl)
theorem B.idiv {x y : Int32} (hd : decode (mC M) pc = .ok (.idiv, 1)) (hne : ¬ y = 0) (K : B g M rc rs (pc + 1) lv (.int (x / y) :: st) S P I Q) : B g M rc rs pc lv (.int y :: .int x :: st) S P I Q := by
  intro p e R s m args below meth c Z hC hR H locs cells slots ls h1 h2 h3 h4 hl
  exact lv_idiv hC.1 hC.2.1 hd hne (K p e R s m args below meth c Z hC hR H locs cells slots ls h1 h2 h3 h4 hl)
theorem B.irem {x y : Int32} (hd : decode (mC M) pc = .ok (.irem, 1)) (hne : ¬ y = 0) (K : B g M rc rs (pc + 1) lv (.int (x - x / y * y) :: st) S P I Q) : B g M rc rs pc lv (.int y :: .int x :: st) S P I Q := by
  intro p e R s m args below meth c Z hC hR H locs cells slots ls h1 h2 h3 h4 hl
  exact lv_irem hC.1 hC.2.1 hd hne (K p e R s m args below meth c Z hC hR H locs cells slots ls h1 h2 h3 h4 hl)
theorem B.ineg {x : Int32} (hd : decode (mC M) pc = .ok (.ineg, 1)) (K : B g M rc rs (pc + 1) lv (.int (-x) :: st) S P I Q) : B g M rc rs pc lv (.int x :: st) S P I Q := by
  intro p e R s m args below meth c Z hC hR H locs cells slots ls h1 h2 h3 h4 hl
  exact lv_ineg hC.1 hC.2.1 hd (K p e R s m args below meth c Z hC hR H locs cells slots ls h1 h2 h3 h4 hl)
theorem B.iushr {x y : Int32} (hd : decode (mC M) pc = .ok (.iushr, 1)) (K : B g M rc rs (pc + 1) lv (.int ((x.toUInt32 >>> (y.toUInt32 &&& Int32.toUInt32 31)).toInt32) :: st) S P I Q) : B g M rc rs pc lv (.int y :: .int x :: st) S P I Q := by
  intro p e R s m args below meth c Z hC hR H locs cells slots ls h1 h2 h3 h4 hl
  exact lv_iushr hC.1 hC.2.1 hd rfl (K p e R s m args below meth c Z hC hR H locs cells slots ls h1 h2 h3 h4 hl)
theorem B.i2l {x : Int32} (hd : decode (mC M) pc = .ok (.i2l, 1)) (K : B g M rc rs (pc + 1) lv (.long x.toInt64 :: st) S P I Q) : B g M rc rs pc lv (.int x :: st) S P I Q := by
  intro p e R s m args below meth c Z hC hR H locs cells slots ls h1 h2 h3 h4 hl
  exact lv_i2l hC.1 hC.2.1 hd rfl (K p e R s m args below meth c Z hC hR H locs cells slots ls h1 h2 h3 h4 hl)
theorem B.i2b {x : Int32} (hd : decode (mC M) pc = .ok (.i2b, 1)) (K : B g M rc rs (pc + 1) lv (.int x.toInt8.toInt32 :: st) S P I Q) : B g M rc rs pc lv (.int x :: st) S P I Q := by
  intro p e R s m args below meth c Z hC hR H locs cells slots ls h1 h2 h3 h4 hl
  exact lv_i2b hC.1 hC.2.1 hd rfl (K p e R s m args below meth c Z hC hR H locs cells slots ls h1 h2 h3 h4 hl)
theorem B.lcmp {x y : Int64} (hd : decode (mC M) pc = .ok (.lcmp, 1)) (K : B g M rc rs (pc + 1) lv (.int (lg_cmp x y) :: st) S P I Q) : B g M rc rs pc lv (.long y :: .long x :: st) S P I Q := by
  intro p e R s m args below meth c Z hC hR H locs cells slots ls h1 h2 h3 h4 hl
  exact W.lcmp hC.1 hC.2.1 hd (K p e R s m args below meth c Z hC hR H locs cells slots ls h1 h2 h3 h4 hl)
theorem B.lconst {n : Fin 2} (v : Int64) (hd : decode (mC M) pc = .ok (.lconst n, 1)) (hv : Int64.ofNat n = v) (K : B g M rc rs (pc + 1) lv (.long v :: st) S P I Q) : B g M rc rs pc lv st S P I Q := by
  intro p e R s m args below meth c Z hC hR H locs cells slots ls h1 h2 h3 h4 hl
  exact lv_lconst hC.1 hC.2.1 hd hv (K p e R s m args below meth c Z hC hR H locs cells slots ls h1 h2 h3 h4 hl)
theorem B.ldc {ix : Nat} (v : Int32) (hd : decode (mC M) pc = .ok (.ldc ix, 2)) (hw : Cond.constant (mY M).cls ix v ∈ gws) (K : B g M rc rs (pc + 2) lv (.int v :: st) S P I Q) : B g M rc rs pc lv st S P I Q := by
  intro p e R s m args below meth c Z hC hR H locs cells slots ls h1 h2 h3 h4 hl
  exact lv_ldc hC.1 hC.2.1 hC.2.2.2.2.1 (hC.2.2.2.2.2.1 _ hw) hd (K p e R s m args below meth c Z hC hR H locs cells slots ls h1 h2 h3 h4 hl)
theorem B.ldc2 {ix : Nat} (v : Int64) (hd : decode (mC M) pc = .ok (.ldc2_w ix, 3)) (hw : Cond.constantLong (mY M).cls ix v ∈ gws) (K : B g M rc rs (pc + 3) lv (.long v :: st) S P I Q) : B g M rc rs pc lv st S P I Q := by
  intro p e R s m args below meth c Z hC hR H locs cells slots ls h1 h2 h3 h4 hl
  exact W.ldc2 hC.1 hC.2.1 hC.2.2.2.2.1 (hC.2.2.2.2.2.1 _ hw) rfl hd (K p e R s m args below meth c Z hC hR H locs cells slots ls h1 h2 h3 h4 hl)
theorem B.dup {va : Value} (hd : decode (mC M) pc = .ok (.dup, 1)) (hva : va.category = 1) (K : B g M rc rs (pc + 1) lv (va :: va :: st) S P I Q) : B g M rc rs pc lv (va :: st) S P I Q := by
  intro p e R s m args below meth c Z hC hR H locs cells slots ls h1 h2 h3 h4 hl
  exact lv_dup hC.1 hC.2.1 hd hva (K p e R s m args below meth c Z hC hR H locs cells slots ls h1 h2 h3 h4 hl)
theorem B.dup2 {va vb : Value} (hd : decode (mC M) pc = .ok (.dup2, 1)) (hva : va.category = 1) (hvb : vb.category = 1) (K : B g M rc rs (pc + 1) lv (va :: vb :: va :: vb :: st) S P I Q) : B g M rc rs pc lv (va :: vb :: st) S P I Q := by
  intro p e R s m args below meth c Z hC hR H locs cells slots ls h1 h2 h3 h4 hl
  exact lv_dup2_11 hC.1 hC.2.1 hd hva hvb (K p e R s m args below meth c Z hC hR H locs cells slots ls h1 h2 h3 h4 hl)
theorem B.if_eq {x : Int32} {off : Int} (tgt : Nat) (hd : decode (mC M) pc = .ok (.ifCond .eq off, 3)) (ht : (pc : Int) + off = (tgt : Int)) (KT : x = 0 → B g M rc rs tgt lv st S P I Q) (KF : ¬ (x = 0) → B g M rc rs (pc + 3) lv st S P I Q) : B g M rc rs pc lv (.int x :: st) S P I Q := by
  intro p e R s m args below meth c Z hC hR H locs cells slots ls h1 h2 h3 h4 hl
  exact lv_if_eq hC.1 hC.2.1 hd ht (fun q => KT q p e R s m args below meth c Z hC hR H locs cells slots ls h1 h2 h3 h4 hl) (fun q => KF q p e R s m args below meth c Z hC hR H locs cells slots ls h1 h2 h3 h4 hl)
theorem B.icmp_eq {x y : Int32} {off : Int} (tgt : Nat) (hd : decode (mC M) pc = .ok (.if_icmp .eq off, 3)) (ht : (pc : Int) + off = (tgt : Int)) (KT : x = y → B g M rc rs tgt lv st S P I Q) (KF : ¬ (x = y) → B g M rc rs (pc + 3) lv st S P I Q) : B g M rc rs pc lv (.int y :: .int x :: st) S P I Q := by
  intro p e R s m args below meth c Z hC hR H locs cells slots ls h1 h2 h3 h4 hl
  exact lv_icmp_eq hC.1 hC.2.1 hd ht (fun q => KT q p e R s m args below meth c Z hC hR H locs cells slots ls h1 h2 h3 h4 hl) (fun q => KF q p e R s m args below meth c Z hC hR H locs cells slots ls h1 h2 h3 h4 hl)
theorem B.if_ne {x : Int32} {off : Int} (tgt : Nat) (hd : decode (mC M) pc = .ok (.ifCond .ne off, 3)) (ht : (pc : Int) + off = (tgt : Int)) (KT : ¬ x = 0 → B g M rc rs tgt lv st S P I Q) (KF : x = 0 → B g M rc rs (pc + 3) lv st S P I Q) : B g M rc rs pc lv (.int x :: st) S P I Q := by
  intro p e R s m args below meth c Z hC hR H locs cells slots ls h1 h2 h3 h4 hl
  exact lv_if_ne hC.1 hC.2.1 hd ht (fun q => KT q p e R s m args below meth c Z hC hR H locs cells slots ls h1 h2 h3 h4 hl) (fun q => KF q p e R s m args below meth c Z hC hR H locs cells slots ls h1 h2 h3 h4 hl)
theorem B.icmp_ne {x y : Int32} {off : Int} (tgt : Nat) (hd : decode (mC M) pc = .ok (.if_icmp .ne off, 3)) (ht : (pc : Int) + off = (tgt : Int)) (KT : ¬ x = y → B g M rc rs tgt lv st S P I Q) (KF : x = y → B g M rc rs (pc + 3) lv st S P I Q) : B g M rc rs pc lv (.int y :: .int x :: st) S P I Q := by
  intro p e R s m args below meth c Z hC hR H locs cells slots ls h1 h2 h3 h4 hl
  exact lv_icmp_ne hC.1 hC.2.1 hd ht (fun q => KT q p e R s m args below meth c Z hC hR H locs cells slots ls h1 h2 h3 h4 hl) (fun q => KF q p e R s m args below meth c Z hC hR H locs cells slots ls h1 h2 h3 h4 hl)
theorem B.if_lt {x : Int32} {off : Int} (tgt : Nat) (hd : decode (mC M) pc = .ok (.ifCond .lt off, 3)) (ht : (pc : Int) + off = (tgt : Int)) (KT : x < 0 → B g M rc rs tgt lv st S P I Q) (KF : ¬ (x < 0) → B g M rc rs (pc + 3) lv st S P I Q) : B g M rc rs pc lv (.int x :: st) S P I Q := by
  intro p e R s m args below meth c Z hC hR H locs cells slots ls h1 h2 h3 h4 hl
  exact lv_if_lt hC.1 hC.2.1 hd ht (fun q => KT q p e R s m args below meth c Z hC hR H locs cells slots ls h1 h2 h3 h4 hl) (fun q => KF q p e R s m args below meth c Z hC hR H locs cells slots ls h1 h2 h3 h4 hl)
theorem B.icmp_lt {x y : Int32} {off : Int} (tgt : Nat) (hd : decode (mC M) pc = .ok (.if_icmp .lt off, 3)) (ht : (pc : Int) + off = (tgt : Int)) (KT : x < y → B g M rc rs tgt lv st S P I Q) (KF : ¬ (x < y) → B g M rc rs (pc + 3) lv st S P I Q) : B g M rc rs pc lv (.int y :: .int x :: st) S P I Q := by
  intro p e R s m args below meth c Z hC hR H locs cells slots ls h1 h2 h3 h4 hl
  exact lv_icmp_lt hC.1 hC.2.1 hd ht (fun q => KT q p e R s m args below meth c Z hC hR H locs cells slots ls h1 h2 h3 h4 hl) (fun q => KF q p e R s m args below meth c Z hC hR H locs cells slots ls h1 h2 h3 h4 hl)
theorem B.if_ge {x : Int32} {off : Int} (tgt : Nat) (hd : decode (mC M) pc = .ok (.ifCond .ge off, 3)) (ht : (pc : Int) + off = (tgt : Int)) (KT : 0 ≤ x → B g M rc rs tgt lv st S P I Q) (KF : ¬ (0 ≤ x) → B g M rc rs (pc + 3) lv st S P I Q) : B g M rc rs pc lv (.int x :: st) S P I Q := by
  intro p e R s m args below meth c Z hC hR H locs cells slots ls h1 h2 h3 h4 hl
  exact lv_if_ge hC.1 hC.2.1 hd ht (fun q => KT q p e R s m args below meth c Z hC hR H locs cells slots ls h1 h2 h3 h4 hl) (fun q => KF q p e R s m args below meth c Z hC hR H locs cells slots ls h1 h2 h3 h4 hl)
theorem B.icmp_ge {x y : Int32} {off : Int} (tgt : Nat) (hd : decode (mC M) pc = .ok (.if_icmp .ge off, 3)) (ht : (pc : Int) + off = (tgt : Int)) (KT : y ≤ x → B g M rc rs tgt lv st S P I Q) (KF : ¬ (y ≤ x) → B g M rc rs (pc + 3) lv st S P I Q) : B g M rc rs pc lv (.int y :: .int x :: st) S P I Q := by
  intro p e R s m args below meth c Z hC hR H locs cells slots ls h1 h2 h3 h4 hl
  exact lv_icmp_ge hC.1 hC.2.1 hd ht (fun q => KT q p e R s m args below meth c Z hC hR H locs cells slots ls h1 h2 h3 h4 hl) (fun q => KF q p e R s m args below meth c Z hC hR H locs cells slots ls h1 h2 h3 h4 hl)
theorem B.if_gt {x : Int32} {off : Int} (tgt : Nat) (hd : decode (mC M) pc = .ok (.ifCond .gt off, 3)) (ht : (pc : Int) + off = (tgt : Int)) (KT : 0 < x → B g M rc rs tgt lv st S P I Q) (KF : ¬ (0 < x) → B g M rc rs (pc + 3) lv st S P I Q) : B g M rc rs pc lv (.int x :: st) S P I Q := by
  intro p e R s m args below meth c Z hC hR H locs cells slots ls h1 h2 h3 h4 hl
  exact lv_if_gt hC.1 hC.2.1 hd ht (fun q => KT q p e R s m args below meth c Z hC hR H locs cells slots ls h1 h2 h3 h4 hl) (fun q => KF q p e R s m args below meth c Z hC hR H locs cells slots ls h1 h2 h3 h4 hl)
theorem B.icmp_gt {x y : Int32} {off : Int} (tgt : Nat) (hd : decode (mC M) pc = .ok (.if_icmp .gt off, 3)) (ht : (pc : Int) + off = (tgt : Int)) (KT : y < x → B g M rc rs tgt lv st S P I Q) (KF : ¬ (y < x) → B g M rc rs (pc + 3) lv st S P I Q) : B g M rc rs pc lv (.int y :: .int x :: st) S P I Q := by
  intro p e R s m args below meth c Z hC hR H locs cells slots ls h1 h2 h3 h4 hl
  exact lv_icmp_gt hC.1 hC.2.1 hd ht (fun q => KT q p e R s m args below meth c Z hC hR H locs cells slots ls h1 h2 h3 h4 hl) (fun q => KF q p e R s m args below meth c Z hC hR H locs cells slots ls h1 h2 h3 h4 hl)
theorem B.if_le {x : Int32} {off : Int} (tgt : Nat) (hd : decode (mC M) pc = .ok (.ifCond .le off, 3)) (ht : (pc : Int) + off = (tgt : Int)) (KT : x ≤ 0 → B g M rc rs tgt lv st S P I Q) (KF : ¬ (x ≤ 0) → B g M rc rs (pc + 3) lv st S P I Q) : B g M rc rs pc lv (.int x :: st) S P I Q := by
  intro p e R s m args below meth c Z hC hR H locs cells slots ls h1 h2 h3 h4 hl
  exact lv_if_le hC.1 hC.2.1 hd ht (fun q => KT q p e R s m args below meth c Z hC hR H locs cells slots ls h1 h2 h3 h4 hl) (fun q => KF q p e R s m args below meth c Z hC hR H locs cells slots ls h1 h2 h3 h4 hl)
theorem B.icmp_le {x y : Int32} {off : Int} (tgt : Nat) (hd : decode (mC M) pc = .ok (.if_icmp .le off, 3)) (ht : (pc : Int) + off = (tgt : Int)) (KT : x ≤ y → B g M rc rs tgt lv st S P I Q) (KF : ¬ (x ≤ y) → B g M rc rs (pc + 3) lv st S P I Q) : B g M rc rs pc lv (.int y :: .int x :: st) S P I Q := by
  intro p e R s m args below meth c Z hC hR H locs cells slots ls h1 h2 h3 h4 hl
  exact lv_icmp_le hC.1 hC.2.1 hd ht (fun q => KT q p e R s m args below meth c Z hC hR H locs cells slots ls h1 h2 h3 h4 hl) (fun q => KF q p e R s m args below meth c Z hC hR H locs cells slots ls h1 h2 h3 h4 hl)
theorem B.goto_ {off : Int} (tgt : Nat) (hd : decode (mC M) pc = .ok (.goto off, 3)) (ht : (pc : Int) + off = (tgt : Int)) (K : B g M rc rs tgt lv st S P I Q) : B g M rc rs pc lv st S P I Q := by
  intro p e R s m args below meth c Z hC hR H locs cells slots ls h1 h2 h3 h4 hl
  exact lv_goto hC.1 hC.2.1 hd ht (K p e R s m args below meth c Z hC hR H locs cells slots ls h1 h2 h3 h4 hl)
theorem B.ifnonnull {x : Nat} {off : Int} (tgt : Nat) (hd : decode (mC M) pc = .ok (.ifnonnull off, 3)) (ht : (pc : Int) + off = (tgt : Int)) (KT : ∀ y : Nat, x = y + 1 → B g M rc rs tgt lv st S P I Q) (KF : x = 0 → B g M rc rs (pc + 3) lv st S P I Q) : B g M rc rs pc lv (rv x :: st) S P I Q := by
  intro p e R s m args below meth c Z hC hR H locs cells slots ls h1 h2 h3 h4 hl
  cases x with
  | zero => exact lv_ifnonnullN hC.1 hC.2.1 hd (KF rfl p e R s m args below meth c Z hC hR H locs cells slots ls h1 h2 h3 h4 hl)
  | succ y => exact lv_ifnonnull hC.1 hC.2.1 hd ht (KT y rfl p e R s m args below meth c Z hC hR H locs cells slots ls h1 h2 h3 h4 hl)
theorem B.tableIn {dflt lo hi : Int} {offs : Array Int} {len : Nat} {x : Int32} {off : Int} (tgt : Nat) (hd : decode (mC M) pc = .ok (.tableswitch dflt lo hi offs, len)) (q1 : ¬ x.toInt < lo) (q2 : ¬ hi < x.toInt) (ho : offs[(x.toInt - lo).toNat]? = some off) (ht : (pc : Int) + off = (tgt : Int)) (K : B g M rc rs tgt lv st S P I Q) : B g M rc rs pc lv (.int x :: st) S P I Q := by
  intro p e R s m args below meth c Z hC hR H locs cells slots ls h1 h2 h3 h4 hl
  exact lv_tableIn hC.1 hC.2.1 hd q1 q2 ho ht (K p e R s m args below meth c Z hC hR H locs cells slots ls h1 h2 h3 h4 hl)
theorem B.tableOut {dflt lo hi : Int} {offs : Array Int} {len : Nat} {x : Int32} (tgt : Nat) (hd : decode (mC M) pc = .ok (.tableswitch dflt lo hi offs, len)) (q1 : x.toInt < lo ∨ hi < x.toInt) (ht : (pc : Int) + dflt = (tgt : Int)) (K : B g M rc rs tgt lv st S P I Q) : B g M rc rs pc lv (.int x :: st) S P I Q := by
  intro p e R s m args below meth c Z hC hR H locs cells slots ls h1 h2 h3 h4 hl
  exact lv_tableOut hC.1 hC.2.1 hd q1 ht (K p e R s m args below meth c Z hC hR H locs cells slots ls h1 h2 h3 h4 hl)
theorem B.lookup {dflt : Int} {ps : Array (Int × Int)} {len : Nat} {x : Int32} {off : Int} (tgt : Nat) (hd : decode (mC M) pc = .ok (.lookupswitch dflt ps, len)) (hp : (ps.toList.zip (ps.toList.drop 1)).all (fun (a, next) => a.1 < next.1) = true) (ho : Op.lookupswitch.offset ps.toList dflt x.toInt = off) (ht : (pc : Int) + off = (tgt : Int)) (K : B g M rc rs tgt lv st S P I Q) : B g M rc rs pc lv (.int x :: st) S P I Q := by
  intro p e R s m args below meth c Z hC hR H locs cells slots ls h1 h2 h3 h4 hl
  exact lv_lookup hC.1 hC.2.1 hd hp ho ht (K p e R s m args below meth c Z hC hR H locs cells slots ls h1 h2 h3 h4 hl)
theorem B.ireturn {v : Int32} {ty : FieldType} (hd : decode (mC M) pc = .ok (.ireturn, 1)) (hr : mR M = some ty) (hn : narrow ty (.int v) = .int v) (K : Q (some (.int v)) S P I) : B g M rc rs pc lv [.int v] S P I Q := by
  intro p e R s m args below meth c Z hC hR H locs cells slots ls h1 h2 h3 h4 hl
  exact hR H locs cells slots _ S P I pc ls _ h3 h4 (by omega) (by omega) K hd (Or.inl ⟨rfl, v, ty, rfl, hr, hn⟩)
theorem B.return_ (hd : decode (mC M) pc = .ok (.return_, 1)) (hr : mR M = none) (K : Q none S P I) : B g M rc rs pc lv [] S P I Q := by
  intro p e R s m args below meth c Z hC hR H locs cells slots ls h1 h2 h3 h4 hl
  exact hR H locs cells slots _ S P I pc ls _ h3 h4 (by omega) (by omega) K hd (Or.inr (Or.inl ⟨rfl, rfl, hr⟩))
theorem B.lreturn {v : Int64} (hd : decode (mC M) pc = .ok (.lreturn, 1)) (hr : mR M = some .long) (K : Q (some (.long v)) S P I) : B g M rc rs pc lv [.long v] S P I Q := by
  intro p e R s m args below meth c Z hC hR H locs cells slots ls h1 h2 h3 h4 hl
  exact hR H locs cells slots _ S P I pc ls _ h3 h4 (by omega) (by omega) K hd (Or.inr (Or.inr ⟨rfl, v, rfl, hr⟩))
end RULES
end
section
theorem all_in {ci : Nat} {r : vw_C} (h : vwCl[ci]? = some r) : ∀ w ∈ u_ws r.1 r.2.1 r.2.2, w ∈ gws := by
  have hl : ci < 10 := (List.getElem?_eq_some_iff.mp h).1
  have key : ∀ i, i < 10 → ∀ r', vwCl[i]? = some r' → ∀ w ∈ u_ws r'.1 r'.2.1 r'.2.2, w ∈ gws := by
    intro i hi
    match i, hi with
    | 0, _ => intro r' h; cases h; decide +kernel
    | 1, _ => intro r' h; cases h; decide +kernel
    | 2, _ => intro r' h; cases h; decide +kernel
    | 3, _ => intro r' h; cases h; decide +kernel
    | 4, _ => intro r' h; cases h; decide +kernel
    | 5, _ => intro r' h; cases h; decide +kernel
    | 6, _ => intro r' h; cases h; decide +kernel
    | 7, _ => intro r' h; cases h; decide +kernel
    | 8, _ => intro r' h; cases h; decide +kernel
    | 9, _ => intro r' h; cases h; decide +kernel
  exact key ci hl r h
theorem all_nm {ci : Nat} {r : vw_C} (h : vwCl[ci]? = some r) : (∀ a, a < r.2.2 → ∀ b, b < r.2.2 → a ≠ b → (r.2.1 a).2.1 ≠ (r.2.1 b).2.1) ∧ ∃ ty : Nat → FieldType, (∀ k, k < r.2.2 → parseFieldDescriptor (r.2.1 k).2.2.1 = some (ty k)) ∧ ∀ k, k < r.2.2 → defaultValue (ty k) = if is_r (r.2.1 k).2.2.1 then .null else .int 0 := by
  have hl : ci < 10 := (List.getElem?_eq_some_iff.mp h).1
  have key : ∀ i, i < 10 → ∀ r', vwCl[i]? = some r' → (∀ a, a < r'.2.2 → ∀ b, b < r'.2.2 → a ≠ b → (r'.2.1 a).2.1 ≠ (r'.2.1 b).2.1) ∧ ∃ ty : Nat → FieldType, (∀ k, k < r'.2.2 → parseFieldDescriptor (r'.2.1 k).2.2.1 = some (ty k)) ∧ ∀ k, k < r'.2.2 → defaultValue (ty k) = if is_r (r'.2.1 k).2.2.1 then .null else .int 0 := by
    intro i hi
    match i, hi with
    | 0, _ => intro r' h; cases h; exact ⟨nmX0, tyX0, tyX0_ok, by decide +kernel⟩
    | 1, _ => intro r' h; cases h; exact ⟨nmX1, tyX1, tyX1_ok, by decide +kernel⟩
    | 2, _ => intro r' h; cases h; exact ⟨nmX2, tyX2, tyX2_ok, by decide +kernel⟩
    | 3, _ => intro r' h; cases h; exact ⟨nmX3, tyX3, tyX3_ok, by decide +kernel⟩
    | 4, _ => intro r' h; cases h; exact ⟨nmX4, tyX4, tyX4_ok, by decide +kernel⟩
    | 5, _ => intro r' h; cases h; exact ⟨nmX5, tyX5, tyX5_ok, by decide +kernel⟩
    | 6, _ => intro r' h; cases h; exact ⟨nmX6, tyX6, tyX6_ok, by decide +kernel⟩
    | 7, _ => intro r' h; cases h; exact ⟨nmX7, tyX7, tyX7_ok, by decide +kernel⟩
    | 8, _ => intro r' h; cases h; exact ⟨nmX8, tyX8, tyX8_ok, by decide +kernel⟩
    | 9, _ => intro r' h; cases h; exact ⟨nmX9, tyX9, tyX9_ok, by decide +kernel⟩
  exact key ci hl r h
def u2 (I : IT) (a k : Nat) (x : Int32) : IT := fun b j => if b = a ∧ j = k then x else I b j
def p2 (P : PT) (a k : Nat) (x : Nat) : PT := fun b j => if b = a ∧ j = k then x else P b j
def zI (I : IT) (a : Nat) : IT := fun b j => if b = a then 0 else I b j
def zP (P : PT) (a : Nat) : PT := fun b j => if b = a then 0 else P b j
def sA (S : ST) (t n : Nat) : ST := (sN S + 1, (fun a => if a = sN S then t else sT S a), (fun a => if a = sN S then n else sL S a))
def ix (i : Int32) (j n : Nat) : Prop := ¬ i < 0 ∧ i.toNatClampNeg = j ∧ j < n
theorem ix_n {j n : Nat} (h : j < n) (hn : n < 2 ^ 31) : ix (nI j) j n := ⟨nI_pos (by omega), nI_clamp (by omega), h⟩
theorem ix.vp {i : Int32} {j n : Nat} (h : ix i j n) : ¬ (i < 0 ∨ n ≤ i.toNatClampNeg) := by
  rintro (q | q)
  · exact h.1 q
  · rw [h.2.1] at q
    exact absurd h.2.2 (Nat.not_lt.mpr q)
theorem Rep.set {g : GT} {S : ST} {P P' : PT} {I I' : IT} {H H' : Heap} {a : Nat} (h : Rep g S P I H) (hsz : H'.size = H.size) (ho : ∀ q : Nat, q ≠ a → H'[q]? = H[q]?) (ha : gB g ≤ a) (hp : ∀ b, b ≠ a → P' b = P b) (hi : ∀ b, b ≠ a → I' b = I b) (hat : rp_at g S P' I' H' a) : Rep g S P' I' H' := by
  refine ⟨hsz.trans h.1, h.2.1, fun q hq => (ho q (by omega)).trans (h.2.2.1 q hq), fun b hb => ?_⟩
  obtain ⟨b1, b2, b3⟩ := h.2.2.2 b hb
  refine ⟨b1, b2, ?_⟩
  by_cases hba : b = a
  · subst hba; exact hat
  · refine ⟨fun ci r ht hr => ?_, fun j ht => ?_⟩
    · refine ((b3.1 ci r ht hr).kept (ho b hba)).to (fun k _ => ?_)
      unfold f_v
      rw [hp b hba, hi b hba]
    · rw [ho b hba, b3.2 j ht]
      unfold e_v
      rw [hp b hba, hi b hba]
section HEAP
variable {g : GT} {M : MT} {rc rs pc : Nat} {lv : List (Nat × Value)} {st : List Value} {S : ST} {P : PT} {I : IT} {Q : QT}
theorem B.getf {x ci k a : Nat} {rf : Bool} (hd : decode (mC M) pc = .ok (.getfield x, 3)) (hL : FL (mY M).cls x ci k rf) (ht : sT S a = ci + 1) (K : B g M rc rs (pc + 3) lv ((if rf then rv (P a k) else .int (I a k)) :: st) S P I Q) : B g M rc rs pc lv (.ref a :: st) S P I Q := by
  intro p e R s m args below meth c Z hC hR H locs cells slots ls h1 h2 h3 h4 hl
  obtain ⟨r, hr, hk, hw, hdec, hrf⟩ := hL
  obtain ⟨b1, b2, hat⟩ := h3.2.2.2 a (by rw [ht]; omega)
  obtain ⟨cell, q1, q2, q3, q4⟩ := hat.1 ci r ht hr
  obtain ⟨hx, hb, hml, hlk, hown, hts, hKn, hF, hLo, hnm⟩ := id hC
  obtain ⟨hS, hfc, kC, hkC, hkind⟩ := hKn.1.1 ci r hr
  obtain ⟨cf, kf, fi, f, hi, hsl⟩ := hS k hk
  rw [hdec] at hi
  refine W.getf hx hb hown (hts _ hw) hi ?_ q1 (by rw [q3]; exact fun h => by cases h) (v := f_v r.2.1 P I a k) (by rw [hsl]; exact q4 k hk) rfl rfl hd ?_
  · exact (u_facts hfc hkC (u_lays hts (all_in hr) hk) (by rw [hdec]; exact hi)).1
  · have : f_v r.2.1 P I a k = (if rf then rv (P a k) else .int (I a k)) := by unfold f_v; rw [hrf]
    rw [this]
    exact K p e R s m args below meth c Z hC hR H locs cells slots ls h1 h2 h3 h4 hl
theorem B.getI {x ci k a : Nat} (hd : decode (mC M) pc = .ok (.getfield x, 3)) (hL : FL (mY M).cls x ci k false) (ht : sT S a = ci + 1) (K : B g M rc rs (pc + 3) lv (.int (I a k) :: st) S P I Q) : B g M rc rs pc lv (.ref a :: st) S P I Q := B.getf hd hL ht K
theorem B.getP {x ci k a : Nat} (hd : decode (mC M) pc = .ok (.getfield x, 3)) (hL : FL (mY M).cls x ci k true) (ht : sT S a = ci + 1) {b : Nat} (hb : P a k = b + 1) (K : B g M rc rs (pc + 3) lv (.ref b :: st) S P I Q) : B g M rc rs pc lv (.ref a :: st) S P I Q := by
  refine B.getf hd hL ht ?_
  rw [hb]
  exact K
theorem upd_OB {k a : Nat} {r : vw_C} {P' : PT} {I' : IT} {v : Value} {cC : ClassId} {iS : Nat → Nat} {H : Heap} {cell : Cell} (q1 : H[a]? = some (cell.setSlot (iS k) v)) (q2 : cell.cls = cC) (q3 : cell.vm = .none) (q4 : ∀ j, j < r.2.2 → cell.slots[iS j]? = some (f_v r.2.1 P I a j)) (hap : ∀ x y, x < r.2.2 → y < r.2.2 → x ≠ y → iS x ≠ iS y) (hk : k < r.2.2) (hv : f_v r.2.1 P' I' a k = v) (hj : ∀ j, j ≠ k → f_v r.2.1 P' I' a j = f_v r.2.1 P I a j) : t_OB a cC r.2.2 iS H (f_v r.2.1 P' I' a) := by
  refine t_OB.to (V := updV (f_v r.2.1 P I a) k v) ⟨_, q1, q2, q3, t_set q4 hap hk v⟩ (fun j _ => ?_)
  by_cases hjk : j = k
  · subst hjk; rw [hv]; simp [updV]
  · rw [hj j hjk]; simp [updV, hjk]
theorem B.putG {x ci k a : Nat} {rf : Bool} {ty : FieldType} {v : Value} {P' : PT} {I' : IT} (hd : decode (mC M) pc = .ok (.putfield x, 3)) (hL : FW (mY M).cls x ci k rf false ty) (ht : sT S a = ci + 1) (hn : narrow ty v = v) (hfit : fits ty v = true)
    (hp : ∀ b, b ≠ a → P' b = P b) (hi' : ∀ b, b ≠ a → I' b = I b) (hpk : ∀ j, j ≠ k → P' a j = P a j) (hik : ∀ j, j ≠ k → I' a j = I a j) (hv : (if rf then rv (P' a k) else .int (I' a k)) = v) (K : B g M rc rs (pc + 3) lv st S P' I' Q) : B g M rc rs pc lv (v :: .ref a :: st) S P I Q := by
  intro p e R s m args below meth c Z hC hR H locs cells slots ls h1 h2 h3 h4 hl
  obtain ⟨r, hr, hk, hw, hdec, hrf, hfin, hpty, -⟩ := hL
  obtain ⟨b1, b2, hat⟩ := h3.2.2.2 a (by rw [ht]; omega)
  obtain ⟨cell, q1, q2, q3, q4⟩ := hat.1 ci r ht hr
  obtain ⟨hx, hb, hml, hlk, hown, hts, hKn, hF, hLo, hnm⟩ := id hC
  obtain ⟨hnms, ty0, hty0, -⟩ := all_nm hr
  have hap := va_apart (own := (mY M).cls) hts (all_in hr) ty0 hty0 hnms hKn.1 hr
  obtain ⟨hS, hfc, kC, hkC, hkind⟩ := hKn.1.1 ci r hr
  obtain ⟨cf, kf, fi, f, hi, hsl⟩ := hS k hk
  have hlay := hts _ (all_in hr _ (u_in_lay hk))
  unfold u_lay at hlay
  rw [if_neg (by rw [hfin]; decide)] at hlay
  have hst := (u_facts hfc hkC (u_lays hts (all_in hr) hk) hi).1
  have h6 := u_store hfc hkC hkind hlay hi hpty hn hfit
  refine W.putK hx hb (f := f) ⟨hown, hts _ hw, ⟨_, _, _, hdec ▸ hi⟩, hst⟩ (by rw [q2]; exact h6) q1 q3 (by rw [hsl]; exact k2_hasslot (q4 k hk)) rfl rfl hd fun H' e1 e2 e3 => ?_
  rw [hsl] at e1 ⊢
  have hci : ci < 10 := (List.getElem?_eq_some_iff.mp hr).1
  refine K p e R s m args below meth c Z hC hR H' _ cells slots ls h1 h2 (h3.set e2 e3 b1 hp hi' ⟨fun ci2 r2 t2 hr2 => ?_, fun j t2 => ?_⟩) (fun q hq => ?_) hl
  · have : ci2 = ci := by rw [ht] at t2; omega
    subst this
    cases hr.symm.trans hr2
    exact upd_OB e1 q2 q3 q4 hap hk (by unfold f_v; rw [hrf]; exact hv) (fun j hj => by unfold f_v; rw [hpk j hj, hik j hj])
  · rw [ht] at t2; omega
  · rcases List.mem_append.mp hq with h | h
    · exact h4 q h
    · cases List.mem_singleton.mp h
      exact b1
theorem B.putI {x ci k a : Nat} {v : Int32} (hd : decode (mC M) pc = .ok (.putfield x, 3)) (hL : FW (mY M).cls x ci k false false .int) (ht : sT S a = ci + 1) (K : B g M rc rs (pc + 3) lv st S P (u2 I a k v) Q) : B g M rc rs pc lv (.int v :: .ref a :: st) S P I Q :=
  B.putG (P' := P) (I' := u2 I a k v) hd hL ht rfl rfl (fun _ _ => rfl) (fun b hb => by funext j; simp [u2, hb]) (fun _ _ => rfl) (fun j hj => by simp [u2, hj]) (by simp [u2]) K
theorem B.putZ {x ci k a : Nat} {v : Int32} (hd : decode (mC M) pc = .ok (.putfield x, 3)) (hL : FW (mY M).cls x ci k false false .boolean) (ht : sT S a = ci + 1) (hv : v = 0 ∨ v = 1) (K : B g M rc rs (pc + 3) lv st S P (u2 I a k v) Q) : B g M rc rs pc lv (.int v :: .ref a :: st) S P I Q :=
  B.putG (P' := P) (I' := u2 I a k v) hd hL ht (by rcases hv with rfl | rfl <;> rfl) (by rcases hv with rfl | rfl <;> rfl) (fun _ _ => rfl) (fun b hb => by funext j; simp [u2, hb]) (fun _ _ => rfl) (fun j hj => by simp [u2, hj]) (by simp [u2]) K
theorem B.putF {x ci k a b : Nat} {ty : FieldType} (hd : decode (mC M) pc = .ok (.putfield x, 3)) (hL : FW (mY M).cls x ci k true true ty) (hin : (mY M).name = "<init>") (ht : sT S a = ci + 1) (hfit : fits ty (.ref b) = true) (hn : narrow ty (.ref b) = .ref b) (K : B g M rc rs (pc + 3) lv st S (p2 P a k (b + 1)) I Q) : B g M rc rs pc lv (.ref b :: .ref a :: st) S P I Q := by
  intro p e R s m args below meth c Z hC hR H locs cells slots ls h1 h2 h3 h4 hl
  obtain ⟨r, hr, hk, hw, hdec, hrf, hfin, hpty, hfo⟩ := hL
  obtain ⟨b1, b2, hat⟩ := h3.2.2.2 a (by rw [ht]; omega)
  obtain ⟨cell, q1, q2, q3, q4⟩ := hat.1 ci r ht hr
  obtain ⟨hx, hb, hml, hlk, hown, hts, hKn, hF, hLo, hnm⟩ := id hC
  obtain ⟨hnms, ty0, hty0, -⟩ := all_nm hr
  have hap := va_apart (own := (mY M).cls) hts (all_in hr) ty0 hty0 hnms hKn.1 hr
  obtain ⟨hS, hfc, kC, hkC, hkind⟩ := hKn.1.1 ci r hr
  obtain ⟨cf, kf, fi, f, hi, hsl⟩ := hS k hk
  have hlay := hts _ (all_in hr _ (u_in_lay hk))
  unfold u_lay at hlay
  rw [if_pos hfin] at hlay
  have hst := (u_facts hfc hkC (Or.inr hlay) hi).1
  have h6 := u_fits hfc hkC hkind (Or.inr hlay) hi hpty hn hfit
  have hcf : m.cls = cf := by
    obtain ⟨_, _, c', _, _, _, -, -, hf', -, -, -, hown2, -⟩ := Cond.laysFinal_spec hlay
    have e1 : c' = cf := by have := hi.symm.trans hf'; simp at this; exact this.1.symm
    rw [hdec, ← hfo rfl] at hown2
    rw [← e1]; exact Option.some.inj (hown.symm.trans hown2)
  refine W.putFinK hx hb hown (hts _ hw) (f := f) (hdec ▸ hi) hst hcf (hnm.trans hin) (by rw [q2]; exact h6) q1 q3 (by rw [hsl]; exact k2_hasslot (q4 k hk)) rfl rfl hd fun H' e1 e2 e3 => ?_
  rw [hsl] at e1 ⊢
  refine K p e R s m args below meth c Z hC hR H' _ cells slots ls h1 h2 (h3.set e2 e3 b1 (fun b' hb' => by funext j; simp [p2, hb']) (fun _ _ => rfl) ⟨fun ci2 r2 t2 hr2 => ?_, fun j t2 => ?_⟩) (fun q hq => ?_) hl
  · have : ci2 = ci := by rw [ht] at t2; omega
    subst this
    cases hr.symm.trans hr2
    exact upd_OB e1 q2 q3 q4 hap hk (by unfold f_v; rw [hrf]; simp [p2, rv]) (fun j hj => by unfold f_v; simp [p2, hj])
  · have hci : ci < 10 := (List.getElem?_eq_some_iff.mp hr).1
    rw [ht] at t2; omega
  · rcases List.mem_append.mp hq with h | h
    · exact h4 q h
    · cases List.mem_singleton.mp h
      exact b1
end HEAP
end
section
theorem sA_t (S : ST) (t n b : Nat) : sT (sA S t n) b = if b = sN S then t else sT S b := rfl
theorem sA_l (S : ST) (t n b : Nat) : sL (sA S t n) b = if b = sN S then n else sL S b := rfl
section ARR
variable {g : GT} {M : MT} {rc rs pc : Nat} {lv : List (Nat × Value)} {st : List Value} {S : ST} {P : PT} {I : IT} {Q : QT}
theorem B.iaload {a j : Nat} {i : Int32} (hd : decode (mC M) pc = .ok (.iaload, 1)) (ht : sT S a = 40) (hi : ix i j (sL S a)) (K : B g M rc rs (pc + 1) lv (.int (I a j) :: st) S P I Q) : B g M rc rs pc lv (.int i :: .ref a :: st) S P I Q := by
  intro p e R s m args below meth c Z hC hR H locs cells slots ls h1 h2 h3 h4 hl
  obtain ⟨b1, b2, hat⟩ := h3.2.2.2 a (by rw [ht]; omega)
  have hc := hat.2 0 ht
  refine W.iald (v := .int (I a j)) hC.1 hC.2.1 hc ((hC.2.2.2.2.2.2.1.2.1 0 (by decide)).1 _ _) (fun q => by cases q) (by rw [arrV_size]; exact hi.vp) (by rw [hi.2.1, arrV_read _ _ hi.2.2]; rfl) rfl rfl hd ?_
  exact K p e R s m args below meth c Z hC hR H locs cells slots ls h1 h2 h3 h4 hl
theorem B.baload {a j : Nat} {i : Int32} (hd : decode (mC M) pc = .ok (.baload, 1)) (ht : sT S a = 41) (hi : ix i j (sL S a)) (K : B g M rc rs (pc + 1) lv (.int (I a j) :: st) S P I Q) : B g M rc rs pc lv (.int i :: .ref a :: st) S P I Q := by
  intro p e R s m args below meth c Z hC hR H locs cells slots ls h1 h2 h3 h4 hl
  obtain ⟨b1, b2, hat⟩ := h3.2.2.2 a (by rw [ht]; omega)
  have hc := hat.2 1 ht
  refine W.bald (v := .int (I a j)) hC.1 hC.2.1 hc ((hC.2.2.2.2.2.2.1.2.1 1 (by decide)).1 _ _) (fun q => by cases q) (by rw [arrV_size]; exact hi.vp) (by rw [hi.2.1, arrV_read _ _ hi.2.2]; rfl) rfl rfl hd ?_
  exact K p e R s m args below meth c Z hC hR H locs cells slots ls h1 h2 h3 h4 hl
theorem B.zaload {a j : Nat} {i : Int32} (hd : decode (mC M) pc = .ok (.baload, 1)) (ht : sT S a = 42) (hi : ix i j (sL S a)) (K : B g M rc rs (pc + 1) lv (.int (I a j) :: st) S P I Q) : B g M rc rs pc lv (.int i :: .ref a :: st) S P I Q := by
  intro p e R s m args below meth c Z hC hR H locs cells slots ls h1 h2 h3 h4 hl
  obtain ⟨b1, b2, hat⟩ := h3.2.2.2 a (by rw [ht]; omega)
  have hc := hat.2 2 ht
  refine W.zald (v := .int (I a j)) hC.1 hC.2.1 hc ((hC.2.2.2.2.2.2.1.2.1 2 (by decide)).1 _ _) (fun q => by cases q) (by rw [arrV_size]; exact hi.vp) (by rw [hi.2.1, arrV_read _ _ hi.2.2]; rfl) rfl rfl hd ?_
  exact K p e R s m args below meth c Z hC hR H locs cells slots ls h1 h2 h3 h4 hl
theorem a_ty_ref {t : Nat} (h : 3 ≤ t) : (a_ty t).isReference = true := by
  match t, h with
  | 3, _ => rfl
  | 4, _ => rfl
  | n + 5, _ => rfl
theorem B.aaloadG {a j t : Nat} {i : Int32} (ht3 : 3 ≤ t) (ht6 : t < 6) (hd : decode (mC M) pc = .ok (.aaload, 1)) (ht : sT S a = 40 + t) (hi : ix i j (sL S a)) (K : B g M rc rs (pc + 1) lv (rv (P a j) :: st) S P I Q) : B g M rc rs pc lv (.int i :: .ref a :: st) S P I Q := by
  intro p e R s m args below meth c Z hC hR H locs cells slots ls h1 h2 h3 h4 hl
  obtain ⟨b1, b2, hat⟩ := h3.2.2.2 a (by rw [ht]; omega)
  have hc := hat.2 t ht
  refine W.aald (v := rv (P a j)) hC.1 hC.2.1 hc ((hC.2.2.2.2.2.2.1.2.1 t ht6).1 _ _) (a_ty_ref ht3) (fun q => by cases q) (by rw [arrV_size]; exact hi.vp) (by rw [hi.2.1, arrV_read _ _ hi.2.2]; unfold e_v; rw [if_neg (by omega)]) rfl rfl hd ?_
  exact K p e R s m args below meth c Z hC hR H locs cells slots ls h1 h2 h3 h4 hl
theorem B.aaload {a j b : Nat} (t : Nat) {i : Int32} (htt : 3 ≤ t ∧ t < 6) (hd : decode (mC M) pc = .ok (.aaload, 1)) (ht : sT S a = 40 + t) (hi : ix i j (sL S a)) (hb : P a j = b + 1) (K : B g M rc rs (pc + 1) lv (.ref b :: st) S P I Q) : B g M rc rs pc lv (.int i :: .ref a :: st) S P I Q := by
  refine B.aaloadG htt.1 htt.2 hd ht hi ?_
  rw [hb]
  exact K
theorem set_arr {a j t n : Nat} {cA : ClassId} {v : Value} {P' : PT} {I' : IT} {H : Heap} (h : H[a]? = some ((arrV cA n (e_v P I a t)).setSlot j v)) (hv : e_v P' I' a t j = v) (hj : ∀ k, k ≠ j → e_v P' I' a t k = e_v P I a t k) : H[a]? = some (arrV cA n (e_v P' I' a t)) := by
  rw [h, arrV_store]
  congr 2
  funext k
  by_cases hk : k = j
  · subst hk; rw [hv]; simp [updV]
  · rw [hj k hk]; simp [updV, hk]
theorem B.iastore {a j : Nat} {i v : Int32} (hd : decode (mC M) pc = .ok (.iastore, 1)) (ht : sT S a = 40) (hi : ix i j (sL S a)) (K : B g M rc rs (pc + 1) lv st S P (u2 I a j v) Q) : B g M rc rs pc lv (.int v :: .int i :: .ref a :: st) S P I Q := by
  intro p e R s m args below meth c Z hC hR H locs cells slots ls h1 h2 h3 h4 hl
  obtain ⟨b1, b2, hat⟩ := h3.2.2.2 a (by rw [ht]; omega)
  have hc := hat.2 0 ht
  refine W.iast hC.1 hC.2.1 hc ((hC.2.2.2.2.2.2.1.2.1 0 (by decide)).1 _ _) (fun q => by cases q) (by rw [arrV_size]; exact hi.vp) rfl rfl hd fun H' e1 e2 e3 => ?_
  rw [hi.2.1] at e1 ⊢
  refine K p e R s m args below meth c Z hC hR H' _ cells slots ls h1 h2 (h3.set e2 e3 b1 (fun _ _ => rfl) (fun b hb => by funext k; simp [u2, hb]) ⟨fun ci r t2 hr => ?_, fun t t2 => ?_⟩) (fun q hq => ?_) hl
  · have hci : ci < 10 := (List.getElem?_eq_some_iff.mp hr).1
    rw [ht] at t2; omega
  · have : t = 0 := by rw [ht] at t2; omega
    subst this
    exact set_arr e1 (by simp [e_v, u2]) (fun k hk => by simp [e_v, u2, hk])
  · rcases List.mem_append.mp hq with h | h
    · exact h4 q h
    · cases List.mem_singleton.mp h
      exact b1
theorem B.bastore {a j : Nat} {i v : Int32} (hd : decode (mC M) pc = .ok (.bastore, 1)) (ht : sT S a = 41) (hi : ix i j (sL S a)) (hv : narrow .byte (.int v) = .int v) (K : B g M rc rs (pc + 1) lv st S P (u2 I a j v) Q) : B g M rc rs pc lv (.int v :: .int i :: .ref a :: st) S P I Q := by
  intro p e R s m args below meth c Z hC hR H locs cells slots ls h1 h2 h3 h4 hl
  obtain ⟨b1, b2, hat⟩ := h3.2.2.2 a (by rw [ht]; omega)
  have hc := hat.2 1 ht
  refine W.bast hC.1 hC.2.1 hc ((hC.2.2.2.2.2.2.1.2.1 1 (by decide)).1 _ _) (fun q => by cases q) (by rw [arrV_size]; exact hi.vp) rfl rfl hd fun H' e1 e2 e3 => ?_
  rw [hi.2.1, hv] at e1
  rw [hi.2.1]
  refine K p e R s m args below meth c Z hC hR H' _ cells slots ls h1 h2 (h3.set e2 e3 b1 (fun _ _ => rfl) (fun b hb => by funext k; simp [u2, hb]) ⟨fun ci r t2 hr => ?_, fun t t2 => ?_⟩) (fun q hq => ?_) hl
  · have hci : ci < 10 := (List.getElem?_eq_some_iff.mp hr).1
    rw [ht] at t2; omega
  · have : t = 1 := by rw [ht] at t2; omega
    subst this
    exact set_arr e1 (by simp [e_v, u2]) (fun k hk => by simp [e_v, u2, hk])
  · rcases List.mem_append.mp hq with h | h
    · exact h4 q h
    · cases List.mem_singleton.mp h
      exact b1
theorem B.zastore {a j : Nat} {i v : Int32} (hd : decode (mC M) pc = .ok (.bastore, 1)) (ht : sT S a = 42) (hi : ix i j (sL S a)) (hv : v = 0 ∨ v = 1) (K : B g M rc rs (pc + 1) lv st S P (u2 I a j v) Q) : B g M rc rs pc lv (.int v :: .int i :: .ref a :: st) S P I Q := by
  intro p e R s m args below meth c Z hC hR H locs cells slots ls h1 h2 h3 h4 hl
  obtain ⟨b1, b2, hat⟩ := h3.2.2.2 a (by rw [ht]; omega)
  have hc := hat.2 2 ht
  refine W.zast hC.1 hC.2.1 hc ((hC.2.2.2.2.2.2.1.2.1 2 (by decide)).1 _ _) (fun q => by cases q) (by rw [arrV_size]; exact hi.vp) rfl rfl hd fun H' e1 e2 e3 => ?_
  rw [hi.2.1, show narrow .boolean (.int v) = .int v by rcases hv with rfl | rfl <;> rfl] at e1
  rw [hi.2.1]
  refine K p e R s m args below meth c Z hC hR H' _ cells slots ls h1 h2 (h3.set e2 e3 b1 (fun _ _ => rfl) (fun b hb => by funext k; simp [u2, hb]) ⟨fun ci r t2 hr => ?_, fun t t2 => ?_⟩) (fun q hq => ?_) hl
  · have hci : ci < 10 := (List.getElem?_eq_some_iff.mp hr).1
    rw [ht] at t2; omega
  · have : t = 2 := by rw [ht] at t2; omega
    subst this
    exact set_arr e1 (by simp [e_v, u2]) (fun k hk => by simp [e_v, u2, hk])
  · rcases List.mem_append.mp hq with h | h
    · exact h4 q h
    · cases List.mem_singleton.mp h
      exact b1
theorem B.aastore {a j v : Nat} (t ci : Nat) (r : vw_C) {i : Int32} (htt : 3 ≤ t ∧ t < 6) (hr : vwCl[ci]? = some r) (hty : a_ty t = .object r.1) (hd : decode (mC M) pc = .ok (.aastore, 1)) (ht : sT S a = 40 + t) (hi : ix i j (sL S a)) (hv : sT S v = ci + 1) (K : B g M rc rs (pc + 1) lv st S (p2 P a j (v + 1)) I Q) : B g M rc rs pc lv (.ref v :: .int i :: .ref a :: st) S P I Q := by
  intro p e R s m args below meth c Z hC hR H locs cells slots ls h1 h2 h3 h4 hl
  obtain ⟨b1, b2, hat⟩ := h3.2.2.2 a (by rw [ht]; omega)
  obtain ⟨d1, d2, hatv⟩ := h3.2.2.2 v (by rw [hv]; omega)
  have hc := hat.2 t ht
  obtain ⟨cellV, g1, g2, g3, -⟩ := hatv.1 ci r hv hr
  have hcls := (hC.2.2.2.2.2.2.1.1.1 ci r hr).2
  have hra := (hC.2.2.2.2.2.2.1.2.1 t htt.2).2
  rw [hty] at hra
  obtain ⟨kA, comp, k1, k2, k3, -⟩ := hra
  have hcomp : comp = g.2.1.1 ci := Option.some.inj (k3.symm.trans hcls.1)
  subst hcomp
  obtain ⟨kC, hkC, -⟩ := hcls.2
  refine W.aast hC.1 hC.2.1 hc (fun q h => by cases h) (fun h => by cases h) k1 k2 rfl hkC ⟨hi.1, by rw [arrV_size, hi.2.1]; exact hi.2.2⟩ g1 (fun q h => by rw [g3] at h; cases h) (by rw [g2]; exact hkC) (by rw [g2]; exact va_assign hcls) rfl rfl hd fun H' e1 e2 e3 => ?_
  rw [hi.2.1] at e1 ⊢
  refine K p e R s m args below meth c Z hC hR H' _ cells slots ls h1 h2 (h3.set e2 e3 b1 (fun b hb => by funext k; simp [p2, hb]) (fun _ _ => rfl) ⟨fun ci r t2 hr => ?_, fun t' t2 => ?_⟩) (fun q hq => ?_) hl
  · have hci : ci < 10 := (List.getElem?_eq_some_iff.mp hr).1
    rw [ht] at t2; omega
  · have : t' = t := by rw [ht] at t2; omega
    subst this
    have h3' : ¬ t' < 3 := by omega
    exact set_arr e1 (by simp [e_v, p2, h3', rv]) (fun k hk => by simp [e_v, p2, hk])
  · rcases List.mem_append.mp hq with h | h
    · exact h4 q h
    · cases List.mem_singleton.mp h
      exact b1
theorem Rep.new {t n : Nat} {H H' : Heap} (h : Rep g S P I H) (hsz : H'.size = sN S + 1) (ho : ∀ q : Nat, q < sN S → H'[q]? = H[q]?) (hat : rp_at g (sA S t n) (zP P (sN S)) (zI I (sN S)) H' (sN S)) : Rep g (sA S t n) (zP P (sN S)) (zI I (sN S)) H' := by
  refine ⟨hsz, Nat.le_succ_of_le h.2.1, fun q hq => (ho q (Nat.lt_of_lt_of_le hq h.2.1)).trans (h.2.2.1 q hq), fun b hb => ?_⟩
  by_cases hbn : b = sN S
  · subst hbn
    exact ⟨h.2.1, Nat.lt_succ_self _, hat⟩
  · have e : sT (sA S t n) b = sT S b := by rw [sA_t, if_neg hbn]
    rw [e] at hb
    obtain ⟨b1, b2, b3⟩ := h.2.2.2 b hb
    refine ⟨b1, Nat.lt_succ_of_lt b2, fun ci r ht hr => ?_, fun j ht => ?_⟩
    · rw [e] at ht
      refine ((b3.1 ci r ht hr).kept (ho b b2)).to (fun k _ => ?_)
      simp [f_v, zP, zI, hbn]
    · rw [e] at ht
      rw [ho b b2, b3.2 j ht]
      have e2 : sL (sA S t n) b = sL S b := by rw [sA_l, if_neg hbn]
      rw [e2]
      congr 2
      funext k
      simp [e_v, zP, zI, hbn]
theorem B.newarr {t N : Nat} {n : Int32} (atype : ArrayType) (htt : t < 3) (hty : newarray.typeOf atype = a_ty t) (hdf : defaultValue (a_ty t) = .int 0) (hw : Cond.arrayClass (newarray.typeOf atype) ∈ gws) (hd : decode (mC M) pc = .ok (.newarray atype, 2)) (hn : ¬ n < 0) (hN : n.toNatClampNeg = N) (hbytes : N * componentBytes (newarray.typeOf atype) ≤ 536870912) (K : B g M rc rs (pc + 2) lv (.ref (sN S) :: st) (sA S (40 + t) N) (zP P (sN S)) (zI I (sN S)) Q) : B g M (rc + 1) (rs + N) pc lv (.int n :: st) S P I Q := by
  intro p e R s m args below meth c Z hC hR H locs cells slots ls h1 h2 h3 h4 hl
  refine va_newaK hC.1 hC.2.1 (hC.2.2.2.2.2.1 _ hw) rfl hd rfl hn hN hbytes (by omega) (by omega) (h := sN S) h3.1 fun H' cA e1 e2 e3 e4 e5 => ?_
  have hcA : cA = g.2.2.1 t := by
    have hra := (hC.2.2.2.2.2.2.1.2.1 t (by omega)).2
    rw [hty] at e5
    have : s.vm.findClass ("[" ++ (a_ty t).toString) = some (g.2.2.1 t) := by
      match t, htt with
      | 0, _ => exact hra
      | 1, _ => exact hra
      | 2, _ => exact hra
    exact Option.some.inj (e5.symm.trans this)
  refine K p e R s m args below meth c Z hC hR H' locs (cells + 1) (slots + N) ls (by omega) (by omega) (h3.new e2 e3 ⟨fun ci r t2 hr => ?_, fun j t2 => ?_⟩) h4 hl
  · have hci : ci < 10 := (List.getElem?_eq_some_iff.mp hr).1
    rw [sA_t, if_pos rfl] at t2; omega
  · have hj : j = t := by rw [sA_t, if_pos rfl] at t2; omega
    subst hj
    rw [e1, hcA, hty, hdf]
    have : sL (sA S (40 + j) N) (sN S) = N := by rw [sA_l, if_pos rfl]
    rw [this]
    congr 2
    funext k
    simp [e_v, htt, zI]
theorem B.newrefs {t N x : Nat} {n : Int32} (ci : Nat) (r : vw_C) (htt : 3 ≤ t ∧ t < 6) (hr0 : vwCl[ci]? = some r) (hty : a_ty t = .object r.1) (hw1 : Cond.classLink (mY M).cls x r.1 ∈ gws) (hw2 : r.1 ∈ [RX1, RX3, RX7]) (hd : decode (mC M) pc = .ok (.anewarray x, 3)) (hn : ¬ n < 0) (hN : n.toNatClampNeg = N) (hbytes : N * 4 ≤ 536870912) (K : B g M rc rs (pc + 3) lv (.ref (sN S) :: st) (sA S (40 + t) N) (zP P (sN S)) (zI I (sN S)) Q) : B g M (rc + 1) (rs + N) pc lv (.int n :: st) S P I Q := by
  intro p e R s m args below meth c Z hC hR H locs cells slots ls h1 h2 h3 h4 hl
  subst hN
  refine W.anew hC.1 hC.2.1 hC.2.2.2.2.1 (hC.2.2.2.2.2.1 _ hw1) (va_AO.use (hC.2.2.2.2.2.2.1.2.2.2.1 _ hw2)) rfl hd rfl hn hbytes (by omega) (by omega) fun cA kA comp e1 e2 e3 e4 => ?_
  have hcA : cA = g.2.2.1 t := by
    have hra := (hC.2.2.2.2.2.2.1.2.1 t (by omega)).2
    rw [hty] at hra
    obtain ⟨_, _, _, _, _, k4⟩ := hra
    exact Option.some.inj (e1.symm.trans k4)
  have hs := h3.1
  have hst : ((.ref H.size : Value) :: st) = .ref (sN S) :: st := by rw [hs]
  show W p g.1 e R s m args below meth c _ _ _ _ _ (F0 m (pc + 3) ls (.ref H.size :: st))
  rw [hst]
  refine K p e R s m args below meth c Z hC hR _ locs (cells + 1) (slots + n.toNatClampNeg) ls (by omega) (by omega) (h3.new (by simp [hs]) (fun q hq => by rw [Array.getElem?_push, if_neg (by omega)]) ⟨fun ci r t2 hr => ?_, fun j t2 => ?_⟩) h4 hl
  · have hci : ci < 10 := (List.getElem?_eq_some_iff.mp hr).1
    rw [sA_t, if_pos rfl] at t2; omega
  · have hj : j = t := by rw [sA_t, if_pos rfl] at t2; omega
    subst hj
    rw [arrV_new, ← hs]
    have : sL (sA S (40 + j) n.toNatClampNeg) H.size = n.toNatClampNeg := by rw [hs, sA_l, if_pos rfl]
    rw [this, ← hcA]
    simp only [Array.getElem?_push_size]
    congr 2
    funext k
    have h3' : ¬ j < 3 := by omega
    simp [e_v, h3', zP, rv]
theorem B.newobj {x : Nat} (ci : Nat) (r : vw_C) (hr0 : vwCl[ci]? = some r) (hw1 : Cond.classLink (mY M).cls x r.1 ∈ gws) (hw2 : Cond.instantiable r.1 r.2.2 ∈ gws) (hw3 : Cond.initialized r.1 ∈ gws) (hd : decode (mC M) pc = .ok (.new x, 3)) (K : B g M rc rs (pc + 3) lv (.ref (sN S) :: st) (sA S (ci + 1) 0) (zP P (sN S)) (zI I (sN S)) Q) : B g M (rc + 1) (rs + r.2.2) pc lv st S P I Q := by
  intro p e R s m args below meth c Z hC hR H locs cells slots ls h1 h2 h3 h4 hl
  have hKn := hC.2.2.2.2.2.2.1.1.1 ci r hr0
  have hts := hC.2.2.2.2.2.1
  refine W.newcK hC.1 hC.2.1 hC.2.2.2.2.1 (hts _ hw1) (hts _ hw2) (hts _ hw3) rfl hd (by omega) (by omega) (cC := g.2.1.1 ci) hKn.2.1 (h := sN S) h3.1 fun H' kC e1 e2 e3 e4 => ?_
  obtain ⟨-, ty0, hty0, hdf⟩ := all_nm hr0
  refine K p e R s m args below meth c Z hC hR H' locs (cells + 1) (slots + r.2.2) ls (by omega) (by omega) (h3.new e3 e4 ⟨fun ci2 r2 t2 hr => ?_, fun j t2 => ?_⟩) h4 hl
  · have : ci2 = ci := by rw [sA_t, if_pos rfl] at t2; omega
    subst this
    cases hr0.symm.trans hr
    refine (u_born ty0 hts (all_in hr0) hKn e1 e2 hty0).to (fun k hk => ?_)
    rw [hdf k hk]
    simp [f_v, zP, zI, rv]
  · have hci : ci < 10 := (List.getElem?_eq_some_iff.mp hr0).1
    rw [sA_t, if_pos rfl] at t2; omega
end ARR
end
section
section CALLS
variable {g : GT} {M : MT} {rc rs pc : Nat} {lv : List (Nat × Value)} {st : List Value} {S : ST} {P : PT} {I : IT} {Q : QT} {M' : MT} {mc ms : Nat}
theorem cg_b {p : Program} {R : Room} {s : State} {m : MethodId} {args : Array Value} {meth : Method} {c : Code} {n x : Nat} (hC : Cx g M p R s m args meth c) (hM : MG M' n) (hR : RM M M') (hl : Cond.methodLink (mY M).cls x (mY M') ∈ gws) : CallB R s args (mY M).cls x (mY M') (mC M') (mX M') (mR M') (wsM M') (rmM M' mc ms) mc ms n := by
  obtain ⟨hx, hb, hml, hlk, hown, hts, hKn, hF, hLo, hnm⟩ := hC
  have hG : GoodIn gws (wsM M') := fun w hw => by
    rcases List.mem_cons.mp hw with h | h
    · rw [h]; exact ⟨hM.1, gws_good hM.1⟩
    · exact ⟨h, gws_good h⟩
  have h1 := hR.1
  have h2 := hR.2
  exact callB_of n hts hG rfl rfl rfl (hts _ hM.2.1) (hts _ hl) ⟨hM.2.2.1.1, hM.2.2.1.2, hM.2.2.2⟩ ⟨by show mF M' + 1 ≤ _; omega, by show 8 + (mX M' + 11) + mL M' ≤ _; omega⟩
theorem cg_n {p : Program} {R : Room} {s : State} {m : MethodId} {args : Array Value} {meth : Method} {c : Code} {n x : Nat} {host : String} (hC : Cx g M p R s m args meth c) (hM : MG M' n) (hR : RM M M') (hl : ∃ i, (i, (mY M).cls, x, mY M', host) ∈ nst) : va_CN R s args (mY M).cls x (mY M') host (mC M') (mX M') (mR M') (wsM M') (rmM M' mc ms) mc ms n := by
  obtain ⟨hx, hb, hml, hlk, hown, hts, hKn, hF, hLo, hnm⟩ := hC
  have hG : GoodIn gws (wsM M') := fun w hw => by
    rcases List.mem_cons.mp hw with h | h
    · rw [h]; exact ⟨hM.1, gws_good hM.1⟩
    · exact ⟨h, gws_good h⟩
  have h1 := hR.1
  have h2 := hR.2
  obtain ⟨iN, hiN⟩ := hl
  exact va_cnB n hts hG rfl rfl rfl (hKn.2.2.1 _ hiN) (hts _ hM.2.1) ⟨hM.2.2.1.1, hM.2.2.1.2, hM.2.2.2⟩ ⟨by show mF M' + 1 ≤ _; omega, by show 8 + (mX M' + 11) + mL M' ≤ _; omega⟩
theorem pre_blind {as : List Value} : FrameBlind (va_Pc as (fun U => Rep g S P I U.heap ∧ Kn g U)) := fun a U gg mk q => ⟨q.1, q.2.1, Kn.same (u := U) (U := U.calling gg mk a) rfl q.2.2⟩
theorem run_on {p : Program} {e : Env} {R : Room} {s : State} {m : MethodId} {args : Array Value} {below : List Frame} {meth : Method} {c : Code} {Z : State → Prop} {H : Heap} {locs : List Loc} {cells slots : Nat} {ls : Array Slot} {st0 : List Value}
    (hC : Cx g M p R s m args meth c) (hR : RO g M p e R s m args below meth c Q Z) (h1 : cells + (rc + mc) ≤ R.cells) (h2 : slots + (rs + ms) ≤ R.slots) (h4 : ∀ q ∈ locs, gB g ≤ q.base) (hl : lv_has ls (mX M) lv)
    (hr : va_Run p g.1 e R s m args below meth c H locs cells slots mc ms (F0 m pc ls st0) st (fun _ o t => ∃ (r : Option Value) (S' : ST) (P' : PT) (I' : IT), o = .returned r ∧ Rep g S' P' I' t.heap ∧ B g M rc rs (pc + 3) lv (r.toList ++ st) S' P' I' Q) (fun q => gB g ≤ q)) : W p g.1 e R s m args below meth c H locs cells slots Z (F0 m pc ls st0) := by
  intro T0 hT X
  obtain ⟨v, st₀, t, T', L, h0, X', hL, e1, e2, ⟨r, S', P', I', hv, hRep, hB⟩, go⟩ := hr T0 hT X
  cases hv
  obtain ⟨t2, a1, b1⟩ := hB p e R s m args below meth c Z hC hR T'.heap (locs ++ L) (cells + mc) (slots + ms) ls (by omega) (by omega) (by rw [e1]; exact hRep) (fun q hq => by
    rcases List.mem_append.mp hq with h | h
    · exact h4 q h
    · exact hL q h) hl T' rfl X'
  exact ⟨t2, go t2 a1, b1⟩
theorem B.callV {x n ci b : Nat} {st0 : List Value} (As : List Value) (hd : decode (mC M) pc = .ok (.invokevirtual x, 3)) (hM : MV M' n ci) (hlk : Cond.methodLink (mY M).cls x (mY M') ∈ gws) (hRM : RM M M') (hn : As.length = n) (hs : st0 = As.reverse ++ .ref b :: st) (hc8 : (st.map fun v => v.category).sum ≤ 8) (ht : sT S b = ci + 1)
    (K : T g M' mc ms (.ref b :: As) S P I (fun r S' P' I' => B g M rc rs (pc + 3) lv (r.toList ++ st) S' P' I' Q)) : B g M (rc + mc) (rs + ms) pc lv st0 S P I Q := by
  intro p e R s m args below meth c Z hC hR H locs cells slots ls h1 h2 h3 h4 hl
  obtain ⟨r, hr, hrc⟩ := hM.2.2.2
  obtain ⟨b1, b2, hat⟩ := h3.2.2.2 b (by rw [ht]; omega)
  obtain ⟨cell, q1, q2, q3, q4⟩ := hat.1 ci r ht hr
  have hts := hC.2.2.2.2.2.1
  have hfc := (hC.2.2.2.2.2.2.1.1.1 ci r hr).2.1
  subst hs
  exact run_on hC hR h1 h2 h4 hl (va_runV (C := (mY M').cls) (Ts := gws) (cc := mC M) (nL := mX M) ⟨hC.1, hC.2.1, hC.2.2.1, hC.2.2.2.2.1, hts⟩ K ⟨cg_b hC hM.1 hRM hlk, hts _ hM.2.1, hts _ hM.2.2.1⟩ ⟨pre_blind, ⟨cell, q1, by rw [q3]; rfl, by rw [q2, ← hrc]; exact hfc⟩, fun U hU hW => ⟨rfl, by rw [hU]; exact h3, Kn.warm hW hC.2.2.2.2.2.2.1⟩⟩ rfl hn hl.1 rfl (lv_room hc8) hd ⟨by omega, by omega⟩)
theorem B.callS {x n : Nat} {st0 : List Value} (As : List Value) (hd : decode (mC M) pc = .ok (.invokestatic x, 3)) (hM : MS M' n) (hlk : Cond.methodLink (mY M).cls x (mY M') ∈ gws) (hRM : RM M M') (hn : As.length = n) (hs : st0 = As.reverse ++ st) (hc8 : (st.map fun v => v.category).sum ≤ 8)
    (K : T g M' mc ms As S P I (fun r S' P' I' => B g M rc rs (pc + 3) lv (r.toList ++ st) S' P' I' Q)) : B g M (rc + mc) (rs + ms) pc lv st0 S P I Q := by
  intro p e R s m args below meth c Z hC hR H locs cells slots ls h1 h2 h3 h4 hl
  have hts := hC.2.2.2.2.2.1
  subst hs
  exact run_on hC hR h1 h2 h4 hl (va_runS (Ts := gws) (cc := mC M) (nL := mX M) ⟨hC.1, hC.2.1, hC.2.2.1, hC.2.2.2.2.1, hts⟩ K ⟨cg_b hC hM.1 hRM hlk, hts _ hM.2⟩ ⟨pre_blind, fun U hU hW => ⟨rfl, by rw [hU]; exact h3, Kn.warm hW hC.2.2.2.2.2.2.1⟩⟩ rfl hn hl.1 rfl (lv_room hc8) hd ⟨by omega, by omega⟩)
theorem B.callSN {x n : Nat} {st0 : List Value} (As : List Value) (host : String) (hd : decode (mC M) pc = .ok (.invokestatic x, 3)) (hM : MS M' n) (hlk : ∃ i, (i, (mY M).cls, x, mY M', host) ∈ nst) (hRM : RM M M') (hn : As.length = n) (hs : st0 = As.reverse ++ st) (hc8 : (st.map fun v => v.category).sum ≤ 8)
    (K : T g M' mc ms As S P I (fun r S' P' I' => B g M rc rs (pc + 3) lv (r.toList ++ st) S' P' I' Q)) : B g M (rc + mc) (rs + ms) pc lv st0 S P I Q := by
  intro p e R s m args below meth c Z hC hR H locs cells slots ls h1 h2 h3 h4 hl
  have hts := hC.2.2.2.2.2.1
  subst hs
  exact run_on hC hR h1 h2 h4 hl (va_runSN (Ts := gws) (cc := mC M) (nL := mX M) ⟨hC.1, hC.2.1, hC.2.2.1, hC.2.2.2.2.1, hts⟩ K ⟨cg_n hC hM.1 hRM hlk, hts _ hM.2, trivial⟩ ⟨pre_blind, fun U hU hW => ⟨rfl, by rw [hU]; exact h3, Kn.warm hW hC.2.2.2.2.2.2.1⟩⟩ rfl hn hl.1 rfl (lv_room hc8) hd ⟨by omega, by omega⟩)
theorem B.callI {x n b : Nat} {st0 : List Value} (As : List Value) (hd : decode (mC M) pc = .ok (.invokespecial x, 3)) (hM : MI M' n) (hlk : Cond.methodLink (mY M).cls x (mY M') ∈ gws) (hRM : RM M M') (hn : As.length = n) (hs : st0 = As.reverse ++ .ref b :: st) (hc8 : (st.map fun v => v.category).sum ≤ 8)
    (K : T g M' mc ms (.ref b :: As) S P I (fun r S' P' I' => B g M rc rs (pc + 3) lv (r.toList ++ st) S' P' I' Q)) : B g M (rc + mc) (rs + ms) pc lv st0 S P I Q := by
  intro p e R s m args below meth c Z hC hR H locs cells slots ls h1 h2 h3 h4 hl
  have hts := hC.2.2.2.2.2.1
  subst hs
  have hcb := cg_b (mc := mc) (ms := ms) hC hM.1 hRM hlk
  rw [hM.2.2.2] at hcb
  exact run_on hC hR h1 h2 h4 hl (va_runI (Ts := gws) (cc := mC M) (nL := mX M) ⟨hC.1, hC.2.1, hC.2.2.1, hC.2.2.2.2.1, hts⟩ K ⟨hcb, hM.2.2.1, hts _ hM.2.1⟩ ⟨pre_blind, fun U hU hW => ⟨rfl, by rw [hU]; exact h3, Kn.warm hW hC.2.2.2.2.2.2.1⟩⟩ rfl hn hl.1 rfl (lv_room hc8) hd ⟨by omega, by omega⟩)
theorem B.callIN {x n b : Nat} {st0 : List Value} (As : List Value) (host : String) (hd : decode (mC M) pc = .ok (.invokespecial x, 3)) (hM : MI M' n) (hlk : ∃ i, (i, (mY M).cls, x, mY M', host) ∈ nst) (hRM : RM M M') (hn : As.length = n) (hs : st0 = As.reverse ++ .ref b :: st) (hc8 : (st.map fun v => v.category).sum ≤ 8)
    (K : T g M' mc ms (.ref b :: As) S P I (fun r S' P' I' => B g M rc rs (pc + 3) lv (r.toList ++ st) S' P' I' Q)) : B g M (rc + mc) (rs + ms) pc lv st0 S P I Q := by
  intro p e R s m args below meth c Z hC hR H locs cells slots ls h1 h2 h3 h4 hl
  have hts := hC.2.2.2.2.2.1
  subst hs
  have hcb := cg_n (mc := mc) (ms := ms) hC hM.1 hRM hlk
  rw [hM.2.2.2] at hcb
  exact run_on hC hR h1 h2 h4 hl (va_runIN (Ts := gws) (cc := mC M) (nL := mX M) ⟨hC.1, hC.2.1, hC.2.2.1, hC.2.2.2.2.1, hts⟩ K ⟨hcb, hM.2.2.1, hts _ hM.2.1⟩ ⟨pre_blind, fun U hU hW => ⟨rfl, by rw [hU]; exact h3, Kn.warm hW hC.2.2.2.2.2.2.1⟩⟩ rfl hn hl.1 rfl (lv_room hc8) hd ⟨by omega, by omega⟩)
theorem oi_1 : Cond.instanceMethod objectInit ∈ gws := by decide +kernel
theorem oi_2 : Cond.code objectInit ⟨#[0xb1]⟩ 1 none ∈ gws := by decide +kernel
theorem B.objInit {x a : Nat} (hd : decode (mC M) pc = .ok (.invokespecial x, 3)) (hlk : Cond.methodLink (mY M).cls x objectInit ∈ gws) (hF : 1 ≤ mF M) (hL : 20 ≤ mL M) (hc8 : (st.map fun v => v.category).sum ≤ 8) (K : B g M rc rs (pc + 3) lv st S P I Q) : B g M rc rs pc lv (.ref a :: st) S P I Q := by
  intro p e R s m args below meth c Z hC hR H locs cells slots ls h1 h2 h3 h4 hl
  have hts := hC.2.2.2.2.2.1
  have q1 := hC.2.2.2.2.2.2.2.1
  have q2 := hC.2.2.2.2.2.2.2.2.1
  have q3 := lv_room (m := m) (pc := pc) (ls := ls) (rest := .ref a :: st) hc8
  refine W.objInit hC.1 hC.2.1 hC.2.2.2.2.1 (hts _ hlk) (hts _ oi_1) (hts _ oi_2) rfl (by rw [hC.2.2.1]; exact hl.1) rfl hd (by omega) (by omega) ?_
  exact K p e R s m args below meth c Z hC hR H locs cells slots ls h1 h2 h3 h4 hl
def cpI (I : IT) (a b n : Nat) : IT := fun q k => if q = b ∧ k < n then I a k else I q k
theorem ac_1 : Cond.native arraycopyName ∈ gws := by decide +kernel
theorem ac_2 : Cond.static arraycopyName ∈ gws := by decide +kernel
theorem ac_3 : Cond.initialized "java/lang/System" ∈ gws := by decide +kernel
theorem B.copy {x a b t n : Nat} {nn : Int32} (htt : t < 3) (hfit : ∀ k, k < n → fits (a_ty t) (.int (I a k)) = true) (hrk : refKind (a_ty t) = false) (hd : decode (mC M) pc = .ok (.invokestatic x, 3)) (hlk : Cond.methodLink (mY M).cls x arraycopyName ∈ gws) (hF : 1 ≤ mF M) (hL : 8 + (nativeFrameWords "java/lang/System" "arraycopy" 5 + 11) ≤ mL M) (hc8 : (st.map fun v => v.category).sum ≤ 8) (hta : sT S a = 40 + t) (htb : sT S b = 40 + t) (hn : ¬ nn < 0) (hnn : nn.toNatClampNeg = n) (hla : n ≤ sL S a) (hlb : n ≤ sL S b)
    (K : B g M rc rs (pc + 3) lv st S P (cpI I a b n) Q) : B g M rc rs pc lv (.int nn :: .int 0 :: .ref b :: .int 0 :: .ref a :: st) S P I Q := by
  intro p e R s m args below meth c Z hC hR H locs cells slots ls h1 h2 h3 h4 hl
  have hts := hC.2.2.2.2.2.1
  obtain ⟨b1, b2, hata⟩ := h3.2.2.2 a (by rw [hta]; omega)
  obtain ⟨d1, d2, hatb⟩ := h3.2.2.2 b (by rw [htb]; omega)
  have ca := hata.2 t hta
  have cb := hatb.2 t htb
  have q1 := hC.2.2.2.2.2.2.2.1
  have q2 := hC.2.2.2.2.2.2.2.2.1
  have hz : ¬ (0 : Int32) < 0 := by decide
  have hz2 : (0 : Int32).toNatClampNeg = 0 := rfl
  have nnI : nn.toInt = (n : Int) := by
    have hz0 : (0 : Int) ≤ nn.toInt := by
      have := Int32.not_lt.mp hn
      simpa using Int32.le_iff_toInt_le.mp this
    rw [← hnn]
    show nn.toInt = ((nn.toInt.toNat : Nat) : Int)
    omega
  intro T0 hT X
  obtain ⟨-, k0, hk0, cm0, hkk0⟩ := (hC.2.2.2.2.2.2.1.2.1 t (by omega)).1 (sL S a) (e_v P I a t)
  obtain ⟨-, k1, hk1, cm1, hkk1⟩ := (hC.2.2.2.2.2.2.1.2.1 t (by omega)).1 (sL S b) (e_v P I b t)
  obtain ⟨vm', X', step⟩ := X.arraycopy hC.1 hC.2.2.2.2.1 (hts _ hlk) (hts _ ac_1) (hts _ ac_2) (hts _ ac_3) (src := a) (dst := b) (cs := arrV (g.2.2.1 t) (sL S a) (e_v P I a t)) (cd := arrV (g.2.2.1 t) (sL S b) (e_v P I b t)) (srcPos := 0) (destPos := 0) (n := nn) (by rw [hT]; exact ca) (by rw [hT]; exact cb)
    (fun _ h => by cases h) (fun _ h => by cases h) (fun h => by cases h) (fun h => by cases h) hk0 hk1 hkk0 hkk1 (by simp [hrk]) hz hz hn
    (by rw [arrV_size, nnI]; show ¬ ((0 : Int) + _ > _); omega)
    (by rw [arrV_size, nnI]; show ¬ ((0 : Int) + _ > _); omega)
    (fun vm₁ _ i hi => by
      rw [hnn] at hi
      have e : (arrV (g.2.2.1 t) (sL S a) (e_v P I a t)).slots.getD ((0 : Int32).toNatClampNeg + i) .null = .int (I a i) := by
        rw [Array.getD_eq_getD_getElem?, hz2, Nat.zero_add, arrV_read _ _ (by omega)]
        simp [e_v, htt]
      refine ⟨?_, ?_⟩
      · rw [e]
        exact hfit i hi
      · rw [e]
        exact trivial)
    (g := F0 m pc ls (.int nn :: .int 0 :: .ref b :: .int 0 :: .ref a :: st)) rfl (by rw [hC.2.2.1]; exact hl.1) (rest := st) rfl (by rw [hC.2.1]; exact hd) (by omega) (by show 2 * 0 + _ + _ ≤ _; omega)
  have ea : arrV (g.2.2.1 t) (sL S a) (e_v P I a t) = arrV (g.2.2.1 t) (sL S a) (fun j => .int (I a j)) := by congr 1; funext j; simp [e_v, htt]
  have eb : arrV (g.2.2.1 t) (sL S b) (e_v P I b t) = arrV (g.2.2.1 t) (sL S b) (fun j => .int (I b j)) := by congr 1; funext j; simp [e_v, htt]
  have e1 : copied (arrV (g.2.2.1 t) (sL S a) (e_v P I a t)) (arrV (g.2.2.1 t) (sL S b) (e_v P I b t)) 0 0 nn = arrV (g.2.2.1 t) (sL S b) (fun j => .int (va_cpy (I a) (I b) 0 0 n j)) := by
    rw [ea, eb, ← hnn]
    exact va_copied (fun z => .int z) _ _ (I a) (I b) (by omega)
  rw [e1] at X' step
  have hl2 : b < H.size := (Array.getElem?_eq_some_iff.mp cb).1
  have hheap : ((T0.setVm vm').setCell b (arrV (g.2.2.1 t) (sL S b) (fun j => .int (va_cpy (I a) (I b) 0 0 n j)))).heap = H.setIfInBounds b (arrV (g.2.2.1 t) (sL S b) (fun j => .int (va_cpy (I a) (I b) 0 0 n j))) := by rw [← hT]; rfl
  have oq : ∀ q : Nat, q ≠ b → (H.setIfInBounds b (arrV (g.2.2.1 t) (sL S b) (fun j => .int (va_cpy (I a) (I b) 0 0 n j))))[q]? = H[q]? := fun q hq => by simp [Array.getElem?_setIfInBounds, Ne.symm hq]
  have hnew : Rep g S P (cpI I a b n) (H.setIfInBounds b (arrV (g.2.2.1 t) (sL S b) (fun j => .int (va_cpy (I a) (I b) 0 0 n j)))) := by
    refine h3.set (by simp) oq d1 (fun _ _ => rfl) (fun b' hb' => by funext k; simp [cpI, hb']) ⟨fun ci r t2 hr => ?_, fun t' t2 => ?_⟩
    · have hci : ci < 10 := (List.getElem?_eq_some_iff.mp hr).1
      rw [htb] at t2; omega
    · have : t' = t := by rw [htb] at t2; omega
      subst this
      simp only [Array.getElem?_setIfInBounds_self]
      rw [if_pos hl2]
      congr 2
      funext k
      simp only [e_v, htt, if_true, va_cpy, cpI, Nat.zero_le, true_and, Nat.zero_add, Nat.sub_zero]
  obtain ⟨t2, a1, b1'⟩ := K p e R s m args below meth c Z hC hR _ _ cells slots ls h1 h2 hnew (fun q hq => by
      rcases List.mem_append.mp hq with h | h
      · exact h4 q h
      · obtain ⟨z, -, hz⟩ := List.mem_map.mp h
        rw [← hz]
        exact d1) hl _ hheap X'
  exact ⟨t2, step t2 a1, b1'⟩
end CALLS
end
section
theorem nar_z {v : Int32} (h : v = 0 ∨ v = 1) : narrow .boolean (.int v) = .int v := by rcases h with rfl | rfl <;> rfl
theorem toInt_lit {x : Int32} {c : Nat} (hc : c < 2 ^ 31) (h : x.toInt = c) : x = nI c := by
  apply Int32.toInt_inj.mp
  rw [h, nI_toInt hc]
theorem tsw_out {x : Int32} {lo hi : Nat} (hlo : lo ≤ hi) (hh : hi < 2 ^ 31) (h : ∀ c : Nat, lo ≤ c → c ≤ hi → ¬ x = nI c) : x.toInt < (lo : Int) ∨ (hi : Int) < x.toInt := by
  rcases Int.lt_or_le x.toInt lo with q | q
  · exact Or.inl q
  · rcases Int.lt_or_le hi x.toInt with q2 | q2
    · exact Or.inr q2
    · exfalso
      refine h x.toInt.toNat (by omega) (by omega) (toInt_lit (by omega) (by omega))
theorem lsw_out {x : Int32} {d a b : Int} (h0 : ¬ x = 0) (h1 : ¬ x = 1) : Op.lookupswitch.offset [(0, a), (1, b)] d x.toInt = d := by
  have e0 : ¬ x.toInt = 0 := fun q => h0 (Int32.toInt_inj.mp q)
  have e1 : ¬ x.toInt = 1 := fun q => h1 (Int32.toInt_inj.mp q)
  simp [Op.lookupswitch.offset, e0, e1, Ne.symm e0, Ne.symm e1]
/-- a number between two -/
def wi (x a b : Int32) : Int32 := if a ≤ x ∧ x ≤ b then 1 else 0
theorem wi_01 (x a b : Int32) : wi x a b = 0 ∨ wi x a b = 1 := by unfold wi; split <;> simp
theorem wi_0 {x a b : Int32} : wi x a b = 0 ↔ ¬ (a ≤ x ∧ x ≤ b) := by unfold wi; split <;> simp_all
theorem wi_n0 {x a b : Int32} : ¬ wi x a b = 0 ↔ (a ≤ x ∧ x ≤ b) := by rw [wi_0]; exact Decidable.not_not
def imax (x y : Int32) : Int32 := if x < y then y else x
def imin (x y : Int32) : Int32 := if y < x then y else x
def iabs (x : Int32) : Int32 := if 0 ≤ x then x else 0 - x
section MATH
variable {g : GT} {M : MT} {rc rs pc : Nat} {lv : List (Nat × Value)} {st : List Value} {S : ST} {P : PT} {I : IT} {Q : QT}
theorem mm_i : Cond.initialized "java/lang/Math" ∈ gws := by decide +kernel
theorem mm_1 : Cond.static Lib.Math.max.name ∈ gws := by decide +kernel
theorem mm_2 : Cond.code Lib.Math.max.name Lib.Math.max.code 2 (some .int) ∈ gws := by decide +kernel
theorem mm_3 : Cond.static Lib.Math.min.name ∈ gws := by decide +kernel
theorem mm_4 : Cond.code Lib.Math.min.name Lib.Math.min.code 2 (some .int) ∈ gws := by decide +kernel
theorem mm_5 : Cond.static Lib.Math.abs.name ∈ gws := by decide +kernel
theorem mm_6 : Cond.code Lib.Math.abs.name Lib.Math.abs.code 1 (some .int) ∈ gws := by decide +kernel
theorem B.mmax {k : Nat} {x y : Int32} (hd : decode (mC M) pc = .ok (.invokestatic k, 3)) (hlk : Cond.methodLink (mY M).cls k Lib.Math.max.name ∈ gws) (hF : 1 ≤ mF M) (hL : 21 ≤ mL M) (hc8 : (st.map fun v => v.category).sum ≤ 8) (K : B g M rc rs (pc + 3) lv (.int (imax x y) :: st) S P I Q) : B g M rc rs pc lv (.int y :: .int x :: st) S P I Q := by
  intro p e R s m args below meth c Z hC hR H locs cells slots ls h1 h2 h3 h4 hl
  have hts := hC.2.2.2.2.2.1
  have q1 := hC.2.2.2.2.2.2.2.1
  have q2 := hC.2.2.2.2.2.2.2.2.1
  exact va_mmax hC.1 hC.2.1 (by rw [hC.2.2.1]; exact hl.1.symm) hC.2.2.2.2.1 (hts _ hlk) (hts _ mm_1) (hts _ mm_i) (hts _ mm_2) (by omega) (by omega) (by omega) (by omega) hd (K p e R s m args below meth c Z hC hR H locs cells slots ls h1 h2 h3 h4 hl)
theorem B.mmin {k : Nat} {x y : Int32} (hd : decode (mC M) pc = .ok (.invokestatic k, 3)) (hlk : Cond.methodLink (mY M).cls k Lib.Math.min.name ∈ gws) (hF : 1 ≤ mF M) (hL : 21 ≤ mL M) (hc8 : (st.map fun v => v.category).sum ≤ 8) (K : B g M rc rs (pc + 3) lv (.int (imin x y) :: st) S P I Q) : B g M rc rs pc lv (.int y :: .int x :: st) S P I Q := by
  intro p e R s m args below meth c Z hC hR H locs cells slots ls h1 h2 h3 h4 hl
  have hts := hC.2.2.2.2.2.1
  have q1 := hC.2.2.2.2.2.2.2.1
  have q2 := hC.2.2.2.2.2.2.2.2.1
  exact va_mmin hC.1 hC.2.1 (by rw [hC.2.2.1]; exact hl.1.symm) hC.2.2.2.2.1 (hts _ hlk) (hts _ mm_3) (hts _ mm_i) (hts _ mm_4) (by omega) (by omega) (by omega) (by omega) hd (K p e R s m args below meth c Z hC hR H locs cells slots ls h1 h2 h3 h4 hl)
theorem B.mabs {k : Nat} {x : Int32} (hd : decode (mC M) pc = .ok (.invokestatic k, 3)) (hlk : Cond.methodLink (mY M).cls k Lib.Math.abs.name ∈ gws) (hF : 1 ≤ mF M) (hL : 21 ≤ mL M) (hc8 : (st.map fun v => v.category).sum ≤ 8) (K : B g M rc rs (pc + 3) lv (.int (iabs x) :: st) S P I Q) : B g M rc rs pc lv (.int x :: st) S P I Q := by
  intro p e R s m args below meth c Z hC hR H locs cells slots ls h1 h2 h3 h4 hl
  have hts := hC.2.2.2.2.2.1
  have q1 := hC.2.2.2.2.2.2.2.1
  have q2 := hC.2.2.2.2.2.2.2.2.1
  exact va_mabs hC.1 hC.2.1 (by rw [hC.2.2.1]; exact hl.1.symm) hC.2.2.2.2.1 (hts _ hlk) (hts _ mm_5) (hts _ mm_i) (hts _ mm_6) (by omega) (by omega) (by omega) (by omega) hd (K p e R s m args below meth c Z hC hR H locs cells slots ls h1 h2 h3 h4 hl)
end MATH
end
section
def bi (c : Prop) [Decidable c] : Int32 := if c then 1 else 0
def isBk (x : Int32) : Int32 := if x = 10 ∨ x = 32 then 1 else 0
def isLt (x : Int32) : Int32 := wi x 97 122
def isDg (x : Int32) : Int32 := wi x 48 57
def isSg (x : Int32) : Int32 := if x = 58 ∨ x = 59 ∨ x = 60 ∨ x = 62 ∨ x = 61 then 1 else 0
def thr (a b c : Int32) : Int64 := ((32 * (a - 96).toInt64 + b.toInt64 - 96) * 32 + c.toInt64 - 96)
def fou (a b c d : Int32) : Int64 := thr a b c * 32 + d.toInt64 - 96
theorem s_X8_within_0 {g : GT} {S : ST} {P : PT} {I : IT} {Q : QT} {x0 : Int32} {x1 : Int32} {x2 : Int32} (h : ((x0 < x1 → Q (some (.int 0)) S P I) ∧ (¬ x0 < x1 → ((x2 < x0 → Q (some (.int 0)) S P I) ∧ (¬ x2 < x0 → Q (some (.int 1)) S P I))))) : B g MX8_within 0 0 0 [(0, .int x0), (1, .int x1), (2, .int x2)] [] S P I Q := by
  refine B.iload_n 0 dX8_within_0 rfl rfl ?_
  refine B.iload_n 1 dX8_within_1 rfl rfl ?_
  refine B.icmp_lt 14 dX8_within_2 (by decide) (fun q1 => ?_) (fun q1 => ?_)
  · replace h := h.1 q1
    refine B.iconst 0 dX8_within_14 (by decide) ?_
    refine B.ireturn dX8_within_15 rfl rfl ?_
    exact h
  · replace h := h.2 q1
    refine B.iload_n 0 dX8_within_5 rfl rfl ?_
    refine B.iload_n 2 dX8_within_6 rfl rfl ?_
    refine B.icmp_gt 14 dX8_within_7 (by decide) (fun q2 => ?_) (fun q2 => ?_)
    · replace h := h.1 q2
      refine B.iconst 0 dX8_within_14 (by decide) ?_
      refine B.ireturn dX8_within_15 rfl rfl ?_
      exact h
    · replace h := h.2 q2
      refine B.iconst 1 dX8_within_10 (by decide) ?_
      refine B.goto_ 15 dX8_within_11 (by decide) ?_
      refine B.ireturn dX8_within_15 rfl rfl ?_
      exact h
theorem t_within {g : GT} {S : ST} {P : PT} {I : IT} {Q : QT} {x a b : Int32} (h : Q (some (.int (wi x a b))) S P I) : T g MX8_within 0 0 [.int x, .int a, .int b] S P I Q := by
  refine T_of rfl (Nat.le_of_ble_eq_true rfl) (s_X8_within_0 ?_)
  unfold wi at h
  refine ⟨fun q => ?_, fun q => ⟨fun q2 => ?_, fun q2 => ?_⟩⟩
  · rw [if_neg (fun z => Int32.not_le.mpr q z.1)] at h; exact h
  · rw [if_neg (fun z => Int32.not_le.mpr q2 z.2)] at h; exact h
  · rw [if_pos ⟨Int32.not_lt.mp q, Int32.not_lt.mp q2⟩] at h; exact h
theorem s_X9_isIn_0 {g : GT} {S : ST} {P : PT} {I : IT} {Q : QT} {x0 : Int32} {x1 : Int32} {x2 : Int32} (h : ((x0 < x1 → Q (some (.int 0)) S P I) ∧ (¬ x0 < x1 → ((x2 < x0 → Q (some (.int 0)) S P I) ∧ (¬ x2 < x0 → Q (some (.int 1)) S P I))))) : B g MX9_isIn 0 0 0 [(0, .int x0), (1, .int x1), (2, .int x2)] [] S P I Q := by
  refine B.iload_n 0 dX9_isIn_0 rfl rfl ?_
  refine B.iload_n 1 dX9_isIn_1 rfl rfl ?_
  refine B.icmp_lt 14 dX9_isIn_2 (by decide) (fun q1 => ?_) (fun q1 => ?_)
  · replace h := h.1 q1
    refine B.iconst 0 dX9_isIn_14 (by decide) ?_
    refine B.ireturn dX9_isIn_15 rfl rfl ?_
    exact h
  · replace h := h.2 q1
    refine B.iload_n 0 dX9_isIn_5 rfl rfl ?_
    refine B.iload_n 2 dX9_isIn_6 rfl rfl ?_
    refine B.icmp_gt 14 dX9_isIn_7 (by decide) (fun q2 => ?_) (fun q2 => ?_)
    · replace h := h.1 q2
      refine B.iconst 0 dX9_isIn_14 (by decide) ?_
      refine B.ireturn dX9_isIn_15 rfl rfl ?_
      exact h
    · replace h := h.2 q2
      refine B.iconst 1 dX9_isIn_10 (by decide) ?_
      refine B.goto_ 15 dX9_isIn_11 (by decide) ?_
      refine B.ireturn dX9_isIn_15 rfl rfl ?_
      exact h
theorem t_isIn {g : GT} {S : ST} {P : PT} {I : IT} {Q : QT} {x a b : Int32} (h : Q (some (.int (wi x a b))) S P I) : T g MX9_isIn 0 0 [.int x, .int a, .int b] S P I Q := by
  refine T_of rfl (Nat.le_of_ble_eq_true rfl) (s_X9_isIn_0 ?_)
  unfold wi at h
  refine ⟨fun q => ?_, fun q => ⟨fun q2 => ?_, fun q2 => ?_⟩⟩
  · rw [if_neg (fun z => Int32.not_le.mpr q z.1)] at h; exact h
  · rw [if_neg (fun z => Int32.not_le.mpr q2 z.2)] at h; exact h
  · rw [if_pos ⟨Int32.not_lt.mp q, Int32.not_lt.mp q2⟩] at h; exact h
theorem s_X6_isLetter_0 {g : GT} {S : ST} {P : PT} {I : IT} {Q : QT} {x0 : Int32} (h : ((x0 < 97 → Q (some (.int 0)) S P I) ∧ (¬ x0 < 97 → ((122 < x0 → Q (some (.int 0)) S P I) ∧ (¬ 122 < x0 → Q (some (.int 1)) S P I))))) : B g MX6_isLetter 0 0 0 [(0, .int x0)] [] S P I Q := by
  refine B.iload_n 0 dX6_isLetter_0 rfl rfl ?_
  refine B.bipush 97 dX6_isLetter_1 (by decide) ?_
  refine B.icmp_lt 16 dX6_isLetter_3 (by decide) (fun q1 => ?_) (fun q1 => ?_)
  · replace h := h.1 q1
    refine B.iconst 0 dX6_isLetter_16 (by decide) ?_
    refine B.ireturn dX6_isLetter_17 rfl rfl ?_
    exact h
  · replace h := h.2 q1
    refine B.iload_n 0 dX6_isLetter_6 rfl rfl ?_
    refine B.bipush 122 dX6_isLetter_7 (by decide) ?_
    refine B.icmp_gt 16 dX6_isLetter_9 (by decide) (fun q2 => ?_) (fun q2 => ?_)
    · replace h := h.1 q2
      refine B.iconst 0 dX6_isLetter_16 (by decide) ?_
      refine B.ireturn dX6_isLetter_17 rfl rfl ?_
      exact h
    · replace h := h.2 q2
      refine B.iconst 1 dX6_isLetter_12 (by decide) ?_
      refine B.goto_ 17 dX6_isLetter_13 (by decide) ?_
      refine B.ireturn dX6_isLetter_17 rfl rfl ?_
      exact h
theorem t_isLetter6 {g : GT} {S : ST} {P : PT} {I : IT} {Q : QT} {x : Int32} (h : Q (some (.int (isLt x))) S P I) : T g MX6_isLetter 0 0 [.int x] S P I Q := by
  refine T_of rfl (Nat.le_of_ble_eq_true rfl) (s_X6_isLetter_0 ?_)
  unfold isLt wi at h
  refine ⟨fun q => ?_, fun q => ⟨fun q2 => ?_, fun q2 => ?_⟩⟩
  · rw [if_neg (fun z => Int32.not_le.mpr q z.1)] at h; exact h
  · rw [if_neg (fun z => Int32.not_le.mpr q2 z.2)] at h; exact h
  · rw [if_pos ⟨Int32.not_lt.mp q, Int32.not_lt.mp q2⟩] at h; exact h
theorem s_X6_isDigit_0 {g : GT} {S : ST} {P : PT} {I : IT} {Q : QT} {x0 : Int32} (h : ((x0 < 48 → Q (some (.int 0)) S P I) ∧ (¬ x0 < 48 → ((57 < x0 → Q (some (.int 0)) S P I) ∧ (¬ 57 < x0 → Q (some (.int 1)) S P I))))) : B g MX6_isDigit 0 0 0 [(0, .int x0)] [] S P I Q := by
  refine B.iload_n 0 dX6_isDigit_0 rfl rfl ?_
  refine B.bipush 48 dX6_isDigit_1 (by decide) ?_
  refine B.icmp_lt 16 dX6_isDigit_3 (by decide) (fun q1 => ?_) (fun q1 => ?_)
  · replace h := h.1 q1
    refine B.iconst 0 dX6_isDigit_16 (by decide) ?_
    refine B.ireturn dX6_isDigit_17 rfl rfl ?_
    exact h
  · replace h := h.2 q1
    refine B.iload_n 0 dX6_isDigit_6 rfl rfl ?_
    refine B.bipush 57 dX6_isDigit_7 (by decide) ?_
    refine B.icmp_gt 16 dX6_isDigit_9 (by decide) (fun q2 => ?_) (fun q2 => ?_)
    · replace h := h.1 q2
      refine B.iconst 0 dX6_isDigit_16 (by decide) ?_
      refine B.ireturn dX6_isDigit_17 rfl rfl ?_
      exact h
    · replace h := h.2 q2
      refine B.iconst 1 dX6_isDigit_12 (by decide) ?_
      refine B.goto_ 17 dX6_isDigit_13 (by decide) ?_
      refine B.ireturn dX6_isDigit_17 rfl rfl ?_
      exact h
theorem t_isDigit6 {g : GT} {S : ST} {P : PT} {I : IT} {Q : QT} {x : Int32} (h : Q (some (.int (isDg x))) S P I) : T g MX6_isDigit 0 0 [.int x] S P I Q := by
  refine T_of rfl (Nat.le_of_ble_eq_true rfl) (s_X6_isDigit_0 ?_)
  unfold isDg wi at h
  refine ⟨fun q => ?_, fun q => ⟨fun q2 => ?_, fun q2 => ?_⟩⟩
  · rw [if_neg (fun z => Int32.not_le.mpr q z.1)] at h; exact h
  · rw [if_neg (fun z => Int32.not_le.mpr q2 z.2)] at h; exact h
  · rw [if_pos ⟨Int32.not_lt.mp q, Int32.not_lt.mp q2⟩] at h; exact h
theorem s_X9_isLetter_0 {g : GT} {S : ST} {P : PT} {I : IT} {Q : QT} {x0 : Int32} (h : ((x0 < 97 → Q (some (.int 0)) S P I) ∧ (¬ x0 < 97 → ((122 < x0 → Q (some (.int 0)) S P I) ∧ (¬ 122 < x0 → Q (some (.int 1)) S P I))))) : B g MX9_isLetter 0 0 0 [(0, .int x0)] [] S P I Q := by
  refine B.iload_n 0 dX9_isLetter_0 rfl rfl ?_
  refine B.bipush 97 dX9_isLetter_1 (by decide) ?_
  refine B.icmp_lt 16 dX9_isLetter_3 (by decide) (fun q1 => ?_) (fun q1 => ?_)
  · replace h := h.1 q1
    refine B.iconst 0 dX9_isLetter_16 (by decide) ?_
    refine B.ireturn dX9_isLetter_17 rfl rfl ?_
    exact h
  · replace h := h.2 q1
    refine B.iload_n 0 dX9_isLetter_6 rfl rfl ?_
    refine B.bipush 122 dX9_isLetter_7 (by decide) ?_
    refine B.icmp_gt 16 dX9_isLetter_9 (by decide) (fun q2 => ?_) (fun q2 => ?_)
    · replace h := h.1 q2
      refine B.iconst 0 dX9_isLetter_16 (by decide) ?_
      refine B.ireturn dX9_isLetter_17 rfl rfl ?_
      exact h
    · replace h := h.2 q2
      refine B.iconst 1 dX9_isLetter_12 (by decide) ?_
      refine B.goto_ 17 dX9_isLetter_13 (by decide) ?_
      refine B.ireturn dX9_isLetter_17 rfl rfl ?_
      exact h
theorem t_isLetter9 {g : GT} {S : ST} {P : PT} {I : IT} {Q : QT} {x : Int32} (h : Q (some (.int (isLt x))) S P I) : T g MX9_isLetter 0 0 [.int x] S P I Q := by
  refine T_of rfl (Nat.le_of_ble_eq_true rfl) (s_X9_isLetter_0 ?_)
  unfold isLt wi at h
  refine ⟨fun q => ?_, fun q => ⟨fun q2 => ?_, fun q2 => ?_⟩⟩
  · rw [if_neg (fun z => Int32.not_le.mpr q z.1)] at h; exact h
  · rw [if_neg (fun z => Int32.not_le.mpr q2 z.2)] at h; exact h
  · rw [if_pos ⟨Int32.not_lt.mp q, Int32.not_lt.mp q2⟩] at h; exact h
theorem s_X9_isDigit_0 {g : GT} {S : ST} {P : PT} {I : IT} {Q : QT} {x0 : Int32} (h : ((x0 < 48 → Q (some (.int 0)) S P I) ∧ (¬ x0 < 48 → ((57 < x0 → Q (some (.int 0)) S P I) ∧ (¬ 57 < x0 → Q (some (.int 1)) S P I))))) : B g MX9_isDigit 0 0 0 [(0, .int x0)] [] S P I Q := by
  refine B.iload_n 0 dX9_isDigit_0 rfl rfl ?_
  refine B.bipush 48 dX9_isDigit_1 (by decide) ?_
  refine B.icmp_lt 16 dX9_isDigit_3 (by decide) (fun q1 => ?_) (fun q1 => ?_)
  · replace h := h.1 q1
    refine B.iconst 0 dX9_isDigit_16 (by decide) ?_
    refine B.ireturn dX9_isDigit_17 rfl rfl ?_
    exact h
  · replace h := h.2 q1
    refine B.iload_n 0 dX9_isDigit_6 rfl rfl ?_
    refine B.bipush 57 dX9_isDigit_7 (by decide) ?_
    refine B.icmp_gt 16 dX9_isDigit_9 (by decide) (fun q2 => ?_) (fun q2 => ?_)
    · replace h := h.1 q2
      refine B.iconst 0 dX9_isDigit_16 (by decide) ?_
      refine B.ireturn dX9_isDigit_17 rfl rfl ?_
      exact h
    · replace h := h.2 q2
      refine B.iconst 1 dX9_isDigit_12 (by decide) ?_
      refine B.goto_ 17 dX9_isDigit_13 (by decide) ?_
      refine B.ireturn dX9_isDigit_17 rfl rfl ?_
      exact h
theorem t_isDigit9 {g : GT} {S : ST} {P : PT} {I : IT} {Q : QT} {x : Int32} (h : Q (some (.int (isDg x))) S P I) : T g MX9_isDigit 0 0 [.int x] S P I Q := by
  refine T_of rfl (Nat.le_of_ble_eq_true rfl) (s_X9_isDigit_0 ?_)
  unfold isDg wi at h
  refine ⟨fun q => ?_, fun q => ⟨fun q2 => ?_, fun q2 => ?_⟩⟩
  · rw [if_neg (fun z => Int32.not_le.mpr q z.1)] at h; exact h
  · rw [if_neg (fun z => Int32.not_le.mpr q2 z.2)] at h; exact h
  · rw [if_pos ⟨Int32.not_lt.mp q, Int32.not_lt.mp q2⟩] at h; exact h
theorem s_X6_isBlank_0 {g : GT} {S : ST} {P : PT} {I : IT} {Q : QT} {x0 : Int32} (h : ((x0 = 10 → Q (some (.int 1)) S P I) ∧ (¬ x0 = 10 → ((¬ x0 = 32 → Q (some (.int 0)) S P I) ∧ (x0 = 32 → Q (some (.int 1)) S P I))))) : B g MX6_isBlank 0 0 0 [(0, .int x0)] [] S P I Q := by
  refine B.iload_n 0 dX6_isBlank_0 rfl rfl ?_
  refine B.bipush 10 dX6_isBlank_1 (by decide) ?_
  refine B.icmp_eq 12 dX6_isBlank_3 (by decide) (fun q1 => ?_) (fun q1 => ?_)
  · replace h := h.1 q1
    refine B.iconst 1 dX6_isBlank_12 (by decide) ?_
    refine B.goto_ 17 dX6_isBlank_13 (by decide) ?_
    refine B.ireturn dX6_isBlank_17 rfl rfl ?_
    exact h
  · replace h := h.2 q1
    refine B.iload_n 0 dX6_isBlank_6 rfl rfl ?_
    refine B.bipush 32 dX6_isBlank_7 (by decide) ?_
    refine B.icmp_ne 16 dX6_isBlank_9 (by decide) (fun q2 => ?_) (fun q2 => ?_)
    · replace h := h.1 q2
      refine B.iconst 0 dX6_isBlank_16 (by decide) ?_
      refine B.ireturn dX6_isBlank_17 rfl rfl ?_
      exact h
    · replace h := h.2 q2
      refine B.iconst 1 dX6_isBlank_12 (by decide) ?_
      refine B.goto_ 17 dX6_isBlank_13 (by decide) ?_
      refine B.ireturn dX6_isBlank_17 rfl rfl ?_
      exact h
theorem t_isBlank {g : GT} {S : ST} {P : PT} {I : IT} {Q : QT} {x : Int32} (h : Q (some (.int (isBk x))) S P I) : T g MX6_isBlank 0 0 [.int x] S P I Q := by
  refine T_of rfl (Nat.le_of_ble_eq_true rfl) (s_X6_isBlank_0 ?_)
  unfold isBk at h
  refine ⟨fun q => ?_, fun q => ⟨fun q2 => ?_, fun q2 => ?_⟩⟩
  · rw [if_pos (Or.inl q)] at h; exact h
  · rw [if_neg (fun z => z.elim q q2)] at h; exact h
  · rw [if_pos (Or.inr q2)] at h; exact h
theorem s_X9_isSignByte_0 {g : GT} {S : ST} {P : PT} {I : IT} {Q : QT} {x0 : Int32} (h : ((x0 = 58 → Q (some (.int 1)) S P I) ∧ (¬ x0 = 58 → ((x0 = 59 → Q (some (.int 1)) S P I) ∧ (¬ x0 = 59 → ((x0 = 60 → Q (some (.int 1)) S P I) ∧ (¬ x0 = 60 → ((x0 = 62 → Q (some (.int 1)) S P I) ∧ (¬ x0 = 62 → ((¬ x0 = 61 → Q (some (.int 0)) S P I) ∧ (x0 = 61 → Q (some (.int 1)) S P I))))))))))) : B g MX9_isSignByte 0 0 0 [(0, .int x0)] [] S P I Q := by
  refine B.iload_n 0 dX9_isSignByte_0 rfl rfl ?_
  refine B.bipush 58 dX9_isSignByte_1 (by decide) ?_
  refine B.icmp_eq 30 dX9_isSignByte_3 (by decide) (fun q1 => ?_) (fun q1 => ?_)
  · replace h := h.1 q1
    refine B.iconst 1 dX9_isSignByte_30 (by decide) ?_
    refine B.goto_ 35 dX9_isSignByte_31 (by decide) ?_
    refine B.ireturn dX9_isSignByte_35 rfl rfl ?_
    exact h
  · replace h := h.2 q1
    refine B.iload_n 0 dX9_isSignByte_6 rfl rfl ?_
    refine B.bipush 59 dX9_isSignByte_7 (by decide) ?_
    refine B.icmp_eq 30 dX9_isSignByte_9 (by decide) (fun q2 => ?_) (fun q2 => ?_)
    · replace h := h.1 q2
      refine B.iconst 1 dX9_isSignByte_30 (by decide) ?_
      refine B.goto_ 35 dX9_isSignByte_31 (by decide) ?_
      refine B.ireturn dX9_isSignByte_35 rfl rfl ?_
      exact h
    · replace h := h.2 q2
      refine B.iload_n 0 dX9_isSignByte_12 rfl rfl ?_
      refine B.bipush 60 dX9_isSignByte_13 (by decide) ?_
      refine B.icmp_eq 30 dX9_isSignByte_15 (by decide) (fun q3 => ?_) (fun q3 => ?_)
      · replace h := h.1 q3
        refine B.iconst 1 dX9_isSignByte_30 (by decide) ?_
        refine B.goto_ 35 dX9_isSignByte_31 (by decide) ?_
        refine B.ireturn dX9_isSignByte_35 rfl rfl ?_
        exact h
      · replace h := h.2 q3
        refine B.iload_n 0 dX9_isSignByte_18 rfl rfl ?_
        refine B.bipush 62 dX9_isSignByte_19 (by decide) ?_
        refine B.icmp_eq 30 dX9_isSignByte_21 (by decide) (fun q4 => ?_) (fun q4 => ?_)
        · replace h := h.1 q4
          refine B.iconst 1 dX9_isSignByte_30 (by decide) ?_
          refine B.goto_ 35 dX9_isSignByte_31 (by decide) ?_
          refine B.ireturn dX9_isSignByte_35 rfl rfl ?_
          exact h
        · replace h := h.2 q4
          refine B.iload_n 0 dX9_isSignByte_24 rfl rfl ?_
          refine B.bipush 61 dX9_isSignByte_25 (by decide) ?_
          refine B.icmp_ne 34 dX9_isSignByte_27 (by decide) (fun q5 => ?_) (fun q5 => ?_)
          · replace h := h.1 q5
            refine B.iconst 0 dX9_isSignByte_34 (by decide) ?_
            refine B.ireturn dX9_isSignByte_35 rfl rfl ?_
            exact h
          · replace h := h.2 q5
            refine B.iconst 1 dX9_isSignByte_30 (by decide) ?_
            refine B.goto_ 35 dX9_isSignByte_31 (by decide) ?_
            refine B.ireturn dX9_isSignByte_35 rfl rfl ?_
            exact h
theorem t_isSign {g : GT} {S : ST} {P : PT} {I : IT} {Q : QT} {x : Int32} (h : Q (some (.int (isSg x))) S P I) : T g MX9_isSignByte 0 0 [.int x] S P I Q := by
  refine T_of rfl (Nat.le_of_ble_eq_true rfl) (s_X9_isSignByte_0 ?_)
  unfold isSg at h
  refine ⟨fun q => ?_, fun q => ⟨fun q2 => ?_, fun q2 => ⟨fun q3 => ?_, fun q3 => ⟨fun q4 => ?_, fun q4 => ⟨fun q5 => ?_, fun q5 => ?_⟩⟩⟩⟩⟩ <;> simp_all
theorem s_X9_three_0 {g : GT} {S : ST} {P : PT} {I : IT} {Q : QT} {x0 : Int32} {x1 : Int32} {x2 : Int32} (h : Q (some (.long ((((((32 * ((x0 - 96)).toInt64) + (x1).toInt64) - 96) * 32) + (x2).toInt64) - 96))) S P I) : B g MX9_three 0 0 0 [(0, .int x0), (1, .int x1), (2, .int x2)] [] S P I Q := by
  refine B.ldc2 32 dX9_three_0 kl_X9_34 ?_
  refine B.iload_n 0 dX9_three_3 rfl rfl ?_
  refine B.bipush 96 dX9_three_4 (by decide) ?_
  refine B.isub dX9_three_6 ?_
  refine B.i2l dX9_three_7 ?_
  refine B.lmul dX9_three_8 ?_
  refine B.iload_n 1 dX9_three_9 rfl rfl ?_
  refine B.i2l dX9_three_10 ?_
  refine B.ladd dX9_three_11 ?_
  refine B.ldc2 96 dX9_three_12 kl_X9_36 ?_
  refine B.lsub dX9_three_15 ?_
  refine B.ldc2 32 dX9_three_16 kl_X9_34 ?_
  refine B.lmul dX9_three_19 ?_
  refine B.iload_n 2 dX9_three_20 rfl rfl ?_
  refine B.i2l dX9_three_21 ?_
  refine B.ladd dX9_three_22 ?_
  refine B.ldc2 96 dX9_three_23 kl_X9_36 ?_
  refine B.lsub dX9_three_26 ?_
  refine B.lreturn dX9_three_27 rfl ?_
  exact h
theorem t_three {g : GT} {S : ST} {P : PT} {I : IT} {Q : QT} {a b c : Int32} (h : Q (some (.long (thr a b c))) S P I) : T g MX9_three 0 0 [.int a, .int b, .int c] S P I Q := by
  refine T_of rfl (Nat.le_of_ble_eq_true rfl) (s_X9_three_0 ?_)
  exact h
theorem s_X9_four_0 {g : GT} {S : ST} {P : PT} {I : IT} {Q : QT} {x0 : Int32} {x1 : Int32} {x2 : Int32} {x3 : Int32} (h : Q (some (.long ((((thr x0 x1 x2) * 32) + (x3).toInt64) - 96))) S P I) : B g MX9_four 0 0 0 [(0, .int x0), (1, .int x1), (2, .int x2), (3, .int x3)] [] S P I Q := by
  refine B.iload_n 0 dX9_four_0 rfl rfl ?_
  refine B.iload_n 1 dX9_four_1 rfl rfl ?_
  refine B.iload_n 2 dX9_four_2 rfl rfl ?_
  refine B.callS (M' := MX9_three) (rc := 0) (rs := 0) (mc := 0) (ms := 0) (st := []) [.int x0, .int x1, .int x2] dX9_four_3 ms_X9_three lk_X9_38 ⟨Nat.le_of_ble_eq_true rfl, Nat.le_of_ble_eq_true rfl⟩ rfl rfl (Nat.le_of_ble_eq_true rfl) (t_three ?_)
  show B g MX9_four 0 0 6 [(0, .int x0), (1, .int x1), (2, .int x2), (3, .int x3)] [.long (thr x0 x1 x2)] S P I _
  refine B.ldc2 32 dX9_four_6 kl_X9_34 ?_
  refine B.lmul dX9_four_9 ?_
  refine B.iload_n 3 dX9_four_10 rfl rfl ?_
  refine B.i2l dX9_four_11 ?_
  refine B.ladd dX9_four_12 ?_
  refine B.ldc2 96 dX9_four_13 kl_X9_36 ?_
  refine B.lsub dX9_four_16 ?_
  refine B.lreturn dX9_four_17 rfl ?_
  exact h
theorem t_four {g : GT} {S : ST} {P : PT} {I : IT} {Q : QT} {a b c d : Int32} (h : Q (some (.long (fou a b c d))) S P I) : T g MX9_four 0 0 [.int a, .int b, .int c, .int d] S P I Q := by
  refine T_of rfl (Nat.le_of_ble_eq_true rfl) (s_X9_four_0 ?_)
  exact h
end
