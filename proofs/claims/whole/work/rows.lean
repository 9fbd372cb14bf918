section
/-- a private method of a class that the tables say can be made, by its rows of tables_1 -/
def lw_okq (q : MethodName × Nat) : Prop := (q.1.cls ≠ "java/lang/invoke/MethodHandle" ∧ q.1.cls ≠ "java/lang/invoke/VarHandle") ∧ Cond.instantiable q.1.cls q.2 ∈ tables_1 ∧ Cond.privateMethod q.1 ∈ tables_1 ∧ Cond.instanceMethod q.1 ∈ tables_1
theorem lw_p0 : lw_okq (⟨"FeltHouse", "finding", "(I)I"⟩, 10) := ⟨⟨by decide +kernel, by decide +kernel⟩, List.mem_of_getElem? (i := 18) (by decide +kernel), List.mem_of_getElem? (i := 285) (by decide +kernel), List.mem_of_getElem? (i := 286) (by decide +kernel)⟩
theorem lw_p1 : lw_okq (⟨"FeltHouse$Frame", "drawnHold", "(I)I"⟩, 7) := ⟨⟨by decide +kernel, by decide +kernel⟩, List.mem_of_getElem? (i := 115) (by decide +kernel), List.mem_of_getElem? (i := 327) (by decide +kernel), List.mem_of_getElem? (i := 328) (by decide +kernel)⟩
theorem lw_p2 : lw_okq (⟨"FeltHouse$Frame", "feltWarms", "(I)I"⟩, 7) := ⟨⟨by decide +kernel, by decide +kernel⟩, List.mem_of_getElem? (i := 115) (by decide +kernel), List.mem_of_getElem? (i := 335) (by decide +kernel), List.mem_of_getElem? (i := 336) (by decide +kernel)⟩
theorem lw_p3 : lw_okq (⟨"FeltHouse$Frame", "hasPoles", "()Z"⟩, 7) := ⟨⟨by decide +kernel, by decide +kernel⟩, List.mem_of_getElem? (i := 115) (by decide +kernel), List.mem_of_getElem? (i := 416) (by decide +kernel), List.mem_of_getElem? (i := 417) (by decide +kernel)⟩
theorem lw_p4 : lw_okq (⟨"FeltHouse$Frame", "isOverdrawn", "()Z"⟩, 7) := ⟨⟨by decide +kernel, by decide +kernel⟩, List.mem_of_getElem? (i := 115) (by decide +kernel), List.mem_of_getElem? (i := 426) (by decide +kernel), List.mem_of_getElem? (i := 427) (by decide +kernel)⟩
theorem lw_p5 : lw_okq (⟨"FeltHouse$Loads", "afterLaying", "(II)I"⟩, 7) := ⟨⟨by decide +kernel, by decide +kernel⟩, List.mem_of_getElem? (i := 147) (by decide +kernel), List.mem_of_getElem? (i := 505) (by decide +kernel), List.mem_of_getElem? (i := 506) (by decide +kernel)⟩
theorem lw_p6 : lw_okq (⟨"FeltHouse$Loads", "partsOf", "(I)I"⟩, 7) := ⟨⟨by decide +kernel, by decide +kernel⟩, List.mem_of_getElem? (i := 147) (by decide +kernel), List.mem_of_getElem? (i := 524) (by decide +kernel), List.mem_of_getElem? (i := 525) (by decide +kernel)⟩
theorem lw_p7 : lw_okq (⟨"FeltHouse$Plan", "restCost", "(IIII)I"⟩, 4) := ⟨⟨by decide +kernel, by decide +kernel⟩, List.mem_of_getElem? (i := 177) (by decide +kernel), List.mem_of_getElem? (i := 570) (by decide +kernel), List.mem_of_getElem? (i := 571) (by decide +kernel)⟩
theorem lw_p8 : lw_okq (⟨"FeltHouse$Plan", "nextCamp", "(III)I"⟩, 4) := ⟨⟨by decide +kernel, by decide +kernel⟩, List.mem_of_getElem? (i := 177) (by decide +kernel), List.mem_of_getElem? (i := 574) (by decide +kernel), List.mem_of_getElem? (i := 575) (by decide +kernel)⟩
theorem lw_p9 : lw_okq (⟨"FeltHouse$Plan", "onwardCost", "(IIII)I"⟩, 4) := ⟨⟨by decide +kernel, by decide +kernel⟩, List.mem_of_getElem? (i := 177) (by decide +kernel), List.mem_of_getElem? (i := 578) (by decide +kernel), List.mem_of_getElem? (i := 579) (by decide +kernel)⟩
theorem lw_p10 : lw_okq (⟨"FeltHouse$Plan", "firstCamp", "()I"⟩, 4) := ⟨⟨by decide +kernel, by decide +kernel⟩, List.mem_of_getElem? (i := 177) (by decide +kernel), List.mem_of_getElem? (i := 593) (by decide +kernel), List.mem_of_getElem? (i := 594) (by decide +kernel)⟩
theorem lw_p11 : lw_okq (⟨"FeltHouse$Text", "step", "()V"⟩, 6) := ⟨⟨by decide +kernel, by decide +kernel⟩, List.mem_of_getElem? (i := 198) (by decide +kernel), List.mem_of_getElem? (i := 632) (by decide +kernel), List.mem_of_getElem? (i := 633) (by decide +kernel)⟩
theorem lw_p12 : lw_okq (⟨"FeltHouse$Text", "takeItem", "(LFeltHouse$Stock;)Z"⟩, 6) := ⟨⟨by decide +kernel, by decide +kernel⟩, List.mem_of_getElem? (i := 198) (by decide +kernel), List.mem_of_getElem? (i := 643) (by decide +kernel), List.mem_of_getElem? (i := 644) (by decide +kernel)⟩
theorem lw_p13 : lw_okq (⟨"FeltHouse$Text", "isWord", "(Ljava/lang/String;)Z"⟩, 6) := ⟨⟨by decide +kernel, by decide +kernel⟩, List.mem_of_getElem? (i := 198) (by decide +kernel), List.mem_of_getElem? (i := 657) (by decide +kernel), List.mem_of_getElem? (i := 658) (by decide +kernel)⟩
theorem lw_p14 : lw_okq (⟨"FeltHouse$Text", "takePart", "(LFeltHouse$Stock;I)Z"⟩, 6) := ⟨⟨by decide +kernel, by decide +kernel⟩, List.mem_of_getElem? (i := 198) (by decide +kernel), List.mem_of_getElem? (i := 709) (by decide +kernel), List.mem_of_getElem? (i := 710) (by decide +kernel)⟩
theorem lw_p15 : lw_okq (⟨"FeltHouse$Text", "isNumber", "(II)Z"⟩, 6) := ⟨⟨by decide +kernel, by decide +kernel⟩, List.mem_of_getElem? (i := 198) (by decide +kernel), List.mem_of_getElem? (i := 713) (by decide +kernel), List.mem_of_getElem? (i := 714) (by decide +kernel)⟩
def lw_privs_1 : List (MethodName × Nat) := [(⟨"FeltHouse", "finding", "(I)I"⟩, 10), (⟨"FeltHouse$Frame", "drawnHold", "(I)I"⟩, 7), (⟨"FeltHouse$Frame", "feltWarms", "(I)I"⟩, 7), (⟨"FeltHouse$Frame", "hasPoles", "()Z"⟩, 7), (⟨"FeltHouse$Frame", "isOverdrawn", "()Z"⟩, 7), (⟨"FeltHouse$Loads", "afterLaying", "(II)I"⟩, 7), (⟨"FeltHouse$Loads", "partsOf", "(I)I"⟩, 7), (⟨"FeltHouse$Plan", "restCost", "(IIII)I"⟩, 4), (⟨"FeltHouse$Plan", "nextCamp", "(III)I"⟩, 4), (⟨"FeltHouse$Plan", "onwardCost", "(IIII)I"⟩, 4), (⟨"FeltHouse$Plan", "firstCamp", "()I"⟩, 4), (⟨"FeltHouse$Text", "step", "()V"⟩, 6), (⟨"FeltHouse$Text", "takeItem", "(LFeltHouse$Stock;)Z"⟩, 6), (⟨"FeltHouse$Text", "isWord", "(Ljava/lang/String;)Z"⟩, 6), (⟨"FeltHouse$Text", "takePart", "(LFeltHouse$Stock;I)Z"⟩, 6), (⟨"FeltHouse$Text", "isNumber", "(II)Z"⟩, 6)]
theorem lw_r1 : ∀ q ∈ lw_privs_1, lw_okq q := List.forall_mem_cons.mpr ⟨lw_p0, List.forall_mem_cons.mpr ⟨lw_p1, List.forall_mem_cons.mpr ⟨lw_p2, List.forall_mem_cons.mpr ⟨lw_p3, List.forall_mem_cons.mpr ⟨lw_p4, List.forall_mem_cons.mpr ⟨lw_p5, List.forall_mem_cons.mpr ⟨lw_p6, List.forall_mem_cons.mpr ⟨lw_p7, List.forall_mem_cons.mpr ⟨lw_p8, List.forall_mem_cons.mpr ⟨lw_p9, List.forall_mem_cons.mpr ⟨lw_p10, List.forall_mem_cons.mpr ⟨lw_p11, List.forall_mem_cons.mpr ⟨lw_p12, List.forall_mem_cons.mpr ⟨lw_p13, List.forall_mem_cons.mpr ⟨lw_p14, List.forall_mem_cons.mpr ⟨lw_p15, fun _ h => absurd h List.not_mem_nil⟩⟩⟩⟩⟩⟩⟩⟩⟩⟩⟩⟩⟩⟩⟩⟩
theorem lw_p16 : lw_okq (⟨"FeltHouse$Text", "takePerhaps", "(Ljava/lang/String;[III)Z"⟩, 6) := ⟨⟨by decide +kernel, by decide +kernel⟩, List.mem_of_getElem? (i := 198) (by decide +kernel), List.mem_of_getElem? (i := 720) (by decide +kernel), List.mem_of_getElem? (i := 721) (by decide +kernel)⟩
theorem lw_p17 : lw_okq (⟨"FeltHouse$Text", "takeCamp", "(LFeltHouse$Stock;)Z"⟩, 6) := ⟨⟨by decide +kernel, by decide +kernel⟩, List.mem_of_getElem? (i := 198) (by decide +kernel), List.mem_of_getElem? (i := 726) (by decide +kernel), List.mem_of_getElem? (i := 727) (by decide +kernel)⟩
theorem lw_p18 : lw_okq (⟨"FeltHouse$Text", "takeGrass", "(LFeltHouse$Stock;I)Z"⟩, 6) := ⟨⟨by decide +kernel, by decide +kernel⟩, List.mem_of_getElem? (i := 198) (by decide +kernel), List.mem_of_getElem? (i := 732) (by decide +kernel), List.mem_of_getElem? (i := 733) (by decide +kernel)⟩
theorem lw_p19 : lw_okq (⟨"FeltHouse$Text", "takeBeast", "(LFeltHouse$Stock;)Z"⟩, 6) := ⟨⟨by decide +kernel, by decide +kernel⟩, List.mem_of_getElem? (i := 198) (by decide +kernel), List.mem_of_getElem? (i := 737) (by decide +kernel), List.mem_of_getElem? (i := 738) (by decide +kernel)⟩
theorem lw_p20 : lw_okq (⟨"FeltHouse$Text", "takeDraw", "(LFeltHouse$Stock;)Z"⟩, 6) := ⟨⟨by decide +kernel, by decide +kernel⟩, List.mem_of_getElem? (i := 198) (by decide +kernel), List.mem_of_getElem? (i := 743) (by decide +kernel), List.mem_of_getElem? (i := 744) (by decide +kernel)⟩
theorem lw_p21 : lw_okq (⟨"FeltHouse", "sheetTrouble", "(I)I"⟩, 10) := ⟨⟨by decide +kernel, by decide +kernel⟩, List.mem_of_getElem? (i := 18) (by decide +kernel), List.mem_of_getElem? (i := 766) (by decide +kernel), List.mem_of_getElem? (i := 767) (by decide +kernel)⟩
theorem lw_p22 : lw_okq (⟨"FeltHouseModel", "finds", "(I)I"⟩, 22) := ⟨⟨by decide +kernel, by decide +kernel⟩, List.mem_of_getElem? (i := 831) (by decide +kernel), List.mem_of_getElem? (i := 917) (by decide +kernel), List.mem_of_getElem? (i := 918) (by decide +kernel)⟩
theorem lw_p23 : lw_okq (⟨"FeltHouseModel", "comes", "(IIIII)V"⟩, 22) := ⟨⟨by decide +kernel, by decide +kernel⟩, List.mem_of_getElem? (i := 831) (by decide +kernel), List.mem_of_getElem? (i := 922) (by decide +kernel), List.mem_of_getElem? (i := 923) (by decide +kernel)⟩
theorem lw_p24 : lw_okq (⟨"FeltHouseModel", "gets", "(III)V"⟩, 22) := ⟨⟨by decide +kernel, by decide +kernel⟩, List.mem_of_getElem? (i := 831) (by decide +kernel), List.mem_of_getElem? (i := 926) (by decide +kernel), List.mem_of_getElem? (i := 927) (by decide +kernel)⟩
theorem lw_p25 : lw_okq (⟨"FeltHouseModel", "isPart", "(I)Z"⟩, 22) := ⟨⟨by decide +kernel, by decide +kernel⟩, List.mem_of_getElem? (i := 831) (by decide +kernel), List.mem_of_getElem? (i := 934) (by decide +kernel), List.mem_of_getElem? (i := 935) (by decide +kernel)⟩
theorem lw_p26 : lw_okq (⟨"FeltHouseModel", "has", "(II)I"⟩, 22) := ⟨⟨by decide +kernel, by decide +kernel⟩, List.mem_of_getElem? (i := 831) (by decide +kernel), List.mem_of_getElem? (i := 939) (by decide +kernel), List.mem_of_getElem? (i := 940) (by decide +kernel)⟩
theorem lw_p27 : lw_okq (⟨"FeltHouseModel", "good", "(I)I"⟩, 22) := ⟨⟨by decide +kernel, by decide +kernel⟩, List.mem_of_getElem? (i := 831) (by decide +kernel), List.mem_of_getElem? (i := 943) (by decide +kernel), List.mem_of_getElem? (i := 944) (by decide +kernel)⟩
theorem lw_p28 : lw_okq (⟨"FeltHouseModel", "isThere", "(I)Z"⟩, 22) := ⟨⟨by decide +kernel, by decide +kernel⟩, List.mem_of_getElem? (i := 831) (by decide +kernel), List.mem_of_getElem? (i := 947) (by decide +kernel), List.mem_of_getElem? (i := 948) (by decide +kernel)⟩
theorem lw_p29 : lw_okq (⟨"FeltHouseModel", "pushes", "(I)I"⟩, 22) := ⟨⟨by decide +kernel, by decide +kernel⟩, List.mem_of_getElem? (i := 831) (by decide +kernel), List.mem_of_getElem? (i := 951) (by decide +kernel), List.mem_of_getElem? (i := 952) (by decide +kernel)⟩
theorem lw_p30 : lw_okq (⟨"FeltHouseModel", "holdsOf", "(I)I"⟩, 22) := ⟨⟨by decide +kernel, by decide +kernel⟩, List.mem_of_getElem? (i := 831) (by decide +kernel), List.mem_of_getElem? (i := 955) (by decide +kernel), List.mem_of_getElem? (i := 956) (by decide +kernel)⟩
theorem lw_p31 : lw_okq (⟨"FeltHouseModel", "warms", "(I)I"⟩, 22) := ⟨⟨by decide +kernel, by decide +kernel⟩, List.mem_of_getElem? (i := 831) (by decide +kernel), List.mem_of_getElem? (i := 959) (by decide +kernel), List.mem_of_getElem? (i := 960) (by decide +kernel)⟩
def lw_privs_2 : List (MethodName × Nat) := [(⟨"FeltHouse$Text", "takePerhaps", "(Ljava/lang/String;[III)Z"⟩, 6), (⟨"FeltHouse$Text", "takeCamp", "(LFeltHouse$Stock;)Z"⟩, 6), (⟨"FeltHouse$Text", "takeGrass", "(LFeltHouse$Stock;I)Z"⟩, 6), (⟨"FeltHouse$Text", "takeBeast", "(LFeltHouse$Stock;)Z"⟩, 6), (⟨"FeltHouse$Text", "takeDraw", "(LFeltHouse$Stock;)Z"⟩, 6), (⟨"FeltHouse", "sheetTrouble", "(I)I"⟩, 10), (⟨"FeltHouseModel", "finds", "(I)I"⟩, 22), (⟨"FeltHouseModel", "comes", "(IIIII)V"⟩, 22), (⟨"FeltHouseModel", "gets", "(III)V"⟩, 22), (⟨"FeltHouseModel", "isPart", "(I)Z"⟩, 22), (⟨"FeltHouseModel", "has", "(II)I"⟩, 22), (⟨"FeltHouseModel", "good", "(I)I"⟩, 22), (⟨"FeltHouseModel", "isThere", "(I)Z"⟩, 22), (⟨"FeltHouseModel", "pushes", "(I)I"⟩, 22), (⟨"FeltHouseModel", "holdsOf", "(I)I"⟩, 22), (⟨"FeltHouseModel", "warms", "(I)I"⟩, 22)]
theorem lw_r2 : ∀ q ∈ lw_privs_2, lw_okq q := List.forall_mem_cons.mpr ⟨lw_p16, List.forall_mem_cons.mpr ⟨lw_p17, List.forall_mem_cons.mpr ⟨lw_p18, List.forall_mem_cons.mpr ⟨lw_p19, List.forall_mem_cons.mpr ⟨lw_p20, List.forall_mem_cons.mpr ⟨lw_p21, List.forall_mem_cons.mpr ⟨lw_p22, List.forall_mem_cons.mpr ⟨lw_p23, List.forall_mem_cons.mpr ⟨lw_p24, List.forall_mem_cons.mpr ⟨lw_p25, List.forall_mem_cons.mpr ⟨lw_p26, List.forall_mem_cons.mpr ⟨lw_p27, List.forall_mem_cons.mpr ⟨lw_p28, List.forall_mem_cons.mpr ⟨lw_p29, List.forall_mem_cons.mpr ⟨lw_p30, List.forall_mem_cons.mpr ⟨lw_p31, fun _ h => absurd h List.not_mem_nil⟩⟩⟩⟩⟩⟩⟩⟩⟩⟩⟩⟩⟩⟩⟩⟩
theorem lw_p32 : lw_okq (⟨"FeltHouseModel", "becomes", "(II)I"⟩, 22) := ⟨⟨by decide +kernel, by decide +kernel⟩, List.mem_of_getElem? (i := 831) (by decide +kernel), List.mem_of_getElem? (i := 969) (by decide +kernel), List.mem_of_getElem? (i := 970) (by decide +kernel)⟩
theorem lw_p33 : lw_okq (⟨"FeltHouseModel", "strain", "(I)I"⟩, 22) := ⟨⟨by decide +kernel, by decide +kernel⟩, List.mem_of_getElem? (i := 831) (by decide +kernel), List.mem_of_getElem? (i := 1002) (by decide +kernel), List.mem_of_getElem? (i := 1003) (by decide +kernel)⟩
theorem lw_p34 : lw_okq (⟨"FeltHouseModel", "holdOf", "(I)I"⟩, 22) := ⟨⟨by decide +kernel, by decide +kernel⟩, List.mem_of_getElem? (i := 831) (by decide +kernel), List.mem_of_getElem? (i := 1006) (by decide +kernel), List.mem_of_getElem? (i := 1007) (by decide +kernel)⟩
theorem lw_p35 : lw_okq (⟨"FeltHouseModel", "ownHold", "(I)I"⟩, 22) := ⟨⟨by decide +kernel, by decide +kernel⟩, List.mem_of_getElem? (i := 831) (by decide +kernel), List.mem_of_getElem? (i := 1010) (by decide +kernel), List.mem_of_getElem? (i := 1011) (by decide +kernel)⟩
theorem lw_p36 : lw_okq (⟨"FeltHouseModel", "spare", "(I)I"⟩, 22) := ⟨⟨by decide +kernel, by decide +kernel⟩, List.mem_of_getElem? (i := 831) (by decide +kernel), List.mem_of_getElem? (i := 1014) (by decide +kernel), List.mem_of_getElem? (i := 1015) (by decide +kernel)⟩
theorem lw_p37 : lw_okq (⟨"FeltHouseModel", "isStanding", "()Z"⟩, 22) := ⟨⟨by decide +kernel, by decide +kernel⟩, List.mem_of_getElem? (i := 831) (by decide +kernel), List.mem_of_getElem? (i := 1022) (by decide +kernel), List.mem_of_getElem? (i := 1023) (by decide +kernel)⟩
theorem lw_p38 : lw_okq (⟨"FeltHouseModel", "leastSpare", "()I"⟩, 22) := ⟨⟨by decide +kernel, by decide +kernel⟩, List.mem_of_getElem? (i := 831) (by decide +kernel), List.mem_of_getElem? (i := 1030) (by decide +kernel), List.mem_of_getElem? (i := 1031) (by decide +kernel)⟩
theorem lw_p39 : lw_okq (⟨"FeltHouseModel", "warmthNow", "()I"⟩, 22) := ⟨⟨by decide +kernel, by decide +kernel⟩, List.mem_of_getElem? (i := 831) (by decide +kernel), List.mem_of_getElem? (i := 1055) (by decide +kernel), List.mem_of_getElem? (i := 1056) (by decide +kernel)⟩
theorem lw_p40 : lw_okq (⟨"FeltHouseModel", "fuel", "()I"⟩, 22) := ⟨⟨by decide +kernel, by decide +kernel⟩, List.mem_of_getElem? (i := 831) (by decide +kernel), List.mem_of_getElem? (i := 1059) (by decide +kernel), List.mem_of_getElem? (i := 1060) (by decide +kernel)⟩
theorem lw_p41 : lw_okq (⟨"FeltHouseModel", "isLoad", "(I)Z"⟩, 22) := ⟨⟨by decide +kernel, by decide +kernel⟩, List.mem_of_getElem? (i := 831) (by decide +kernel), List.mem_of_getElem? (i := 1079) (by decide +kernel), List.mem_of_getElem? (i := 1080) (by decide +kernel)⟩
theorem lw_p42 : lw_okq (⟨"FeltHouseModel", "findLoad", "(I)Z"⟩, 22) := ⟨⟨by decide +kernel, by decide +kernel⟩, List.mem_of_getElem? (i := 831) (by decide +kernel), List.mem_of_getElem? (i := 1083) (by decide +kernel), List.mem_of_getElem? (i := 1084) (by decide +kernel)⟩
theorem lw_p43 : lw_okq (⟨"FeltHouseModel", "comesCamp", "(I)V"⟩, 22) := ⟨⟨by decide +kernel, by decide +kernel⟩, List.mem_of_getElem? (i := 831) (by decide +kernel), List.mem_of_getElem? (i := 1096) (by decide +kernel), List.mem_of_getElem? (i := 1097) (by decide +kernel)⟩
theorem lw_p44 : lw_okq (⟨"FeltHouseModel", "isCamp", "(J)Z"⟩, 22) := ⟨⟨by decide +kernel, by decide +kernel⟩, List.mem_of_getElem? (i := 831) (by decide +kernel), List.mem_of_getElem? (i := 1104) (by decide +kernel), List.mem_of_getElem? (i := 1105) (by decide +kernel)⟩
theorem lw_p45 : lw_okq (⟨"FeltHouseModel", "findYear", "(II)I"⟩, 22) := ⟨⟨by decide +kernel, by decide +kernel⟩, List.mem_of_getElem? (i := 831) (by decide +kernel), List.mem_of_getElem? (i := 1124) (by decide +kernel), List.mem_of_getElem? (i := 1125) (by decide +kernel)⟩
theorem lw_p46 : lw_okq (⟨"FeltHouseModel", "nextCamp", "(III)I"⟩, 22) := ⟨⟨by decide +kernel, by decide +kernel⟩, List.mem_of_getElem? (i := 831) (by decide +kernel), List.mem_of_getElem? (i := 1128) (by decide +kernel), List.mem_of_getElem? (i := 1129) (by decide +kernel)⟩
theorem lw_p47 : lw_okq (⟨"FeltHouseModel", "costNext", "(IIII)I"⟩, 22) := ⟨⟨by decide +kernel, by decide +kernel⟩, List.mem_of_getElem? (i := 831) (by decide +kernel), List.mem_of_getElem? (i := 1132) (by decide +kernel), List.mem_of_getElem? (i := 1133) (by decide +kernel)⟩
def lw_privs_3 : List (MethodName × Nat) := [(⟨"FeltHouseModel", "becomes", "(II)I"⟩, 22), (⟨"FeltHouseModel", "strain", "(I)I"⟩, 22), (⟨"FeltHouseModel", "holdOf", "(I)I"⟩, 22), (⟨"FeltHouseModel", "ownHold", "(I)I"⟩, 22), (⟨"FeltHouseModel", "spare", "(I)I"⟩, 22), (⟨"FeltHouseModel", "isStanding", "()Z"⟩, 22), (⟨"FeltHouseModel", "leastSpare", "()I"⟩, 22), (⟨"FeltHouseModel", "warmthNow", "()I"⟩, 22), (⟨"FeltHouseModel", "fuel", "()I"⟩, 22), (⟨"FeltHouseModel", "isLoad", "(I)Z"⟩, 22), (⟨"FeltHouseModel", "findLoad", "(I)Z"⟩, 22), (⟨"FeltHouseModel", "comesCamp", "(I)V"⟩, 22), (⟨"FeltHouseModel", "isCamp", "(J)Z"⟩, 22), (⟨"FeltHouseModel", "findYear", "(II)I"⟩, 22), (⟨"FeltHouseModel", "nextCamp", "(III)I"⟩, 22), (⟨"FeltHouseModel", "costNext", "(IIII)I"⟩, 22)]
theorem lw_r3 : ∀ q ∈ lw_privs_3, lw_okq q := List.forall_mem_cons.mpr ⟨lw_p32, List.forall_mem_cons.mpr ⟨lw_p33, List.forall_mem_cons.mpr ⟨lw_p34, List.forall_mem_cons.mpr ⟨lw_p35, List.forall_mem_cons.mpr ⟨lw_p36, List.forall_mem_cons.mpr ⟨lw_p37, List.forall_mem_cons.mpr ⟨lw_p38, List.forall_mem_cons.mpr ⟨lw_p39, List.forall_mem_cons.mpr ⟨lw_p40, List.forall_mem_cons.mpr ⟨lw_p41, List.forall_mem_cons.mpr ⟨lw_p42, List.forall_mem_cons.mpr ⟨lw_p43, List.forall_mem_cons.mpr ⟨lw_p44, List.forall_mem_cons.mpr ⟨lw_p45, List.forall_mem_cons.mpr ⟨lw_p46, List.forall_mem_cons.mpr ⟨lw_p47, fun _ h => absurd h List.not_mem_nil⟩⟩⟩⟩⟩⟩⟩⟩⟩⟩⟩⟩⟩⟩⟩⟩
theorem lw_p48 : lw_okq (⟨"FeltHouseModel", "moveCost", "(II)I"⟩, 22) := ⟨⟨by decide +kernel, by decide +kernel⟩, List.mem_of_getElem? (i := 831) (by decide +kernel), List.mem_of_getElem? (i := 1139) (by decide +kernel), List.mem_of_getElem? (i := 1140) (by decide +kernel)⟩
theorem lw_p49 : lw_okq (⟨"FeltHouseModel", "monthCost", "(III)I"⟩, 22) := ⟨⟨by decide +kernel, by decide +kernel⟩, List.mem_of_getElem? (i := 831) (by decide +kernel), List.mem_of_getElem? (i := 1143) (by decide +kernel), List.mem_of_getElem? (i := 1144) (by decide +kernel)⟩
theorem lw_p50 : lw_okq (⟨"FeltHouseModel", "goesOn", "()V"⟩, 22) := ⟨⟨by decide +kernel, by decide +kernel⟩, List.mem_of_getElem? (i := 831) (by decide +kernel), List.mem_of_getElem? (i := 1163) (by decide +kernel), List.mem_of_getElem? (i := 1164) (by decide +kernel)⟩
theorem lw_p51 : lw_okq (⟨"FeltHouseModel", "byteAt", "(I)I"⟩, 22) := ⟨⟨by decide +kernel, by decide +kernel⟩, List.mem_of_getElem? (i := 831) (by decide +kernel), List.mem_of_getElem? (i := 1167) (by decide +kernel), List.mem_of_getElem? (i := 1168) (by decide +kernel)⟩
theorem lw_p52 : lw_okq (⟨"FeltHouseModel", "wordHere", "()I"⟩, 22) := ⟨⟨by decide +kernel, by decide +kernel⟩, List.mem_of_getElem? (i := 831) (by decide +kernel), List.mem_of_getElem? (i := 1173) (by decide +kernel), List.mem_of_getElem? (i := 1174) (by decide +kernel)⟩
theorem lw_p53 : lw_okq (⟨"FeltHouseModel", "item", "()V"⟩, 22) := ⟨⟨by decide +kernel, by decide +kernel⟩, List.mem_of_getElem? (i := 831) (by decide +kernel), List.mem_of_getElem? (i := 1179) (by decide +kernel), List.mem_of_getElem? (i := 1180) (by decide +kernel)⟩
theorem lw_p54 : lw_okq (⟨"FeltHouseModel", "partItem", "(I)V"⟩, 22) := ⟨⟨by decide +kernel, by decide +kernel⟩, List.mem_of_getElem? (i := 831) (by decide +kernel), List.mem_of_getElem? (i := 1183) (by decide +kernel), List.mem_of_getElem? (i := 1184) (by decide +kernel)⟩
theorem lw_p55 : lw_okq (⟨"FeltHouseModel", "number", "(II)I"⟩, 22) := ⟨⟨by decide +kernel, by decide +kernel⟩, List.mem_of_getElem? (i := 831) (by decide +kernel), List.mem_of_getElem? (i := 1187) (by decide +kernel), List.mem_of_getElem? (i := 1188) (by decide +kernel)⟩
theorem lw_p56 : lw_okq (⟨"FeltHouseModel", "takes", "(I)Z"⟩, 22) := ⟨⟨by decide +kernel, by decide +kernel⟩, List.mem_of_getElem? (i := 831) (by decide +kernel), List.mem_of_getElem? (i := 1191) (by decide +kernel), List.mem_of_getElem? (i := 1192) (by decide +kernel)⟩
theorem lw_p57 : lw_okq (⟨"FeltHouseModel", "campItem", "()V"⟩, 22) := ⟨⟨by decide +kernel, by decide +kernel⟩, List.mem_of_getElem? (i := 831) (by decide +kernel), List.mem_of_getElem? (i := 1195) (by decide +kernel), List.mem_of_getElem? (i := 1196) (by decide +kernel)⟩
theorem lw_p58 : lw_okq (⟨"FeltHouseModel", "beastItem", "()V"⟩, 22) := ⟨⟨by decide +kernel, by decide +kernel⟩, List.mem_of_getElem? (i := 831) (by decide +kernel), List.mem_of_getElem? (i := 1199) (by decide +kernel), List.mem_of_getElem? (i := 1200) (by decide +kernel)⟩
theorem lw_p59 : lw_okq (⟨"FeltHouseModel", "ofThere", "(Z)I"⟩, 22) := ⟨⟨by decide +kernel, by decide +kernel⟩, List.mem_of_getElem? (i := 831) (by decide +kernel), List.mem_of_getElem? (i := 1250) (by decide +kernel), List.mem_of_getElem? (i := 1251) (by decide +kernel)⟩
def lw_privs_4 : List (MethodName × Nat) := [(⟨"FeltHouseModel", "moveCost", "(II)I"⟩, 22), (⟨"FeltHouseModel", "monthCost", "(III)I"⟩, 22), (⟨"FeltHouseModel", "goesOn", "()V"⟩, 22), (⟨"FeltHouseModel", "byteAt", "(I)I"⟩, 22), (⟨"FeltHouseModel", "wordHere", "()I"⟩, 22), (⟨"FeltHouseModel", "item", "()V"⟩, 22), (⟨"FeltHouseModel", "partItem", "(I)V"⟩, 22), (⟨"FeltHouseModel", "number", "(II)I"⟩, 22), (⟨"FeltHouseModel", "takes", "(I)Z"⟩, 22), (⟨"FeltHouseModel", "campItem", "()V"⟩, 22), (⟨"FeltHouseModel", "beastItem", "()V"⟩, 22), (⟨"FeltHouseModel", "ofThere", "(Z)I"⟩, 22)]
theorem lw_r4 : ∀ q ∈ lw_privs_4, lw_okq q := List.forall_mem_cons.mpr ⟨lw_p48, List.forall_mem_cons.mpr ⟨lw_p49, List.forall_mem_cons.mpr ⟨lw_p50, List.forall_mem_cons.mpr ⟨lw_p51, List.forall_mem_cons.mpr ⟨lw_p52, List.forall_mem_cons.mpr ⟨lw_p53, List.forall_mem_cons.mpr ⟨lw_p54, List.forall_mem_cons.mpr ⟨lw_p55, List.forall_mem_cons.mpr ⟨lw_p56, List.forall_mem_cons.mpr ⟨lw_p57, List.forall_mem_cons.mpr ⟨lw_p58, List.forall_mem_cons.mpr ⟨lw_p59, fun _ h => absurd h List.not_mem_nil⟩⟩⟩⟩⟩⟩⟩⟩⟩⟩⟩⟩
def lw_privs : List (MethodName × Nat) := lw_privs_1 ++ (lw_privs_2 ++ (lw_privs_3 ++ (lw_privs_4)))
def lw_tbl : List Cond := k2_sels lw_privs ++ tables_1
theorem lw_privs_ok : ∀ q ∈ lw_privs, lw_okq q := by
  show ∀ q ∈ lw_privs_1 ++ (lw_privs_2 ++ (lw_privs_3 ++ (lw_privs_4))), lw_okq q
  exact List.forall_mem_append.mpr ⟨lw_r1, List.forall_mem_append.mpr ⟨lw_r2, List.forall_mem_append.mpr ⟨lw_r3, lw_r4⟩⟩⟩
end
section
def RX0 : String := "FeltHouse$Frame"
def TX0 : u_T := fun k => match k with
  | 0 => ("FeltHouse$Frame", "stock", "LFeltHouse$Stock;", true)
  | 1 => ("FeltHouse$Frame", "wind", "I", false)
  | 2 => ("FeltHouse$Frame", "from", "I", false)
  | 3 => ("FeltHouse$Frame", "draw", "I", false)
  | 4 => ("FeltHouse$Frame", "here", "I", false)
  | 5 => ("FeltHouse$Frame", "pushed", "[I", true)
  | _ => ("FeltHouse$Frame", "held", "[I", true)
def tyX0 : Nat → FieldType := fun k => match k with
  | 0 => .object "FeltHouse$Stock"
  | 1 => .int
  | 2 => .int
  | 3 => .int
  | 4 => .int
  | 5 => .array .int
  | _ => .array .int
abbrev wsX00 : List Cond := u_ws RX0 TX0 7
theorem nmX0 : ∀ a, a < 7 → ∀ b, b < 7 → a ≠ b → (TX0 a).2.1 ≠ (TX0 b).2.1 := by decide +kernel
theorem tyX0_ok : ∀ k, k < 7 → parseFieldDescriptor (TX0 k).2.2.1 = some (tyX0 k) := by decide +kernel
abbrev cX0_init : ByteArray := prog_2_method_1_code
def yX0_init : MethodName := ⟨RX0, "<init>", "(LFeltHouse$Stock;)V"⟩
abbrev cX0_asItIs : ByteArray := prog_2_method_2_code
def yX0_asItIs : MethodName := ⟨RX0, "asItIs", "()V"⟩
abbrev cX0_isHere : ByteArray := prog_2_method_3_code
def yX0_isHere : MethodName := ⟨RX0, "isHere", "(I)Z"⟩
abbrev cX0_good : ByteArray := prog_2_method_4_code
def yX0_good : MethodName := ⟨RX0, "good", "(I)I"⟩
abbrev cX0_pushes : ByteArray := prog_2_method_5_code
def yX0_pushes : MethodName := ⟨RX0, "pushes", "(I)I"⟩
abbrev cX0_holds : ByteArray := prog_2_method_6_code
def yX0_holds : MethodName := ⟨RX0, "holds", "(I)I"⟩
abbrev cX0_drawnHold : ByteArray := prog_2_method_7_code
def yX0_drawnHold : MethodName := ⟨RX0, "drawnHold", "(I)I"⟩
abbrev cX0_warms : ByteArray := prog_2_method_8_code
def yX0_warms : MethodName := ⟨RX0, "warms", "(I)I"⟩
abbrev cX0_feltWarms : ByteArray := prog_2_method_9_code
def yX0_feltWarms : MethodName := ⟨RX0, "feltWarms", "(I)I"⟩
abbrev cX0_gather : ByteArray := prog_2_method_10_code
def yX0_gather : MethodName := ⟨RX0, "gather", "()V"⟩
abbrev cX0_strain : ByteArray := prog_2_method_11_code
def yX0_strain : MethodName := ⟨RX0, "strain", "(I)I"⟩
abbrev cX0_hold : ByteArray := prog_2_method_12_code
def yX0_hold : MethodName := ⟨RX0, "hold", "(I)I"⟩
abbrev cX0_spare : ByteArray := prog_2_method_13_code
def yX0_spare : MethodName := ⟨RX0, "spare", "(I)I"⟩
abbrev cX0_weakestSide : ByteArray := prog_2_method_14_code
def yX0_weakestSide : MethodName := ⟨RX0, "weakestSide", "()I"⟩
abbrev cX0_isStanding : ByteArray := prog_2_method_15_code
def yX0_isStanding : MethodName := ⟨RX0, "isStanding", "()Z"⟩
abbrev cX0_hasPoles : ByteArray := prog_2_method_16_code
def yX0_hasPoles : MethodName := ⟨RX0, "hasPoles", "()Z"⟩
abbrev cX0_isOverdrawn : ByteArray := prog_2_method_17_code
def yX0_isOverdrawn : MethodName := ⟨RX0, "isOverdrawn", "()Z"⟩
abbrev cX0_warmthOfAll : ByteArray := prog_2_method_18_code
def yX0_warmthOfAll : MethodName := ⟨RX0, "warmthOfAll", "()I"⟩
abbrev cX0_fuel : ByteArray := prog_2_method_19_code
def yX0_fuel : MethodName := ⟨RX0, "fuel", "()I"⟩
def RX1 : String := "FeltHouse$Loads"
def TX1 : u_T := fun k => match k with
  | 0 => ("FeltHouse$Loads", "stock", "LFeltHouse$Stock;", true)
  | 1 => ("FeltHouse$Loads", "parts", "[I", true)
  | 2 => ("FeltHouse$Loads", "weights", "[I", true)
  | 3 => ("FeltHouse$Loads", "size", "I", false)
  | 4 => ("FeltHouse$Loads", "subsets", "[I", true)
  | 5 => ("FeltHouse$Loads", "difference", "I", false)
  | _ => ("FeltHouse$Loads", "left", "I", false)
def tyX1 : Nat → FieldType := fun k => match k with
  | 0 => .object "FeltHouse$Stock"
  | 1 => .array .int
  | 2 => .array .int
  | 3 => .int
  | 4 => .array .int
  | 5 => .int
  | _ => .int
abbrev wsX10 : List Cond := u_ws RX1 TX1 7
theorem nmX1 : ∀ a, a < 7 → ∀ b, b < 7 → a ≠ b → (TX1 a).2.1 ≠ (TX1 b).2.1 := by decide +kernel
theorem tyX1_ok : ∀ k, k < 7 → parseFieldDescriptor (TX1 k).2.2.1 = some (tyX1 k) := by decide +kernel
abbrev cX1_init : ByteArray := prog_3_method_1_code
def yX1_init : MethodName := ⟨RX1, "<init>", "(LFeltHouse$Stock;)V"⟩
abbrev cX1_lay : ByteArray := prog_3_method_2_code
def yX1_lay : MethodName := ⟨RX1, "lay", "(I)V"⟩
abbrev cX1_leastBeasts : ByteArray := prog_3_method_3_code
def yX1_leastBeasts : MethodName := ⟨RX1, "leastBeasts", "()I"⟩
abbrev cX1_afterLaying : ByteArray := prog_3_method_4_code
def yX1_afterLaying : MethodName := ⟨RX1, "afterLaying", "(II)I"⟩
abbrev cX1_balance : ByteArray := prog_3_method_5_code
def yX1_balance : MethodName := ⟨RX1, "balance", "()V"⟩
abbrev cX1_partsOf : ByteArray := prog_3_method_6_code
def yX1_partsOf : MethodName := ⟨RX1, "partsOf", "(I)I"⟩
def RX2 : String := "FeltHouse$Plan"
def TX2 : u_T := fun k => match k with
  | 0 => ("FeltHouse$Plan", "stock", "LFeltHouse$Stock;", true)
  | 1 => ("FeltHouse$Plan", "least", "[I", true)
  | 2 => ("FeltHouse$Plan", "row", "[I", true)
  | _ => ("FeltHouse$Plan", "cost", "I", false)
def tyX2 : Nat → FieldType := fun k => match k with
  | 0 => .object "FeltHouse$Stock"
  | 1 => .array .int
  | 2 => .array .int
  | _ => .int
abbrev wsX20 : List Cond := u_ws RX2 TX2 4
theorem nmX2 : ∀ a, a < 4 → ∀ b, b < 4 → a ≠ b → (TX2 a).2.1 ≠ (TX2 b).2.1 := by decide +kernel
theorem tyX2_ok : ∀ k, k < 4 → parseFieldDescriptor (TX2 k).2.2.1 = some (tyX2 k) := by decide +kernel
abbrev cX2_init : ByteArray := prog_4_method_1_code
def yX2_init : MethodName := ⟨RX2, "<init>", "(LFeltHouse$Stock;)V"⟩
abbrev cX2_make : ByteArray := prog_4_method_2_code
def yX2_make : MethodName := ⟨RX2, "make", "(II)V"⟩
abbrev cX2_movesIn : ByteArray := prog_4_method_3_code
def yX2_movesIn : MethodName := ⟨RX2, "movesIn", "(I)I"⟩
abbrev cX2_firstCamp : ByteArray := prog_4_method_4_code
def yX2_firstCamp : MethodName := ⟨RX2, "firstCamp", "()I"⟩
abbrev cX2_restCost : ByteArray := prog_4_method_5_code
def yX2_restCost : MethodName := ⟨RX2, "restCost", "(IIII)I"⟩
abbrev cX2_nextCamp : ByteArray := prog_4_method_6_code
def yX2_nextCamp : MethodName := ⟨RX2, "nextCamp", "(III)I"⟩
abbrev cX2_onwardCost : ByteArray := prog_4_method_7_code
def yX2_onwardCost : MethodName := ⟨RX2, "onwardCost", "(IIII)I"⟩
abbrev cX2_longer : ByteArray := prog_4_method_8_code
def yX2_longer : MethodName := ⟨RX2, "longer", "(I)I"⟩
abbrev cX2_at : ByteArray := prog_4_method_9_code
def yX2_at : MethodName := ⟨RX2, "at", "(III)I"⟩
def RX3 : String := "FeltHouse$Sheet"
def TX3 : u_T := fun k => match k with
  | 0 => ("FeltHouse$Sheet", "bits", "I", false)
  | 1 => ("FeltHouse$Sheet", "size", "I", false)
  | _ => ("FeltHouse$Sheet", "numbers", "[J", true)
def tyX3 : Nat → FieldType := fun k => match k with
  | 0 => .int
  | 1 => .int
  | _ => .array .long
abbrev wsX30 : List Cond := u_ws RX3 TX3 3
theorem nmX3 : ∀ a, a < 3 → ∀ b, b < 3 → a ≠ b → (TX3 a).2.1 ≠ (TX3 b).2.1 := by decide +kernel
theorem tyX3_ok : ∀ k, k < 3 → parseFieldDescriptor (TX3 k).2.2.1 = some (tyX3 k) := by decide +kernel
abbrev cX3_init : ByteArray := prog_5_method_1_code
def yX3_init : MethodName := ⟨RX3, "<init>", "()V"⟩
abbrev cX3_isMissing : ByteArray := prog_5_method_2_code
def yX3_isMissing : MethodName := ⟨RX3, "isMissing", "()Z"⟩
abbrev cX3_lay : ByteArray := prog_5_method_3_code
def yX3_lay : MethodName := ⟨RX3, "lay", "(II)V"⟩
abbrev cX3_narrowed : ByteArray := prog_5_method_4_code
def yX3_narrowed : MethodName := ⟨RX3, "narrowed", "(J)J"⟩
abbrev cX3_hasRange : ByteArray := prog_5_method_5_code
def yX3_hasRange : MethodName := ⟨RX3, "hasRange", "(II)Z"⟩
def RX4 : String := "FeltHouse$Stock"
def TX4 : u_T := fun k => match k with
  | 0 => ("FeltHouse$Stock", "partCount", "I", false)
  | 1 => ("FeltHouse$Stock", "kinds", "[I", true)
  | 2 => ("FeltHouse$Stock", "sides", "[I", true)
  | 3 => ("FeltHouse$Stock", "strengths", "[I", true)
  | 4 => ("FeltHouse$Stock", "weights", "[I", true)
  | 5 => ("FeltHouse$Stock", "wears", "[I", true)
  | 6 => ("FeltHouse$Stock", "there", "I", false)
  | 7 => ("FeltHouse$Stock", "sky", "[I", true)
  | 8 => ("FeltHouse$Stock", "draw", "I", false)
  | 9 => ("FeltHouse$Stock", "beastCount", "I", false)
  | 10 => ("FeltHouse$Stock", "caps", "[I", true)
  | 11 => ("FeltHouse$Stock", "campCount", "I", false)
  | 12 => ("FeltHouse$Stock", "fars", "[I", true)
  | 13 => ("FeltHouse$Stock", "grass", "[I", true)
  | _ => ("FeltHouse$Stock", "herding", "[I", true)
def tyX4 : Nat → FieldType := fun k => match k with
  | 0 => .int
  | 1 => .array .int
  | 2 => .array .int
  | 3 => .array .int
  | 4 => .array .int
  | 5 => .array .int
  | 6 => .int
  | 7 => .array .int
  | 8 => .int
  | 9 => .int
  | 10 => .array .int
  | 11 => .int
  | 12 => .array .int
  | 13 => .array .int
  | _ => .array .int
abbrev wsX40 : List Cond := u_ws RX4 TX4 15
theorem nmX4 : ∀ a, a < 15 → ∀ b, b < 15 → a ≠ b → (TX4 a).2.1 ≠ (TX4 b).2.1 := by decide +kernel
theorem tyX4_ok : ∀ k, k < 15 → parseFieldDescriptor (TX4 k).2.2.1 = some (tyX4 k) := by decide +kernel
abbrev cX4_init : ByteArray := prog_6_method_1_code
def yX4_init : MethodName := ⟨RX4, "<init>", "()V"⟩
abbrev cX4_takeOver : ByteArray := prog_6_method_2_code
def yX4_takeOver : MethodName := ⟨RX4, "takeOver", "(LFeltHouse$Stock;)V"⟩
abbrev cX4_hasPart : ByteArray := prog_6_method_3_code
def yX4_hasPart : MethodName := ⟨RX4, "hasPart", "(I)Z"⟩
abbrev cX4_isThere : ByteArray := prog_6_method_4_code
def yX4_isThere : MethodName := ⟨RX4, "isThere", "(I)Z"⟩
abbrev cX4_areAllThere : ByteArray := prog_6_method_5_code
def yX4_areAllThere : MethodName := ⟨RX4, "areAllThere", "(I)Z"⟩
abbrev cX4_hasCamp : ByteArray := prog_6_method_6_code
def yX4_hasCamp : MethodName := ⟨RX4, "hasCamp", "(I)Z"⟩
abbrev cX4_addPart : ByteArray := prog_6_method_7_code
def yX4_addPart : MethodName := ⟨RX4, "addPart", "(IIII)I"⟩
abbrev cX4_addBeast : ByteArray := prog_6_method_8_code
def yX4_addBeast : MethodName := ⟨RX4, "addBeast", "(I)I"⟩
abbrev cX4_addCamp : ByteArray := prog_6_method_9_code
def yX4_addCamp : MethodName := ⟨RX4, "addCamp", "(I)I"⟩
abbrev cX4_growOlder : ByteArray := prog_6_method_10_code
def yX4_growOlder : MethodName := ⟨RX4, "growOlder", "()I"⟩
abbrev cX4_weightThere : ByteArray := prog_6_method_11_code
def yX4_weightThere : MethodName := ⟨RX4, "weightThere", "()I"⟩
abbrev cX4_monthCost : ByteArray := prog_6_method_12_code
def yX4_monthCost : MethodName := ⟨RX4, "monthCost", "(III)I"⟩
abbrev cX4_moveCost : ByteArray := prog_6_method_13_code
def yX4_moveCost : MethodName := ⟨RX4, "moveCost", "(II)I"⟩
abbrev cX4_costOfRow : ByteArray := prog_6_method_14_code
def yX4_costOfRow : MethodName := ⟨RX4, "costOfRow", "(LFeltHouse$Sheet;I)I"⟩
def RX5 : String := "FeltHouse$Text"
def TX5 : u_T := fun k => match k with
  | 0 => ("FeltHouse$Text", "tape", "[I", true)
  | 1 => ("FeltHouse$Text", "size", "I", false)
  | 2 => ("FeltHouse$Text", "place", "I", false)
  | 3 => ("FeltHouse$Text", "token", "I", false)
  | 4 => ("FeltHouse$Text", "start", "I", false)
  | _ => ("FeltHouse$Text", "value", "I", false)
def tyX5 : Nat → FieldType := fun k => match k with
  | 0 => .array .int
  | 1 => .int
  | 2 => .int
  | 3 => .int
  | 4 => .int
  | _ => .int
abbrev wsX50 : List Cond := u_ws RX5 TX5 6
theorem nmX5 : ∀ a, a < 6 → ∀ b, b < 6 → a ≠ b → (TX5 a).2.1 ≠ (TX5 b).2.1 := by decide +kernel
theorem tyX5_ok : ∀ k, k < 6 → parseFieldDescriptor (TX5 k).2.2.1 = some (tyX5 k) := by decide +kernel
abbrev cX5_init : ByteArray := prog_7_method_1_code
def yX5_init : MethodName := ⟨RX5, "<init>", "()V"⟩
abbrev cX5_add : ByteArray := prog_7_method_2_code
def yX5_add : MethodName := ⟨RX5, "add", "(I)V"⟩
abbrev cX5_tellTo : ByteArray := prog_7_method_3_code
def yX5_tellTo : MethodName := ⟨RX5, "tellTo", "(LFeltHouse$Stock;)I"⟩
abbrev cX5_takeItem : ByteArray := prog_7_method_4_code
def yX5_takeItem : MethodName := ⟨RX5, "takeItem", "(LFeltHouse$Stock;)Z"⟩
abbrev cX5_takePart : ByteArray := prog_7_method_5_code
def yX5_takePart : MethodName := ⟨RX5, "takePart", "(LFeltHouse$Stock;I)Z"⟩
abbrev cX5_takePerhaps : ByteArray := prog_7_method_6_code
def yX5_takePerhaps : MethodName := ⟨RX5, "takePerhaps", "(Ljava/lang/String;[III)Z"⟩
abbrev cX5_takeCamp : ByteArray := prog_7_method_7_code
def yX5_takeCamp : MethodName := ⟨RX5, "takeCamp", "(LFeltHouse$Stock;)Z"⟩
abbrev cX5_takeGrass : ByteArray := prog_7_method_8_code
def yX5_takeGrass : MethodName := ⟨RX5, "takeGrass", "(LFeltHouse$Stock;I)Z"⟩
abbrev cX5_takeBeast : ByteArray := prog_7_method_9_code
def yX5_takeBeast : MethodName := ⟨RX5, "takeBeast", "(LFeltHouse$Stock;)Z"⟩
abbrev cX5_takeDraw : ByteArray := prog_7_method_10_code
def yX5_takeDraw : MethodName := ⟨RX5, "takeDraw", "(LFeltHouse$Stock;)Z"⟩
abbrev cX5_isNumber : ByteArray := prog_7_method_11_code
def yX5_isNumber : MethodName := ⟨RX5, "isNumber", "(II)Z"⟩
abbrev cX5_isWord : ByteArray := prog_7_method_12_code
def yX5_isWord : MethodName := ⟨RX5, "isWord", "(Ljava/lang/String;)Z"⟩
abbrev cX5_kindName : ByteArray := prog_7_method_13_code
def yX5_kindName : MethodName := ⟨RX5, "kindName", "(I)Ljava/lang/String;"⟩
abbrev cX5_step : ByteArray := prog_7_method_14_code
def yX5_step : MethodName := ⟨RX5, "step", "()V"⟩
abbrev cX5_isLetter : ByteArray := prog_7_method_15_code
def yX5_isLetter : MethodName := ⟨RX5, "isLetter", "(I)Z"⟩
abbrev cX5_isDigit : ByteArray := prog_7_method_16_code
def yX5_isDigit : MethodName := ⟨RX5, "isDigit", "(I)Z"⟩
def RX6 : String := "FeltHouse"
def TX6 : u_T := fun k => match k with
  | 0 => ("FeltHouse", "now", "LFeltHouse$Stock;", true)
  | 1 => ("FeltHouse", "kept", "LFeltHouse$Stock;", true)
  | 2 => ("FeltHouse", "draft", "LFeltHouse$Stock;", true)
  | 3 => ("FeltHouse", "isKept", "Z", false)
  | 4 => ("FeltHouse", "frame", "LFeltHouse$Frame;", true)
  | 5 => ("FeltHouse", "loads", "LFeltHouse$Loads;", true)
  | 6 => ("FeltHouse", "plan", "LFeltHouse$Plan;", true)
  | 7 => ("FeltHouse", "text", "LFeltHouse$Text;", true)
  | 8 => ("FeltHouse", "sheets", "[LFeltHouse$Sheet;", true)
  | _ => ("FeltHouse", "found", "[I", true)
def tyX6 : Nat → FieldType := fun k => match k with
  | 0 => .object "FeltHouse$Stock"
  | 1 => .object "FeltHouse$Stock"
  | 2 => .object "FeltHouse$Stock"
  | 3 => .boolean
  | 4 => .object "FeltHouse$Frame"
  | 5 => .object "FeltHouse$Loads"
  | 6 => .object "FeltHouse$Plan"
  | 7 => .object "FeltHouse$Text"
  | 8 => .array (.object "FeltHouse$Sheet")
  | _ => .array .int
abbrev wsX60 : List Cond := u_ws RX6 TX6 10
theorem nmX6 : ∀ a, a < 10 → ∀ b, b < 10 → a ≠ b → (TX6 a).2.1 ≠ (TX6 b).2.1 := by decide +kernel
theorem tyX6_ok : ∀ k, k < 10 → parseFieldDescriptor (TX6 k).2.2.1 = some (tyX6 k) := by decide +kernel
abbrev cX6_init : ByteArray := prog_1_method_1_code
def yX6_init : MethodName := ⟨RX6, "<init>", "()V"⟩
abbrev cX6_part : ByteArray := prog_1_method_2_code
def yX6_part : MethodName := ⟨RX6, "part", "(IIII)I"⟩
abbrev cX6_of : ByteArray := prog_1_method_3_code
def yX6_of : MethodName := ⟨RX6, "of", "(II)I"⟩
abbrev cX6_set : ByteArray := prog_1_method_4_code
def yX6_set : MethodName := ⟨RX6, "set", "(III)I"⟩
abbrev cX6_want : ByteArray := prog_1_method_5_code
def yX6_want : MethodName := ⟨RX6, "want", "(IZ)I"⟩
abbrev cX6_as : ByteArray := prog_1_method_6_code
def yX6_as : MethodName := ⟨RX6, "as", "(II)I"⟩
abbrev cX6_sky : ByteArray := prog_1_method_7_code
def yX6_sky : MethodName := ⟨RX6, "sky", "(II)I"⟩
abbrev cX6_draw : ByteArray := prog_1_method_8_code
def yX6_draw : MethodName := ⟨RX6, "draw", "(I)I"⟩
abbrev cX6_age : ByteArray := prog_1_method_9_code
def yX6_age : MethodName := ⟨RX6, "age", "(I)I"⟩
abbrev cX6_side : ByteArray := prog_1_method_10_code
def yX6_side : MethodName := ⟨RX6, "side", "(II)I"⟩
abbrev cX6_stands : ByteArray := prog_1_method_11_code
def yX6_stands : MethodName := ⟨RX6, "stands", "()I"⟩
abbrev cX6_first : ByteArray := prog_1_method_12_code
def yX6_first : MethodName := ⟨RX6, "first", "()I"⟩
abbrev cX6_gust : ByteArray := prog_1_method_13_code
def yX6_gust : MethodName := ⟨RX6, "gust", "()I"⟩
abbrev cX6_canWant : ByteArray := prog_1_method_14_code
def yX6_canWant : MethodName := ⟨RX6, "canWant", "()I"⟩
abbrev cX6_span : ByteArray := prog_1_method_15_code
def yX6_span : MethodName := ⟨RX6, "span", "(I)I"⟩
abbrev cX6_worst : ByteArray := prog_1_method_16_code
def yX6_worst : MethodName := ⟨RX6, "worst", "()I"⟩
abbrev cX6_warmth : ByteArray := prog_1_method_17_code
def yX6_warmth : MethodName := ⟨RX6, "warmth", "(I)I"⟩
abbrev cX6_idle : ByteArray := prog_1_method_18_code
def yX6_idle : MethodName := ⟨RX6, "idle", "()I"⟩
abbrev cX6_beast : ByteArray := prog_1_method_19_code
def yX6_beast : MethodName := ⟨RX6, "beast", "(I)I"⟩
abbrev cX6_cap : ByteArray := prog_1_method_20_code
def yX6_cap : MethodName := ⟨RX6, "cap", "(I)I"⟩
abbrev cX6_beasts : ByteArray := prog_1_method_21_code
def yX6_beasts : MethodName := ⟨RX6, "beasts", "(I)I"⟩
abbrev cX6_even : ByteArray := prog_1_method_22_code
def yX6_even : MethodName := ⟨RX6, "even", "(II)I"⟩
abbrev cX6_camp : ByteArray := prog_1_method_23_code
def yX6_camp : MethodName := ⟨RX6, "camp", "(I)I"⟩
abbrev cX6_grass : ByteArray := prog_1_method_24_code
def yX6_grass : MethodName := ⟨RX6, "grass", "(III)I"⟩
abbrev cX6_campOf : ByteArray := prog_1_method_25_code
def yX6_campOf : MethodName := ⟨RX6, "campOf", "(II)I"⟩
abbrev cX6_herd : ByteArray := prog_1_method_26_code
def yX6_herd : MethodName := ⟨RX6, "herd", "(II)I"⟩
abbrev cX6_year : ByteArray := prog_1_method_27_code
def yX6_year : MethodName := ⟨RX6, "year", "(III)I"⟩
abbrev cX6_moves : ByteArray := prog_1_method_28_code
def yX6_moves : MethodName := ⟨RX6, "moves", "(II)I"⟩
abbrev cX6_feed : ByteArray := prog_1_method_29_code
def yX6_feed : MethodName := ⟨RX6, "feed", "(II)I"⟩
abbrev cX6_wipe : ByteArray := prog_1_method_30_code
def yX6_wipe : MethodName := ⟨RX6, "wipe", "()I"⟩
abbrev cX6_house : ByteArray := prog_1_method_31_code
def yX6_house : MethodName := ⟨RX6, "house", "()I"⟩
abbrev cX6_sheet : ByteArray := prog_1_method_32_code
def yX6_sheet : MethodName := ⟨RX6, "sheet", "(III)I"⟩
abbrev cX6_write : ByteArray := prog_1_method_33_code
def yX6_write : MethodName := ⟨RX6, "write", "(IIJ)J"⟩
abbrev cX6_copy : ByteArray := prog_1_method_34_code
def yX6_copy : MethodName := ⟨RX6, "copy", "(IIIII)I"⟩
abbrev cX6_lays : ByteArray := prog_1_method_35_code
def yX6_lays : MethodName := ⟨RX6, "lays", "(II)I"⟩
abbrev cX6_costs : ByteArray := prog_1_method_36_code
def yX6_costs : MethodName := ⟨RX6, "costs", "(II)I"⟩
abbrev cX6_read : ByteArray := prog_1_method_37_code
def yX6_read : MethodName := ⟨RX6, "read", "(I)I"⟩
abbrev cX6_image : ByteArray := prog_1_method_38_code
def yX6_image : MethodName := ⟨RX6, "image", "()I"⟩
abbrev cX6_undo : ByteArray := prog_1_method_39_code
def yX6_undo : MethodName := ⟨RX6, "undo", "()I"⟩
abbrev cX6_tear : ByteArray := prog_1_method_40_code
def yX6_tear : MethodName := ⟨RX6, "tear", "()I"⟩
abbrev cX6_count : ByteArray := prog_1_method_41_code
def yX6_count : MethodName := ⟨RX6, "count", "(I)I"⟩
abbrev cX6_status : ByteArray := prog_1_method_42_code
def yX6_status : MethodName := ⟨RX6, "status", "(I)I"⟩
abbrev cX6_finding : ByteArray := prog_1_method_43_code
def yX6_finding : MethodName := ⟨RX6, "finding", "(I)I"⟩
abbrev cX6_within : ByteArray := prog_1_method_44_code
def yX6_within : MethodName := ⟨RX6, "within", "(III)Z"⟩
abbrev cX6_put : ByteArray := prog_1_method_45_code
def yX6_put : MethodName := ⟨RX6, "put", "([III)I"⟩
abbrev cX6_isOfKind : ByteArray := prog_1_method_46_code
def yX6_isOfKind : MethodName := ⟨RX6, "isOfKind", "(II)Z"⟩
abbrev cX6_isWidth : ByteArray := prog_1_method_47_code
def yX6_isWidth : MethodName := ⟨RX6, "isWidth", "(I)Z"⟩
abbrev cX6_sheetTrouble : ByteArray := prog_1_method_48_code
def yX6_sheetTrouble : MethodName := ⟨RX6, "sheetTrouble", "(I)I"⟩
def RX7 : String := "FeltHouseModel"
def TX7 : u_T := fun k => match k with
  | 0 => ("FeltHouseModel", "s", "[I", true)
  | 1 => ("FeltHouseModel", "kept", "[I", true)
  | 2 => ("FeltHouseModel", "tried", "[I", true)
  | 3 => ("FeltHouseModel", "isKept", "Z", false)
  | 4 => ("FeltHouseModel", "findings", "[I", true)
  | 5 => ("FeltHouseModel", "tape", "[I", true)
  | 6 => ("FeltHouseModel", "taped", "I", false)
  | 7 => ("FeltHouseModel", "bitsOf", "[I", true)
  | 8 => ("FeltHouseModel", "sizes", "[I", true)
  | 9 => ("FeltHouseModel", "numbers", "[J", true)
  | 10 => ("FeltHouseModel", "laden", "[I", true)
  | 11 => ("FeltHouseModel", "ladenMany", "I", false)
  | 12 => ("FeltHouseModel", "weighs", "[I", true)
  | 13 => ("FeltHouseModel", "carried", "[Z", true)
  | 14 => ("FeltHouseModel", "leastOf", "[I", true)
  | 15 => ("FeltHouseModel", "campIn", "[I", true)
  | 16 => ("FeltHouseModel", "from", "I", false)
  | 17 => ("FeltHouseModel", "to", "I", false)
  | 18 => ("FeltHouseModel", "token", "I", false)
  | 19 => ("FeltHouseModel", "value", "I", false)
  | 20 => ("FeltHouseModel", "isBad", "Z", false)
  | _ => ("FeltHouseModel", "letters", "[I", true)
def tyX7 : Nat → FieldType := fun k => match k with
  | 0 => .array .int
  | 1 => .array .int
  | 2 => .array .int
  | 3 => .boolean
  | 4 => .array .int
  | 5 => .array .int
  | 6 => .int
  | 7 => .array .int
  | 8 => .array .int
  | 9 => .array .long
  | 10 => .array .int
  | 11 => .int
  | 12 => .array .int
  | 13 => .array .boolean
  | 14 => .array .int
  | 15 => .array .int
  | 16 => .int
  | 17 => .int
  | 18 => .int
  | 19 => .int
  | 20 => .boolean
  | _ => .array .int
abbrev wsX70 : List Cond := u_ws RX7 TX7 22
theorem nmX7 : ∀ a, a < 22 → ∀ b, b < 22 → a ≠ b → (TX7 a).2.1 ≠ (TX7 b).2.1 := by decide +kernel
theorem tyX7_ok : ∀ k, k < 22 → parseFieldDescriptor (TX7 k).2.2.1 = some (tyX7 k) := by decide +kernel
abbrev cX7_init : ByteArray := prog_9_method_1_code
def yX7_init : MethodName := ⟨RX7, "<init>", "()V"⟩
abbrev cX7_isIn : ByteArray := prog_9_method_2_code
def yX7_isIn : MethodName := ⟨RX7, "isIn", "(JJJ)Z"⟩
abbrev cX7_finds : ByteArray := prog_9_method_3_code
def yX7_finds : MethodName := ⟨RX7, "finds", "(I)I"⟩
abbrev cX7_becomes : ByteArray := prog_9_method_4_code
def yX7_becomes : MethodName := ⟨RX7, "becomes", "(II)I"⟩
abbrev cX7_has : ByteArray := prog_9_method_5_code
def yX7_has : MethodName := ⟨RX7, "has", "(II)I"⟩
abbrev cX7_gets : ByteArray := prog_9_method_6_code
def yX7_gets : MethodName := ⟨RX7, "gets", "(III)V"⟩
abbrev cX7_isPart : ByteArray := prog_9_method_7_code
def yX7_isPart : MethodName := ⟨RX7, "isPart", "(I)Z"⟩
abbrev cX7_isThere : ByteArray := prog_9_method_8_code
def yX7_isThere : MethodName := ⟨RX7, "isThere", "(I)Z"⟩
abbrev cX7_comes : ByteArray := prog_9_method_9_code
def yX7_comes : MethodName := ⟨RX7, "comes", "(IIIII)V"⟩
abbrev cX7_part : ByteArray := prog_9_method_10_code
def yX7_part : MethodName := ⟨RX7, "part", "(IIII)I"⟩
abbrev cX7_good : ByteArray := prog_9_method_11_code
def yX7_good : MethodName := ⟨RX7, "good", "(I)I"⟩
abbrev cX7_pushes : ByteArray := prog_9_method_12_code
def yX7_pushes : MethodName := ⟨RX7, "pushes", "(I)I"⟩
abbrev cX7_holdsOf : ByteArray := prog_9_method_13_code
def yX7_holdsOf : MethodName := ⟨RX7, "holdsOf", "(I)I"⟩
abbrev cX7_warms : ByteArray := prog_9_method_14_code
def yX7_warms : MethodName := ⟨RX7, "warms", "(I)I"⟩
abbrev cX7_of : ByteArray := prog_9_method_15_code
def yX7_of : MethodName := ⟨RX7, "of", "(II)I"⟩
abbrev cX7_set : ByteArray := prog_9_method_16_code
def yX7_set : MethodName := ⟨RX7, "set", "(III)I"⟩
abbrev cX7_want : ByteArray := prog_9_method_17_code
def yX7_want : MethodName := ⟨RX7, "want", "(IZ)I"⟩
abbrev cX7_as : ByteArray := prog_9_method_18_code
def yX7_as : MethodName := ⟨RX7, "as", "(II)I"⟩
abbrev cX7_mostSky : ByteArray := prog_9_method_19_code
def yX7_mostSky : MethodName := ⟨RX7, "mostSky", "(I)I"⟩
abbrev cX7_sky : ByteArray := prog_9_method_20_code
def yX7_sky : MethodName := ⟨RX7, "sky", "(II)I"⟩
abbrev cX7_draw : ByteArray := prog_9_method_21_code
def yX7_draw : MethodName := ⟨RX7, "draw", "(I)I"⟩
abbrev cX7_age : ByteArray := prog_9_method_22_code
def yX7_age : MethodName := ⟨RX7, "age", "(I)I"⟩
abbrev cX7_strain : ByteArray := prog_9_method_23_code
def yX7_strain : MethodName := ⟨RX7, "strain", "(I)I"⟩
abbrev cX7_ownHold : ByteArray := prog_9_method_24_code
def yX7_ownHold : MethodName := ⟨RX7, "ownHold", "(I)I"⟩
abbrev cX7_holdOf : ByteArray := prog_9_method_25_code
def yX7_holdOf : MethodName := ⟨RX7, "holdOf", "(I)I"⟩
abbrev cX7_spare : ByteArray := prog_9_method_26_code
def yX7_spare : MethodName := ⟨RX7, "spare", "(I)I"⟩
abbrev cX7_side : ByteArray := prog_9_method_27_code
def yX7_side : MethodName := ⟨RX7, "side", "(II)I"⟩
abbrev cX7_isStanding : ByteArray := prog_9_method_28_code
def yX7_isStanding : MethodName := ⟨RX7, "isStanding", "()Z"⟩
abbrev cX7_stands : ByteArray := prog_9_method_29_code
def yX7_stands : MethodName := ⟨RX7, "stands", "()I"⟩
abbrev cX7_leastSpare : ByteArray := prog_9_method_30_code
def yX7_leastSpare : MethodName := ⟨RX7, "leastSpare", "()I"⟩
abbrev cX7_first : ByteArray := prog_9_method_31_code
def yX7_first : MethodName := ⟨RX7, "first", "()I"⟩
abbrev cX7_gust : ByteArray := prog_9_method_32_code
def yX7_gust : MethodName := ⟨RX7, "gust", "()I"⟩
abbrev cX7_canWant : ByteArray := prog_9_method_33_code
def yX7_canWant : MethodName := ⟨RX7, "canWant", "()I"⟩
abbrev cX7_span : ByteArray := prog_9_method_34_code
def yX7_span : MethodName := ⟨RX7, "span", "(I)I"⟩
abbrev cX7_worst : ByteArray := prog_9_method_35_code
def yX7_worst : MethodName := ⟨RX7, "worst", "()I"⟩
abbrev cX7_warmthNow : ByteArray := prog_9_method_36_code
def yX7_warmthNow : MethodName := ⟨RX7, "warmthNow", "()I"⟩
abbrev cX7_fuel : ByteArray := prog_9_method_37_code
def yX7_fuel : MethodName := ⟨RX7, "fuel", "()I"⟩
abbrev cX7_warmth : ByteArray := prog_9_method_38_code
def yX7_warmth : MethodName := ⟨RX7, "warmth", "(I)I"⟩
abbrev cX7_idle : ByteArray := prog_9_method_39_code
def yX7_idle : MethodName := ⟨RX7, "idle", "()I"⟩
abbrev cX7_beast : ByteArray := prog_9_method_40_code
def yX7_beast : MethodName := ⟨RX7, "beast", "(I)I"⟩
abbrev cX7_cap : ByteArray := prog_9_method_41_code
def yX7_cap : MethodName := ⟨RX7, "cap", "(I)I"⟩
abbrev cX7_isLoad : ByteArray := prog_9_method_42_code
def yX7_isLoad : MethodName := ⟨RX7, "isLoad", "(I)Z"⟩
abbrev cX7_findLoad : ByteArray := prog_9_method_43_code
def yX7_findLoad : MethodName := ⟨RX7, "findLoad", "(I)Z"⟩
abbrev cX7_beasts : ByteArray := prog_9_method_44_code
def yX7_beasts : MethodName := ⟨RX7, "beasts", "(I)I"⟩
abbrev cX7_even : ByteArray := prog_9_method_45_code
def yX7_even : MethodName := ⟨RX7, "even", "(II)I"⟩
abbrev cX7_isCamp : ByteArray := prog_9_method_46_code
def yX7_isCamp : MethodName := ⟨RX7, "isCamp", "(J)Z"⟩
abbrev cX7_comesCamp : ByteArray := prog_9_method_47_code
def yX7_comesCamp : MethodName := ⟨RX7, "comesCamp", "(I)V"⟩
abbrev cX7_camp : ByteArray := prog_9_method_48_code
def yX7_camp : MethodName := ⟨RX7, "camp", "(I)I"⟩
abbrev cX7_grass : ByteArray := prog_9_method_49_code
def yX7_grass : MethodName := ⟨RX7, "grass", "(III)I"⟩
abbrev cX7_campOf : ByteArray := prog_9_method_50_code
def yX7_campOf : MethodName := ⟨RX7, "campOf", "(II)I"⟩
abbrev cX7_herd : ByteArray := prog_9_method_51_code
def yX7_herd : MethodName := ⟨RX7, "herd", "(II)I"⟩
abbrev cX7_moveCost : ByteArray := prog_9_method_52_code
def yX7_moveCost : MethodName := ⟨RX7, "moveCost", "(II)I"⟩
abbrev cX7_monthCost : ByteArray := prog_9_method_53_code
def yX7_monthCost : MethodName := ⟨RX7, "monthCost", "(III)I"⟩
abbrev cX7_placeOf : ByteArray := prog_9_method_54_code
def yX7_placeOf : MethodName := ⟨RX7, "placeOf", "(III)I"⟩
abbrev cX7_costNext : ByteArray := prog_9_method_55_code
def yX7_costNext : MethodName := ⟨RX7, "costNext", "(IIII)I"⟩
abbrev cX7_nextCamp : ByteArray := prog_9_method_56_code
def yX7_nextCamp : MethodName := ⟨RX7, "nextCamp", "(III)I"⟩
abbrev cX7_findYear : ByteArray := prog_9_method_57_code
def yX7_findYear : MethodName := ⟨RX7, "findYear", "(II)I"⟩
abbrev cX7_year : ByteArray := prog_9_method_58_code
def yX7_year : MethodName := ⟨RX7, "year", "(III)I"⟩
abbrev cX7_moves : ByteArray := prog_9_method_59_code
def yX7_moves : MethodName := ⟨RX7, "moves", "(II)I"⟩
abbrev cX7_feed : ByteArray := prog_9_method_60_code
def yX7_feed : MethodName := ⟨RX7, "feed", "(II)I"⟩
abbrev cX7_wipe : ByteArray := prog_9_method_61_code
def yX7_wipe : MethodName := ⟨RX7, "wipe", "()I"⟩
abbrev cX7_byteAt : ByteArray := prog_9_method_62_code
def yX7_byteAt : MethodName := ⟨RX7, "byteAt", "(I)I"⟩
abbrev cX7_wordHere : ByteArray := prog_9_method_63_code
def yX7_wordHere : MethodName := ⟨RX7, "wordHere", "()I"⟩
abbrev cX7_goesOn : ByteArray := prog_9_method_64_code
def yX7_goesOn : MethodName := ⟨RX7, "goesOn", "()V"⟩
abbrev cX7_takes : ByteArray := prog_9_method_65_code
def yX7_takes : MethodName := ⟨RX7, "takes", "(I)Z"⟩
abbrev cX7_number : ByteArray := prog_9_method_66_code
def yX7_number : MethodName := ⟨RX7, "number", "(II)I"⟩
abbrev cX7_partItem : ByteArray := prog_9_method_67_code
def yX7_partItem : MethodName := ⟨RX7, "partItem", "(I)V"⟩
abbrev cX7_campItem : ByteArray := prog_9_method_68_code
def yX7_campItem : MethodName := ⟨RX7, "campItem", "()V"⟩
abbrev cX7_beastItem : ByteArray := prog_9_method_69_code
def yX7_beastItem : MethodName := ⟨RX7, "beastItem", "()V"⟩
abbrev cX7_item : ByteArray := prog_9_method_70_code
def yX7_item : MethodName := ⟨RX7, "item", "()V"⟩
abbrev cX7_house : ByteArray := prog_9_method_71_code
def yX7_house : MethodName := ⟨RX7, "house", "()I"⟩
abbrev cX7_isSheet : ByteArray := prog_9_method_72_code
def yX7_isSheet : MethodName := ⟨RX7, "isSheet", "(I)Z"⟩
abbrev cX7_narrow : ByteArray := prog_9_method_73_code
def yX7_narrow : MethodName := ⟨RX7, "narrow", "(IJ)J"⟩
abbrev cX7_sheet : ByteArray := prog_9_method_74_code
def yX7_sheet : MethodName := ⟨RX7, "sheet", "(III)I"⟩
abbrev cX7_write : ByteArray := prog_9_method_75_code
def yX7_write : MethodName := ⟨RX7, "write", "(IIJ)J"⟩
abbrev cX7_copy : ByteArray := prog_9_method_76_code
def yX7_copy : MethodName := ⟨RX7, "copy", "(IIIII)I"⟩
abbrev cX7_lays : ByteArray := prog_9_method_77_code
def yX7_lays : MethodName := ⟨RX7, "lays", "(II)I"⟩
abbrev cX7_costs : ByteArray := prog_9_method_78_code
def yX7_costs : MethodName := ⟨RX7, "costs", "(II)I"⟩
abbrev cX7_read : ByteArray := prog_9_method_79_code
def yX7_read : MethodName := ⟨RX7, "read", "(I)I"⟩
abbrev cX7_image : ByteArray := prog_9_method_80_code
def yX7_image : MethodName := ⟨RX7, "image", "()I"⟩
abbrev cX7_undo : ByteArray := prog_9_method_81_code
def yX7_undo : MethodName := ⟨RX7, "undo", "()I"⟩
abbrev cX7_tear : ByteArray := prog_9_method_82_code
def yX7_tear : MethodName := ⟨RX7, "tear", "()I"⟩
abbrev cX7_ofThere : ByteArray := prog_9_method_83_code
def yX7_ofThere : MethodName := ⟨RX7, "ofThere", "(Z)I"⟩
abbrev cX7_count : ByteArray := prog_9_method_84_code
def yX7_count : MethodName := ⟨RX7, "count", "(I)I"⟩
abbrev cX7_status : ByteArray := prog_9_method_85_code
def yX7_status : MethodName := ⟨RX7, "status", "(I)I"⟩
def RJx145de : String := "java/io/Serializable"
def TJx145de : u_T := fun k => match k with
  | _ => ("", "", "", false)
def tyJx145de : Nat → FieldType := fun k => match k with
  | _ => .int
abbrev wsJx145de0 : List Cond := u_ws RJx145de TJx145de 0
theorem nmJx145de : ∀ a, a < 0 → ∀ b, b < 0 → a ≠ b → (TJx145de a).2.1 ≠ (TJx145de b).2.1 := by decide +kernel
theorem tyJx145de_ok : ∀ k, k < 0 → parseFieldDescriptor (TJx145de k).2.2.1 = some (tyJx145de k) := by decide +kernel
def RJx9f9b0 : String := "java/lang/CharSequence"
def TJx9f9b0 : u_T := fun k => match k with
  | _ => ("", "", "", false)
def tyJx9f9b0 : Nat → FieldType := fun k => match k with
  | _ => .int
abbrev wsJx9f9b00 : List Cond := u_ws RJx9f9b0 TJx9f9b0 0
theorem nmJx9f9b0 : ∀ a, a < 0 → ∀ b, b < 0 → a ≠ b → (TJx9f9b0 a).2.1 ≠ (TJx9f9b0 b).2.1 := by decide +kernel
theorem tyJx9f9b0_ok : ∀ k, k < 0 → parseFieldDescriptor (TJx9f9b0 k).2.2.1 = some (tyJx9f9b0 k) := by decide +kernel
def RJxb160c : String := "java/lang/Comparable"
def TJxb160c : u_T := fun k => match k with
  | _ => ("", "", "", false)
def tyJxb160c : Nat → FieldType := fun k => match k with
  | _ => .int
abbrev wsJxb160c0 : List Cond := u_ws RJxb160c TJxb160c 0
theorem nmJxb160c : ∀ a, a < 0 → ∀ b, b < 0 → a ≠ b → (TJxb160c a).2.1 ≠ (TJxb160c b).2.1 := by decide +kernel
theorem tyJxb160c_ok : ∀ k, k < 0 → parseFieldDescriptor (TJxb160c k).2.2.1 = some (tyJxb160c k) := by decide +kernel
def RJ6 : String := "java/lang/Integer"
def TJ6 : u_T := fun k => match k with
  | _ => ("", "", "", false)
def tyJ6 : Nat → FieldType := fun k => match k with
  | _ => .int
abbrev wsJ60 : List Cond := u_ws RJ6 TJ6 0
theorem nmJ6 : ∀ a, a < 0 → ∀ b, b < 0 → a ≠ b → (TJ6 a).2.1 ≠ (TJ6 b).2.1 := by decide +kernel
theorem tyJ6_ok : ∀ k, k < 0 → parseFieldDescriptor (TJ6 k).2.2.1 = some (tyJ6 k) := by decide +kernel
abbrev cJ6_numberOfTrailingZeros_0f7a4 : ByteArray := prog_10_method_48_code
def yJ6_numberOfTrailingZeros_0f7a4 : MethodName := ⟨RJ6, "numberOfTrailingZeros", "(I)I"⟩
abbrev cJ6_bitCount_0f7a4 : ByteArray := prog_10_method_49_code
def yJ6_bitCount_0f7a4 : MethodName := ⟨RJ6, "bitCount", "(I)I"⟩
def RJ9 : String := "java/lang/Math"
def TJ9 : u_T := fun k => match k with
  | _ => ("", "", "", false)
def tyJ9 : Nat → FieldType := fun k => match k with
  | _ => .int
abbrev wsJ90 : List Cond := u_ws RJ9 TJ9 0
theorem nmJ9 : ∀ a, a < 0 → ∀ b, b < 0 → a ≠ b → (TJ9 a).2.1 ≠ (TJ9 b).2.1 := by decide +kernel
theorem tyJ9_ok : ∀ k, k < 0 → parseFieldDescriptor (TJ9 k).2.2.1 = some (tyJ9 k) := by decide +kernel
abbrev cJ9_abs_0f7a4 : ByteArray := prog_11_method_59_code
def yJ9_abs_0f7a4 : MethodName := ⟨RJ9, "abs", "(I)I"⟩
abbrev cJ9_max_7cf53 : ByteArray := prog_11_method_65_code
def yJ9_max_7cf53 : MethodName := ⟨RJ9, "max", "(II)I"⟩
abbrev cJ9_min_7cf53 : ByteArray := prog_11_method_69_code
def yJ9_min_7cf53 : MethodName := ⟨RJ9, "min", "(II)I"⟩
def RJ0 : String := "java/lang/String"
def TJ0 : u_T := fun k => match k with
  | _ => ("", "", "", false)
def tyJ0 : Nat → FieldType := fun k => match k with
  | _ => .int
abbrev wsJ00 : List Cond := u_ws RJ0 TJ0 0
theorem nmJ0 : ∀ a, a < 0 → ∀ b, b < 0 → a ≠ b → (TJ0 a).2.1 ≠ (TJ0 b).2.1 := by decide +kernel
theorem tyJ0_ok : ∀ k, k < 0 → parseFieldDescriptor (TJ0 k).2.2.1 = some (tyJ0 k) := by decide +kernel
abbrev cJ0_length_8abf5 : ByteArray := prog_12_method_54_code
def yJ0_length_8abf5 : MethodName := ⟨RJ0, "length", "()I"⟩
abbrev cJ0_charAt_5068e : ByteArray := prog_12_method_56_code
def yJ0_charAt_5068e : MethodName := ⟨RJ0, "charAt", "(I)C"⟩
abbrev cJ0_coder_7d493 : ByteArray := prog_12_method_152_code
def yJ0_coder_7d493 : MethodName := ⟨RJ0, "coder", "()B"⟩
abbrev cJ0_isLatin1_aae02 : ByteArray := prog_12_method_154_code
def yJ0_isLatin1_aae02 : MethodName := ⟨RJ0, "isLatin1", "()Z"⟩
abbrev cJ0_checkIndex_df160 : ByteArray := prog_12_method_155_code
def yJ0_checkIndex_df160 : MethodName := ⟨RJ0, "checkIndex", "(II)V"⟩
def RJ1 : String := "java/lang/StringLatin1"
def TJ1 : u_T := fun k => match k with
  | _ => ("", "", "", false)
def tyJ1 : Nat → FieldType := fun k => match k with
  | _ => .int
abbrev wsJ10 : List Cond := u_ws RJ1 TJ1 0
theorem nmJ1 : ∀ a, a < 0 → ∀ b, b < 0 → a ≠ b → (TJ1 a).2.1 ≠ (TJ1 b).2.1 := by decide +kernel
theorem tyJ1_ok : ∀ k, k < 0 → parseFieldDescriptor (TJ1 k).2.2.1 = some (tyJ1 k) := by decide +kernel
abbrev cJ1_charAt_3b067 : ByteArray := prog_13_method_2_code
def yJ1_charAt_3b067 : MethodName := ⟨RJ1, "charAt", "([BI)C"⟩
def RJ2 : String := "java/lang/StringUTF16"
def TJ2 : u_T := fun k => match k with
  | _ => ("", "", "", false)
def tyJ2 : Nat → FieldType := fun k => match k with
  | _ => .int
abbrev wsJ20 : List Cond := u_ws RJ2 TJ2 0
theorem nmJ2 : ∀ a, a < 0 → ∀ b, b < 0 → a ≠ b → (TJ2 a).2.1 ≠ (TJ2 b).2.1 := by decide +kernel
theorem tyJ2_ok : ∀ k, k < 0 → parseFieldDescriptor (TJ2 k).2.2.1 = some (tyJ2 k) := by decide +kernel
abbrev cJ2_getChar_3b067 : ByteArray := prog_14_method_5_code
def yJ2_getChar_3b067 : MethodName := ⟨RJ2, "getChar", "([BI)C"⟩
abbrev cJ2_length_9d52b : ByteArray := prog_14_method_6_code
def yJ2_length_9d52b : MethodName := ⟨RJ2, "length", "([B)I"⟩
abbrev cJ2_charAt_3b067 : ByteArray := prog_14_method_83_code
def yJ2_charAt_3b067 : MethodName := ⟨RJ2, "charAt", "([BI)C"⟩
abbrev cJ2_checkIndex_2214a : ByteArray := prog_14_method_91_code
def yJ2_checkIndex_2214a : MethodName := ⟨RJ2, "checkIndex", "(I[B)V"⟩
def RJ10 : String := "java/lang/System"
def TJ10 : u_T := fun k => match k with
  | _ => ("", "", "", false)
def tyJ10 : Nat → FieldType := fun k => match k with
  | _ => .int
abbrev wsJ100 : List Cond := u_ws RJ10 TJ10 0
theorem nmJ10 : ∀ a, a < 0 → ∀ b, b < 0 → a ≠ b → (TJ10 a).2.1 ≠ (TJ10 b).2.1 := by decide +kernel
theorem tyJ10_ok : ∀ k, k < 0 → parseFieldDescriptor (TJ10 k).2.2.1 = some (tyJ10 k) := by decide +kernel
def RJxfd54e : String := "java/lang/constant/Constable"
def TJxfd54e : u_T := fun k => match k with
  | _ => ("", "", "", false)
def tyJxfd54e : Nat → FieldType := fun k => match k with
  | _ => .int
abbrev wsJxfd54e0 : List Cond := u_ws RJxfd54e TJxfd54e 0
theorem nmJxfd54e : ∀ a, a < 0 → ∀ b, b < 0 → a ≠ b → (TJxfd54e a).2.1 ≠ (TJxfd54e b).2.1 := by decide +kernel
theorem tyJxfd54e_ok : ∀ k, k < 0 → parseFieldDescriptor (TJxfd54e k).2.2.1 = some (tyJxfd54e k) := by decide +kernel
def RJx3cf43 : String := "java/lang/constant/ConstantDesc"
def TJx3cf43 : u_T := fun k => match k with
  | _ => ("", "", "", false)
def tyJx3cf43 : Nat → FieldType := fun k => match k with
  | _ => .int
abbrev wsJx3cf430 : List Cond := u_ws RJx3cf43 TJx3cf43 0
theorem nmJx3cf43 : ∀ a, a < 0 → ∀ b, b < 0 → a ≠ b → (TJx3cf43 a).2.1 ≠ (TJx3cf43 b).2.1 := by decide +kernel
theorem tyJx3cf43_ok : ∀ k, k < 0 → parseFieldDescriptor (TJx3cf43 k).2.2.1 = some (tyJx3cf43 k) := by decide +kernel
def RJ7 : String := "java/util/Arrays"
def TJ7 : u_T := fun k => match k with
  | _ => ("", "", "", false)
def tyJ7 : Nat → FieldType := fun k => match k with
  | _ => .int
abbrev wsJ70 : List Cond := u_ws RJ7 TJ7 0
theorem nmJ7 : ∀ a, a < 0 → ∀ b, b < 0 → a ≠ b → (TJ7 a).2.1 ≠ (TJ7 b).2.1 := by decide +kernel
theorem tyJ7_ok : ∀ k, k < 0 → parseFieldDescriptor (TJ7 k).2.2.1 = some (tyJ7 k) := by decide +kernel
abbrev cJ7_fill_d0a16 : ByteArray := prog_16_method_101_code
def yJ7_fill_d0a16 : MethodName := ⟨RJ7, "fill", "([JJ)V"⟩
abbrev cJ7_fill_53178 : ByteArray := prog_16_method_103_code
def yJ7_fill_53178 : MethodName := ⟨RJ7, "fill", "([II)V"⟩
def RJ3 : String := "jdk/internal/util/Preconditions"
def TJ3 : u_T := fun k => match k with
  | _ => ("", "", "", false)
def tyJ3 : Nat → FieldType := fun k => match k with
  | _ => .int
abbrev wsJ30 : List Cond := u_ws RJ3 TJ3 0
theorem nmJ3 : ∀ a, a < 0 → ∀ b, b < 0 → a ≠ b → (TJ3 a).2.1 ≠ (TJ3 b).2.1 := by decide +kernel
theorem tyJ3_ok : ∀ k, k < 0 → parseFieldDescriptor (TJ3 k).2.2.1 = some (tyJ3 k) := by decide +kernel
abbrev cJ3_checkIndex_8e157 : ByteArray := prog_17_method_11_code
def yJ3_checkIndex_8e157 : MethodName := ⟨RJ3, "checkIndex", "(IILjava/util/function/BiFunction;)I"⟩
def RL : String := "FeltHouseLaw"
abbrev cL_law : ByteArray := code
def yL_law : MethodName := ⟨RL, "law", "([I)Z"⟩
abbrev vwCl : List vw_C := [(RX0, TX0, 7), (RX1, TX1, 7), (RX2, TX2, 4), (RX3, TX3, 3), (RX4, TX4, 15), (RX5, TX5, 6), (RX6, TX6, 10), (RX7, TX7, 22)]
end
section
theorem dX0_init_0 : decode cX0_init 0 = .ok (.aload_n 0, 1) := by decide +kernel
theorem dX0_init_1 : decode cX0_init 1 = .ok (.invokespecial 3, 3) := by decide +kernel
theorem dX0_init_4 : decode cX0_init 4 = .ok (.aload_n 0, 1) := by decide +kernel
theorem dX0_init_5 : decode cX0_init 5 = .ok (.bipush 8, 2) := by decide +kernel
theorem dX0_init_7 : decode cX0_init 7 = .ok (.newarray .int, 2) := by decide +kernel
theorem dX0_init_9 : decode cX0_init 9 = .ok (.putfield 9, 3) := by decide +kernel
theorem dX0_init_12 : decode cX0_init 12 = .ok (.aload_n 0, 1) := by decide +kernel
theorem dX0_init_13 : decode cX0_init 13 = .ok (.bipush 8, 2) := by decide +kernel
theorem dX0_init_15 : decode cX0_init 15 = .ok (.newarray .int, 2) := by decide +kernel
theorem dX0_init_17 : decode cX0_init 17 = .ok (.putfield 15, 3) := by decide +kernel
theorem dX0_init_20 : decode cX0_init 20 = .ok (.aload_n 0, 1) := by decide +kernel
theorem dX0_init_21 : decode cX0_init 21 = .ok (.aload_n 1, 1) := by decide +kernel
theorem dX0_init_22 : decode cX0_init 22 = .ok (.putfield 18, 3) := by decide +kernel
theorem dX0_init_25 : decode cX0_init 25 = .ok (.return_, 1) := by decide +kernel
theorem dX0_asItIs_0 : decode cX0_asItIs 0 = .ok (.aload_n 0, 1) := by decide +kernel
theorem dX0_asItIs_1 : decode cX0_asItIs 1 = .ok (.aload_n 0, 1) := by decide +kernel
theorem dX0_asItIs_2 : decode cX0_asItIs 2 = .ok (.getfield 18, 3) := by decide +kernel
theorem dX0_asItIs_5 : decode cX0_asItIs 5 = .ok (.getfield 22, 3) := by decide +kernel
theorem dX0_asItIs_8 : decode cX0_asItIs 8 = .ok (.iconst 0, 1) := by decide +kernel
theorem dX0_asItIs_9 : decode cX0_asItIs 9 = .ok (.iaload, 1) := by decide +kernel
theorem dX0_asItIs_10 : decode cX0_asItIs 10 = .ok (.putfield 27, 3) := by decide +kernel
theorem dX0_asItIs_13 : decode cX0_asItIs 13 = .ok (.aload_n 0, 1) := by decide +kernel
theorem dX0_asItIs_14 : decode cX0_asItIs 14 = .ok (.aload_n 0, 1) := by decide +kernel
theorem dX0_asItIs_15 : decode cX0_asItIs 15 = .ok (.getfield 18, 3) := by decide +kernel
theorem dX0_asItIs_18 : decode cX0_asItIs 18 = .ok (.getfield 22, 3) := by decide +kernel
theorem dX0_asItIs_21 : decode cX0_asItIs 21 = .ok (.iconst 1, 1) := by decide +kernel
theorem dX0_asItIs_22 : decode cX0_asItIs 22 = .ok (.iaload, 1) := by decide +kernel
theorem dX0_asItIs_23 : decode cX0_asItIs 23 = .ok (.putfield 31, 3) := by decide +kernel
theorem dX0_asItIs_26 : decode cX0_asItIs 26 = .ok (.aload_n 0, 1) := by decide +kernel
theorem dX0_asItIs_27 : decode cX0_asItIs 27 = .ok (.aload_n 0, 1) := by decide +kernel
theorem dX0_asItIs_28 : decode cX0_asItIs 28 = .ok (.getfield 18, 3) := by decide +kernel
theorem dX0_asItIs_31 : decode cX0_asItIs 31 = .ok (.getfield 34, 3) := by decide +kernel
theorem dX0_asItIs_34 : decode cX0_asItIs 34 = .ok (.putfield 37, 3) := by decide +kernel
theorem dX0_asItIs_37 : decode cX0_asItIs 37 = .ok (.aload_n 0, 1) := by decide +kernel
theorem dX0_asItIs_38 : decode cX0_asItIs 38 = .ok (.aload_n 0, 1) := by decide +kernel
theorem dX0_asItIs_39 : decode cX0_asItIs 39 = .ok (.getfield 18, 3) := by decide +kernel
theorem dX0_asItIs_42 : decode cX0_asItIs 42 = .ok (.getfield 38, 3) := by decide +kernel
theorem dX0_asItIs_45 : decode cX0_asItIs 45 = .ok (.putfield 41, 3) := by decide +kernel
theorem dX0_asItIs_48 : decode cX0_asItIs 48 = .ok (.return_, 1) := by decide +kernel
theorem dX0_isHere_0 : decode cX0_isHere 0 = .ok (.aload_n 0, 1) := by decide +kernel
theorem dX0_isHere_1 : decode cX0_isHere 1 = .ok (.getfield 41, 3) := by decide +kernel
theorem dX0_isHere_4 : decode cX0_isHere 4 = .ok (.iload_n 1, 1) := by decide +kernel
theorem dX0_isHere_5 : decode cX0_isHere 5 = .ok (.ishr, 1) := by decide +kernel
theorem dX0_isHere_6 : decode cX0_isHere 6 = .ok (.iconst 1, 1) := by decide +kernel
theorem dX0_isHere_7 : decode cX0_isHere 7 = .ok (.iand, 1) := by decide +kernel
theorem dX0_isHere_8 : decode cX0_isHere 8 = .ok (.iconst 1, 1) := by decide +kernel
theorem dX0_isHere_9 : decode cX0_isHere 9 = .ok (.if_icmp .ne 7, 3) := by decide +kernel
theorem dX0_isHere_12 : decode cX0_isHere 12 = .ok (.iconst 1, 1) := by decide +kernel
theorem dX0_isHere_13 : decode cX0_isHere 13 = .ok (.goto 4, 3) := by decide +kernel
theorem dX0_isHere_16 : decode cX0_isHere 16 = .ok (.iconst 0, 1) := by decide +kernel
theorem dX0_isHere_17 : decode cX0_isHere 17 = .ok (.ireturn, 1) := by decide +kernel
theorem dX0_good_0 : decode cX0_good 0 = .ok (.aload_n 0, 1) := by decide +kernel
theorem dX0_good_1 : decode cX0_good 1 = .ok (.iload_n 1, 1) := by decide +kernel
theorem dX0_good_2 : decode cX0_good 2 = .ok (.invokevirtual 44, 3) := by decide +kernel
theorem dX0_good_5 : decode cX0_good 5 = .ok (.ifCond .eq 31, 3) := by decide +kernel
theorem dX0_good_8 : decode cX0_good 8 = .ok (.aload_n 0, 1) := by decide +kernel
theorem dX0_good_9 : decode cX0_good 9 = .ok (.getfield 18, 3) := by decide +kernel
theorem dX0_good_12 : decode cX0_good 12 = .ok (.getfield 48, 3) := by decide +kernel
theorem dX0_good_15 : decode cX0_good 15 = .ok (.iload_n 1, 1) := by decide +kernel
theorem dX0_good_16 : decode cX0_good 16 = .ok (.iaload, 1) := by decide +kernel
theorem dX0_good_17 : decode cX0_good 17 = .ok (.bipush 100, 2) := by decide +kernel
theorem dX0_good_19 : decode cX0_good 19 = .ok (.aload_n 0, 1) := by decide +kernel
theorem dX0_good_20 : decode cX0_good 20 = .ok (.getfield 18, 3) := by decide +kernel
theorem dX0_good_23 : decode cX0_good 23 = .ok (.getfield 51, 3) := by decide +kernel
theorem dX0_good_26 : decode cX0_good 26 = .ok (.iload_n 1, 1) := by decide +kernel
theorem dX0_good_27 : decode cX0_good 27 = .ok (.iaload, 1) := by decide +kernel
theorem dX0_good_28 : decode cX0_good 28 = .ok (.isub, 1) := by decide +kernel
theorem dX0_good_29 : decode cX0_good 29 = .ok (.imul, 1) := by decide +kernel
theorem dX0_good_30 : decode cX0_good 30 = .ok (.bipush 100, 2) := by decide +kernel
theorem dX0_good_32 : decode cX0_good 32 = .ok (.idiv, 1) := by decide +kernel
theorem dX0_good_33 : decode cX0_good 33 = .ok (.goto 4, 3) := by decide +kernel
theorem dX0_good_36 : decode cX0_good 36 = .ok (.iconst 0, 1) := by decide +kernel
theorem dX0_good_37 : decode cX0_good 37 = .ok (.ireturn, 1) := by decide +kernel
theorem dX0_pushes_0 : decode cX0_pushes 0 = .ok (.aload_n 0, 1) := by decide +kernel
theorem dX0_pushes_1 : decode cX0_pushes 1 = .ok (.getfield 18, 3) := by decide +kernel
theorem dX0_pushes_4 : decode cX0_pushes 4 = .ok (.getfield 54, 3) := by decide +kernel
theorem dX0_pushes_7 : decode cX0_pushes 7 = .ok (.iload_n 1, 1) := by decide +kernel
theorem dX0_pushes_8 : decode cX0_pushes 8 = .ok (.iaload, 1) := by decide +kernel
theorem dX0_pushes_9 : decode cX0_pushes 9 = .ok (.lookupswitch 90 #[(1, 27), (5, 57)], 27) := by decide +kernel
theorem dX0_pushes_36 : decode cX0_pushes 36 = .ok (.aload_n 0, 1) := by decide +kernel
theorem dX0_pushes_37 : decode cX0_pushes 37 = .ok (.iload_n 1, 1) := by decide +kernel
theorem dX0_pushes_38 : decode cX0_pushes 38 = .ok (.invokevirtual 57, 3) := by decide +kernel
theorem dX0_pushes_41 : decode cX0_pushes 41 = .ok (.ifCond .le 23, 3) := by decide +kernel
theorem dX0_pushes_44 : decode cX0_pushes 44 = .ok (.aload_n 0, 1) := by decide +kernel
theorem dX0_pushes_45 : decode cX0_pushes 45 = .ok (.iload_n 1, 1) := by decide +kernel
theorem dX0_pushes_46 : decode cX0_pushes 46 = .ok (.invokevirtual 57, 3) := by decide +kernel
theorem dX0_pushes_49 : decode cX0_pushes 49 = .ok (.aload_n 0, 1) := by decide +kernel
theorem dX0_pushes_50 : decode cX0_pushes 50 = .ok (.getfield 18, 3) := by decide +kernel
theorem dX0_pushes_53 : decode cX0_pushes 53 = .ok (.getfield 22, 3) := by decide +kernel
theorem dX0_pushes_56 : decode cX0_pushes 56 = .ok (.iconst 3, 1) := by decide +kernel
theorem dX0_pushes_57 : decode cX0_pushes 57 = .ok (.iaload, 1) := by decide +kernel
theorem dX0_pushes_58 : decode cX0_pushes 58 = .ok (.iconst 4, 1) := by decide +kernel
theorem dX0_pushes_59 : decode cX0_pushes 59 = .ok (.idiv, 1) := by decide +kernel
theorem dX0_pushes_60 : decode cX0_pushes 60 = .ok (.iadd, 1) := by decide +kernel
theorem dX0_pushes_61 : decode cX0_pushes 61 = .ok (.goto 4, 3) := by decide +kernel
theorem dX0_pushes_64 : decode cX0_pushes 64 = .ok (.iconst 0, 1) := by decide +kernel
theorem dX0_pushes_65 : decode cX0_pushes 65 = .ok (.ireturn, 1) := by decide +kernel
theorem dX0_pushes_66 : decode cX0_pushes 66 = .ok (.aload_n 0, 1) := by decide +kernel
theorem dX0_pushes_67 : decode cX0_pushes 67 = .ok (.iload_n 1, 1) := by decide +kernel
theorem dX0_pushes_68 : decode cX0_pushes 68 = .ok (.invokevirtual 44, 3) := by decide +kernel
theorem dX0_pushes_71 : decode cX0_pushes 71 = .ok (.ifCond .eq 26, 3) := by decide +kernel
theorem dX0_pushes_74 : decode cX0_pushes 74 = .ok (.aload_n 0, 1) := by decide +kernel
theorem dX0_pushes_75 : decode cX0_pushes 75 = .ok (.getfield 18, 3) := by decide +kernel
theorem dX0_pushes_78 : decode cX0_pushes 78 = .ok (.getfield 61, 3) := by decide +kernel
theorem dX0_pushes_81 : decode cX0_pushes 81 = .ok (.iload_n 1, 1) := by decide +kernel
theorem dX0_pushes_82 : decode cX0_pushes 82 = .ok (.iaload, 1) := by decide +kernel
theorem dX0_pushes_83 : decode cX0_pushes 83 = .ok (.aload_n 0, 1) := by decide +kernel
theorem dX0_pushes_84 : decode cX0_pushes 84 = .ok (.getfield 31, 3) := by decide +kernel
theorem dX0_pushes_87 : decode cX0_pushes 87 = .ok (.if_icmp .ne 10, 3) := by decide +kernel
theorem dX0_pushes_90 : decode cX0_pushes 90 = .ok (.aload_n 0, 1) := by decide +kernel
theorem dX0_pushes_91 : decode cX0_pushes 91 = .ok (.getfield 27, 3) := by decide +kernel
theorem dX0_pushes_94 : decode cX0_pushes 94 = .ok (.goto 4, 3) := by decide +kernel
theorem dX0_pushes_97 : decode cX0_pushes 97 = .ok (.iconst 0, 1) := by decide +kernel
theorem dX0_pushes_98 : decode cX0_pushes 98 = .ok (.ireturn, 1) := by decide +kernel
theorem dX0_pushes_99 : decode cX0_pushes 99 = .ok (.iconst 0, 1) := by decide +kernel
theorem dX0_pushes_100 : decode cX0_pushes 100 = .ok (.ireturn, 1) := by decide +kernel
theorem dX0_holds_0 : decode cX0_holds 0 = .ok (.aload_n 0, 1) := by decide +kernel
theorem dX0_holds_1 : decode cX0_holds 1 = .ok (.getfield 18, 3) := by decide +kernel
theorem dX0_holds_4 : decode cX0_holds 4 = .ok (.getfield 54, 3) := by decide +kernel
theorem dX0_holds_7 : decode cX0_holds 7 = .ok (.iload_n 1, 1) := by decide +kernel
theorem dX0_holds_8 : decode cX0_holds 8 = .ok (.iaload, 1) := by decide +kernel
theorem dX0_holds_9 : decode cX0_holds 9 = .ok (.tableswitch 97 2 6 #[35, 66, 88, 88, 41], 35) := by decide +kernel
theorem dX0_holds_44 : decode cX0_holds 44 = .ok (.aload_n 0, 1) := by decide +kernel
theorem dX0_holds_45 : decode cX0_holds 45 = .ok (.iload_n 1, 1) := by decide +kernel
theorem dX0_holds_46 : decode cX0_holds 46 = .ok (.invokevirtual 64, 3) := by decide +kernel
theorem dX0_holds_49 : decode cX0_holds 49 = .ok (.ireturn, 1) := by decide +kernel
theorem dX0_holds_50 : decode cX0_holds 50 = .ok (.aload_n 0, 1) := by decide +kernel
theorem dX0_holds_51 : decode cX0_holds 51 = .ok (.iload_n 1, 1) := by decide +kernel
theorem dX0_holds_52 : decode cX0_holds 52 = .ok (.invokevirtual 64, 3) := by decide +kernel
theorem dX0_holds_55 : decode cX0_holds 55 = .ok (.aload_n 0, 1) := by decide +kernel
theorem dX0_holds_56 : decode cX0_holds 56 = .ok (.getfield 18, 3) := by decide +kernel
theorem dX0_holds_59 : decode cX0_holds 59 = .ok (.getfield 22, 3) := by decide +kernel
theorem dX0_holds_62 : decode cX0_holds 62 = .ok (.iconst 2, 1) := by decide +kernel
theorem dX0_holds_63 : decode cX0_holds 63 = .ok (.iaload, 1) := by decide +kernel
theorem dX0_holds_64 : decode cX0_holds 64 = .ok (.aload_n 0, 1) := by decide +kernel
theorem dX0_holds_65 : decode cX0_holds 65 = .ok (.iload_n 1, 1) := by decide +kernel
theorem dX0_holds_66 : decode cX0_holds 66 = .ok (.invokevirtual 64, 3) := by decide +kernel
theorem dX0_holds_69 : decode cX0_holds 69 = .ok (.imul, 1) := by decide +kernel
theorem dX0_holds_70 : decode cX0_holds 70 = .ok (.bipush 10, 2) := by decide +kernel
theorem dX0_holds_72 : decode cX0_holds 72 = .ok (.idiv, 1) := by decide +kernel
theorem dX0_holds_73 : decode cX0_holds 73 = .ok (.isub, 1) := by decide +kernel
theorem dX0_holds_74 : decode cX0_holds 74 = .ok (.ireturn, 1) := by decide +kernel
theorem dX0_holds_75 : decode cX0_holds 75 = .ok (.aload_n 0, 1) := by decide +kernel
theorem dX0_holds_76 : decode cX0_holds 76 = .ok (.iload_n 1, 1) := by decide +kernel
theorem dX0_holds_77 : decode cX0_holds 77 = .ok (.invokevirtual 57, 3) := by decide +kernel
theorem dX0_holds_80 : decode cX0_holds 80 = .ok (.ifCond .le 15, 3) := by decide +kernel
theorem dX0_holds_83 : decode cX0_holds 83 = .ok (.aload_n 0, 1) := by decide +kernel
theorem dX0_holds_84 : decode cX0_holds 84 = .ok (.getfield 18, 3) := by decide +kernel
theorem dX0_holds_87 : decode cX0_holds 87 = .ok (.getfield 67, 3) := by decide +kernel
theorem dX0_holds_90 : decode cX0_holds 90 = .ok (.iload_n 1, 1) := by decide +kernel
theorem dX0_holds_91 : decode cX0_holds 91 = .ok (.iaload, 1) := by decide +kernel
theorem dX0_holds_92 : decode cX0_holds 92 = .ok (.goto 4, 3) := by decide +kernel
theorem dX0_holds_95 : decode cX0_holds 95 = .ok (.iconst 0, 1) := by decide +kernel
theorem dX0_holds_96 : decode cX0_holds 96 = .ok (.ireturn, 1) := by decide +kernel
theorem dX0_holds_97 : decode cX0_holds 97 = .ok (.aload_n 0, 1) := by decide +kernel
theorem dX0_holds_98 : decode cX0_holds 98 = .ok (.iload_n 1, 1) := by decide +kernel
theorem dX0_holds_99 : decode cX0_holds 99 = .ok (.invokevirtual 57, 3) := by decide +kernel
theorem dX0_holds_102 : decode cX0_holds 102 = .ok (.bipush 10, 2) := by decide +kernel
theorem dX0_holds_104 : decode cX0_holds 104 = .ok (.idiv, 1) := by decide +kernel
theorem dX0_holds_105 : decode cX0_holds 105 = .ok (.ireturn, 1) := by decide +kernel
theorem dX0_holds_106 : decode cX0_holds 106 = .ok (.iconst 0, 1) := by decide +kernel
theorem dX0_holds_107 : decode cX0_holds 107 = .ok (.ireturn, 1) := by decide +kernel
theorem dX0_drawnHold_0 : decode cX0_drawnHold 0 = .ok (.aload_n 0, 1) := by decide +kernel
theorem dX0_drawnHold_1 : decode cX0_drawnHold 1 = .ok (.iload_n 1, 1) := by decide +kernel
theorem dX0_drawnHold_2 : decode cX0_drawnHold 2 = .ok (.invokevirtual 57, 3) := by decide +kernel
theorem dX0_drawnHold_5 : decode cX0_drawnHold 5 = .ok (.aload_n 0, 1) := by decide +kernel
theorem dX0_drawnHold_6 : decode cX0_drawnHold 6 = .ok (.getfield 37, 3) := by decide +kernel
theorem dX0_drawnHold_9 : decode cX0_drawnHold 9 = .ok (.imul, 1) := by decide +kernel
theorem dX0_drawnHold_10 : decode cX0_drawnHold 10 = .ok (.bipush 20, 2) := by decide +kernel
theorem dX0_drawnHold_12 : decode cX0_drawnHold 12 = .ok (.idiv, 1) := by decide +kernel
theorem dX0_drawnHold_13 : decode cX0_drawnHold 13 = .ok (.ireturn, 1) := by decide +kernel
theorem dX0_warms_0 : decode cX0_warms 0 = .ok (.aload_n 0, 1) := by decide +kernel
theorem dX0_warms_1 : decode cX0_warms 1 = .ok (.getfield 18, 3) := by decide +kernel
theorem dX0_warms_4 : decode cX0_warms 4 = .ok (.getfield 54, 3) := by decide +kernel
theorem dX0_warms_7 : decode cX0_warms 7 = .ok (.iload_n 1, 1) := by decide +kernel
theorem dX0_warms_8 : decode cX0_warms 8 = .ok (.iaload, 1) := by decide +kernel
theorem dX0_warms_9 : decode cX0_warms 9 = .ok (.lookupswitch 51 #[(4, 27), (5, 33)], 27) := by decide +kernel
theorem dX0_warms_36 : decode cX0_warms 36 = .ok (.aload_n 0, 1) := by decide +kernel
theorem dX0_warms_37 : decode cX0_warms 37 = .ok (.iload_n 1, 1) := by decide +kernel
theorem dX0_warms_38 : decode cX0_warms 38 = .ok (.invokevirtual 70, 3) := by decide +kernel
theorem dX0_warms_41 : decode cX0_warms 41 = .ok (.ireturn, 1) := by decide +kernel
theorem dX0_warms_42 : decode cX0_warms 42 = .ok (.iconst 0, 1) := by decide +kernel
theorem dX0_warms_43 : decode cX0_warms 43 = .ok (.aload_n 0, 1) := by decide +kernel
theorem dX0_warms_44 : decode cX0_warms 44 = .ok (.iload_n 1, 1) := by decide +kernel
theorem dX0_warms_45 : decode cX0_warms 45 = .ok (.invokevirtual 70, 3) := by decide +kernel
theorem dX0_warms_48 : decode cX0_warms 48 = .ok (.aload_n 0, 1) := by decide +kernel
theorem dX0_warms_49 : decode cX0_warms 49 = .ok (.getfield 27, 3) := by decide +kernel
theorem dX0_warms_52 : decode cX0_warms 52 = .ok (.bipush 10, 2) := by decide +kernel
theorem dX0_warms_54 : decode cX0_warms 54 = .ok (.idiv, 1) := by decide +kernel
theorem dX0_warms_55 : decode cX0_warms 55 = .ok (.isub, 1) := by decide +kernel
theorem dX0_warms_56 : decode cX0_warms 56 = .ok (.invokestatic 73, 3) := by decide +kernel
theorem dX0_warms_59 : decode cX0_warms 59 = .ok (.ireturn, 1) := by decide +kernel
theorem dX0_warms_60 : decode cX0_warms 60 = .ok (.iconst 0, 1) := by decide +kernel
theorem dX0_warms_61 : decode cX0_warms 61 = .ok (.ireturn, 1) := by decide +kernel
theorem dX0_feltWarms_0 : decode cX0_feltWarms 0 = .ok (.aload_n 0, 1) := by decide +kernel
theorem dX0_feltWarms_1 : decode cX0_feltWarms 1 = .ok (.iload_n 1, 1) := by decide +kernel
theorem dX0_feltWarms_2 : decode cX0_feltWarms 2 = .ok (.invokevirtual 57, 3) := by decide +kernel
theorem dX0_feltWarms_5 : decode cX0_feltWarms 5 = .ok (.iconst 5, 1) := by decide +kernel
theorem dX0_feltWarms_6 : decode cX0_feltWarms 6 = .ok (.idiv, 1) := by decide +kernel
theorem dX0_feltWarms_7 : decode cX0_feltWarms 7 = .ok (.istore_n 2, 1) := by decide +kernel
theorem dX0_feltWarms_8 : decode cX0_feltWarms 8 = .ok (.aload_n 0, 1) := by decide +kernel
theorem dX0_feltWarms_9 : decode cX0_feltWarms 9 = .ok (.getfield 18, 3) := by decide +kernel
theorem dX0_feltWarms_12 : decode cX0_feltWarms 12 = .ok (.getfield 22, 3) := by decide +kernel
theorem dX0_feltWarms_15 : decode cX0_feltWarms 15 = .ok (.iconst 2, 1) := by decide +kernel
theorem dX0_feltWarms_16 : decode cX0_feltWarms 16 = .ok (.iaload, 1) := by decide +kernel
theorem dX0_feltWarms_17 : decode cX0_feltWarms 17 = .ok (.iconst 5, 1) := by decide +kernel
theorem dX0_feltWarms_18 : decode cX0_feltWarms 18 = .ok (.if_icmp .lt 9, 3) := by decide +kernel
theorem dX0_feltWarms_21 : decode cX0_feltWarms 21 = .ok (.iload_n 2, 1) := by decide +kernel
theorem dX0_feltWarms_22 : decode cX0_feltWarms 22 = .ok (.iconst 2, 1) := by decide +kernel
theorem dX0_feltWarms_23 : decode cX0_feltWarms 23 = .ok (.idiv, 1) := by decide +kernel
theorem dX0_feltWarms_24 : decode cX0_feltWarms 24 = .ok (.goto 4, 3) := by decide +kernel
theorem dX0_feltWarms_27 : decode cX0_feltWarms 27 = .ok (.iload_n 2, 1) := by decide +kernel
theorem dX0_feltWarms_28 : decode cX0_feltWarms 28 = .ok (.ireturn, 1) := by decide +kernel
theorem dX0_gather_0 : decode cX0_gather 0 = .ok (.aload_n 0, 1) := by decide +kernel
theorem dX0_gather_1 : decode cX0_gather 1 = .ok (.getfield 9, 3) := by decide +kernel
theorem dX0_gather_4 : decode cX0_gather 4 = .ok (.iconst 0, 1) := by decide +kernel
theorem dX0_gather_5 : decode cX0_gather 5 = .ok (.invokestatic 79, 3) := by decide +kernel
theorem dX0_gather_8 : decode cX0_gather 8 = .ok (.aload_n 0, 1) := by decide +kernel
theorem dX0_gather_9 : decode cX0_gather 9 = .ok (.getfield 15, 3) := by decide +kernel
theorem dX0_gather_12 : decode cX0_gather 12 = .ok (.iconst 0, 1) := by decide +kernel
theorem dX0_gather_13 : decode cX0_gather 13 = .ok (.invokestatic 79, 3) := by decide +kernel
theorem dX0_gather_16 : decode cX0_gather 16 = .ok (.iconst 0, 1) := by decide +kernel
theorem dX0_gather_17 : decode cX0_gather 17 = .ok (.istore_n 1, 1) := by decide +kernel
theorem dX0_gather_18 : decode cX0_gather 18 = .ok (.iload_n 1, 1) := by decide +kernel
theorem dX0_gather_19 : decode cX0_gather 19 = .ok (.aload_n 0, 1) := by decide +kernel
theorem dX0_gather_20 : decode cX0_gather 20 = .ok (.getfield 18, 3) := by decide +kernel
theorem dX0_gather_23 : decode cX0_gather 23 = .ok (.getfield 85, 3) := by decide +kernel
theorem dX0_gather_26 : decode cX0_gather 26 = .ok (.if_icmp .ge 53, 3) := by decide +kernel
theorem dX0_gather_29 : decode cX0_gather 29 = .ok (.aload_n 0, 1) := by decide +kernel
theorem dX0_gather_30 : decode cX0_gather 30 = .ok (.getfield 9, 3) := by decide +kernel
theorem dX0_gather_33 : decode cX0_gather 33 = .ok (.aload_n 0, 1) := by decide +kernel
theorem dX0_gather_34 : decode cX0_gather 34 = .ok (.getfield 18, 3) := by decide +kernel
theorem dX0_gather_37 : decode cX0_gather 37 = .ok (.getfield 61, 3) := by decide +kernel
theorem dX0_gather_40 : decode cX0_gather 40 = .ok (.iload_n 1, 1) := by decide +kernel
theorem dX0_gather_41 : decode cX0_gather 41 = .ok (.iaload, 1) := by decide +kernel
theorem dX0_gather_42 : decode cX0_gather 42 = .ok (.dup2, 1) := by decide +kernel
theorem dX0_gather_43 : decode cX0_gather 43 = .ok (.iaload, 1) := by decide +kernel
theorem dX0_gather_44 : decode cX0_gather 44 = .ok (.aload_n 0, 1) := by decide +kernel
theorem dX0_gather_45 : decode cX0_gather 45 = .ok (.iload_n 1, 1) := by decide +kernel
theorem dX0_gather_46 : decode cX0_gather 46 = .ok (.invokevirtual 88, 3) := by decide +kernel
theorem dX0_gather_49 : decode cX0_gather 49 = .ok (.iadd, 1) := by decide +kernel
theorem dX0_gather_50 : decode cX0_gather 50 = .ok (.iastore, 1) := by decide +kernel
theorem dX0_gather_51 : decode cX0_gather 51 = .ok (.aload_n 0, 1) := by decide +kernel
theorem dX0_gather_52 : decode cX0_gather 52 = .ok (.getfield 15, 3) := by decide +kernel
theorem dX0_gather_55 : decode cX0_gather 55 = .ok (.aload_n 0, 1) := by decide +kernel
theorem dX0_gather_56 : decode cX0_gather 56 = .ok (.getfield 18, 3) := by decide +kernel
theorem dX0_gather_59 : decode cX0_gather 59 = .ok (.getfield 61, 3) := by decide +kernel
theorem dX0_gather_62 : decode cX0_gather 62 = .ok (.iload_n 1, 1) := by decide +kernel
theorem dX0_gather_63 : decode cX0_gather 63 = .ok (.iaload, 1) := by decide +kernel
theorem dX0_gather_64 : decode cX0_gather 64 = .ok (.dup2, 1) := by decide +kernel
theorem dX0_gather_65 : decode cX0_gather 65 = .ok (.iaload, 1) := by decide +kernel
theorem dX0_gather_66 : decode cX0_gather 66 = .ok (.aload_n 0, 1) := by decide +kernel
theorem dX0_gather_67 : decode cX0_gather 67 = .ok (.iload_n 1, 1) := by decide +kernel
theorem dX0_gather_68 : decode cX0_gather 68 = .ok (.invokevirtual 91, 3) := by decide +kernel
theorem dX0_gather_71 : decode cX0_gather 71 = .ok (.iadd, 1) := by decide +kernel
theorem dX0_gather_72 : decode cX0_gather 72 = .ok (.iastore, 1) := by decide +kernel
theorem dX0_gather_73 : decode cX0_gather 73 = .ok (.iinc 1 1, 3) := by decide +kernel
theorem dX0_gather_76 : decode cX0_gather 76 = .ok (.goto (-58), 3) := by decide +kernel
theorem dX0_gather_79 : decode cX0_gather 79 = .ok (.return_, 1) := by decide +kernel
theorem dX0_strain_0 : decode cX0_strain 0 = .ok (.iload_n 1, 1) := by decide +kernel
theorem dX0_strain_1 : decode cX0_strain 1 = .ok (.aload_n 0, 1) := by decide +kernel
theorem dX0_strain_2 : decode cX0_strain 2 = .ok (.getfield 31, 3) := by decide +kernel
theorem dX0_strain_5 : decode cX0_strain 5 = .ok (.iconst 4, 1) := by decide +kernel
theorem dX0_strain_6 : decode cX0_strain 6 = .ok (.iadd, 1) := by decide +kernel
theorem dX0_strain_7 : decode cX0_strain 7 = .ok (.bipush 8, 2) := by decide +kernel
theorem dX0_strain_9 : decode cX0_strain 9 = .ok (.irem, 1) := by decide +kernel
theorem dX0_strain_10 : decode cX0_strain 10 = .ok (.if_icmp .ne 15, 3) := by decide +kernel
theorem dX0_strain_13 : decode cX0_strain 13 = .ok (.aload_n 0, 1) := by decide +kernel
theorem dX0_strain_14 : decode cX0_strain 14 = .ok (.getfield 9, 3) := by decide +kernel
theorem dX0_strain_17 : decode cX0_strain 17 = .ok (.iload_n 1, 1) := by decide +kernel
theorem dX0_strain_18 : decode cX0_strain 18 = .ok (.iaload, 1) := by decide +kernel
theorem dX0_strain_19 : decode cX0_strain 19 = .ok (.aload_n 0, 1) := by decide +kernel
theorem dX0_strain_20 : decode cX0_strain 20 = .ok (.getfield 27, 3) := by decide +kernel
theorem dX0_strain_23 : decode cX0_strain 23 = .ok (.iadd, 1) := by decide +kernel
theorem dX0_strain_24 : decode cX0_strain 24 = .ok (.ireturn, 1) := by decide +kernel
theorem dX0_strain_25 : decode cX0_strain 25 = .ok (.aload_n 0, 1) := by decide +kernel
theorem dX0_strain_26 : decode cX0_strain 26 = .ok (.getfield 9, 3) := by decide +kernel
theorem dX0_strain_29 : decode cX0_strain 29 = .ok (.iload_n 1, 1) := by decide +kernel
theorem dX0_strain_30 : decode cX0_strain 30 = .ok (.iaload, 1) := by decide +kernel
theorem dX0_strain_31 : decode cX0_strain 31 = .ok (.iload_n 1, 1) := by decide +kernel
theorem dX0_strain_32 : decode cX0_strain 32 = .ok (.aload_n 0, 1) := by decide +kernel
theorem dX0_strain_33 : decode cX0_strain 33 = .ok (.getfield 31, 3) := by decide +kernel
theorem dX0_strain_36 : decode cX0_strain 36 = .ok (.if_icmp .ne 12, 3) := by decide +kernel
theorem dX0_strain_39 : decode cX0_strain 39 = .ok (.aload_n 0, 1) := by decide +kernel
theorem dX0_strain_40 : decode cX0_strain 40 = .ok (.getfield 27, 3) := by decide +kernel
theorem dX0_strain_43 : decode cX0_strain 43 = .ok (.iconst 2, 1) := by decide +kernel
theorem dX0_strain_44 : decode cX0_strain 44 = .ok (.idiv, 1) := by decide +kernel
theorem dX0_strain_45 : decode cX0_strain 45 = .ok (.goto 9, 3) := by decide +kernel
theorem dX0_strain_48 : decode cX0_strain 48 = .ok (.aload_n 0, 1) := by decide +kernel
theorem dX0_strain_49 : decode cX0_strain 49 = .ok (.getfield 27, 3) := by decide +kernel
theorem dX0_strain_52 : decode cX0_strain 52 = .ok (.iconst 4, 1) := by decide +kernel
theorem dX0_strain_53 : decode cX0_strain 53 = .ok (.idiv, 1) := by decide +kernel
theorem dX0_strain_54 : decode cX0_strain 54 = .ok (.iadd, 1) := by decide +kernel
theorem dX0_strain_55 : decode cX0_strain 55 = .ok (.ireturn, 1) := by decide +kernel
theorem dX0_hold_0 : decode cX0_hold 0 = .ok (.aload_n 0, 1) := by decide +kernel
theorem dX0_hold_1 : decode cX0_hold 1 = .ok (.getfield 15, 3) := by decide +kernel
theorem dX0_hold_4 : decode cX0_hold 4 = .ok (.iload_n 1, 1) := by decide +kernel
theorem dX0_hold_5 : decode cX0_hold 5 = .ok (.iconst 1, 1) := by decide +kernel
theorem dX0_hold_6 : decode cX0_hold 6 = .ok (.iadd, 1) := by decide +kernel
theorem dX0_hold_7 : decode cX0_hold 7 = .ok (.bipush 8, 2) := by decide +kernel
theorem dX0_hold_9 : decode cX0_hold 9 = .ok (.irem, 1) := by decide +kernel
theorem dX0_hold_10 : decode cX0_hold 10 = .ok (.iaload, 1) := by decide +kernel
theorem dX0_hold_11 : decode cX0_hold 11 = .ok (.aload_n 0, 1) := by decide +kernel
theorem dX0_hold_12 : decode cX0_hold 12 = .ok (.getfield 15, 3) := by decide +kernel
theorem dX0_hold_15 : decode cX0_hold 15 = .ok (.iload_n 1, 1) := by decide +kernel
theorem dX0_hold_16 : decode cX0_hold 16 = .ok (.bipush 8, 2) := by decide +kernel
theorem dX0_hold_18 : decode cX0_hold 18 = .ok (.iadd, 1) := by decide +kernel
theorem dX0_hold_19 : decode cX0_hold 19 = .ok (.iconst 1, 1) := by decide +kernel
theorem dX0_hold_20 : decode cX0_hold 20 = .ok (.isub, 1) := by decide +kernel
theorem dX0_hold_21 : decode cX0_hold 21 = .ok (.bipush 8, 2) := by decide +kernel
theorem dX0_hold_23 : decode cX0_hold 23 = .ok (.irem, 1) := by decide +kernel
theorem dX0_hold_24 : decode cX0_hold 24 = .ok (.iaload, 1) := by decide +kernel
theorem dX0_hold_25 : decode cX0_hold 25 = .ok (.iadd, 1) := by decide +kernel
theorem dX0_hold_26 : decode cX0_hold 26 = .ok (.istore_n 2, 1) := by decide +kernel
theorem dX0_hold_27 : decode cX0_hold 27 = .ok (.aload_n 0, 1) := by decide +kernel
theorem dX0_hold_28 : decode cX0_hold 28 = .ok (.getfield 15, 3) := by decide +kernel
theorem dX0_hold_31 : decode cX0_hold 31 = .ok (.iload_n 1, 1) := by decide +kernel
theorem dX0_hold_32 : decode cX0_hold 32 = .ok (.iaload, 1) := by decide +kernel
theorem dX0_hold_33 : decode cX0_hold 33 = .ok (.iload_n 2, 1) := by decide +kernel
theorem dX0_hold_34 : decode cX0_hold 34 = .ok (.iconst 2, 1) := by decide +kernel
theorem dX0_hold_35 : decode cX0_hold 35 = .ok (.idiv, 1) := by decide +kernel
theorem dX0_hold_36 : decode cX0_hold 36 = .ok (.iadd, 1) := by decide +kernel
theorem dX0_hold_37 : decode cX0_hold 37 = .ok (.ireturn, 1) := by decide +kernel
theorem dX0_spare_0 : decode cX0_spare 0 = .ok (.aload_n 0, 1) := by decide +kernel
theorem dX0_spare_1 : decode cX0_spare 1 = .ok (.iload_n 1, 1) := by decide +kernel
theorem dX0_spare_2 : decode cX0_spare 2 = .ok (.invokevirtual 94, 3) := by decide +kernel
theorem dX0_spare_5 : decode cX0_spare 5 = .ok (.aload_n 0, 1) := by decide +kernel
theorem dX0_spare_6 : decode cX0_spare 6 = .ok (.iload_n 1, 1) := by decide +kernel
theorem dX0_spare_7 : decode cX0_spare 7 = .ok (.invokevirtual 97, 3) := by decide +kernel
theorem dX0_spare_10 : decode cX0_spare 10 = .ok (.isub, 1) := by decide +kernel
theorem dX0_spare_11 : decode cX0_spare 11 = .ok (.ireturn, 1) := by decide +kernel
theorem dX0_weakestSide_0 : decode cX0_weakestSide 0 = .ok (.iconst 0, 1) := by decide +kernel
theorem dX0_weakestSide_1 : decode cX0_weakestSide 1 = .ok (.istore_n 1, 1) := by decide +kernel
theorem dX0_weakestSide_2 : decode cX0_weakestSide 2 = .ok (.iconst 1, 1) := by decide +kernel
theorem dX0_weakestSide_3 : decode cX0_weakestSide 3 = .ok (.istore_n 2, 1) := by decide +kernel
theorem dX0_weakestSide_4 : decode cX0_weakestSide 4 = .ok (.iload_n 2, 1) := by decide +kernel
theorem dX0_weakestSide_5 : decode cX0_weakestSide 5 = .ok (.bipush 8, 2) := by decide +kernel
theorem dX0_weakestSide_7 : decode cX0_weakestSide 7 = .ok (.if_icmp .ge 24, 3) := by decide +kernel
theorem dX0_weakestSide_10 : decode cX0_weakestSide 10 = .ok (.aload_n 0, 1) := by decide +kernel
theorem dX0_weakestSide_11 : decode cX0_weakestSide 11 = .ok (.iload_n 2, 1) := by decide +kernel
theorem dX0_weakestSide_12 : decode cX0_weakestSide 12 = .ok (.invokevirtual 100, 3) := by decide +kernel
theorem dX0_weakestSide_15 : decode cX0_weakestSide 15 = .ok (.aload_n 0, 1) := by decide +kernel
theorem dX0_weakestSide_16 : decode cX0_weakestSide 16 = .ok (.iload_n 1, 1) := by decide +kernel
theorem dX0_weakestSide_17 : decode cX0_weakestSide 17 = .ok (.invokevirtual 100, 3) := by decide +kernel
theorem dX0_weakestSide_20 : decode cX0_weakestSide 20 = .ok (.if_icmp .ge 5, 3) := by decide +kernel
theorem dX0_weakestSide_23 : decode cX0_weakestSide 23 = .ok (.iload_n 2, 1) := by decide +kernel
theorem dX0_weakestSide_24 : decode cX0_weakestSide 24 = .ok (.istore_n 1, 1) := by decide +kernel
theorem dX0_weakestSide_25 : decode cX0_weakestSide 25 = .ok (.iinc 2 1, 3) := by decide +kernel
theorem dX0_weakestSide_28 : decode cX0_weakestSide 28 = .ok (.goto (-24), 3) := by decide +kernel
theorem dX0_weakestSide_31 : decode cX0_weakestSide 31 = .ok (.iload_n 1, 1) := by decide +kernel
theorem dX0_weakestSide_32 : decode cX0_weakestSide 32 = .ok (.ireturn, 1) := by decide +kernel
theorem dX0_isStanding_0 : decode cX0_isStanding 0 = .ok (.aload_n 0, 1) := by decide +kernel
theorem dX0_isStanding_1 : decode cX0_isStanding 1 = .ok (.invokevirtual 103, 3) := by decide +kernel
theorem dX0_isStanding_4 : decode cX0_isStanding 4 = .ok (.ifCond .eq 10, 3) := by decide +kernel
theorem dX0_isStanding_7 : decode cX0_isStanding 7 = .ok (.aload_n 0, 1) := by decide +kernel
theorem dX0_isStanding_8 : decode cX0_isStanding 8 = .ok (.invokevirtual 107, 3) := by decide +kernel
theorem dX0_isStanding_11 : decode cX0_isStanding 11 = .ok (.ifCond .eq 5, 3) := by decide +kernel
theorem dX0_isStanding_14 : decode cX0_isStanding 14 = .ok (.iconst 0, 1) := by decide +kernel
theorem dX0_isStanding_15 : decode cX0_isStanding 15 = .ok (.ireturn, 1) := by decide +kernel
theorem dX0_isStanding_16 : decode cX0_isStanding 16 = .ok (.aload_n 0, 1) := by decide +kernel
theorem dX0_isStanding_17 : decode cX0_isStanding 17 = .ok (.invokevirtual 110, 3) := by decide +kernel
theorem dX0_isStanding_20 : decode cX0_isStanding 20 = .ok (.iconst 0, 1) := by decide +kernel
theorem dX0_isStanding_21 : decode cX0_isStanding 21 = .ok (.istore_n 1, 1) := by decide +kernel
theorem dX0_isStanding_22 : decode cX0_isStanding 22 = .ok (.iload_n 1, 1) := by decide +kernel
theorem dX0_isStanding_23 : decode cX0_isStanding 23 = .ok (.bipush 8, 2) := by decide +kernel
theorem dX0_isStanding_25 : decode cX0_isStanding 25 = .ok (.if_icmp .ge 19, 3) := by decide +kernel
theorem dX0_isStanding_28 : decode cX0_isStanding 28 = .ok (.aload_n 0, 1) := by decide +kernel
theorem dX0_isStanding_29 : decode cX0_isStanding 29 = .ok (.iload_n 1, 1) := by decide +kernel
theorem dX0_isStanding_30 : decode cX0_isStanding 30 = .ok (.invokevirtual 100, 3) := by decide +kernel
theorem dX0_isStanding_33 : decode cX0_isStanding 33 = .ok (.ifCond .ge 5, 3) := by decide +kernel
theorem dX0_isStanding_36 : decode cX0_isStanding 36 = .ok (.iconst 0, 1) := by decide +kernel
theorem dX0_isStanding_37 : decode cX0_isStanding 37 = .ok (.ireturn, 1) := by decide +kernel
theorem dX0_isStanding_38 : decode cX0_isStanding 38 = .ok (.iinc 1 1, 3) := by decide +kernel
theorem dX0_isStanding_41 : decode cX0_isStanding 41 = .ok (.goto (-19), 3) := by decide +kernel
theorem dX0_isStanding_44 : decode cX0_isStanding 44 = .ok (.iconst 1, 1) := by decide +kernel
theorem dX0_isStanding_45 : decode cX0_isStanding 45 = .ok (.ireturn, 1) := by decide +kernel
theorem dX0_hasPoles_0 : decode cX0_hasPoles 0 = .ok (.iconst 0, 1) := by decide +kernel
theorem dX0_hasPoles_1 : decode cX0_hasPoles 1 = .ok (.istore_n 1, 1) := by decide +kernel
theorem dX0_hasPoles_2 : decode cX0_hasPoles 2 = .ok (.iconst 0, 1) := by decide +kernel
theorem dX0_hasPoles_3 : decode cX0_hasPoles 3 = .ok (.istore_n 2, 1) := by decide +kernel
theorem dX0_hasPoles_4 : decode cX0_hasPoles 4 = .ok (.iload_n 2, 1) := by decide +kernel
theorem dX0_hasPoles_5 : decode cX0_hasPoles 5 = .ok (.aload_n 0, 1) := by decide +kernel
theorem dX0_hasPoles_6 : decode cX0_hasPoles 6 = .ok (.getfield 18, 3) := by decide +kernel
theorem dX0_hasPoles_9 : decode cX0_hasPoles 9 = .ok (.getfield 85, 3) := by decide +kernel
theorem dX0_hasPoles_12 : decode cX0_hasPoles 12 = .ok (.if_icmp .ge 44, 3) := by decide +kernel
theorem dX0_hasPoles_15 : decode cX0_hasPoles 15 = .ok (.aload_n 0, 1) := by decide +kernel
theorem dX0_hasPoles_16 : decode cX0_hasPoles 16 = .ok (.getfield 18, 3) := by decide +kernel
theorem dX0_hasPoles_19 : decode cX0_hasPoles 19 = .ok (.getfield 54, 3) := by decide +kernel
theorem dX0_hasPoles_22 : decode cX0_hasPoles 22 = .ok (.iload_n 2, 1) := by decide +kernel
theorem dX0_hasPoles_23 : decode cX0_hasPoles 23 = .ok (.iaload, 1) := by decide +kernel
theorem dX0_hasPoles_24 : decode cX0_hasPoles 24 = .ok (.iconst 1, 1) := by decide +kernel
theorem dX0_hasPoles_25 : decode cX0_hasPoles 25 = .ok (.if_icmp .ne 25, 3) := by decide +kernel
theorem dX0_hasPoles_28 : decode cX0_hasPoles 28 = .ok (.aload_n 0, 1) := by decide +kernel
theorem dX0_hasPoles_29 : decode cX0_hasPoles 29 = .ok (.iload_n 2, 1) := by decide +kernel
theorem dX0_hasPoles_30 : decode cX0_hasPoles 30 = .ok (.invokevirtual 57, 3) := by decide +kernel
theorem dX0_hasPoles_33 : decode cX0_hasPoles 33 = .ok (.ifCond .le 17, 3) := by decide +kernel
theorem dX0_hasPoles_36 : decode cX0_hasPoles 36 = .ok (.iload_n 1, 1) := by decide +kernel
theorem dX0_hasPoles_37 : decode cX0_hasPoles 37 = .ok (.iconst 1, 1) := by decide +kernel
theorem dX0_hasPoles_38 : decode cX0_hasPoles 38 = .ok (.aload_n 0, 1) := by decide +kernel
theorem dX0_hasPoles_39 : decode cX0_hasPoles 39 = .ok (.getfield 18, 3) := by decide +kernel
theorem dX0_hasPoles_42 : decode cX0_hasPoles 42 = .ok (.getfield 61, 3) := by decide +kernel
theorem dX0_hasPoles_45 : decode cX0_hasPoles 45 = .ok (.iload_n 2, 1) := by decide +kernel
theorem dX0_hasPoles_46 : decode cX0_hasPoles 46 = .ok (.iaload, 1) := by decide +kernel
theorem dX0_hasPoles_47 : decode cX0_hasPoles 47 = .ok (.ishl, 1) := by decide +kernel
theorem dX0_hasPoles_48 : decode cX0_hasPoles 48 = .ok (.ior, 1) := by decide +kernel
theorem dX0_hasPoles_49 : decode cX0_hasPoles 49 = .ok (.istore_n 1, 1) := by decide +kernel
theorem dX0_hasPoles_50 : decode cX0_hasPoles 50 = .ok (.iinc 2 1, 3) := by decide +kernel
theorem dX0_hasPoles_53 : decode cX0_hasPoles 53 = .ok (.goto (-49), 3) := by decide +kernel
theorem dX0_hasPoles_56 : decode cX0_hasPoles 56 = .ok (.iload_n 1, 1) := by decide +kernel
theorem dX0_hasPoles_57 : decode cX0_hasPoles 57 = .ok (.invokestatic 113, 3) := by decide +kernel
theorem dX0_hasPoles_60 : decode cX0_hasPoles 60 = .ok (.iconst 3, 1) := by decide +kernel
theorem dX0_hasPoles_61 : decode cX0_hasPoles 61 = .ok (.if_icmp .lt 7, 3) := by decide +kernel
theorem dX0_hasPoles_64 : decode cX0_hasPoles 64 = .ok (.iconst 1, 1) := by decide +kernel
theorem dX0_hasPoles_65 : decode cX0_hasPoles 65 = .ok (.goto 4, 3) := by decide +kernel
theorem dX0_hasPoles_68 : decode cX0_hasPoles 68 = .ok (.iconst 0, 1) := by decide +kernel
theorem dX0_hasPoles_69 : decode cX0_hasPoles 69 = .ok (.ireturn, 1) := by decide +kernel
theorem dX0_isOverdrawn_0 : decode cX0_isOverdrawn 0 = .ok (.iconst 0, 1) := by decide +kernel
theorem dX0_isOverdrawn_1 : decode cX0_isOverdrawn 1 = .ok (.istore_n 1, 1) := by decide +kernel
theorem dX0_isOverdrawn_2 : decode cX0_isOverdrawn 2 = .ok (.iload_n 1, 1) := by decide +kernel
theorem dX0_isOverdrawn_3 : decode cX0_isOverdrawn 3 = .ok (.aload_n 0, 1) := by decide +kernel
theorem dX0_isOverdrawn_4 : decode cX0_isOverdrawn 4 = .ok (.getfield 18, 3) := by decide +kernel
theorem dX0_isOverdrawn_7 : decode cX0_isOverdrawn 7 = .ok (.getfield 85, 3) := by decide +kernel
theorem dX0_isOverdrawn_10 : decode cX0_isOverdrawn 10 = .ok (.if_icmp .ge 52, 3) := by decide +kernel
theorem dX0_isOverdrawn_13 : decode cX0_isOverdrawn 13 = .ok (.aload_n 0, 1) := by decide +kernel
theorem dX0_isOverdrawn_14 : decode cX0_isOverdrawn 14 = .ok (.iload_n 1, 1) := by decide +kernel
theorem dX0_isOverdrawn_15 : decode cX0_isOverdrawn 15 = .ok (.invokevirtual 44, 3) := by decide +kernel
theorem dX0_isOverdrawn_18 : decode cX0_isOverdrawn 18 = .ok (.ifCond .eq 38, 3) := by decide +kernel
theorem dX0_isOverdrawn_21 : decode cX0_isOverdrawn 21 = .ok (.aload_n 0, 1) := by decide +kernel
theorem dX0_isOverdrawn_22 : decode cX0_isOverdrawn 22 = .ok (.getfield 18, 3) := by decide +kernel
theorem dX0_isOverdrawn_25 : decode cX0_isOverdrawn 25 = .ok (.getfield 54, 3) := by decide +kernel
theorem dX0_isOverdrawn_28 : decode cX0_isOverdrawn 28 = .ok (.iload_n 1, 1) := by decide +kernel
theorem dX0_isOverdrawn_29 : decode cX0_isOverdrawn 29 = .ok (.iaload, 1) := by decide +kernel
theorem dX0_isOverdrawn_30 : decode cX0_isOverdrawn 30 = .ok (.iconst 2, 1) := by decide +kernel
theorem dX0_isOverdrawn_31 : decode cX0_isOverdrawn 31 = .ok (.invokestatic 118, 3) := by decide +kernel
theorem dX0_isOverdrawn_34 : decode cX0_isOverdrawn 34 = .ok (.ifCond .eq 22, 3) := by decide +kernel
theorem dX0_isOverdrawn_37 : decode cX0_isOverdrawn 37 = .ok (.aload_n 0, 1) := by decide +kernel
theorem dX0_isOverdrawn_38 : decode cX0_isOverdrawn 38 = .ok (.getfield 37, 3) := by decide +kernel
theorem dX0_isOverdrawn_41 : decode cX0_isOverdrawn 41 = .ok (.aload_n 0, 1) := by decide +kernel
theorem dX0_isOverdrawn_42 : decode cX0_isOverdrawn 42 = .ok (.iload_n 1, 1) := by decide +kernel
theorem dX0_isOverdrawn_43 : decode cX0_isOverdrawn 43 = .ok (.invokevirtual 57, 3) := by decide +kernel
theorem dX0_isOverdrawn_46 : decode cX0_isOverdrawn 46 = .ok (.iconst 2, 1) := by decide +kernel
theorem dX0_isOverdrawn_47 : decode cX0_isOverdrawn 47 = .ok (.idiv, 1) := by decide +kernel
theorem dX0_isOverdrawn_48 : decode cX0_isOverdrawn 48 = .ok (.bipush 20, 2) := by decide +kernel
theorem dX0_isOverdrawn_50 : decode cX0_isOverdrawn 50 = .ok (.iadd, 1) := by decide +kernel
theorem dX0_isOverdrawn_51 : decode cX0_isOverdrawn 51 = .ok (.if_icmp .le 5, 3) := by decide +kernel
theorem dX0_isOverdrawn_54 : decode cX0_isOverdrawn 54 = .ok (.iconst 1, 1) := by decide +kernel
theorem dX0_isOverdrawn_55 : decode cX0_isOverdrawn 55 = .ok (.ireturn, 1) := by decide +kernel
theorem dX0_isOverdrawn_56 : decode cX0_isOverdrawn 56 = .ok (.iinc 1 1, 3) := by decide +kernel
theorem dX0_isOverdrawn_59 : decode cX0_isOverdrawn 59 = .ok (.goto (-57), 3) := by decide +kernel
theorem dX0_isOverdrawn_62 : decode cX0_isOverdrawn 62 = .ok (.iconst 0, 1) := by decide +kernel
theorem dX0_isOverdrawn_63 : decode cX0_isOverdrawn 63 = .ok (.ireturn, 1) := by decide +kernel
theorem dX0_warmthOfAll_0 : decode cX0_warmthOfAll 0 = .ok (.iconst 0, 1) := by decide +kernel
theorem dX0_warmthOfAll_1 : decode cX0_warmthOfAll 1 = .ok (.istore_n 1, 1) := by decide +kernel
theorem dX0_warmthOfAll_2 : decode cX0_warmthOfAll 2 = .ok (.iconst 0, 1) := by decide +kernel
theorem dX0_warmthOfAll_3 : decode cX0_warmthOfAll 3 = .ok (.istore_n 2, 1) := by decide +kernel
theorem dX0_warmthOfAll_4 : decode cX0_warmthOfAll 4 = .ok (.iload_n 2, 1) := by decide +kernel
theorem dX0_warmthOfAll_5 : decode cX0_warmthOfAll 5 = .ok (.aload_n 0, 1) := by decide +kernel
theorem dX0_warmthOfAll_6 : decode cX0_warmthOfAll 6 = .ok (.getfield 18, 3) := by decide +kernel
theorem dX0_warmthOfAll_9 : decode cX0_warmthOfAll 9 = .ok (.getfield 85, 3) := by decide +kernel
theorem dX0_warmthOfAll_12 : decode cX0_warmthOfAll 12 = .ok (.if_icmp .ge 17, 3) := by decide +kernel
theorem dX0_warmthOfAll_15 : decode cX0_warmthOfAll 15 = .ok (.iload_n 1, 1) := by decide +kernel
theorem dX0_warmthOfAll_16 : decode cX0_warmthOfAll 16 = .ok (.aload_n 0, 1) := by decide +kernel
theorem dX0_warmthOfAll_17 : decode cX0_warmthOfAll 17 = .ok (.iload_n 2, 1) := by decide +kernel
theorem dX0_warmthOfAll_18 : decode cX0_warmthOfAll 18 = .ok (.invokevirtual 122, 3) := by decide +kernel
theorem dX0_warmthOfAll_21 : decode cX0_warmthOfAll 21 = .ok (.iadd, 1) := by decide +kernel
theorem dX0_warmthOfAll_22 : decode cX0_warmthOfAll 22 = .ok (.istore_n 1, 1) := by decide +kernel
theorem dX0_warmthOfAll_23 : decode cX0_warmthOfAll 23 = .ok (.iinc 2 1, 3) := by decide +kernel
theorem dX0_warmthOfAll_26 : decode cX0_warmthOfAll 26 = .ok (.goto (-22), 3) := by decide +kernel
theorem dX0_warmthOfAll_29 : decode cX0_warmthOfAll 29 = .ok (.iload_n 1, 1) := by decide +kernel
theorem dX0_warmthOfAll_30 : decode cX0_warmthOfAll 30 = .ok (.aload_n 0, 1) := by decide +kernel
theorem dX0_warmthOfAll_31 : decode cX0_warmthOfAll 31 = .ok (.getfield 27, 3) := by decide +kernel
theorem dX0_warmthOfAll_34 : decode cX0_warmthOfAll 34 = .ok (.iconst 5, 1) := by decide +kernel
theorem dX0_warmthOfAll_35 : decode cX0_warmthOfAll 35 = .ok (.idiv, 1) := by decide +kernel
theorem dX0_warmthOfAll_36 : decode cX0_warmthOfAll 36 = .ok (.isub, 1) := by decide +kernel
theorem dX0_warmthOfAll_37 : decode cX0_warmthOfAll 37 = .ok (.aload_n 0, 1) := by decide +kernel
theorem dX0_warmthOfAll_38 : decode cX0_warmthOfAll 38 = .ok (.getfield 18, 3) := by decide +kernel
theorem dX0_warmthOfAll_41 : decode cX0_warmthOfAll 41 = .ok (.getfield 22, 3) := by decide +kernel
theorem dX0_warmthOfAll_44 : decode cX0_warmthOfAll 44 = .ok (.iconst 3, 1) := by decide +kernel
theorem dX0_warmthOfAll_45 : decode cX0_warmthOfAll 45 = .ok (.iaload, 1) := by decide +kernel
theorem dX0_warmthOfAll_46 : decode cX0_warmthOfAll 46 = .ok (.iconst 3, 1) := by decide +kernel
theorem dX0_warmthOfAll_47 : decode cX0_warmthOfAll 47 = .ok (.idiv, 1) := by decide +kernel
theorem dX0_warmthOfAll_48 : decode cX0_warmthOfAll 48 = .ok (.isub, 1) := by decide +kernel
theorem dX0_warmthOfAll_49 : decode cX0_warmthOfAll 49 = .ok (.ireturn, 1) := by decide +kernel
theorem dX0_fuel_0 : decode cX0_fuel 0 = .ok (.aload_n 0, 1) := by decide +kernel
theorem dX0_fuel_1 : decode cX0_fuel 1 = .ok (.getfield 18, 3) := by decide +kernel
theorem dX0_fuel_4 : decode cX0_fuel 4 = .ok (.getfield 22, 3) := by decide +kernel
theorem dX0_fuel_7 : decode cX0_fuel 7 = .ok (.iconst 4, 1) := by decide +kernel
theorem dX0_fuel_8 : decode cX0_fuel 8 = .ok (.iaload, 1) := by decide +kernel
theorem dX0_fuel_9 : decode cX0_fuel 9 = .ok (.bipush 10, 2) := by decide +kernel
theorem dX0_fuel_11 : decode cX0_fuel 11 = .ok (.imul, 1) := by decide +kernel
theorem dX0_fuel_12 : decode cX0_fuel 12 = .ok (.aload_n 0, 1) := by decide +kernel
theorem dX0_fuel_13 : decode cX0_fuel 13 = .ok (.invokevirtual 125, 3) := by decide +kernel
theorem dX0_fuel_16 : decode cX0_fuel 16 = .ok (.isub, 1) := by decide +kernel
theorem dX0_fuel_17 : decode cX0_fuel 17 = .ok (.istore_n 1, 1) := by decide +kernel
theorem dX0_fuel_18 : decode cX0_fuel 18 = .ok (.iload_n 1, 1) := by decide +kernel
theorem dX0_fuel_19 : decode cX0_fuel 19 = .ok (.ifCond .le 12, 3) := by decide +kernel
theorem dX0_fuel_22 : decode cX0_fuel 22 = .ok (.iload_n 1, 1) := by decide +kernel
theorem dX0_fuel_23 : decode cX0_fuel 23 = .ok (.bipush 20, 2) := by decide +kernel
theorem dX0_fuel_25 : decode cX0_fuel 25 = .ok (.idiv, 1) := by decide +kernel
theorem dX0_fuel_26 : decode cX0_fuel 26 = .ok (.iconst 1, 1) := by decide +kernel
theorem dX0_fuel_27 : decode cX0_fuel 27 = .ok (.iadd, 1) := by decide +kernel
theorem dX0_fuel_28 : decode cX0_fuel 28 = .ok (.goto 4, 3) := by decide +kernel
theorem dX0_fuel_31 : decode cX0_fuel 31 = .ok (.iconst 0, 1) := by decide +kernel
theorem dX0_fuel_32 : decode cX0_fuel 32 = .ok (.ireturn, 1) := by decide +kernel
theorem dX1_init_0 : decode cX1_init 0 = .ok (.aload_n 0, 1) := by decide +kernel
theorem dX1_init_1 : decode cX1_init 1 = .ok (.invokespecial 5, 3) := by decide +kernel
theorem dX1_init_4 : decode cX1_init 4 = .ok (.aload_n 0, 1) := by decide +kernel
theorem dX1_init_5 : decode cX1_init 5 = .ok (.bipush 10, 2) := by decide +kernel
theorem dX1_init_7 : decode cX1_init 7 = .ok (.newarray .int, 2) := by decide +kernel
theorem dX1_init_9 : decode cX1_init 9 = .ok (.putfield 11, 3) := by decide +kernel
theorem dX1_init_12 : decode cX1_init 12 = .ok (.aload_n 0, 1) := by decide +kernel
theorem dX1_init_13 : decode cX1_init 13 = .ok (.bipush 10, 2) := by decide +kernel
theorem dX1_init_15 : decode cX1_init 15 = .ok (.newarray .int, 2) := by decide +kernel
theorem dX1_init_17 : decode cX1_init 17 = .ok (.putfield 15, 3) := by decide +kernel
theorem dX1_init_20 : decode cX1_init 20 = .ok (.aload_n 0, 1) := by decide +kernel
theorem dX1_init_21 : decode cX1_init 21 = .ok (.sipush 1024, 3) := by decide +kernel
theorem dX1_init_24 : decode cX1_init 24 = .ok (.newarray .int, 2) := by decide +kernel
theorem dX1_init_26 : decode cX1_init 26 = .ok (.putfield 18, 3) := by decide +kernel
theorem dX1_init_29 : decode cX1_init 29 = .ok (.aload_n 0, 1) := by decide +kernel
theorem dX1_init_30 : decode cX1_init 30 = .ok (.aload_n 1, 1) := by decide +kernel
theorem dX1_init_31 : decode cX1_init 31 = .ok (.putfield 21, 3) := by decide +kernel
theorem dX1_init_34 : decode cX1_init 34 = .ok (.return_, 1) := by decide +kernel
theorem dX1_lay_0 : decode cX1_lay 0 = .ok (.aload_n 0, 1) := by decide +kernel
theorem dX1_lay_1 : decode cX1_lay 1 = .ok (.iconst 0, 1) := by decide +kernel
theorem dX1_lay_2 : decode cX1_lay 2 = .ok (.putfield 25, 3) := by decide +kernel
theorem dX1_lay_5 : decode cX1_lay 5 = .ok (.iconst 0, 1) := by decide +kernel
theorem dX1_lay_6 : decode cX1_lay 6 = .ok (.istore_n 2, 1) := by decide +kernel
theorem dX1_lay_7 : decode cX1_lay 7 = .ok (.iload_n 2, 1) := by decide +kernel
theorem dX1_lay_8 : decode cX1_lay 8 = .ok (.aload_n 0, 1) := by decide +kernel
theorem dX1_lay_9 : decode cX1_lay 9 = .ok (.getfield 21, 3) := by decide +kernel
theorem dX1_lay_12 : decode cX1_lay 12 = .ok (.getfield 29, 3) := by decide +kernel
theorem dX1_lay_15 : decode cX1_lay 15 = .ok (.if_icmp .ge 65, 3) := by decide +kernel
theorem dX1_lay_18 : decode cX1_lay 18 = .ok (.iload_n 1, 1) := by decide +kernel
theorem dX1_lay_19 : decode cX1_lay 19 = .ok (.iload_n 2, 1) := by decide +kernel
theorem dX1_lay_20 : decode cX1_lay 20 = .ok (.ishr, 1) := by decide +kernel
theorem dX1_lay_21 : decode cX1_lay 21 = .ok (.iconst 1, 1) := by decide +kernel
theorem dX1_lay_22 : decode cX1_lay 22 = .ok (.iand, 1) := by decide +kernel
theorem dX1_lay_23 : decode cX1_lay 23 = .ok (.iconst 1, 1) := by decide +kernel
theorem dX1_lay_24 : decode cX1_lay 24 = .ok (.if_icmp .ne 50, 3) := by decide +kernel
theorem dX1_lay_27 : decode cX1_lay 27 = .ok (.aload_n 0, 1) := by decide +kernel
theorem dX1_lay_28 : decode cX1_lay 28 = .ok (.getfield 25, 3) := by decide +kernel
theorem dX1_lay_31 : decode cX1_lay 31 = .ok (.bipush 10, 2) := by decide +kernel
theorem dX1_lay_33 : decode cX1_lay 33 = .ok (.if_icmp .ge 41, 3) := by decide +kernel
theorem dX1_lay_36 : decode cX1_lay 36 = .ok (.aload_n 0, 1) := by decide +kernel
theorem dX1_lay_37 : decode cX1_lay 37 = .ok (.getfield 11, 3) := by decide +kernel
theorem dX1_lay_40 : decode cX1_lay 40 = .ok (.aload_n 0, 1) := by decide +kernel
theorem dX1_lay_41 : decode cX1_lay 41 = .ok (.getfield 25, 3) := by decide +kernel
theorem dX1_lay_44 : decode cX1_lay 44 = .ok (.iload_n 2, 1) := by decide +kernel
theorem dX1_lay_45 : decode cX1_lay 45 = .ok (.iastore, 1) := by decide +kernel
theorem dX1_lay_46 : decode cX1_lay 46 = .ok (.aload_n 0, 1) := by decide +kernel
theorem dX1_lay_47 : decode cX1_lay 47 = .ok (.getfield 15, 3) := by decide +kernel
theorem dX1_lay_50 : decode cX1_lay 50 = .ok (.aload_n 0, 1) := by decide +kernel
theorem dX1_lay_51 : decode cX1_lay 51 = .ok (.getfield 25, 3) := by decide +kernel
theorem dX1_lay_54 : decode cX1_lay 54 = .ok (.aload_n 0, 1) := by decide +kernel
theorem dX1_lay_55 : decode cX1_lay 55 = .ok (.getfield 21, 3) := by decide +kernel
theorem dX1_lay_58 : decode cX1_lay 58 = .ok (.getfield 34, 3) := by decide +kernel
theorem dX1_lay_61 : decode cX1_lay 61 = .ok (.iload_n 2, 1) := by decide +kernel
theorem dX1_lay_62 : decode cX1_lay 62 = .ok (.iaload, 1) := by decide +kernel
theorem dX1_lay_63 : decode cX1_lay 63 = .ok (.iastore, 1) := by decide +kernel
theorem dX1_lay_64 : decode cX1_lay 64 = .ok (.aload_n 0, 1) := by decide +kernel
theorem dX1_lay_65 : decode cX1_lay 65 = .ok (.dup, 1) := by decide +kernel
theorem dX1_lay_66 : decode cX1_lay 66 = .ok (.getfield 25, 3) := by decide +kernel
theorem dX1_lay_69 : decode cX1_lay 69 = .ok (.iconst 1, 1) := by decide +kernel
theorem dX1_lay_70 : decode cX1_lay 70 = .ok (.iadd, 1) := by decide +kernel
theorem dX1_lay_71 : decode cX1_lay 71 = .ok (.putfield 25, 3) := by decide +kernel
theorem dX1_lay_74 : decode cX1_lay 74 = .ok (.iinc 2 1, 3) := by decide +kernel
theorem dX1_lay_77 : decode cX1_lay 77 = .ok (.goto (-70), 3) := by decide +kernel
theorem dX1_lay_80 : decode cX1_lay 80 = .ok (.return_, 1) := by decide +kernel
theorem dX1_leastBeasts_0 : decode cX1_leastBeasts 0 = .ok (.aload_n 0, 1) := by decide +kernel
theorem dX1_leastBeasts_1 : decode cX1_leastBeasts 1 = .ok (.getfield 25, 3) := by decide +kernel
theorem dX1_leastBeasts_4 : decode cX1_leastBeasts 4 = .ok (.ifCond .ne 5, 3) := by decide +kernel
theorem dX1_leastBeasts_7 : decode cX1_leastBeasts 7 = .ok (.iconst 0, 1) := by decide +kernel
theorem dX1_leastBeasts_8 : decode cX1_leastBeasts 8 = .ok (.ireturn, 1) := by decide +kernel
theorem dX1_leastBeasts_9 : decode cX1_leastBeasts 9 = .ok (.iconst 1, 1) := by decide +kernel
theorem dX1_leastBeasts_10 : decode cX1_leastBeasts 10 = .ok (.aload_n 0, 1) := by decide +kernel
theorem dX1_leastBeasts_11 : decode cX1_leastBeasts 11 = .ok (.getfield 25, 3) := by decide +kernel
theorem dX1_leastBeasts_14 : decode cX1_leastBeasts 14 = .ok (.ishl, 1) := by decide +kernel
theorem dX1_leastBeasts_15 : decode cX1_leastBeasts 15 = .ok (.iconst 1, 1) := by decide +kernel
theorem dX1_leastBeasts_16 : decode cX1_leastBeasts 16 = .ok (.isub, 1) := by decide +kernel
theorem dX1_leastBeasts_17 : decode cX1_leastBeasts 17 = .ok (.istore_n 1, 1) := by decide +kernel
theorem dX1_leastBeasts_18 : decode cX1_leastBeasts 18 = .ok (.aload_n 0, 1) := by decide +kernel
theorem dX1_leastBeasts_19 : decode cX1_leastBeasts 19 = .ok (.getfield 21, 3) := by decide +kernel
theorem dX1_leastBeasts_22 : decode cX1_leastBeasts 22 = .ok (.getfield 35, 3) := by decide +kernel
theorem dX1_leastBeasts_25 : decode cX1_leastBeasts 25 = .ok (.bipush 10, 2) := by decide +kernel
theorem dX1_leastBeasts_27 : decode cX1_leastBeasts 27 = .ok (.ishl, 1) := by decide +kernel
theorem dX1_leastBeasts_28 : decode cX1_leastBeasts 28 = .ok (.istore_n 2, 1) := by decide +kernel
theorem dX1_leastBeasts_29 : decode cX1_leastBeasts 29 = .ok (.aload_n 0, 1) := by decide +kernel
theorem dX1_leastBeasts_30 : decode cX1_leastBeasts 30 = .ok (.getfield 18, 3) := by decide +kernel
theorem dX1_leastBeasts_33 : decode cX1_leastBeasts 33 = .ok (.iload_n 2, 1) := by decide +kernel
theorem dX1_leastBeasts_34 : decode cX1_leastBeasts 34 = .ok (.invokestatic 38, 3) := by decide +kernel
theorem dX1_leastBeasts_37 : decode cX1_leastBeasts 37 = .ok (.aload_n 0, 1) := by decide +kernel
theorem dX1_leastBeasts_38 : decode cX1_leastBeasts 38 = .ok (.getfield 18, 3) := by decide +kernel
theorem dX1_leastBeasts_41 : decode cX1_leastBeasts 41 = .ok (.iconst 0, 1) := by decide +kernel
theorem dX1_leastBeasts_42 : decode cX1_leastBeasts 42 = .ok (.iconst 0, 1) := by decide +kernel
theorem dX1_leastBeasts_43 : decode cX1_leastBeasts 43 = .ok (.iastore, 1) := by decide +kernel
theorem dX1_leastBeasts_44 : decode cX1_leastBeasts 44 = .ok (.iconst 0, 1) := by decide +kernel
theorem dX1_leastBeasts_45 : decode cX1_leastBeasts 45 = .ok (.istore_n 3, 1) := by decide +kernel
theorem dX1_leastBeasts_46 : decode cX1_leastBeasts 46 = .ok (.iload_n 3, 1) := by decide +kernel
theorem dX1_leastBeasts_47 : decode cX1_leastBeasts 47 = .ok (.iload_n 1, 1) := by decide +kernel
theorem dX1_leastBeasts_48 : decode cX1_leastBeasts 48 = .ok (.if_icmp .ge 75, 3) := by decide +kernel
theorem dX1_leastBeasts_51 : decode cX1_leastBeasts 51 = .ok (.iconst 0, 1) := by decide +kernel
theorem dX1_leastBeasts_52 : decode cX1_leastBeasts 52 = .ok (.istore 4, 2) := by decide +kernel
theorem dX1_leastBeasts_54 : decode cX1_leastBeasts 54 = .ok (.iload 4, 2) := by decide +kernel
theorem dX1_leastBeasts_56 : decode cX1_leastBeasts 56 = .ok (.aload_n 0, 1) := by decide +kernel
theorem dX1_leastBeasts_57 : decode cX1_leastBeasts 57 = .ok (.getfield 25, 3) := by decide +kernel
theorem dX1_leastBeasts_60 : decode cX1_leastBeasts 60 = .ok (.if_icmp .ge 57, 3) := by decide +kernel
theorem dX1_leastBeasts_63 : decode cX1_leastBeasts 63 = .ok (.iload_n 3, 1) := by decide +kernel
theorem dX1_leastBeasts_64 : decode cX1_leastBeasts 64 = .ok (.iconst 1, 1) := by decide +kernel
theorem dX1_leastBeasts_65 : decode cX1_leastBeasts 65 = .ok (.iload 4, 2) := by decide +kernel
theorem dX1_leastBeasts_67 : decode cX1_leastBeasts 67 = .ok (.ishl, 1) := by decide +kernel
theorem dX1_leastBeasts_68 : decode cX1_leastBeasts 68 = .ok (.ior, 1) := by decide +kernel
theorem dX1_leastBeasts_69 : decode cX1_leastBeasts 69 = .ok (.istore 5, 2) := by decide +kernel
theorem dX1_leastBeasts_71 : decode cX1_leastBeasts 71 = .ok (.iload 5, 2) := by decide +kernel
theorem dX1_leastBeasts_73 : decode cX1_leastBeasts 73 = .ok (.iload_n 3, 1) := by decide +kernel
theorem dX1_leastBeasts_74 : decode cX1_leastBeasts 74 = .ok (.if_icmp .eq 37, 3) := by decide +kernel
theorem dX1_leastBeasts_77 : decode cX1_leastBeasts 77 = .ok (.aload_n 0, 1) := by decide +kernel
theorem dX1_leastBeasts_78 : decode cX1_leastBeasts 78 = .ok (.getfield 18, 3) := by decide +kernel
theorem dX1_leastBeasts_81 : decode cX1_leastBeasts 81 = .ok (.iload 5, 2) := by decide +kernel
theorem dX1_leastBeasts_83 : decode cX1_leastBeasts 83 = .ok (.aload_n 0, 1) := by decide +kernel
theorem dX1_leastBeasts_84 : decode cX1_leastBeasts 84 = .ok (.getfield 18, 3) := by decide +kernel
theorem dX1_leastBeasts_87 : decode cX1_leastBeasts 87 = .ok (.iload 5, 2) := by decide +kernel
theorem dX1_leastBeasts_89 : decode cX1_leastBeasts 89 = .ok (.iaload, 1) := by decide +kernel
theorem dX1_leastBeasts_90 : decode cX1_leastBeasts 90 = .ok (.aload_n 0, 1) := by decide +kernel
theorem dX1_leastBeasts_91 : decode cX1_leastBeasts 91 = .ok (.aload_n 0, 1) := by decide +kernel
theorem dX1_leastBeasts_92 : decode cX1_leastBeasts 92 = .ok (.getfield 18, 3) := by decide +kernel
theorem dX1_leastBeasts_95 : decode cX1_leastBeasts 95 = .ok (.iload_n 3, 1) := by decide +kernel
theorem dX1_leastBeasts_96 : decode cX1_leastBeasts 96 = .ok (.iaload, 1) := by decide +kernel
theorem dX1_leastBeasts_97 : decode cX1_leastBeasts 97 = .ok (.aload_n 0, 1) := by decide +kernel
theorem dX1_leastBeasts_98 : decode cX1_leastBeasts 98 = .ok (.getfield 15, 3) := by decide +kernel
theorem dX1_leastBeasts_101 : decode cX1_leastBeasts 101 = .ok (.iload 4, 2) := by decide +kernel
theorem dX1_leastBeasts_103 : decode cX1_leastBeasts 103 = .ok (.iaload, 1) := by decide +kernel
theorem dX1_leastBeasts_104 : decode cX1_leastBeasts 104 = .ok (.invokevirtual 44, 3) := by decide +kernel
theorem dX1_leastBeasts_107 : decode cX1_leastBeasts 107 = .ok (.invokestatic 48, 3) := by decide +kernel
theorem dX1_leastBeasts_110 : decode cX1_leastBeasts 110 = .ok (.iastore, 1) := by decide +kernel
theorem dX1_leastBeasts_111 : decode cX1_leastBeasts 111 = .ok (.iinc 4 1, 3) := by decide +kernel
theorem dX1_leastBeasts_114 : decode cX1_leastBeasts 114 = .ok (.goto (-60), 3) := by decide +kernel
theorem dX1_leastBeasts_117 : decode cX1_leastBeasts 117 = .ok (.iinc 3 1, 3) := by decide +kernel
theorem dX1_leastBeasts_120 : decode cX1_leastBeasts 120 = .ok (.goto (-74), 3) := by decide +kernel
theorem dX1_leastBeasts_123 : decode cX1_leastBeasts 123 = .ok (.aload_n 0, 1) := by decide +kernel
theorem dX1_leastBeasts_124 : decode cX1_leastBeasts 124 = .ok (.getfield 18, 3) := by decide +kernel
theorem dX1_leastBeasts_127 : decode cX1_leastBeasts 127 = .ok (.iload_n 1, 1) := by decide +kernel
theorem dX1_leastBeasts_128 : decode cX1_leastBeasts 128 = .ok (.iaload, 1) := by decide +kernel
theorem dX1_leastBeasts_129 : decode cX1_leastBeasts 129 = .ok (.bipush 10, 2) := by decide +kernel
theorem dX1_leastBeasts_131 : decode cX1_leastBeasts 131 = .ok (.ishr, 1) := by decide +kernel
theorem dX1_leastBeasts_132 : decode cX1_leastBeasts 132 = .ok (.iconst 1, 1) := by decide +kernel
theorem dX1_leastBeasts_133 : decode cX1_leastBeasts 133 = .ok (.iadd, 1) := by decide +kernel
theorem dX1_leastBeasts_134 : decode cX1_leastBeasts 134 = .ok (.ireturn, 1) := by decide +kernel
theorem dX1_afterLaying_0 : decode cX1_afterLaying 0 = .ok (.iload_n 1, 1) := by decide +kernel
theorem dX1_afterLaying_1 : decode cX1_afterLaying 1 = .ok (.bipush 10, 2) := by decide +kernel
theorem dX1_afterLaying_3 : decode cX1_afterLaying 3 = .ok (.ishr, 1) := by decide +kernel
theorem dX1_afterLaying_4 : decode cX1_afterLaying 4 = .ok (.istore_n 3, 1) := by decide +kernel
theorem dX1_afterLaying_5 : decode cX1_afterLaying 5 = .ok (.iload_n 3, 1) := by decide +kernel
theorem dX1_afterLaying_6 : decode cX1_afterLaying 6 = .ok (.aload_n 0, 1) := by decide +kernel
theorem dX1_afterLaying_7 : decode cX1_afterLaying 7 = .ok (.getfield 21, 3) := by decide +kernel
theorem dX1_afterLaying_10 : decode cX1_afterLaying 10 = .ok (.getfield 35, 3) := by decide +kernel
theorem dX1_afterLaying_13 : decode cX1_afterLaying 13 = .ok (.if_icmp .ge 26, 3) := by decide +kernel
theorem dX1_afterLaying_16 : decode cX1_afterLaying 16 = .ok (.iload_n 1, 1) := by decide +kernel
theorem dX1_afterLaying_17 : decode cX1_afterLaying 17 = .ok (.sipush 1023, 3) := by decide +kernel
theorem dX1_afterLaying_20 : decode cX1_afterLaying 20 = .ok (.iand, 1) := by decide +kernel
theorem dX1_afterLaying_21 : decode cX1_afterLaying 21 = .ok (.iload_n 2, 1) := by decide +kernel
theorem dX1_afterLaying_22 : decode cX1_afterLaying 22 = .ok (.iadd, 1) := by decide +kernel
theorem dX1_afterLaying_23 : decode cX1_afterLaying 23 = .ok (.aload_n 0, 1) := by decide +kernel
theorem dX1_afterLaying_24 : decode cX1_afterLaying 24 = .ok (.getfield 21, 3) := by decide +kernel
theorem dX1_afterLaying_27 : decode cX1_afterLaying 27 = .ok (.getfield 53, 3) := by decide +kernel
theorem dX1_afterLaying_30 : decode cX1_afterLaying 30 = .ok (.iload_n 3, 1) := by decide +kernel
theorem dX1_afterLaying_31 : decode cX1_afterLaying 31 = .ok (.iaload, 1) := by decide +kernel
theorem dX1_afterLaying_32 : decode cX1_afterLaying 32 = .ok (.if_icmp .gt 7, 3) := by decide +kernel
theorem dX1_afterLaying_35 : decode cX1_afterLaying 35 = .ok (.iload_n 1, 1) := by decide +kernel
theorem dX1_afterLaying_36 : decode cX1_afterLaying 36 = .ok (.iload_n 2, 1) := by decide +kernel
theorem dX1_afterLaying_37 : decode cX1_afterLaying 37 = .ok (.iadd, 1) := by decide +kernel
theorem dX1_afterLaying_38 : decode cX1_afterLaying 38 = .ok (.ireturn, 1) := by decide +kernel
theorem dX1_afterLaying_39 : decode cX1_afterLaying 39 = .ok (.iload_n 3, 1) := by decide +kernel
theorem dX1_afterLaying_40 : decode cX1_afterLaying 40 = .ok (.iconst 1, 1) := by decide +kernel
theorem dX1_afterLaying_41 : decode cX1_afterLaying 41 = .ok (.iadd, 1) := by decide +kernel
theorem dX1_afterLaying_42 : decode cX1_afterLaying 42 = .ok (.istore 4, 2) := by decide +kernel
theorem dX1_afterLaying_44 : decode cX1_afterLaying 44 = .ok (.iload 4, 2) := by decide +kernel
theorem dX1_afterLaying_46 : decode cX1_afterLaying 46 = .ok (.aload_n 0, 1) := by decide +kernel
theorem dX1_afterLaying_47 : decode cX1_afterLaying 47 = .ok (.getfield 21, 3) := by decide +kernel
theorem dX1_afterLaying_50 : decode cX1_afterLaying 50 = .ok (.getfield 35, 3) := by decide +kernel
theorem dX1_afterLaying_53 : decode cX1_afterLaying 53 = .ok (.if_icmp .ge 31, 3) := by decide +kernel
theorem dX1_afterLaying_56 : decode cX1_afterLaying 56 = .ok (.iload_n 2, 1) := by decide +kernel
theorem dX1_afterLaying_57 : decode cX1_afterLaying 57 = .ok (.aload_n 0, 1) := by decide +kernel
theorem dX1_afterLaying_58 : decode cX1_afterLaying 58 = .ok (.getfield 21, 3) := by decide +kernel
theorem dX1_afterLaying_61 : decode cX1_afterLaying 61 = .ok (.getfield 53, 3) := by decide +kernel
theorem dX1_afterLaying_64 : decode cX1_afterLaying 64 = .ok (.iload 4, 2) := by decide +kernel
theorem dX1_afterLaying_66 : decode cX1_afterLaying 66 = .ok (.iaload, 1) := by decide +kernel
theorem dX1_afterLaying_67 : decode cX1_afterLaying 67 = .ok (.if_icmp .gt 11, 3) := by decide +kernel
theorem dX1_afterLaying_70 : decode cX1_afterLaying 70 = .ok (.iload 4, 2) := by decide +kernel
theorem dX1_afterLaying_72 : decode cX1_afterLaying 72 = .ok (.bipush 10, 2) := by decide +kernel
theorem dX1_afterLaying_74 : decode cX1_afterLaying 74 = .ok (.ishl, 1) := by decide +kernel
theorem dX1_afterLaying_75 : decode cX1_afterLaying 75 = .ok (.iload_n 2, 1) := by decide +kernel
theorem dX1_afterLaying_76 : decode cX1_afterLaying 76 = .ok (.iadd, 1) := by decide +kernel
theorem dX1_afterLaying_77 : decode cX1_afterLaying 77 = .ok (.ireturn, 1) := by decide +kernel
theorem dX1_afterLaying_78 : decode cX1_afterLaying 78 = .ok (.iinc 4 1, 3) := by decide +kernel
theorem dX1_afterLaying_81 : decode cX1_afterLaying 81 = .ok (.goto (-37), 3) := by decide +kernel
theorem dX1_afterLaying_84 : decode cX1_afterLaying 84 = .ok (.aload_n 0, 1) := by decide +kernel
theorem dX1_afterLaying_85 : decode cX1_afterLaying 85 = .ok (.getfield 21, 3) := by decide +kernel
theorem dX1_afterLaying_88 : decode cX1_afterLaying 88 = .ok (.getfield 35, 3) := by decide +kernel
theorem dX1_afterLaying_91 : decode cX1_afterLaying 91 = .ok (.bipush 10, 2) := by decide +kernel
theorem dX1_afterLaying_93 : decode cX1_afterLaying 93 = .ok (.ishl, 1) := by decide +kernel
theorem dX1_afterLaying_94 : decode cX1_afterLaying 94 = .ok (.ireturn, 1) := by decide +kernel
theorem dX1_balance_0 : decode cX1_balance 0 = .ok (.iconst 1, 1) := by decide +kernel
theorem dX1_balance_1 : decode cX1_balance 1 = .ok (.aload_n 0, 1) := by decide +kernel
theorem dX1_balance_2 : decode cX1_balance 2 = .ok (.getfield 25, 3) := by decide +kernel
theorem dX1_balance_5 : decode cX1_balance 5 = .ok (.ishl, 1) := by decide +kernel
theorem dX1_balance_6 : decode cX1_balance 6 = .ok (.iconst 1, 1) := by decide +kernel
theorem dX1_balance_7 : decode cX1_balance 7 = .ok (.isub, 1) := by decide +kernel
theorem dX1_balance_8 : decode cX1_balance 8 = .ok (.istore_n 1, 1) := by decide +kernel
theorem dX1_balance_9 : decode cX1_balance 9 = .ok (.iconst 0, 1) := by decide +kernel
theorem dX1_balance_10 : decode cX1_balance 10 = .ok (.istore_n 2, 1) := by decide +kernel
theorem dX1_balance_11 : decode cX1_balance 11 = .ok (.iconst 0, 1) := by decide +kernel
theorem dX1_balance_12 : decode cX1_balance 12 = .ok (.istore_n 3, 1) := by decide +kernel
theorem dX1_balance_13 : decode cX1_balance 13 = .ok (.iload_n 3, 1) := by decide +kernel
theorem dX1_balance_14 : decode cX1_balance 14 = .ok (.aload_n 0, 1) := by decide +kernel
theorem dX1_balance_15 : decode cX1_balance 15 = .ok (.getfield 25, 3) := by decide +kernel
theorem dX1_balance_18 : decode cX1_balance 18 = .ok (.if_icmp .ge 18, 3) := by decide +kernel
theorem dX1_balance_21 : decode cX1_balance 21 = .ok (.iload_n 2, 1) := by decide +kernel
theorem dX1_balance_22 : decode cX1_balance 22 = .ok (.aload_n 0, 1) := by decide +kernel
theorem dX1_balance_23 : decode cX1_balance 23 = .ok (.getfield 15, 3) := by decide +kernel
theorem dX1_balance_26 : decode cX1_balance 26 = .ok (.iload_n 3, 1) := by decide +kernel
theorem dX1_balance_27 : decode cX1_balance 27 = .ok (.iaload, 1) := by decide +kernel
theorem dX1_balance_28 : decode cX1_balance 28 = .ok (.iadd, 1) := by decide +kernel
theorem dX1_balance_29 : decode cX1_balance 29 = .ok (.istore_n 2, 1) := by decide +kernel
theorem dX1_balance_30 : decode cX1_balance 30 = .ok (.iinc 3 1, 3) := by decide +kernel
theorem dX1_balance_33 : decode cX1_balance 33 = .ok (.goto (-20), 3) := by decide +kernel
theorem dX1_balance_36 : decode cX1_balance 36 = .ok (.aload_n 0, 1) := by decide +kernel
theorem dX1_balance_37 : decode cX1_balance 37 = .ok (.iload_n 2, 1) := by decide +kernel
theorem dX1_balance_38 : decode cX1_balance 38 = .ok (.putfield 56, 3) := by decide +kernel
theorem dX1_balance_41 : decode cX1_balance 41 = .ok (.iconst 0, 1) := by decide +kernel
theorem dX1_balance_42 : decode cX1_balance 42 = .ok (.istore_n 3, 1) := by decide +kernel
theorem dX1_balance_43 : decode cX1_balance 43 = .ok (.aload_n 0, 1) := by decide +kernel
theorem dX1_balance_44 : decode cX1_balance 44 = .ok (.getfield 18, 3) := by decide +kernel
theorem dX1_balance_47 : decode cX1_balance 47 = .ok (.iconst 0, 1) := by decide +kernel
theorem dX1_balance_48 : decode cX1_balance 48 = .ok (.iconst 0, 1) := by decide +kernel
theorem dX1_balance_49 : decode cX1_balance 49 = .ok (.iastore, 1) := by decide +kernel
theorem dX1_balance_50 : decode cX1_balance 50 = .ok (.iconst 1, 1) := by decide +kernel
theorem dX1_balance_51 : decode cX1_balance 51 = .ok (.istore 4, 2) := by decide +kernel
theorem dX1_balance_53 : decode cX1_balance 53 = .ok (.iload 4, 2) := by decide +kernel
theorem dX1_balance_55 : decode cX1_balance 55 = .ok (.iload_n 1, 1) := by decide +kernel
theorem dX1_balance_56 : decode cX1_balance 56 = .ok (.if_icmp .gt 79, 3) := by decide +kernel
theorem dX1_balance_59 : decode cX1_balance 59 = .ok (.iload 4, 2) := by decide +kernel
theorem dX1_balance_61 : decode cX1_balance 61 = .ok (.invokestatic 59, 3) := by decide +kernel
theorem dX1_balance_64 : decode cX1_balance 64 = .ok (.istore 5, 2) := by decide +kernel
theorem dX1_balance_66 : decode cX1_balance 66 = .ok (.aload_n 0, 1) := by decide +kernel
theorem dX1_balance_67 : decode cX1_balance 67 = .ok (.getfield 18, 3) := by decide +kernel
theorem dX1_balance_70 : decode cX1_balance 70 = .ok (.iload 4, 2) := by decide +kernel
theorem dX1_balance_72 : decode cX1_balance 72 = .ok (.aload_n 0, 1) := by decide +kernel
theorem dX1_balance_73 : decode cX1_balance 73 = .ok (.getfield 18, 3) := by decide +kernel
theorem dX1_balance_76 : decode cX1_balance 76 = .ok (.iload 4, 2) := by decide +kernel
theorem dX1_balance_78 : decode cX1_balance 78 = .ok (.iload 4, 2) := by decide +kernel
theorem dX1_balance_80 : decode cX1_balance 80 = .ok (.iconst 1, 1) := by decide +kernel
theorem dX1_balance_81 : decode cX1_balance 81 = .ok (.isub, 1) := by decide +kernel
theorem dX1_balance_82 : decode cX1_balance 82 = .ok (.iand, 1) := by decide +kernel
theorem dX1_balance_83 : decode cX1_balance 83 = .ok (.iaload, 1) := by decide +kernel
theorem dX1_balance_84 : decode cX1_balance 84 = .ok (.aload_n 0, 1) := by decide +kernel
theorem dX1_balance_85 : decode cX1_balance 85 = .ok (.getfield 15, 3) := by decide +kernel
theorem dX1_balance_88 : decode cX1_balance 88 = .ok (.iload 5, 2) := by decide +kernel
theorem dX1_balance_90 : decode cX1_balance 90 = .ok (.iaload, 1) := by decide +kernel
theorem dX1_balance_91 : decode cX1_balance 91 = .ok (.iadd, 1) := by decide +kernel
theorem dX1_balance_92 : decode cX1_balance 92 = .ok (.iastore, 1) := by decide +kernel
theorem dX1_balance_93 : decode cX1_balance 93 = .ok (.iload_n 2, 1) := by decide +kernel
theorem dX1_balance_94 : decode cX1_balance 94 = .ok (.iconst 2, 1) := by decide +kernel
theorem dX1_balance_95 : decode cX1_balance 95 = .ok (.aload_n 0, 1) := by decide +kernel
theorem dX1_balance_96 : decode cX1_balance 96 = .ok (.getfield 18, 3) := by decide +kernel
theorem dX1_balance_99 : decode cX1_balance 99 = .ok (.iload 4, 2) := by decide +kernel
theorem dX1_balance_101 : decode cX1_balance 101 = .ok (.iaload, 1) := by decide +kernel
theorem dX1_balance_102 : decode cX1_balance 102 = .ok (.imul, 1) := by decide +kernel
theorem dX1_balance_103 : decode cX1_balance 103 = .ok (.isub, 1) := by decide +kernel
theorem dX1_balance_104 : decode cX1_balance 104 = .ok (.istore 6, 2) := by decide +kernel
theorem dX1_balance_106 : decode cX1_balance 106 = .ok (.iload 6, 2) := by decide +kernel
theorem dX1_balance_108 : decode cX1_balance 108 = .ok (.ifCond .lt 21, 3) := by decide +kernel
theorem dX1_balance_111 : decode cX1_balance 111 = .ok (.iload 6, 2) := by decide +kernel
theorem dX1_balance_113 : decode cX1_balance 113 = .ok (.aload_n 0, 1) := by decide +kernel
theorem dX1_balance_114 : decode cX1_balance 114 = .ok (.getfield 56, 3) := by decide +kernel
theorem dX1_balance_117 : decode cX1_balance 117 = .ok (.if_icmp .ge 12, 3) := by decide +kernel
theorem dX1_balance_120 : decode cX1_balance 120 = .ok (.aload_n 0, 1) := by decide +kernel
theorem dX1_balance_121 : decode cX1_balance 121 = .ok (.iload 6, 2) := by decide +kernel
theorem dX1_balance_123 : decode cX1_balance 123 = .ok (.putfield 56, 3) := by decide +kernel
theorem dX1_balance_126 : decode cX1_balance 126 = .ok (.iload 4, 2) := by decide +kernel
theorem dX1_balance_128 : decode cX1_balance 128 = .ok (.istore_n 3, 1) := by decide +kernel
theorem dX1_balance_129 : decode cX1_balance 129 = .ok (.iinc 4 1, 3) := by decide +kernel
theorem dX1_balance_132 : decode cX1_balance 132 = .ok (.goto (-79), 3) := by decide +kernel
theorem dX1_balance_135 : decode cX1_balance 135 = .ok (.aload_n 0, 1) := by decide +kernel
theorem dX1_balance_136 : decode cX1_balance 136 = .ok (.aload_n 0, 1) := by decide +kernel
theorem dX1_balance_137 : decode cX1_balance 137 = .ok (.iload_n 3, 1) := by decide +kernel
theorem dX1_balance_138 : decode cX1_balance 138 = .ok (.invokevirtual 65, 3) := by decide +kernel
theorem dX1_balance_141 : decode cX1_balance 141 = .ok (.putfield 68, 3) := by decide +kernel
theorem dX1_balance_144 : decode cX1_balance 144 = .ok (.return_, 1) := by decide +kernel
theorem dX1_partsOf_0 : decode cX1_partsOf 0 = .ok (.iconst 0, 1) := by decide +kernel
theorem dX1_partsOf_1 : decode cX1_partsOf 1 = .ok (.istore_n 2, 1) := by decide +kernel
theorem dX1_partsOf_2 : decode cX1_partsOf 2 = .ok (.iconst 0, 1) := by decide +kernel
theorem dX1_partsOf_3 : decode cX1_partsOf 3 = .ok (.istore_n 3, 1) := by decide +kernel
theorem dX1_partsOf_4 : decode cX1_partsOf 4 = .ok (.iload_n 3, 1) := by decide +kernel
theorem dX1_partsOf_5 : decode cX1_partsOf 5 = .ok (.aload_n 0, 1) := by decide +kernel
theorem dX1_partsOf_6 : decode cX1_partsOf 6 = .ok (.getfield 25, 3) := by decide +kernel
theorem dX1_partsOf_9 : decode cX1_partsOf 9 = .ok (.if_icmp .ge 29, 3) := by decide +kernel
theorem dX1_partsOf_12 : decode cX1_partsOf 12 = .ok (.iload_n 1, 1) := by decide +kernel
theorem dX1_partsOf_13 : decode cX1_partsOf 13 = .ok (.iload_n 3, 1) := by decide +kernel
theorem dX1_partsOf_14 : decode cX1_partsOf 14 = .ok (.ishr, 1) := by decide +kernel
theorem dX1_partsOf_15 : decode cX1_partsOf 15 = .ok (.iconst 1, 1) := by decide +kernel
theorem dX1_partsOf_16 : decode cX1_partsOf 16 = .ok (.iand, 1) := by decide +kernel
theorem dX1_partsOf_17 : decode cX1_partsOf 17 = .ok (.iconst 1, 1) := by decide +kernel
theorem dX1_partsOf_18 : decode cX1_partsOf 18 = .ok (.if_icmp .ne 14, 3) := by decide +kernel
theorem dX1_partsOf_21 : decode cX1_partsOf 21 = .ok (.iload_n 2, 1) := by decide +kernel
theorem dX1_partsOf_22 : decode cX1_partsOf 22 = .ok (.iconst 1, 1) := by decide +kernel
theorem dX1_partsOf_23 : decode cX1_partsOf 23 = .ok (.aload_n 0, 1) := by decide +kernel
theorem dX1_partsOf_24 : decode cX1_partsOf 24 = .ok (.getfield 11, 3) := by decide +kernel
theorem dX1_partsOf_27 : decode cX1_partsOf 27 = .ok (.iload_n 3, 1) := by decide +kernel
theorem dX1_partsOf_28 : decode cX1_partsOf 28 = .ok (.iaload, 1) := by decide +kernel
theorem dX1_partsOf_29 : decode cX1_partsOf 29 = .ok (.ishl, 1) := by decide +kernel
theorem dX1_partsOf_30 : decode cX1_partsOf 30 = .ok (.ior, 1) := by decide +kernel
theorem dX1_partsOf_31 : decode cX1_partsOf 31 = .ok (.istore_n 2, 1) := by decide +kernel
theorem dX1_partsOf_32 : decode cX1_partsOf 32 = .ok (.iinc 3 1, 3) := by decide +kernel
theorem dX1_partsOf_35 : decode cX1_partsOf 35 = .ok (.goto (-31), 3) := by decide +kernel
theorem dX1_partsOf_38 : decode cX1_partsOf 38 = .ok (.iload_n 2, 1) := by decide +kernel
theorem dX1_partsOf_39 : decode cX1_partsOf 39 = .ok (.ireturn, 1) := by decide +kernel
theorem dX2_init_0 : decode cX2_init 0 = .ok (.aload_n 0, 1) := by decide +kernel
theorem dX2_init_1 : decode cX2_init 1 = .ok (.invokespecial 3, 3) := by decide +kernel
theorem dX2_init_4 : decode cX2_init 4 = .ok (.aload_n 0, 1) := by decide +kernel
theorem dX2_init_5 : decode cX2_init 5 = .ok (.sipush 432, 3) := by decide +kernel
theorem dX2_init_8 : decode cX2_init 8 = .ok (.newarray .int, 2) := by decide +kernel
theorem dX2_init_10 : decode cX2_init 10 = .ok (.putfield 9, 3) := by decide +kernel
theorem dX2_init_13 : decode cX2_init 13 = .ok (.aload_n 0, 1) := by decide +kernel
theorem dX2_init_14 : decode cX2_init 14 = .ok (.bipush 24, 2) := by decide +kernel
theorem dX2_init_16 : decode cX2_init 16 = .ok (.newarray .int, 2) := by decide +kernel
theorem dX2_init_18 : decode cX2_init 18 = .ok (.putfield 15, 3) := by decide +kernel
theorem dX2_init_21 : decode cX2_init 21 = .ok (.aload_n 0, 1) := by decide +kernel
theorem dX2_init_22 : decode cX2_init 22 = .ok (.aload_n 1, 1) := by decide +kernel
theorem dX2_init_23 : decode cX2_init 23 = .ok (.putfield 18, 3) := by decide +kernel
theorem dX2_init_26 : decode cX2_init 26 = .ok (.return_, 1) := by decide +kernel
theorem dX2_make_0 : decode cX2_make 0 = .ok (.iload_n 2, 1) := by decide +kernel
theorem dX2_make_1 : decode cX2_make 1 = .ok (.iconst 1, 1) := by decide +kernel
theorem dX2_make_2 : decode cX2_make 2 = .ok (.isub, 1) := by decide +kernel
theorem dX2_make_3 : decode cX2_make 3 = .ok (.istore_n 3, 1) := by decide +kernel
theorem dX2_make_4 : decode cX2_make 4 = .ok (.iload_n 3, 1) := by decide +kernel
theorem dX2_make_5 : decode cX2_make 5 = .ok (.ifCond .lt 92, 3) := by decide +kernel
theorem dX2_make_8 : decode cX2_make 8 = .ok (.iconst 0, 1) := by decide +kernel
theorem dX2_make_9 : decode cX2_make 9 = .ok (.istore 4, 2) := by decide +kernel
theorem dX2_make_11 : decode cX2_make 11 = .ok (.iload 4, 2) := by decide +kernel
theorem dX2_make_13 : decode cX2_make 13 = .ok (.aload_n 0, 1) := by decide +kernel
theorem dX2_make_14 : decode cX2_make 14 = .ok (.getfield 18, 3) := by decide +kernel
theorem dX2_make_17 : decode cX2_make 17 = .ok (.getfield 22, 3) := by decide +kernel
theorem dX2_make_20 : decode cX2_make 20 = .ok (.if_icmp .ge 71, 3) := by decide +kernel
theorem dX2_make_23 : decode cX2_make 23 = .ok (.iconst 0, 1) := by decide +kernel
theorem dX2_make_24 : decode cX2_make 24 = .ok (.istore 5, 2) := by decide +kernel
theorem dX2_make_26 : decode cX2_make 26 = .ok (.iload 5, 2) := by decide +kernel
theorem dX2_make_28 : decode cX2_make 28 = .ok (.iconst 3, 1) := by decide +kernel
theorem dX2_make_29 : decode cX2_make 29 = .ok (.if_icmp .ge 56, 3) := by decide +kernel
theorem dX2_make_32 : decode cX2_make 32 = .ok (.aload_n 0, 1) := by decide +kernel
theorem dX2_make_33 : decode cX2_make 33 = .ok (.getfield 18, 3) := by decide +kernel
theorem dX2_make_36 : decode cX2_make 36 = .ok (.iload 4, 2) := by decide +kernel
theorem dX2_make_38 : decode cX2_make 38 = .ok (.iload_n 1, 1) := by decide +kernel
theorem dX2_make_39 : decode cX2_make 39 = .ok (.iload_n 3, 1) := by decide +kernel
theorem dX2_make_40 : decode cX2_make 40 = .ok (.iadd, 1) := by decide +kernel
theorem dX2_make_41 : decode cX2_make 41 = .ok (.bipush 12, 2) := by decide +kernel
theorem dX2_make_43 : decode cX2_make 43 = .ok (.irem, 1) := by decide +kernel
theorem dX2_make_44 : decode cX2_make 44 = .ok (.iload 5, 2) := by decide +kernel
theorem dX2_make_46 : decode cX2_make 46 = .ok (.invokevirtual 28, 3) := by decide +kernel
theorem dX2_make_49 : decode cX2_make 49 = .ok (.istore 6, 2) := by decide +kernel
theorem dX2_make_51 : decode cX2_make 51 = .ok (.aload_n 0, 1) := by decide +kernel
theorem dX2_make_52 : decode cX2_make 52 = .ok (.getfield 9, 3) := by decide +kernel
theorem dX2_make_55 : decode cX2_make 55 = .ok (.iload_n 3, 1) := by decide +kernel
theorem dX2_make_56 : decode cX2_make 56 = .ok (.iload 4, 2) := by decide +kernel
theorem dX2_make_58 : decode cX2_make 58 = .ok (.iload 5, 2) := by decide +kernel
theorem dX2_make_60 : decode cX2_make 60 = .ok (.invokestatic 32, 3) := by decide +kernel
theorem dX2_make_63 : decode cX2_make 63 = .ok (.iload 6, 2) := by decide +kernel
theorem dX2_make_65 : decode cX2_make 65 = .ok (.aload_n 0, 1) := by decide +kernel
theorem dX2_make_66 : decode cX2_make 66 = .ok (.iload_n 3, 1) := by decide +kernel
theorem dX2_make_67 : decode cX2_make 67 = .ok (.iconst 1, 1) := by decide +kernel
theorem dX2_make_68 : decode cX2_make 68 = .ok (.iadd, 1) := by decide +kernel
theorem dX2_make_69 : decode cX2_make 69 = .ok (.iload_n 2, 1) := by decide +kernel
theorem dX2_make_70 : decode cX2_make 70 = .ok (.iload 4, 2) := by decide +kernel
theorem dX2_make_72 : decode cX2_make 72 = .ok (.iload 5, 2) := by decide +kernel
theorem dX2_make_74 : decode cX2_make 74 = .ok (.invokevirtual 35, 3) := by decide +kernel
theorem dX2_make_77 : decode cX2_make 77 = .ok (.iadd, 1) := by decide +kernel
theorem dX2_make_78 : decode cX2_make 78 = .ok (.iastore, 1) := by decide +kernel
theorem dX2_make_79 : decode cX2_make 79 = .ok (.iinc 5 1, 3) := by decide +kernel
theorem dX2_make_82 : decode cX2_make 82 = .ok (.goto (-56), 3) := by decide +kernel
theorem dX2_make_85 : decode cX2_make 85 = .ok (.iinc 4 1, 3) := by decide +kernel
theorem dX2_make_88 : decode cX2_make 88 = .ok (.goto (-77), 3) := by decide +kernel
theorem dX2_make_91 : decode cX2_make 91 = .ok (.iinc 3 (-1), 3) := by decide +kernel
theorem dX2_make_94 : decode cX2_make 94 = .ok (.goto (-90), 3) := by decide +kernel
theorem dX2_make_97 : decode cX2_make 97 = .ok (.aload_n 0, 1) := by decide +kernel
theorem dX2_make_98 : decode cX2_make 98 = .ok (.invokevirtual 39, 3) := by decide +kernel
theorem dX2_make_101 : decode cX2_make 101 = .ok (.istore_n 3, 1) := by decide +kernel
theorem dX2_make_102 : decode cX2_make 102 = .ok (.iconst 0, 1) := by decide +kernel
theorem dX2_make_103 : decode cX2_make 103 = .ok (.istore 4, 2) := by decide +kernel
theorem dX2_make_105 : decode cX2_make 105 = .ok (.aload_n 0, 1) := by decide +kernel
theorem dX2_make_106 : decode cX2_make 106 = .ok (.aload_n 0, 1) := by decide +kernel
theorem dX2_make_107 : decode cX2_make 107 = .ok (.getfield 9, 3) := by decide +kernel
theorem dX2_make_110 : decode cX2_make 110 = .ok (.iconst 0, 1) := by decide +kernel
theorem dX2_make_111 : decode cX2_make 111 = .ok (.iload_n 3, 1) := by decide +kernel
theorem dX2_make_112 : decode cX2_make 112 = .ok (.iload 4, 2) := by decide +kernel
theorem dX2_make_114 : decode cX2_make 114 = .ok (.invokestatic 32, 3) := by decide +kernel
theorem dX2_make_117 : decode cX2_make 117 = .ok (.iaload, 1) := by decide +kernel
theorem dX2_make_118 : decode cX2_make 118 = .ok (.putfield 43, 3) := by decide +kernel
theorem dX2_make_121 : decode cX2_make 121 = .ok (.aload_n 0, 1) := by decide +kernel
theorem dX2_make_122 : decode cX2_make 122 = .ok (.getfield 15, 3) := by decide +kernel
theorem dX2_make_125 : decode cX2_make 125 = .ok (.iconst 0, 1) := by decide +kernel
theorem dX2_make_126 : decode cX2_make 126 = .ok (.iload_n 3, 1) := by decide +kernel
theorem dX2_make_127 : decode cX2_make 127 = .ok (.iastore, 1) := by decide +kernel
theorem dX2_make_128 : decode cX2_make 128 = .ok (.iconst 1, 1) := by decide +kernel
theorem dX2_make_129 : decode cX2_make 129 = .ok (.istore 5, 2) := by decide +kernel
theorem dX2_make_131 : decode cX2_make 131 = .ok (.iload 5, 2) := by decide +kernel
theorem dX2_make_133 : decode cX2_make 133 = .ok (.iload_n 2, 1) := by decide +kernel
theorem dX2_make_134 : decode cX2_make 134 = .ok (.if_icmp .ge 48, 3) := by decide +kernel
theorem dX2_make_137 : decode cX2_make 137 = .ok (.aload_n 0, 1) := by decide +kernel
theorem dX2_make_138 : decode cX2_make 138 = .ok (.iload 5, 2) := by decide +kernel
theorem dX2_make_140 : decode cX2_make 140 = .ok (.iload_n 3, 1) := by decide +kernel
theorem dX2_make_141 : decode cX2_make 141 = .ok (.iload 4, 2) := by decide +kernel
theorem dX2_make_143 : decode cX2_make 143 = .ok (.invokevirtual 46, 3) := by decide +kernel
theorem dX2_make_146 : decode cX2_make 146 = .ok (.istore 6, 2) := by decide +kernel
theorem dX2_make_148 : decode cX2_make 148 = .ok (.iload 6, 2) := by decide +kernel
theorem dX2_make_150 : decode cX2_make 150 = .ok (.iload_n 3, 1) := by decide +kernel
theorem dX2_make_151 : decode cX2_make 151 = .ok (.if_icmp .ne 11, 3) := by decide +kernel
theorem dX2_make_154 : decode cX2_make 154 = .ok (.iload 4, 2) := by decide +kernel
theorem dX2_make_156 : decode cX2_make 156 = .ok (.invokestatic 49, 3) := by decide +kernel
theorem dX2_make_159 : decode cX2_make 159 = .ok (.goto 4, 3) := by decide +kernel
theorem dX2_make_162 : decode cX2_make 162 = .ok (.iconst 0, 1) := by decide +kernel
theorem dX2_make_163 : decode cX2_make 163 = .ok (.istore 4, 2) := by decide +kernel
theorem dX2_make_165 : decode cX2_make 165 = .ok (.iload 6, 2) := by decide +kernel
theorem dX2_make_167 : decode cX2_make 167 = .ok (.istore_n 3, 1) := by decide +kernel
theorem dX2_make_168 : decode cX2_make 168 = .ok (.aload_n 0, 1) := by decide +kernel
theorem dX2_make_169 : decode cX2_make 169 = .ok (.getfield 15, 3) := by decide +kernel
theorem dX2_make_172 : decode cX2_make 172 = .ok (.iload 5, 2) := by decide +kernel
theorem dX2_make_174 : decode cX2_make 174 = .ok (.iload_n 3, 1) := by decide +kernel
theorem dX2_make_175 : decode cX2_make 175 = .ok (.iastore, 1) := by decide +kernel
theorem dX2_make_176 : decode cX2_make 176 = .ok (.iinc 5 1, 3) := by decide +kernel
theorem dX2_make_179 : decode cX2_make 179 = .ok (.goto (-48), 3) := by decide +kernel
theorem dX2_make_182 : decode cX2_make 182 = .ok (.return_, 1) := by decide +kernel
theorem dX2_movesIn_0 : decode cX2_movesIn 0 = .ok (.iconst 0, 1) := by decide +kernel
theorem dX2_movesIn_1 : decode cX2_movesIn 1 = .ok (.istore_n 2, 1) := by decide +kernel
theorem dX2_movesIn_2 : decode cX2_movesIn 2 = .ok (.iconst 1, 1) := by decide +kernel
theorem dX2_movesIn_3 : decode cX2_movesIn 3 = .ok (.istore_n 3, 1) := by decide +kernel
theorem dX2_movesIn_4 : decode cX2_movesIn 4 = .ok (.iload_n 3, 1) := by decide +kernel
theorem dX2_movesIn_5 : decode cX2_movesIn 5 = .ok (.iload_n 1, 1) := by decide +kernel
theorem dX2_movesIn_6 : decode cX2_movesIn 6 = .ok (.if_icmp .ge 34, 3) := by decide +kernel
theorem dX2_movesIn_9 : decode cX2_movesIn 9 = .ok (.iload_n 2, 1) := by decide +kernel
theorem dX2_movesIn_10 : decode cX2_movesIn 10 = .ok (.aload_n 0, 1) := by decide +kernel
theorem dX2_movesIn_11 : decode cX2_movesIn 11 = .ok (.getfield 15, 3) := by decide +kernel
theorem dX2_movesIn_14 : decode cX2_movesIn 14 = .ok (.iload_n 3, 1) := by decide +kernel
theorem dX2_movesIn_15 : decode cX2_movesIn 15 = .ok (.iaload, 1) := by decide +kernel
theorem dX2_movesIn_16 : decode cX2_movesIn 16 = .ok (.aload_n 0, 1) := by decide +kernel
theorem dX2_movesIn_17 : decode cX2_movesIn 17 = .ok (.getfield 15, 3) := by decide +kernel
theorem dX2_movesIn_20 : decode cX2_movesIn 20 = .ok (.iload_n 3, 1) := by decide +kernel
theorem dX2_movesIn_21 : decode cX2_movesIn 21 = .ok (.iconst 1, 1) := by decide +kernel
theorem dX2_movesIn_22 : decode cX2_movesIn 22 = .ok (.isub, 1) := by decide +kernel
theorem dX2_movesIn_23 : decode cX2_movesIn 23 = .ok (.iaload, 1) := by decide +kernel
theorem dX2_movesIn_24 : decode cX2_movesIn 24 = .ok (.if_icmp .ne 7, 3) := by decide +kernel
theorem dX2_movesIn_27 : decode cX2_movesIn 27 = .ok (.iconst 0, 1) := by decide +kernel
theorem dX2_movesIn_28 : decode cX2_movesIn 28 = .ok (.goto 4, 3) := by decide +kernel
theorem dX2_movesIn_31 : decode cX2_movesIn 31 = .ok (.iconst 1, 1) := by decide +kernel
theorem dX2_movesIn_32 : decode cX2_movesIn 32 = .ok (.iadd, 1) := by decide +kernel
theorem dX2_movesIn_33 : decode cX2_movesIn 33 = .ok (.istore_n 2, 1) := by decide +kernel
theorem dX2_movesIn_34 : decode cX2_movesIn 34 = .ok (.iinc 3 1, 3) := by decide +kernel
theorem dX2_movesIn_37 : decode cX2_movesIn 37 = .ok (.goto (-33), 3) := by decide +kernel
theorem dX2_movesIn_40 : decode cX2_movesIn 40 = .ok (.iload_n 2, 1) := by decide +kernel
theorem dX2_movesIn_41 : decode cX2_movesIn 41 = .ok (.ireturn, 1) := by decide +kernel
theorem dX2_firstCamp_0 : decode cX2_firstCamp 0 = .ok (.iconst 0, 1) := by decide +kernel
theorem dX2_firstCamp_1 : decode cX2_firstCamp 1 = .ok (.istore_n 1, 1) := by decide +kernel
theorem dX2_firstCamp_2 : decode cX2_firstCamp 2 = .ok (.iconst 1, 1) := by decide +kernel
theorem dX2_firstCamp_3 : decode cX2_firstCamp 3 = .ok (.istore_n 2, 1) := by decide +kernel
theorem dX2_firstCamp_4 : decode cX2_firstCamp 4 = .ok (.iload_n 2, 1) := by decide +kernel
theorem dX2_firstCamp_5 : decode cX2_firstCamp 5 = .ok (.aload_n 0, 1) := by decide +kernel
theorem dX2_firstCamp_6 : decode cX2_firstCamp 6 = .ok (.getfield 18, 3) := by decide +kernel
theorem dX2_firstCamp_9 : decode cX2_firstCamp 9 = .ok (.getfield 22, 3) := by decide +kernel
theorem dX2_firstCamp_12 : decode cX2_firstCamp 12 = .ok (.if_icmp .ge 36, 3) := by decide +kernel
theorem dX2_firstCamp_15 : decode cX2_firstCamp 15 = .ok (.aload_n 0, 1) := by decide +kernel
theorem dX2_firstCamp_16 : decode cX2_firstCamp 16 = .ok (.getfield 9, 3) := by decide +kernel
theorem dX2_firstCamp_19 : decode cX2_firstCamp 19 = .ok (.iconst 0, 1) := by decide +kernel
theorem dX2_firstCamp_20 : decode cX2_firstCamp 20 = .ok (.iload_n 2, 1) := by decide +kernel
theorem dX2_firstCamp_21 : decode cX2_firstCamp 21 = .ok (.iconst 0, 1) := by decide +kernel
theorem dX2_firstCamp_22 : decode cX2_firstCamp 22 = .ok (.invokestatic 32, 3) := by decide +kernel
theorem dX2_firstCamp_25 : decode cX2_firstCamp 25 = .ok (.iaload, 1) := by decide +kernel
theorem dX2_firstCamp_26 : decode cX2_firstCamp 26 = .ok (.aload_n 0, 1) := by decide +kernel
theorem dX2_firstCamp_27 : decode cX2_firstCamp 27 = .ok (.getfield 9, 3) := by decide +kernel
theorem dX2_firstCamp_30 : decode cX2_firstCamp 30 = .ok (.iconst 0, 1) := by decide +kernel
theorem dX2_firstCamp_31 : decode cX2_firstCamp 31 = .ok (.iload_n 1, 1) := by decide +kernel
theorem dX2_firstCamp_32 : decode cX2_firstCamp 32 = .ok (.iconst 0, 1) := by decide +kernel
theorem dX2_firstCamp_33 : decode cX2_firstCamp 33 = .ok (.invokestatic 32, 3) := by decide +kernel
theorem dX2_firstCamp_36 : decode cX2_firstCamp 36 = .ok (.iaload, 1) := by decide +kernel
theorem dX2_firstCamp_37 : decode cX2_firstCamp 37 = .ok (.if_icmp .ge 5, 3) := by decide +kernel
theorem dX2_firstCamp_40 : decode cX2_firstCamp 40 = .ok (.iload_n 2, 1) := by decide +kernel
theorem dX2_firstCamp_41 : decode cX2_firstCamp 41 = .ok (.istore_n 1, 1) := by decide +kernel
theorem dX2_firstCamp_42 : decode cX2_firstCamp 42 = .ok (.iinc 2 1, 3) := by decide +kernel
theorem dX2_firstCamp_45 : decode cX2_firstCamp 45 = .ok (.goto (-41), 3) := by decide +kernel
theorem dX2_firstCamp_48 : decode cX2_firstCamp 48 = .ok (.iload_n 1, 1) := by decide +kernel
theorem dX2_firstCamp_49 : decode cX2_firstCamp 49 = .ok (.ireturn, 1) := by decide +kernel
theorem dX2_restCost_0 : decode cX2_restCost 0 = .ok (.iload_n 1, 1) := by decide +kernel
theorem dX2_restCost_1 : decode cX2_restCost 1 = .ok (.iload_n 2, 1) := by decide +kernel
theorem dX2_restCost_2 : decode cX2_restCost 2 = .ok (.if_icmp .lt 7, 3) := by decide +kernel
theorem dX2_restCost_5 : decode cX2_restCost 5 = .ok (.iconst 0, 1) := by decide +kernel
theorem dX2_restCost_6 : decode cX2_restCost 6 = .ok (.goto 19, 3) := by decide +kernel
theorem dX2_restCost_9 : decode cX2_restCost 9 = .ok (.aload_n 0, 1) := by decide +kernel
theorem dX2_restCost_10 : decode cX2_restCost 10 = .ok (.iload_n 1, 1) := by decide +kernel
theorem dX2_restCost_11 : decode cX2_restCost 11 = .ok (.iload_n 3, 1) := by decide +kernel
theorem dX2_restCost_12 : decode cX2_restCost 12 = .ok (.iload 4, 2) := by decide +kernel
theorem dX2_restCost_14 : decode cX2_restCost 14 = .ok (.aload_n 0, 1) := by decide +kernel
theorem dX2_restCost_15 : decode cX2_restCost 15 = .ok (.iload_n 1, 1) := by decide +kernel
theorem dX2_restCost_16 : decode cX2_restCost 16 = .ok (.iload_n 3, 1) := by decide +kernel
theorem dX2_restCost_17 : decode cX2_restCost 17 = .ok (.iload 4, 2) := by decide +kernel
theorem dX2_restCost_19 : decode cX2_restCost 19 = .ok (.invokevirtual 46, 3) := by decide +kernel
theorem dX2_restCost_22 : decode cX2_restCost 22 = .ok (.invokevirtual 53, 3) := by decide +kernel
theorem dX2_restCost_25 : decode cX2_restCost 25 = .ok (.ireturn, 1) := by decide +kernel
theorem dX2_nextCamp_0 : decode cX2_nextCamp 0 = .ok (.iconst 0, 1) := by decide +kernel
theorem dX2_nextCamp_1 : decode cX2_nextCamp 1 = .ok (.istore 4, 2) := by decide +kernel
theorem dX2_nextCamp_3 : decode cX2_nextCamp 3 = .ok (.aload_n 0, 1) := by decide +kernel
theorem dX2_nextCamp_4 : decode cX2_nextCamp 4 = .ok (.iload_n 1, 1) := by decide +kernel
theorem dX2_nextCamp_5 : decode cX2_nextCamp 5 = .ok (.iload_n 2, 1) := by decide +kernel
theorem dX2_nextCamp_6 : decode cX2_nextCamp 6 = .ok (.iload_n 3, 1) := by decide +kernel
theorem dX2_nextCamp_7 : decode cX2_nextCamp 7 = .ok (.iconst 0, 1) := by decide +kernel
theorem dX2_nextCamp_8 : decode cX2_nextCamp 8 = .ok (.invokevirtual 53, 3) := by decide +kernel
theorem dX2_nextCamp_11 : decode cX2_nextCamp 11 = .ok (.istore 5, 2) := by decide +kernel
theorem dX2_nextCamp_13 : decode cX2_nextCamp 13 = .ok (.iconst 1, 1) := by decide +kernel
theorem dX2_nextCamp_14 : decode cX2_nextCamp 14 = .ok (.istore 6, 2) := by decide +kernel
theorem dX2_nextCamp_16 : decode cX2_nextCamp 16 = .ok (.iload 6, 2) := by decide +kernel
theorem dX2_nextCamp_18 : decode cX2_nextCamp 18 = .ok (.aload_n 0, 1) := by decide +kernel
theorem dX2_nextCamp_19 : decode cX2_nextCamp 19 = .ok (.getfield 18, 3) := by decide +kernel
theorem dX2_nextCamp_22 : decode cX2_nextCamp 22 = .ok (.getfield 22, 3) := by decide +kernel
theorem dX2_nextCamp_25 : decode cX2_nextCamp 25 = .ok (.if_icmp .ge 35, 3) := by decide +kernel
theorem dX2_nextCamp_28 : decode cX2_nextCamp 28 = .ok (.aload_n 0, 1) := by decide +kernel
theorem dX2_nextCamp_29 : decode cX2_nextCamp 29 = .ok (.iload_n 1, 1) := by decide +kernel
theorem dX2_nextCamp_30 : decode cX2_nextCamp 30 = .ok (.iload_n 2, 1) := by decide +kernel
theorem dX2_nextCamp_31 : decode cX2_nextCamp 31 = .ok (.iload_n 3, 1) := by decide +kernel
theorem dX2_nextCamp_32 : decode cX2_nextCamp 32 = .ok (.iload 6, 2) := by decide +kernel
theorem dX2_nextCamp_34 : decode cX2_nextCamp 34 = .ok (.invokevirtual 53, 3) := by decide +kernel
theorem dX2_nextCamp_37 : decode cX2_nextCamp 37 = .ok (.istore 7, 2) := by decide +kernel
theorem dX2_nextCamp_39 : decode cX2_nextCamp 39 = .ok (.iload 7, 2) := by decide +kernel
theorem dX2_nextCamp_41 : decode cX2_nextCamp 41 = .ok (.iload 5, 2) := by decide +kernel
theorem dX2_nextCamp_43 : decode cX2_nextCamp 43 = .ok (.if_icmp .ge 11, 3) := by decide +kernel
theorem dX2_nextCamp_46 : decode cX2_nextCamp 46 = .ok (.iload 7, 2) := by decide +kernel
theorem dX2_nextCamp_48 : decode cX2_nextCamp 48 = .ok (.istore 5, 2) := by decide +kernel
theorem dX2_nextCamp_50 : decode cX2_nextCamp 50 = .ok (.iload 6, 2) := by decide +kernel
theorem dX2_nextCamp_52 : decode cX2_nextCamp 52 = .ok (.istore 4, 2) := by decide +kernel
theorem dX2_nextCamp_54 : decode cX2_nextCamp 54 = .ok (.iinc 6 1, 3) := by decide +kernel
theorem dX2_nextCamp_57 : decode cX2_nextCamp 57 = .ok (.goto (-41), 3) := by decide +kernel
theorem dX2_nextCamp_60 : decode cX2_nextCamp 60 = .ok (.iload 4, 2) := by decide +kernel
theorem dX2_nextCamp_62 : decode cX2_nextCamp 62 = .ok (.ireturn, 1) := by decide +kernel
theorem dX2_onwardCost_0 : decode cX2_onwardCost 0 = .ok (.iload 4, 2) := by decide +kernel
theorem dX2_onwardCost_2 : decode cX2_onwardCost 2 = .ok (.iload_n 2, 1) := by decide +kernel
theorem dX2_onwardCost_3 : decode cX2_onwardCost 3 = .ok (.if_icmp .ne 18, 3) := by decide +kernel
theorem dX2_onwardCost_6 : decode cX2_onwardCost 6 = .ok (.aload_n 0, 1) := by decide +kernel
theorem dX2_onwardCost_7 : decode cX2_onwardCost 7 = .ok (.getfield 9, 3) := by decide +kernel
theorem dX2_onwardCost_10 : decode cX2_onwardCost 10 = .ok (.iload_n 1, 1) := by decide +kernel
theorem dX2_onwardCost_11 : decode cX2_onwardCost 11 = .ok (.iload_n 2, 1) := by decide +kernel
theorem dX2_onwardCost_12 : decode cX2_onwardCost 12 = .ok (.iload_n 3, 1) := by decide +kernel
theorem dX2_onwardCost_13 : decode cX2_onwardCost 13 = .ok (.invokestatic 49, 3) := by decide +kernel
theorem dX2_onwardCost_16 : decode cX2_onwardCost 16 = .ok (.invokestatic 32, 3) := by decide +kernel
theorem dX2_onwardCost_19 : decode cX2_onwardCost 19 = .ok (.iaload, 1) := by decide +kernel
theorem dX2_onwardCost_20 : decode cX2_onwardCost 20 = .ok (.ireturn, 1) := by decide +kernel
theorem dX2_onwardCost_21 : decode cX2_onwardCost 21 = .ok (.aload_n 0, 1) := by decide +kernel
theorem dX2_onwardCost_22 : decode cX2_onwardCost 22 = .ok (.getfield 9, 3) := by decide +kernel
theorem dX2_onwardCost_25 : decode cX2_onwardCost 25 = .ok (.iload_n 1, 1) := by decide +kernel
theorem dX2_onwardCost_26 : decode cX2_onwardCost 26 = .ok (.iload 4, 2) := by decide +kernel
theorem dX2_onwardCost_28 : decode cX2_onwardCost 28 = .ok (.iconst 0, 1) := by decide +kernel
theorem dX2_onwardCost_29 : decode cX2_onwardCost 29 = .ok (.invokestatic 32, 3) := by decide +kernel
theorem dX2_onwardCost_32 : decode cX2_onwardCost 32 = .ok (.iaload, 1) := by decide +kernel
theorem dX2_onwardCost_33 : decode cX2_onwardCost 33 = .ok (.aload_n 0, 1) := by decide +kernel
theorem dX2_onwardCost_34 : decode cX2_onwardCost 34 = .ok (.getfield 18, 3) := by decide +kernel
theorem dX2_onwardCost_37 : decode cX2_onwardCost 37 = .ok (.iload_n 2, 1) := by decide +kernel
theorem dX2_onwardCost_38 : decode cX2_onwardCost 38 = .ok (.iload 4, 2) := by decide +kernel
theorem dX2_onwardCost_40 : decode cX2_onwardCost 40 = .ok (.invokevirtual 56, 3) := by decide +kernel
theorem dX2_onwardCost_43 : decode cX2_onwardCost 43 = .ok (.iadd, 1) := by decide +kernel
theorem dX2_onwardCost_44 : decode cX2_onwardCost 44 = .ok (.ireturn, 1) := by decide +kernel
theorem dX2_longer_0 : decode cX2_longer 0 = .ok (.iload_n 0, 1) := by decide +kernel
theorem dX2_longer_1 : decode cX2_longer 1 = .ok (.iconst 1, 1) := by decide +kernel
theorem dX2_longer_2 : decode cX2_longer 2 = .ok (.iadd, 1) := by decide +kernel
theorem dX2_longer_3 : decode cX2_longer 3 = .ok (.iconst 2, 1) := by decide +kernel
theorem dX2_longer_4 : decode cX2_longer 4 = .ok (.invokestatic 60, 3) := by decide +kernel
theorem dX2_longer_7 : decode cX2_longer 7 = .ok (.ireturn, 1) := by decide +kernel
theorem dX2_at_0 : decode cX2_at 0 = .ok (.iload_n 0, 1) := by decide +kernel
theorem dX2_at_1 : decode cX2_at 1 = .ok (.bipush 6, 2) := by decide +kernel
theorem dX2_at_3 : decode cX2_at 3 = .ok (.imul, 1) := by decide +kernel
theorem dX2_at_4 : decode cX2_at 4 = .ok (.iload_n 1, 1) := by decide +kernel
theorem dX2_at_5 : decode cX2_at 5 = .ok (.iadd, 1) := by decide +kernel
theorem dX2_at_6 : decode cX2_at 6 = .ok (.iconst 3, 1) := by decide +kernel
theorem dX2_at_7 : decode cX2_at 7 = .ok (.imul, 1) := by decide +kernel
theorem dX2_at_8 : decode cX2_at 8 = .ok (.iload_n 2, 1) := by decide +kernel
theorem dX2_at_9 : decode cX2_at 9 = .ok (.iadd, 1) := by decide +kernel
theorem dX2_at_10 : decode cX2_at 10 = .ok (.ireturn, 1) := by decide +kernel
theorem dX3_init_0 : decode cX3_init 0 = .ok (.aload_n 0, 1) := by decide +kernel
theorem dX3_init_1 : decode cX3_init 1 = .ok (.invokespecial 3, 3) := by decide +kernel
theorem dX3_init_4 : decode cX3_init 4 = .ok (.aload_n 0, 1) := by decide +kernel
theorem dX3_init_5 : decode cX3_init 5 = .ok (.bipush 40, 2) := by decide +kernel
theorem dX3_init_7 : decode cX3_init 7 = .ok (.newarray .long, 2) := by decide +kernel
theorem dX3_init_9 : decode cX3_init 9 = .ok (.putfield 9, 3) := by decide +kernel
theorem dX3_init_12 : decode cX3_init 12 = .ok (.return_, 1) := by decide +kernel
theorem dX3_isMissing_0 : decode cX3_isMissing 0 = .ok (.aload_n 0, 1) := by decide +kernel
theorem dX3_isMissing_1 : decode cX3_isMissing 1 = .ok (.getfield 15, 3) := by decide +kernel
theorem dX3_isMissing_4 : decode cX3_isMissing 4 = .ok (.ifCond .ne 7, 3) := by decide +kernel
theorem dX3_isMissing_7 : decode cX3_isMissing 7 = .ok (.iconst 1, 1) := by decide +kernel
theorem dX3_isMissing_8 : decode cX3_isMissing 8 = .ok (.goto 4, 3) := by decide +kernel
theorem dX3_isMissing_11 : decode cX3_isMissing 11 = .ok (.iconst 0, 1) := by decide +kernel
theorem dX3_isMissing_12 : decode cX3_isMissing 12 = .ok (.ireturn, 1) := by decide +kernel
theorem dX3_lay_0 : decode cX3_lay 0 = .ok (.aload_n 0, 1) := by decide +kernel
theorem dX3_lay_1 : decode cX3_lay 1 = .ok (.iload_n 1, 1) := by decide +kernel
theorem dX3_lay_2 : decode cX3_lay 2 = .ok (.putfield 15, 3) := by decide +kernel
theorem dX3_lay_5 : decode cX3_lay 5 = .ok (.aload_n 0, 1) := by decide +kernel
theorem dX3_lay_6 : decode cX3_lay 6 = .ok (.iload_n 1, 1) := by decide +kernel
theorem dX3_lay_7 : decode cX3_lay 7 = .ok (.ifCond .ne 7, 3) := by decide +kernel
theorem dX3_lay_10 : decode cX3_lay 10 = .ok (.iconst 0, 1) := by decide +kernel
theorem dX3_lay_11 : decode cX3_lay 11 = .ok (.goto 4, 3) := by decide +kernel
theorem dX3_lay_14 : decode cX3_lay 14 = .ok (.iload_n 2, 1) := by decide +kernel
theorem dX3_lay_15 : decode cX3_lay 15 = .ok (.putfield 19, 3) := by decide +kernel
theorem dX3_lay_18 : decode cX3_lay 18 = .ok (.aload_n 0, 1) := by decide +kernel
theorem dX3_lay_19 : decode cX3_lay 19 = .ok (.getfield 9, 3) := by decide +kernel
theorem dX3_lay_22 : decode cX3_lay 22 = .ok (.lconst 0, 1) := by decide +kernel
theorem dX3_lay_23 : decode cX3_lay 23 = .ok (.invokestatic 22, 3) := by decide +kernel
theorem dX3_lay_26 : decode cX3_lay 26 = .ok (.return_, 1) := by decide +kernel
theorem dX3_narrowed_0 : decode cX3_narrowed 0 = .ok (.aload_n 0, 1) := by decide +kernel
theorem dX3_narrowed_1 : decode cX3_narrowed 1 = .ok (.getfield 15, 3) := by decide +kernel
theorem dX3_narrowed_4 : decode cX3_narrowed 4 = .ok (.bipush 8, 2) := by decide +kernel
theorem dX3_narrowed_6 : decode cX3_narrowed 6 = .ok (.if_icmp .ne 8, 3) := by decide +kernel
theorem dX3_narrowed_9 : decode cX3_narrowed 9 = .ok (.lload_n 1, 1) := by decide +kernel
theorem dX3_narrowed_10 : decode cX3_narrowed 10 = .ok (.l2i, 1) := by decide +kernel
theorem dX3_narrowed_11 : decode cX3_narrowed 11 = .ok (.i2b, 1) := by decide +kernel
theorem dX3_narrowed_12 : decode cX3_narrowed 12 = .ok (.i2l, 1) := by decide +kernel
theorem dX3_narrowed_13 : decode cX3_narrowed 13 = .ok (.lreturn, 1) := by decide +kernel
theorem dX3_narrowed_14 : decode cX3_narrowed 14 = .ok (.aload_n 0, 1) := by decide +kernel
theorem dX3_narrowed_15 : decode cX3_narrowed 15 = .ok (.getfield 15, 3) := by decide +kernel
theorem dX3_narrowed_18 : decode cX3_narrowed 18 = .ok (.bipush 16, 2) := by decide +kernel
theorem dX3_narrowed_20 : decode cX3_narrowed 20 = .ok (.if_icmp .ne 10, 3) := by decide +kernel
theorem dX3_narrowed_23 : decode cX3_narrowed 23 = .ok (.lload_n 1, 1) := by decide +kernel
theorem dX3_narrowed_24 : decode cX3_narrowed 24 = .ok (.l2i, 1) := by decide +kernel
theorem dX3_narrowed_25 : decode cX3_narrowed 25 = .ok (.i2s, 1) := by decide +kernel
theorem dX3_narrowed_26 : decode cX3_narrowed 26 = .ok (.i2l, 1) := by decide +kernel
theorem dX3_narrowed_27 : decode cX3_narrowed 27 = .ok (.goto 4, 3) := by decide +kernel
theorem dX3_narrowed_30 : decode cX3_narrowed 30 = .ok (.lload_n 1, 1) := by decide +kernel
theorem dX3_narrowed_31 : decode cX3_narrowed 31 = .ok (.lreturn, 1) := by decide +kernel
theorem dX3_hasRange_0 : decode cX3_hasRange 0 = .ok (.iload_n 1, 1) := by decide +kernel
theorem dX3_hasRange_1 : decode cX3_hasRange 1 = .ok (.ifCond .lt 29, 3) := by decide +kernel
theorem dX3_hasRange_4 : decode cX3_hasRange 4 = .ok (.iload_n 2, 1) := by decide +kernel
theorem dX3_hasRange_5 : decode cX3_hasRange 5 = .ok (.ifCond .lt 25, 3) := by decide +kernel
theorem dX3_hasRange_8 : decode cX3_hasRange 8 = .ok (.iload_n 1, 1) := by decide +kernel
theorem dX3_hasRange_9 : decode cX3_hasRange 9 = .ok (.aload_n 0, 1) := by decide +kernel
theorem dX3_hasRange_10 : decode cX3_hasRange 10 = .ok (.getfield 19, 3) := by decide +kernel
theorem dX3_hasRange_13 : decode cX3_hasRange 13 = .ok (.if_icmp .gt 17, 3) := by decide +kernel
theorem dX3_hasRange_16 : decode cX3_hasRange 16 = .ok (.iload_n 2, 1) := by decide +kernel
theorem dX3_hasRange_17 : decode cX3_hasRange 17 = .ok (.aload_n 0, 1) := by decide +kernel
theorem dX3_hasRange_18 : decode cX3_hasRange 18 = .ok (.getfield 19, 3) := by decide +kernel
theorem dX3_hasRange_21 : decode cX3_hasRange 21 = .ok (.iload_n 1, 1) := by decide +kernel
theorem dX3_hasRange_22 : decode cX3_hasRange 22 = .ok (.isub, 1) := by decide +kernel
theorem dX3_hasRange_23 : decode cX3_hasRange 23 = .ok (.if_icmp .gt 7, 3) := by decide +kernel
theorem dX3_hasRange_26 : decode cX3_hasRange 26 = .ok (.iconst 1, 1) := by decide +kernel
theorem dX3_hasRange_27 : decode cX3_hasRange 27 = .ok (.goto 4, 3) := by decide +kernel
theorem dX3_hasRange_30 : decode cX3_hasRange 30 = .ok (.iconst 0, 1) := by decide +kernel
theorem dX3_hasRange_31 : decode cX3_hasRange 31 = .ok (.ireturn, 1) := by decide +kernel
theorem dX4_init_0 : decode cX4_init 0 = .ok (.aload_n 0, 1) := by decide +kernel
theorem dX4_init_1 : decode cX4_init 1 = .ok (.invokespecial 3, 3) := by decide +kernel
theorem dX4_init_4 : decode cX4_init 4 = .ok (.aload_n 0, 1) := by decide +kernel
theorem dX4_init_5 : decode cX4_init 5 = .ok (.bipush 20, 2) := by decide +kernel
theorem dX4_init_7 : decode cX4_init 7 = .ok (.newarray .int, 2) := by decide +kernel
theorem dX4_init_9 : decode cX4_init 9 = .ok (.putfield 9, 3) := by decide +kernel
theorem dX4_init_12 : decode cX4_init 12 = .ok (.aload_n 0, 1) := by decide +kernel
theorem dX4_init_13 : decode cX4_init 13 = .ok (.bipush 20, 2) := by decide +kernel
theorem dX4_init_15 : decode cX4_init 15 = .ok (.newarray .int, 2) := by decide +kernel
theorem dX4_init_17 : decode cX4_init 17 = .ok (.putfield 15, 3) := by decide +kernel
theorem dX4_init_20 : decode cX4_init 20 = .ok (.aload_n 0, 1) := by decide +kernel
theorem dX4_init_21 : decode cX4_init 21 = .ok (.bipush 20, 2) := by decide +kernel
theorem dX4_init_23 : decode cX4_init 23 = .ok (.newarray .int, 2) := by decide +kernel
theorem dX4_init_25 : decode cX4_init 25 = .ok (.putfield 18, 3) := by decide +kernel
theorem dX4_init_28 : decode cX4_init 28 = .ok (.aload_n 0, 1) := by decide +kernel
theorem dX4_init_29 : decode cX4_init 29 = .ok (.bipush 20, 2) := by decide +kernel
theorem dX4_init_31 : decode cX4_init 31 = .ok (.newarray .int, 2) := by decide +kernel
theorem dX4_init_33 : decode cX4_init 33 = .ok (.putfield 21, 3) := by decide +kernel
theorem dX4_init_36 : decode cX4_init 36 = .ok (.aload_n 0, 1) := by decide +kernel
theorem dX4_init_37 : decode cX4_init 37 = .ok (.bipush 20, 2) := by decide +kernel
theorem dX4_init_39 : decode cX4_init 39 = .ok (.newarray .int, 2) := by decide +kernel
theorem dX4_init_41 : decode cX4_init 41 = .ok (.putfield 24, 3) := by decide +kernel
theorem dX4_init_44 : decode cX4_init 44 = .ok (.aload_n 0, 1) := by decide +kernel
theorem dX4_init_45 : decode cX4_init 45 = .ok (.iconst 5, 1) := by decide +kernel
theorem dX4_init_46 : decode cX4_init 46 = .ok (.newarray .int, 2) := by decide +kernel
theorem dX4_init_48 : decode cX4_init 48 = .ok (.putfield 27, 3) := by decide +kernel
theorem dX4_init_51 : decode cX4_init 51 = .ok (.aload_n 0, 1) := by decide +kernel
theorem dX4_init_52 : decode cX4_init 52 = .ok (.bipush 6, 2) := by decide +kernel
theorem dX4_init_54 : decode cX4_init 54 = .ok (.newarray .int, 2) := by decide +kernel
theorem dX4_init_56 : decode cX4_init 56 = .ok (.putfield 30, 3) := by decide +kernel
theorem dX4_init_59 : decode cX4_init 59 = .ok (.aload_n 0, 1) := by decide +kernel
theorem dX4_init_60 : decode cX4_init 60 = .ok (.bipush 6, 2) := by decide +kernel
theorem dX4_init_62 : decode cX4_init 62 = .ok (.newarray .int, 2) := by decide +kernel
theorem dX4_init_64 : decode cX4_init 64 = .ok (.putfield 33, 3) := by decide +kernel
theorem dX4_init_67 : decode cX4_init 67 = .ok (.aload_n 0, 1) := by decide +kernel
theorem dX4_init_68 : decode cX4_init 68 = .ok (.bipush 72, 2) := by decide +kernel
theorem dX4_init_70 : decode cX4_init 70 = .ok (.newarray .int, 2) := by decide +kernel
theorem dX4_init_72 : decode cX4_init 72 = .ok (.putfield 36, 3) := by decide +kernel
theorem dX4_init_75 : decode cX4_init 75 = .ok (.aload_n 0, 1) := by decide +kernel
theorem dX4_init_76 : decode cX4_init 76 = .ok (.iconst 3, 1) := by decide +kernel
theorem dX4_init_77 : decode cX4_init 77 = .ok (.newarray .int, 2) := by decide +kernel
theorem dX4_init_79 : decode cX4_init 79 = .ok (.putfield 39, 3) := by decide +kernel
theorem dX4_init_82 : decode cX4_init 82 = .ok (.aload_n 0, 1) := by decide +kernel
theorem dX4_init_83 : decode cX4_init 83 = .ok (.getfield 27, 3) := by decide +kernel
theorem dX4_init_86 : decode cX4_init 86 = .ok (.iconst 4, 1) := by decide +kernel
theorem dX4_init_87 : decode cX4_init 87 = .ok (.bipush 20, 2) := by decide +kernel
theorem dX4_init_89 : decode cX4_init 89 = .ok (.iastore, 1) := by decide +kernel
theorem dX4_init_90 : decode cX4_init 90 = .ok (.aload_n 0, 1) := by decide +kernel
theorem dX4_init_91 : decode cX4_init 91 = .ok (.bipush 20, 2) := by decide +kernel
theorem dX4_init_93 : decode cX4_init 93 = .ok (.putfield 42, 3) := by decide +kernel
theorem dX4_init_96 : decode cX4_init 96 = .ok (.aload_n 0, 1) := by decide +kernel
theorem dX4_init_97 : decode cX4_init 97 = .ok (.getfield 39, 3) := by decide +kernel
theorem dX4_init_100 : decode cX4_init 100 = .ok (.iconst 0, 1) := by decide +kernel
theorem dX4_init_101 : decode cX4_init 101 = .ok (.bipush 100, 2) := by decide +kernel
theorem dX4_init_103 : decode cX4_init 103 = .ok (.iastore, 1) := by decide +kernel
theorem dX4_init_104 : decode cX4_init 104 = .ok (.aload_n 0, 1) := by decide +kernel
theorem dX4_init_105 : decode cX4_init 105 = .ok (.getfield 39, 3) := by decide +kernel
theorem dX4_init_108 : decode cX4_init 108 = .ok (.iconst 1, 1) := by decide +kernel
theorem dX4_init_109 : decode cX4_init 109 = .ok (.iconst 2, 1) := by decide +kernel
theorem dX4_init_110 : decode cX4_init 110 = .ok (.iastore, 1) := by decide +kernel
theorem dX4_init_111 : decode cX4_init 111 = .ok (.aload_n 0, 1) := by decide +kernel
theorem dX4_init_112 : decode cX4_init 112 = .ok (.getfield 39, 3) := by decide +kernel
theorem dX4_init_115 : decode cX4_init 115 = .ok (.iconst 2, 1) := by decide +kernel
theorem dX4_init_116 : decode cX4_init 116 = .ok (.iconst 5, 1) := by decide +kernel
theorem dX4_init_117 : decode cX4_init 117 = .ok (.iastore, 1) := by decide +kernel
theorem dX4_init_118 : decode cX4_init 118 = .ok (.return_, 1) := by decide +kernel
theorem dX4_takeOver_0 : decode cX4_takeOver 0 = .ok (.aload_n 0, 1) := by decide +kernel
theorem dX4_takeOver_1 : decode cX4_takeOver 1 = .ok (.aload_n 1, 1) := by decide +kernel
theorem dX4_takeOver_2 : decode cX4_takeOver 2 = .ok (.getfield 46, 3) := by decide +kernel
theorem dX4_takeOver_5 : decode cX4_takeOver 5 = .ok (.putfield 46, 3) := by decide +kernel
theorem dX4_takeOver_8 : decode cX4_takeOver 8 = .ok (.aload_n 1, 1) := by decide +kernel
theorem dX4_takeOver_9 : decode cX4_takeOver 9 = .ok (.getfield 9, 3) := by decide +kernel
theorem dX4_takeOver_12 : decode cX4_takeOver 12 = .ok (.iconst 0, 1) := by decide +kernel
theorem dX4_takeOver_13 : decode cX4_takeOver 13 = .ok (.aload_n 0, 1) := by decide +kernel
theorem dX4_takeOver_14 : decode cX4_takeOver 14 = .ok (.getfield 9, 3) := by decide +kernel
theorem dX4_takeOver_17 : decode cX4_takeOver 17 = .ok (.iconst 0, 1) := by decide +kernel
theorem dX4_takeOver_18 : decode cX4_takeOver 18 = .ok (.bipush 20, 2) := by decide +kernel
theorem dX4_takeOver_20 : decode cX4_takeOver 20 = .ok (.invokestatic 49, 3) := by decide +kernel
theorem dX4_takeOver_23 : decode cX4_takeOver 23 = .ok (.aload_n 1, 1) := by decide +kernel
theorem dX4_takeOver_24 : decode cX4_takeOver 24 = .ok (.getfield 15, 3) := by decide +kernel
theorem dX4_takeOver_27 : decode cX4_takeOver 27 = .ok (.iconst 0, 1) := by decide +kernel
theorem dX4_takeOver_28 : decode cX4_takeOver 28 = .ok (.aload_n 0, 1) := by decide +kernel
theorem dX4_takeOver_29 : decode cX4_takeOver 29 = .ok (.getfield 15, 3) := by decide +kernel
theorem dX4_takeOver_32 : decode cX4_takeOver 32 = .ok (.iconst 0, 1) := by decide +kernel
theorem dX4_takeOver_33 : decode cX4_takeOver 33 = .ok (.bipush 20, 2) := by decide +kernel
theorem dX4_takeOver_35 : decode cX4_takeOver 35 = .ok (.invokestatic 49, 3) := by decide +kernel
theorem dX4_takeOver_38 : decode cX4_takeOver 38 = .ok (.aload_n 1, 1) := by decide +kernel
theorem dX4_takeOver_39 : decode cX4_takeOver 39 = .ok (.getfield 18, 3) := by decide +kernel
theorem dX4_takeOver_42 : decode cX4_takeOver 42 = .ok (.iconst 0, 1) := by decide +kernel
theorem dX4_takeOver_43 : decode cX4_takeOver 43 = .ok (.aload_n 0, 1) := by decide +kernel
theorem dX4_takeOver_44 : decode cX4_takeOver 44 = .ok (.getfield 18, 3) := by decide +kernel
theorem dX4_takeOver_47 : decode cX4_takeOver 47 = .ok (.iconst 0, 1) := by decide +kernel
theorem dX4_takeOver_48 : decode cX4_takeOver 48 = .ok (.bipush 20, 2) := by decide +kernel
theorem dX4_takeOver_50 : decode cX4_takeOver 50 = .ok (.invokestatic 49, 3) := by decide +kernel
theorem dX4_takeOver_53 : decode cX4_takeOver 53 = .ok (.aload_n 1, 1) := by decide +kernel
theorem dX4_takeOver_54 : decode cX4_takeOver 54 = .ok (.getfield 21, 3) := by decide +kernel
theorem dX4_takeOver_57 : decode cX4_takeOver 57 = .ok (.iconst 0, 1) := by decide +kernel
theorem dX4_takeOver_58 : decode cX4_takeOver 58 = .ok (.aload_n 0, 1) := by decide +kernel
theorem dX4_takeOver_59 : decode cX4_takeOver 59 = .ok (.getfield 21, 3) := by decide +kernel
theorem dX4_takeOver_62 : decode cX4_takeOver 62 = .ok (.iconst 0, 1) := by decide +kernel
theorem dX4_takeOver_63 : decode cX4_takeOver 63 = .ok (.bipush 20, 2) := by decide +kernel
theorem dX4_takeOver_65 : decode cX4_takeOver 65 = .ok (.invokestatic 49, 3) := by decide +kernel
theorem dX4_takeOver_68 : decode cX4_takeOver 68 = .ok (.aload_n 1, 1) := by decide +kernel
theorem dX4_takeOver_69 : decode cX4_takeOver 69 = .ok (.getfield 24, 3) := by decide +kernel
theorem dX4_takeOver_72 : decode cX4_takeOver 72 = .ok (.iconst 0, 1) := by decide +kernel
theorem dX4_takeOver_73 : decode cX4_takeOver 73 = .ok (.aload_n 0, 1) := by decide +kernel
theorem dX4_takeOver_74 : decode cX4_takeOver 74 = .ok (.getfield 24, 3) := by decide +kernel
theorem dX4_takeOver_77 : decode cX4_takeOver 77 = .ok (.iconst 0, 1) := by decide +kernel
theorem dX4_takeOver_78 : decode cX4_takeOver 78 = .ok (.bipush 20, 2) := by decide +kernel
theorem dX4_takeOver_80 : decode cX4_takeOver 80 = .ok (.invokestatic 49, 3) := by decide +kernel
theorem dX4_takeOver_83 : decode cX4_takeOver 83 = .ok (.aload_n 0, 1) := by decide +kernel
theorem dX4_takeOver_84 : decode cX4_takeOver 84 = .ok (.aload_n 1, 1) := by decide +kernel
theorem dX4_takeOver_85 : decode cX4_takeOver 85 = .ok (.getfield 55, 3) := by decide +kernel
theorem dX4_takeOver_88 : decode cX4_takeOver 88 = .ok (.putfield 55, 3) := by decide +kernel
theorem dX4_takeOver_91 : decode cX4_takeOver 91 = .ok (.aload_n 1, 1) := by decide +kernel
theorem dX4_takeOver_92 : decode cX4_takeOver 92 = .ok (.getfield 27, 3) := by decide +kernel
theorem dX4_takeOver_95 : decode cX4_takeOver 95 = .ok (.iconst 0, 1) := by decide +kernel
theorem dX4_takeOver_96 : decode cX4_takeOver 96 = .ok (.aload_n 0, 1) := by decide +kernel
theorem dX4_takeOver_97 : decode cX4_takeOver 97 = .ok (.getfield 27, 3) := by decide +kernel
theorem dX4_takeOver_100 : decode cX4_takeOver 100 = .ok (.iconst 0, 1) := by decide +kernel
theorem dX4_takeOver_101 : decode cX4_takeOver 101 = .ok (.iconst 5, 1) := by decide +kernel
theorem dX4_takeOver_102 : decode cX4_takeOver 102 = .ok (.invokestatic 49, 3) := by decide +kernel
theorem dX4_takeOver_105 : decode cX4_takeOver 105 = .ok (.aload_n 0, 1) := by decide +kernel
theorem dX4_takeOver_106 : decode cX4_takeOver 106 = .ok (.aload_n 1, 1) := by decide +kernel
theorem dX4_takeOver_107 : decode cX4_takeOver 107 = .ok (.getfield 42, 3) := by decide +kernel
theorem dX4_takeOver_110 : decode cX4_takeOver 110 = .ok (.putfield 42, 3) := by decide +kernel
theorem dX4_takeOver_113 : decode cX4_takeOver 113 = .ok (.aload_n 0, 1) := by decide +kernel
theorem dX4_takeOver_114 : decode cX4_takeOver 114 = .ok (.aload_n 1, 1) := by decide +kernel
theorem dX4_takeOver_115 : decode cX4_takeOver 115 = .ok (.getfield 58, 3) := by decide +kernel
theorem dX4_takeOver_118 : decode cX4_takeOver 118 = .ok (.putfield 58, 3) := by decide +kernel
theorem dX4_takeOver_121 : decode cX4_takeOver 121 = .ok (.aload_n 1, 1) := by decide +kernel
theorem dX4_takeOver_122 : decode cX4_takeOver 122 = .ok (.getfield 30, 3) := by decide +kernel
theorem dX4_takeOver_125 : decode cX4_takeOver 125 = .ok (.iconst 0, 1) := by decide +kernel
theorem dX4_takeOver_126 : decode cX4_takeOver 126 = .ok (.aload_n 0, 1) := by decide +kernel
theorem dX4_takeOver_127 : decode cX4_takeOver 127 = .ok (.getfield 30, 3) := by decide +kernel
theorem dX4_takeOver_130 : decode cX4_takeOver 130 = .ok (.iconst 0, 1) := by decide +kernel
theorem dX4_takeOver_131 : decode cX4_takeOver 131 = .ok (.bipush 6, 2) := by decide +kernel
theorem dX4_takeOver_133 : decode cX4_takeOver 133 = .ok (.invokestatic 49, 3) := by decide +kernel
theorem dX4_takeOver_136 : decode cX4_takeOver 136 = .ok (.aload_n 0, 1) := by decide +kernel
theorem dX4_takeOver_137 : decode cX4_takeOver 137 = .ok (.aload_n 1, 1) := by decide +kernel
theorem dX4_takeOver_138 : decode cX4_takeOver 138 = .ok (.getfield 61, 3) := by decide +kernel
theorem dX4_takeOver_141 : decode cX4_takeOver 141 = .ok (.putfield 61, 3) := by decide +kernel
theorem dX4_takeOver_144 : decode cX4_takeOver 144 = .ok (.aload_n 1, 1) := by decide +kernel
theorem dX4_takeOver_145 : decode cX4_takeOver 145 = .ok (.getfield 33, 3) := by decide +kernel
theorem dX4_takeOver_148 : decode cX4_takeOver 148 = .ok (.iconst 0, 1) := by decide +kernel
theorem dX4_takeOver_149 : decode cX4_takeOver 149 = .ok (.aload_n 0, 1) := by decide +kernel
theorem dX4_takeOver_150 : decode cX4_takeOver 150 = .ok (.getfield 33, 3) := by decide +kernel
theorem dX4_takeOver_153 : decode cX4_takeOver 153 = .ok (.iconst 0, 1) := by decide +kernel
theorem dX4_takeOver_154 : decode cX4_takeOver 154 = .ok (.bipush 6, 2) := by decide +kernel
theorem dX4_takeOver_156 : decode cX4_takeOver 156 = .ok (.invokestatic 49, 3) := by decide +kernel
theorem dX4_takeOver_159 : decode cX4_takeOver 159 = .ok (.aload_n 1, 1) := by decide +kernel
theorem dX4_takeOver_160 : decode cX4_takeOver 160 = .ok (.getfield 36, 3) := by decide +kernel
theorem dX4_takeOver_163 : decode cX4_takeOver 163 = .ok (.iconst 0, 1) := by decide +kernel
theorem dX4_takeOver_164 : decode cX4_takeOver 164 = .ok (.aload_n 0, 1) := by decide +kernel
theorem dX4_takeOver_165 : decode cX4_takeOver 165 = .ok (.getfield 36, 3) := by decide +kernel
theorem dX4_takeOver_168 : decode cX4_takeOver 168 = .ok (.iconst 0, 1) := by decide +kernel
theorem dX4_takeOver_169 : decode cX4_takeOver 169 = .ok (.bipush 72, 2) := by decide +kernel
theorem dX4_takeOver_171 : decode cX4_takeOver 171 = .ok (.invokestatic 49, 3) := by decide +kernel
theorem dX4_takeOver_174 : decode cX4_takeOver 174 = .ok (.aload_n 1, 1) := by decide +kernel
theorem dX4_takeOver_175 : decode cX4_takeOver 175 = .ok (.getfield 39, 3) := by decide +kernel
theorem dX4_takeOver_178 : decode cX4_takeOver 178 = .ok (.iconst 0, 1) := by decide +kernel
theorem dX4_takeOver_179 : decode cX4_takeOver 179 = .ok (.aload_n 0, 1) := by decide +kernel
theorem dX4_takeOver_180 : decode cX4_takeOver 180 = .ok (.getfield 39, 3) := by decide +kernel
theorem dX4_takeOver_183 : decode cX4_takeOver 183 = .ok (.iconst 0, 1) := by decide +kernel
theorem dX4_takeOver_184 : decode cX4_takeOver 184 = .ok (.iconst 3, 1) := by decide +kernel
theorem dX4_takeOver_185 : decode cX4_takeOver 185 = .ok (.invokestatic 49, 3) := by decide +kernel
theorem dX4_takeOver_188 : decode cX4_takeOver 188 = .ok (.return_, 1) := by decide +kernel
theorem dX4_hasPart_0 : decode cX4_hasPart 0 = .ok (.iload_n 1, 1) := by decide +kernel
theorem dX4_hasPart_1 : decode cX4_hasPart 1 = .ok (.ifCond .lt 15, 3) := by decide +kernel
theorem dX4_hasPart_4 : decode cX4_hasPart 4 = .ok (.iload_n 1, 1) := by decide +kernel
theorem dX4_hasPart_5 : decode cX4_hasPart 5 = .ok (.aload_n 0, 1) := by decide +kernel
theorem dX4_hasPart_6 : decode cX4_hasPart 6 = .ok (.getfield 46, 3) := by decide +kernel
theorem dX4_hasPart_9 : decode cX4_hasPart 9 = .ok (.if_icmp .ge 7, 3) := by decide +kernel
theorem dX4_hasPart_12 : decode cX4_hasPart 12 = .ok (.iconst 1, 1) := by decide +kernel
theorem dX4_hasPart_13 : decode cX4_hasPart 13 = .ok (.goto 4, 3) := by decide +kernel
theorem dX4_hasPart_16 : decode cX4_hasPart 16 = .ok (.iconst 0, 1) := by decide +kernel
theorem dX4_hasPart_17 : decode cX4_hasPart 17 = .ok (.ireturn, 1) := by decide +kernel
theorem dX4_isThere_0 : decode cX4_isThere 0 = .ok (.aload_n 0, 1) := by decide +kernel
theorem dX4_isThere_1 : decode cX4_isThere 1 = .ok (.getfield 55, 3) := by decide +kernel
theorem dX4_isThere_4 : decode cX4_isThere 4 = .ok (.iload_n 1, 1) := by decide +kernel
theorem dX4_isThere_5 : decode cX4_isThere 5 = .ok (.ishr, 1) := by decide +kernel
theorem dX4_isThere_6 : decode cX4_isThere 6 = .ok (.iconst 1, 1) := by decide +kernel
theorem dX4_isThere_7 : decode cX4_isThere 7 = .ok (.iand, 1) := by decide +kernel
theorem dX4_isThere_8 : decode cX4_isThere 8 = .ok (.iconst 1, 1) := by decide +kernel
theorem dX4_isThere_9 : decode cX4_isThere 9 = .ok (.if_icmp .ne 7, 3) := by decide +kernel
theorem dX4_isThere_12 : decode cX4_isThere 12 = .ok (.iconst 1, 1) := by decide +kernel
theorem dX4_isThere_13 : decode cX4_isThere 13 = .ok (.goto 4, 3) := by decide +kernel
theorem dX4_isThere_16 : decode cX4_isThere 16 = .ok (.iconst 0, 1) := by decide +kernel
theorem dX4_isThere_17 : decode cX4_isThere 17 = .ok (.ireturn, 1) := by decide +kernel
theorem dX4_areAllThere_0 : decode cX4_areAllThere 0 = .ok (.iload_n 1, 1) := by decide +kernel
theorem dX4_areAllThere_1 : decode cX4_areAllThere 1 = .ok (.aload_n 0, 1) := by decide +kernel
theorem dX4_areAllThere_2 : decode cX4_areAllThere 2 = .ok (.getfield 55, 3) := by decide +kernel
theorem dX4_areAllThere_5 : decode cX4_areAllThere 5 = .ok (.iconst (-1), 1) := by decide +kernel
theorem dX4_areAllThere_6 : decode cX4_areAllThere 6 = .ok (.ixor, 1) := by decide +kernel
theorem dX4_areAllThere_7 : decode cX4_areAllThere 7 = .ok (.iand, 1) := by decide +kernel
theorem dX4_areAllThere_8 : decode cX4_areAllThere 8 = .ok (.ifCond .ne 7, 3) := by decide +kernel
theorem dX4_areAllThere_11 : decode cX4_areAllThere 11 = .ok (.iconst 1, 1) := by decide +kernel
theorem dX4_areAllThere_12 : decode cX4_areAllThere 12 = .ok (.goto 4, 3) := by decide +kernel
theorem dX4_areAllThere_15 : decode cX4_areAllThere 15 = .ok (.iconst 0, 1) := by decide +kernel
theorem dX4_areAllThere_16 : decode cX4_areAllThere 16 = .ok (.ireturn, 1) := by decide +kernel
theorem dX4_hasCamp_0 : decode cX4_hasCamp 0 = .ok (.iload_n 1, 1) := by decide +kernel
theorem dX4_hasCamp_1 : decode cX4_hasCamp 1 = .ok (.ifCond .lt 15, 3) := by decide +kernel
theorem dX4_hasCamp_4 : decode cX4_hasCamp 4 = .ok (.iload_n 1, 1) := by decide +kernel
theorem dX4_hasCamp_5 : decode cX4_hasCamp 5 = .ok (.aload_n 0, 1) := by decide +kernel
theorem dX4_hasCamp_6 : decode cX4_hasCamp 6 = .ok (.getfield 61, 3) := by decide +kernel
theorem dX4_hasCamp_9 : decode cX4_hasCamp 9 = .ok (.if_icmp .ge 7, 3) := by decide +kernel
theorem dX4_hasCamp_12 : decode cX4_hasCamp 12 = .ok (.iconst 1, 1) := by decide +kernel
theorem dX4_hasCamp_13 : decode cX4_hasCamp 13 = .ok (.goto 4, 3) := by decide +kernel
theorem dX4_hasCamp_16 : decode cX4_hasCamp 16 = .ok (.iconst 0, 1) := by decide +kernel
theorem dX4_hasCamp_17 : decode cX4_hasCamp 17 = .ok (.ireturn, 1) := by decide +kernel
theorem dX4_addPart_0 : decode cX4_addPart 0 = .ok (.aload_n 0, 1) := by decide +kernel
theorem dX4_addPart_1 : decode cX4_addPart 1 = .ok (.getfield 46, 3) := by decide +kernel
theorem dX4_addPart_4 : decode cX4_addPart 4 = .ok (.bipush 20, 2) := by decide +kernel
theorem dX4_addPart_6 : decode cX4_addPart 6 = .ok (.if_icmp .lt 5, 3) := by decide +kernel
theorem dX4_addPart_9 : decode cX4_addPart 9 = .ok (.iconst (-1), 1) := by decide +kernel
theorem dX4_addPart_10 : decode cX4_addPart 10 = .ok (.ireturn, 1) := by decide +kernel
theorem dX4_addPart_11 : decode cX4_addPart 11 = .ok (.aload_n 0, 1) := by decide +kernel
theorem dX4_addPart_12 : decode cX4_addPart 12 = .ok (.getfield 46, 3) := by decide +kernel
theorem dX4_addPart_15 : decode cX4_addPart 15 = .ok (.istore 5, 2) := by decide +kernel
theorem dX4_addPart_17 : decode cX4_addPart 17 = .ok (.aload_n 0, 1) := by decide +kernel
theorem dX4_addPart_18 : decode cX4_addPart 18 = .ok (.getfield 9, 3) := by decide +kernel
theorem dX4_addPart_21 : decode cX4_addPart 21 = .ok (.iload 5, 2) := by decide +kernel
theorem dX4_addPart_23 : decode cX4_addPart 23 = .ok (.iload_n 1, 1) := by decide +kernel
theorem dX4_addPart_24 : decode cX4_addPart 24 = .ok (.iastore, 1) := by decide +kernel
theorem dX4_addPart_25 : decode cX4_addPart 25 = .ok (.aload_n 0, 1) := by decide +kernel
theorem dX4_addPart_26 : decode cX4_addPart 26 = .ok (.getfield 15, 3) := by decide +kernel
theorem dX4_addPart_29 : decode cX4_addPart 29 = .ok (.iload 5, 2) := by decide +kernel
theorem dX4_addPart_31 : decode cX4_addPart 31 = .ok (.iload_n 2, 1) := by decide +kernel
theorem dX4_addPart_32 : decode cX4_addPart 32 = .ok (.iastore, 1) := by decide +kernel
theorem dX4_addPart_33 : decode cX4_addPart 33 = .ok (.aload_n 0, 1) := by decide +kernel
theorem dX4_addPart_34 : decode cX4_addPart 34 = .ok (.getfield 18, 3) := by decide +kernel
theorem dX4_addPart_37 : decode cX4_addPart 37 = .ok (.iload 5, 2) := by decide +kernel
theorem dX4_addPart_39 : decode cX4_addPart 39 = .ok (.iload_n 3, 1) := by decide +kernel
theorem dX4_addPart_40 : decode cX4_addPart 40 = .ok (.iastore, 1) := by decide +kernel
theorem dX4_addPart_41 : decode cX4_addPart 41 = .ok (.aload_n 0, 1) := by decide +kernel
theorem dX4_addPart_42 : decode cX4_addPart 42 = .ok (.getfield 21, 3) := by decide +kernel
theorem dX4_addPart_45 : decode cX4_addPart 45 = .ok (.iload 5, 2) := by decide +kernel
theorem dX4_addPart_47 : decode cX4_addPart 47 = .ok (.iload 4, 2) := by decide +kernel
theorem dX4_addPart_49 : decode cX4_addPart 49 = .ok (.iastore, 1) := by decide +kernel
theorem dX4_addPart_50 : decode cX4_addPart 50 = .ok (.aload_n 0, 1) := by decide +kernel
theorem dX4_addPart_51 : decode cX4_addPart 51 = .ok (.getfield 24, 3) := by decide +kernel
theorem dX4_addPart_54 : decode cX4_addPart 54 = .ok (.iload 5, 2) := by decide +kernel
theorem dX4_addPart_56 : decode cX4_addPart 56 = .ok (.iconst 0, 1) := by decide +kernel
theorem dX4_addPart_57 : decode cX4_addPart 57 = .ok (.iastore, 1) := by decide +kernel
theorem dX4_addPart_58 : decode cX4_addPart 58 = .ok (.aload_n 0, 1) := by decide +kernel
theorem dX4_addPart_59 : decode cX4_addPart 59 = .ok (.dup, 1) := by decide +kernel
theorem dX4_addPart_60 : decode cX4_addPart 60 = .ok (.getfield 55, 3) := by decide +kernel
theorem dX4_addPart_63 : decode cX4_addPart 63 = .ok (.iconst 1, 1) := by decide +kernel
theorem dX4_addPart_64 : decode cX4_addPart 64 = .ok (.iload 5, 2) := by decide +kernel
theorem dX4_addPart_66 : decode cX4_addPart 66 = .ok (.ishl, 1) := by decide +kernel
theorem dX4_addPart_67 : decode cX4_addPart 67 = .ok (.ior, 1) := by decide +kernel
theorem dX4_addPart_68 : decode cX4_addPart 68 = .ok (.putfield 55, 3) := by decide +kernel
theorem dX4_addPart_71 : decode cX4_addPart 71 = .ok (.aload_n 0, 1) := by decide +kernel
theorem dX4_addPart_72 : decode cX4_addPart 72 = .ok (.dup, 1) := by decide +kernel
theorem dX4_addPart_73 : decode cX4_addPart 73 = .ok (.getfield 46, 3) := by decide +kernel
theorem dX4_addPart_76 : decode cX4_addPart 76 = .ok (.iconst 1, 1) := by decide +kernel
theorem dX4_addPart_77 : decode cX4_addPart 77 = .ok (.iadd, 1) := by decide +kernel
theorem dX4_addPart_78 : decode cX4_addPart 78 = .ok (.putfield 46, 3) := by decide +kernel
theorem dX4_addPart_81 : decode cX4_addPart 81 = .ok (.iload 5, 2) := by decide +kernel
theorem dX4_addPart_83 : decode cX4_addPart 83 = .ok (.ireturn, 1) := by decide +kernel
theorem dX4_addBeast_0 : decode cX4_addBeast 0 = .ok (.aload_n 0, 1) := by decide +kernel
theorem dX4_addBeast_1 : decode cX4_addBeast 1 = .ok (.getfield 58, 3) := by decide +kernel
theorem dX4_addBeast_4 : decode cX4_addBeast 4 = .ok (.bipush 6, 2) := by decide +kernel
theorem dX4_addBeast_6 : decode cX4_addBeast 6 = .ok (.if_icmp .lt 5, 3) := by decide +kernel
theorem dX4_addBeast_9 : decode cX4_addBeast 9 = .ok (.iconst (-1), 1) := by decide +kernel
theorem dX4_addBeast_10 : decode cX4_addBeast 10 = .ok (.ireturn, 1) := by decide +kernel
theorem dX4_addBeast_11 : decode cX4_addBeast 11 = .ok (.aload_n 0, 1) := by decide +kernel
theorem dX4_addBeast_12 : decode cX4_addBeast 12 = .ok (.getfield 30, 3) := by decide +kernel
theorem dX4_addBeast_15 : decode cX4_addBeast 15 = .ok (.aload_n 0, 1) := by decide +kernel
theorem dX4_addBeast_16 : decode cX4_addBeast 16 = .ok (.getfield 58, 3) := by decide +kernel
theorem dX4_addBeast_19 : decode cX4_addBeast 19 = .ok (.iload_n 1, 1) := by decide +kernel
theorem dX4_addBeast_20 : decode cX4_addBeast 20 = .ok (.iastore, 1) := by decide +kernel
theorem dX4_addBeast_21 : decode cX4_addBeast 21 = .ok (.aload_n 0, 1) := by decide +kernel
theorem dX4_addBeast_22 : decode cX4_addBeast 22 = .ok (.dup, 1) := by decide +kernel
theorem dX4_addBeast_23 : decode cX4_addBeast 23 = .ok (.getfield 58, 3) := by decide +kernel
theorem dX4_addBeast_26 : decode cX4_addBeast 26 = .ok (.iconst 1, 1) := by decide +kernel
theorem dX4_addBeast_27 : decode cX4_addBeast 27 = .ok (.iadd, 1) := by decide +kernel
theorem dX4_addBeast_28 : decode cX4_addBeast 28 = .ok (.putfield 58, 3) := by decide +kernel
theorem dX4_addBeast_31 : decode cX4_addBeast 31 = .ok (.aload_n 0, 1) := by decide +kernel
theorem dX4_addBeast_32 : decode cX4_addBeast 32 = .ok (.getfield 58, 3) := by decide +kernel
theorem dX4_addBeast_35 : decode cX4_addBeast 35 = .ok (.iconst 1, 1) := by decide +kernel
theorem dX4_addBeast_36 : decode cX4_addBeast 36 = .ok (.isub, 1) := by decide +kernel
theorem dX4_addBeast_37 : decode cX4_addBeast 37 = .ok (.ireturn, 1) := by decide +kernel
theorem dX4_addCamp_0 : decode cX4_addCamp 0 = .ok (.aload_n 0, 1) := by decide +kernel
theorem dX4_addCamp_1 : decode cX4_addCamp 1 = .ok (.getfield 61, 3) := by decide +kernel
theorem dX4_addCamp_4 : decode cX4_addCamp 4 = .ok (.bipush 6, 2) := by decide +kernel
theorem dX4_addCamp_6 : decode cX4_addCamp 6 = .ok (.if_icmp .lt 5, 3) := by decide +kernel
theorem dX4_addCamp_9 : decode cX4_addCamp 9 = .ok (.iconst (-1), 1) := by decide +kernel
theorem dX4_addCamp_10 : decode cX4_addCamp 10 = .ok (.ireturn, 1) := by decide +kernel
theorem dX4_addCamp_11 : decode cX4_addCamp 11 = .ok (.aload_n 0, 1) := by decide +kernel
theorem dX4_addCamp_12 : decode cX4_addCamp 12 = .ok (.getfield 61, 3) := by decide +kernel
theorem dX4_addCamp_15 : decode cX4_addCamp 15 = .ok (.istore_n 2, 1) := by decide +kernel
theorem dX4_addCamp_16 : decode cX4_addCamp 16 = .ok (.aload_n 0, 1) := by decide +kernel
theorem dX4_addCamp_17 : decode cX4_addCamp 17 = .ok (.getfield 33, 3) := by decide +kernel
theorem dX4_addCamp_20 : decode cX4_addCamp 20 = .ok (.iload_n 2, 1) := by decide +kernel
theorem dX4_addCamp_21 : decode cX4_addCamp 21 = .ok (.iload_n 1, 1) := by decide +kernel
theorem dX4_addCamp_22 : decode cX4_addCamp 22 = .ok (.iastore, 1) := by decide +kernel
theorem dX4_addCamp_23 : decode cX4_addCamp 23 = .ok (.iconst 0, 1) := by decide +kernel
theorem dX4_addCamp_24 : decode cX4_addCamp 24 = .ok (.istore_n 3, 1) := by decide +kernel
theorem dX4_addCamp_25 : decode cX4_addCamp 25 = .ok (.iload_n 3, 1) := by decide +kernel
theorem dX4_addCamp_26 : decode cX4_addCamp 26 = .ok (.bipush 12, 2) := by decide +kernel
theorem dX4_addCamp_28 : decode cX4_addCamp 28 = .ok (.if_icmp .ge 21, 3) := by decide +kernel
theorem dX4_addCamp_31 : decode cX4_addCamp 31 = .ok (.aload_n 0, 1) := by decide +kernel
theorem dX4_addCamp_32 : decode cX4_addCamp 32 = .ok (.getfield 36, 3) := by decide +kernel
theorem dX4_addCamp_35 : decode cX4_addCamp 35 = .ok (.iload_n 2, 1) := by decide +kernel
theorem dX4_addCamp_36 : decode cX4_addCamp 36 = .ok (.bipush 12, 2) := by decide +kernel
theorem dX4_addCamp_38 : decode cX4_addCamp 38 = .ok (.imul, 1) := by decide +kernel
theorem dX4_addCamp_39 : decode cX4_addCamp 39 = .ok (.iload_n 3, 1) := by decide +kernel
theorem dX4_addCamp_40 : decode cX4_addCamp 40 = .ok (.iadd, 1) := by decide +kernel
theorem dX4_addCamp_41 : decode cX4_addCamp 41 = .ok (.iconst 0, 1) := by decide +kernel
theorem dX4_addCamp_42 : decode cX4_addCamp 42 = .ok (.iastore, 1) := by decide +kernel
theorem dX4_addCamp_43 : decode cX4_addCamp 43 = .ok (.iinc 3 1, 3) := by decide +kernel
theorem dX4_addCamp_46 : decode cX4_addCamp 46 = .ok (.goto (-21), 3) := by decide +kernel
theorem dX4_addCamp_49 : decode cX4_addCamp 49 = .ok (.aload_n 0, 1) := by decide +kernel
theorem dX4_addCamp_50 : decode cX4_addCamp 50 = .ok (.dup, 1) := by decide +kernel
theorem dX4_addCamp_51 : decode cX4_addCamp 51 = .ok (.getfield 61, 3) := by decide +kernel
theorem dX4_addCamp_54 : decode cX4_addCamp 54 = .ok (.iconst 1, 1) := by decide +kernel
theorem dX4_addCamp_55 : decode cX4_addCamp 55 = .ok (.iadd, 1) := by decide +kernel
theorem dX4_addCamp_56 : decode cX4_addCamp 56 = .ok (.putfield 61, 3) := by decide +kernel
theorem dX4_addCamp_59 : decode cX4_addCamp 59 = .ok (.iload_n 2, 1) := by decide +kernel
theorem dX4_addCamp_60 : decode cX4_addCamp 60 = .ok (.ireturn, 1) := by decide +kernel
theorem dX4_growOlder_0 : decode cX4_growOlder 0 = .ok (.aload_n 0, 1) := by decide +kernel
theorem dX4_growOlder_1 : decode cX4_growOlder 1 = .ok (.getfield 27, 3) := by decide +kernel
theorem dX4_growOlder_4 : decode cX4_growOlder 4 = .ok (.iconst 2, 1) := by decide +kernel
theorem dX4_growOlder_5 : decode cX4_growOlder 5 = .ok (.iaload, 1) := by decide +kernel
theorem dX4_growOlder_6 : decode cX4_growOlder 6 = .ok (.iconst 4, 1) := by decide +kernel
theorem dX4_growOlder_7 : decode cX4_growOlder 7 = .ok (.if_icmp .le 7, 3) := by decide +kernel
theorem dX4_growOlder_10 : decode cX4_growOlder 10 = .ok (.iconst 2, 1) := by decide +kernel
theorem dX4_growOlder_11 : decode cX4_growOlder 11 = .ok (.goto 4, 3) := by decide +kernel
theorem dX4_growOlder_14 : decode cX4_growOlder 14 = .ok (.iconst 1, 1) := by decide +kernel
theorem dX4_growOlder_15 : decode cX4_growOlder 15 = .ok (.istore_n 1, 1) := by decide +kernel
theorem dX4_growOlder_16 : decode cX4_growOlder 16 = .ok (.iconst 0, 1) := by decide +kernel
theorem dX4_growOlder_17 : decode cX4_growOlder 17 = .ok (.istore_n 2, 1) := by decide +kernel
theorem dX4_growOlder_18 : decode cX4_growOlder 18 = .ok (.iconst 0, 1) := by decide +kernel
theorem dX4_growOlder_19 : decode cX4_growOlder 19 = .ok (.istore_n 3, 1) := by decide +kernel
theorem dX4_growOlder_20 : decode cX4_growOlder 20 = .ok (.iload_n 3, 1) := by decide +kernel
theorem dX4_growOlder_21 : decode cX4_growOlder 21 = .ok (.aload_n 0, 1) := by decide +kernel
theorem dX4_growOlder_22 : decode cX4_growOlder 22 = .ok (.getfield 46, 3) := by decide +kernel
theorem dX4_growOlder_25 : decode cX4_growOlder 25 = .ok (.if_icmp .ge 65, 3) := by decide +kernel
theorem dX4_growOlder_28 : decode cX4_growOlder 28 = .ok (.aload_n 0, 1) := by decide +kernel
theorem dX4_growOlder_29 : decode cX4_growOlder 29 = .ok (.iload_n 3, 1) := by decide +kernel
theorem dX4_growOlder_30 : decode cX4_growOlder 30 = .ok (.invokevirtual 64, 3) := by decide +kernel
theorem dX4_growOlder_33 : decode cX4_growOlder 33 = .ok (.ifCond .ne 6, 3) := by decide +kernel
theorem dX4_growOlder_36 : decode cX4_growOlder 36 = .ok (.goto 48, 3) := by decide +kernel
theorem dX4_growOlder_39 : decode cX4_growOlder 39 = .ok (.aload_n 0, 1) := by decide +kernel
theorem dX4_growOlder_40 : decode cX4_growOlder 40 = .ok (.getfield 24, 3) := by decide +kernel
theorem dX4_growOlder_43 : decode cX4_growOlder 43 = .ok (.iload_n 3, 1) := by decide +kernel
theorem dX4_growOlder_44 : decode cX4_growOlder 44 = .ok (.dup2, 1) := by decide +kernel
theorem dX4_growOlder_45 : decode cX4_growOlder 45 = .ok (.iaload, 1) := by decide +kernel
theorem dX4_growOlder_46 : decode cX4_growOlder 46 = .ok (.iload_n 1, 1) := by decide +kernel
theorem dX4_growOlder_47 : decode cX4_growOlder 47 = .ok (.iadd, 1) := by decide +kernel
theorem dX4_growOlder_48 : decode cX4_growOlder 48 = .ok (.iastore, 1) := by decide +kernel
theorem dX4_growOlder_49 : decode cX4_growOlder 49 = .ok (.aload_n 0, 1) := by decide +kernel
theorem dX4_growOlder_50 : decode cX4_growOlder 50 = .ok (.getfield 24, 3) := by decide +kernel
theorem dX4_growOlder_53 : decode cX4_growOlder 53 = .ok (.iload_n 3, 1) := by decide +kernel
theorem dX4_growOlder_54 : decode cX4_growOlder 54 = .ok (.iaload, 1) := by decide +kernel
theorem dX4_growOlder_55 : decode cX4_growOlder 55 = .ok (.bipush 99, 2) := by decide +kernel
theorem dX4_growOlder_57 : decode cX4_growOlder 57 = .ok (.if_icmp .le 27, 3) := by decide +kernel
theorem dX4_growOlder_60 : decode cX4_growOlder 60 = .ok (.aload_n 0, 1) := by decide +kernel
theorem dX4_growOlder_61 : decode cX4_growOlder 61 = .ok (.getfield 24, 3) := by decide +kernel
theorem dX4_growOlder_64 : decode cX4_growOlder 64 = .ok (.iload_n 3, 1) := by decide +kernel
theorem dX4_growOlder_65 : decode cX4_growOlder 65 = .ok (.iconst 0, 1) := by decide +kernel
theorem dX4_growOlder_66 : decode cX4_growOlder 66 = .ok (.iastore, 1) := by decide +kernel
theorem dX4_growOlder_67 : decode cX4_growOlder 67 = .ok (.aload_n 0, 1) := by decide +kernel
theorem dX4_growOlder_68 : decode cX4_growOlder 68 = .ok (.dup, 1) := by decide +kernel
theorem dX4_growOlder_69 : decode cX4_growOlder 69 = .ok (.getfield 55, 3) := by decide +kernel
theorem dX4_growOlder_72 : decode cX4_growOlder 72 = .ok (.iconst 1, 1) := by decide +kernel
theorem dX4_growOlder_73 : decode cX4_growOlder 73 = .ok (.iload_n 3, 1) := by decide +kernel
theorem dX4_growOlder_74 : decode cX4_growOlder 74 = .ok (.ishl, 1) := by decide +kernel
theorem dX4_growOlder_75 : decode cX4_growOlder 75 = .ok (.iconst (-1), 1) := by decide +kernel
theorem dX4_growOlder_76 : decode cX4_growOlder 76 = .ok (.ixor, 1) := by decide +kernel
theorem dX4_growOlder_77 : decode cX4_growOlder 77 = .ok (.iand, 1) := by decide +kernel
theorem dX4_growOlder_78 : decode cX4_growOlder 78 = .ok (.putfield 55, 3) := by decide +kernel
theorem dX4_growOlder_81 : decode cX4_growOlder 81 = .ok (.iinc 2 1, 3) := by decide +kernel
theorem dX4_growOlder_84 : decode cX4_growOlder 84 = .ok (.iinc 3 1, 3) := by decide +kernel
theorem dX4_growOlder_87 : decode cX4_growOlder 87 = .ok (.goto (-67), 3) := by decide +kernel
theorem dX4_growOlder_90 : decode cX4_growOlder 90 = .ok (.iload_n 2, 1) := by decide +kernel
theorem dX4_growOlder_91 : decode cX4_growOlder 91 = .ok (.ireturn, 1) := by decide +kernel
theorem dX4_weightThere_0 : decode cX4_weightThere 0 = .ok (.iconst 0, 1) := by decide +kernel
theorem dX4_weightThere_1 : decode cX4_weightThere 1 = .ok (.istore_n 1, 1) := by decide +kernel
theorem dX4_weightThere_2 : decode cX4_weightThere 2 = .ok (.iconst 0, 1) := by decide +kernel
theorem dX4_weightThere_3 : decode cX4_weightThere 3 = .ok (.istore_n 2, 1) := by decide +kernel
theorem dX4_weightThere_4 : decode cX4_weightThere 4 = .ok (.iload_n 2, 1) := by decide +kernel
theorem dX4_weightThere_5 : decode cX4_weightThere 5 = .ok (.aload_n 0, 1) := by decide +kernel
theorem dX4_weightThere_6 : decode cX4_weightThere 6 = .ok (.getfield 46, 3) := by decide +kernel
theorem dX4_weightThere_9 : decode cX4_weightThere 9 = .ok (.if_icmp .ge 30, 3) := by decide +kernel
theorem dX4_weightThere_12 : decode cX4_weightThere 12 = .ok (.iload_n 1, 1) := by decide +kernel
theorem dX4_weightThere_13 : decode cX4_weightThere 13 = .ok (.aload_n 0, 1) := by decide +kernel
theorem dX4_weightThere_14 : decode cX4_weightThere 14 = .ok (.iload_n 2, 1) := by decide +kernel
theorem dX4_weightThere_15 : decode cX4_weightThere 15 = .ok (.invokevirtual 64, 3) := by decide +kernel
theorem dX4_weightThere_18 : decode cX4_weightThere 18 = .ok (.ifCond .eq 12, 3) := by decide +kernel
theorem dX4_weightThere_21 : decode cX4_weightThere 21 = .ok (.aload_n 0, 1) := by decide +kernel
theorem dX4_weightThere_22 : decode cX4_weightThere 22 = .ok (.getfield 21, 3) := by decide +kernel
theorem dX4_weightThere_25 : decode cX4_weightThere 25 = .ok (.iload_n 2, 1) := by decide +kernel
theorem dX4_weightThere_26 : decode cX4_weightThere 26 = .ok (.iaload, 1) := by decide +kernel
theorem dX4_weightThere_27 : decode cX4_weightThere 27 = .ok (.goto 4, 3) := by decide +kernel
theorem dX4_weightThere_30 : decode cX4_weightThere 30 = .ok (.iconst 0, 1) := by decide +kernel
theorem dX4_weightThere_31 : decode cX4_weightThere 31 = .ok (.iadd, 1) := by decide +kernel
theorem dX4_weightThere_32 : decode cX4_weightThere 32 = .ok (.istore_n 1, 1) := by decide +kernel
theorem dX4_weightThere_33 : decode cX4_weightThere 33 = .ok (.iinc 2 1, 3) := by decide +kernel
theorem dX4_weightThere_36 : decode cX4_weightThere 36 = .ok (.goto (-32), 3) := by decide +kernel
theorem dX4_weightThere_39 : decode cX4_weightThere 39 = .ok (.iload_n 1, 1) := by decide +kernel
theorem dX4_weightThere_40 : decode cX4_weightThere 40 = .ok (.ireturn, 1) := by decide +kernel
theorem dX4_monthCost_0 : decode cX4_monthCost 0 = .ok (.aload_n 0, 1) := by decide +kernel
theorem dX4_monthCost_1 : decode cX4_monthCost 1 = .ok (.getfield 36, 3) := by decide +kernel
theorem dX4_monthCost_4 : decode cX4_monthCost 4 = .ok (.iload_n 1, 1) := by decide +kernel
theorem dX4_monthCost_5 : decode cX4_monthCost 5 = .ok (.bipush 12, 2) := by decide +kernel
theorem dX4_monthCost_7 : decode cX4_monthCost 7 = .ok (.imul, 1) := by decide +kernel
theorem dX4_monthCost_8 : decode cX4_monthCost 8 = .ok (.iload_n 2, 1) := by decide +kernel
theorem dX4_monthCost_9 : decode cX4_monthCost 9 = .ok (.iadd, 1) := by decide +kernel
theorem dX4_monthCost_10 : decode cX4_monthCost 10 = .ok (.iaload, 1) := by decide +kernel
theorem dX4_monthCost_11 : decode cX4_monthCost 11 = .ok (.istore 4, 2) := by decide +kernel
theorem dX4_monthCost_13 : decode cX4_monthCost 13 = .ok (.iload_n 3, 1) := by decide +kernel
theorem dX4_monthCost_14 : decode cX4_monthCost 14 = .ok (.iconst 1, 1) := by decide +kernel
theorem dX4_monthCost_15 : decode cX4_monthCost 15 = .ok (.if_icmp .ne 12, 3) := by decide +kernel
theorem dX4_monthCost_18 : decode cX4_monthCost 18 = .ok (.iload 4, 2) := by decide +kernel
theorem dX4_monthCost_20 : decode cX4_monthCost 20 = .ok (.iconst 2, 1) := by decide +kernel
theorem dX4_monthCost_21 : decode cX4_monthCost 21 = .ok (.idiv, 1) := by decide +kernel
theorem dX4_monthCost_22 : decode cX4_monthCost 22 = .ok (.istore 4, 2) := by decide +kernel
theorem dX4_monthCost_24 : decode cX4_monthCost 24 = .ok (.goto 11, 3) := by decide +kernel
theorem dX4_monthCost_27 : decode cX4_monthCost 27 = .ok (.iload_n 3, 1) := by decide +kernel
theorem dX4_monthCost_28 : decode cX4_monthCost 28 = .ok (.iconst 1, 1) := by decide +kernel
theorem dX4_monthCost_29 : decode cX4_monthCost 29 = .ok (.if_icmp .le 6, 3) := by decide +kernel
theorem dX4_monthCost_32 : decode cX4_monthCost 32 = .ok (.iconst 0, 1) := by decide +kernel
theorem dX4_monthCost_33 : decode cX4_monthCost 33 = .ok (.istore 4, 2) := by decide +kernel
theorem dX4_monthCost_35 : decode cX4_monthCost 35 = .ok (.iconst 0, 1) := by decide +kernel
theorem dX4_monthCost_36 : decode cX4_monthCost 36 = .ok (.aload_n 0, 1) := by decide +kernel
theorem dX4_monthCost_37 : decode cX4_monthCost 37 = .ok (.getfield 39, 3) := by decide +kernel
theorem dX4_monthCost_40 : decode cX4_monthCost 40 = .ok (.iconst 0, 1) := by decide +kernel
theorem dX4_monthCost_41 : decode cX4_monthCost 41 = .ok (.iaload, 1) := by decide +kernel
theorem dX4_monthCost_42 : decode cX4_monthCost 42 = .ok (.iload 4, 2) := by decide +kernel
theorem dX4_monthCost_44 : decode cX4_monthCost 44 = .ok (.isub, 1) := by decide +kernel
theorem dX4_monthCost_45 : decode cX4_monthCost 45 = .ok (.invokestatic 68, 3) := by decide +kernel
theorem dX4_monthCost_48 : decode cX4_monthCost 48 = .ok (.ireturn, 1) := by decide +kernel
theorem dX4_moveCost_0 : decode cX4_moveCost 0 = .ok (.aload_n 0, 1) := by decide +kernel
theorem dX4_moveCost_1 : decode cX4_moveCost 1 = .ok (.getfield 39, 3) := by decide +kernel
theorem dX4_moveCost_4 : decode cX4_moveCost 4 = .ok (.iconst 1, 1) := by decide +kernel
theorem dX4_moveCost_5 : decode cX4_moveCost 5 = .ok (.iaload, 1) := by decide +kernel
theorem dX4_moveCost_6 : decode cX4_moveCost 6 = .ok (.aload_n 0, 1) := by decide +kernel
theorem dX4_moveCost_7 : decode cX4_moveCost 7 = .ok (.getfield 33, 3) := by decide +kernel
theorem dX4_moveCost_10 : decode cX4_moveCost 10 = .ok (.iload_n 1, 1) := by decide +kernel
theorem dX4_moveCost_11 : decode cX4_moveCost 11 = .ok (.iaload, 1) := by decide +kernel
theorem dX4_moveCost_12 : decode cX4_moveCost 12 = .ok (.aload_n 0, 1) := by decide +kernel
theorem dX4_moveCost_13 : decode cX4_moveCost 13 = .ok (.getfield 33, 3) := by decide +kernel
theorem dX4_moveCost_16 : decode cX4_moveCost 16 = .ok (.iload_n 2, 1) := by decide +kernel
theorem dX4_moveCost_17 : decode cX4_moveCost 17 = .ok (.iaload, 1) := by decide +kernel
theorem dX4_moveCost_18 : decode cX4_moveCost 18 = .ok (.isub, 1) := by decide +kernel
theorem dX4_moveCost_19 : decode cX4_moveCost 19 = .ok (.invokestatic 74, 3) := by decide +kernel
theorem dX4_moveCost_22 : decode cX4_moveCost 22 = .ok (.imul, 1) := by decide +kernel
theorem dX4_moveCost_23 : decode cX4_moveCost 23 = .ok (.aload_n 0, 1) := by decide +kernel
theorem dX4_moveCost_24 : decode cX4_moveCost 24 = .ok (.getfield 39, 3) := by decide +kernel
theorem dX4_moveCost_27 : decode cX4_moveCost 27 = .ok (.iconst 2, 1) := by decide +kernel
theorem dX4_moveCost_28 : decode cX4_moveCost 28 = .ok (.iaload, 1) := by decide +kernel
theorem dX4_moveCost_29 : decode cX4_moveCost 29 = .ok (.iadd, 1) := by decide +kernel
theorem dX4_moveCost_30 : decode cX4_moveCost 30 = .ok (.ireturn, 1) := by decide +kernel
theorem dX4_costOfRow_0 : decode cX4_costOfRow 0 = .ok (.iconst 0, 1) := by decide +kernel
theorem dX4_costOfRow_1 : decode cX4_costOfRow 1 = .ok (.istore_n 3, 1) := by decide +kernel
theorem dX4_costOfRow_2 : decode cX4_costOfRow 2 = .ok (.iconst 0, 1) := by decide +kernel
theorem dX4_costOfRow_3 : decode cX4_costOfRow 3 = .ok (.istore 4, 2) := by decide +kernel
theorem dX4_costOfRow_5 : decode cX4_costOfRow 5 = .ok (.iconst (-1), 1) := by decide +kernel
theorem dX4_costOfRow_6 : decode cX4_costOfRow 6 = .ok (.istore 5, 2) := by decide +kernel
theorem dX4_costOfRow_8 : decode cX4_costOfRow 8 = .ok (.iconst 0, 1) := by decide +kernel
theorem dX4_costOfRow_9 : decode cX4_costOfRow 9 = .ok (.istore 6, 2) := by decide +kernel
theorem dX4_costOfRow_11 : decode cX4_costOfRow 11 = .ok (.iload 6, 2) := by decide +kernel
theorem dX4_costOfRow_13 : decode cX4_costOfRow 13 = .ok (.aload_n 1, 1) := by decide +kernel
theorem dX4_costOfRow_14 : decode cX4_costOfRow 14 = .ok (.getfield 78, 3) := by decide +kernel
theorem dX4_costOfRow_17 : decode cX4_costOfRow 17 = .ok (.if_icmp .ge 85, 3) := by decide +kernel
theorem dX4_costOfRow_20 : decode cX4_costOfRow 20 = .ok (.aload_n 1, 1) := by decide +kernel
theorem dX4_costOfRow_21 : decode cX4_costOfRow 21 = .ok (.getfield 83, 3) := by decide +kernel
theorem dX4_costOfRow_24 : decode cX4_costOfRow 24 = .ok (.iload 6, 2) := by decide +kernel
theorem dX4_costOfRow_26 : decode cX4_costOfRow 26 = .ok (.laload, 1) := by decide +kernel
theorem dX4_costOfRow_27 : decode cX4_costOfRow 27 = .ok (.l2i, 1) := by decide +kernel
theorem dX4_costOfRow_28 : decode cX4_costOfRow 28 = .ok (.istore 7, 2) := by decide +kernel
theorem dX4_costOfRow_30 : decode cX4_costOfRow 30 = .ok (.iload 7, 2) := by decide +kernel
theorem dX4_costOfRow_32 : decode cX4_costOfRow 32 = .ok (.iload 5, 2) := by decide +kernel
theorem dX4_costOfRow_34 : decode cX4_costOfRow 34 = .ok (.if_icmp .ne 16, 3) := by decide +kernel
theorem dX4_costOfRow_37 : decode cX4_costOfRow 37 = .ok (.iload 4, 2) := by decide +kernel
theorem dX4_costOfRow_39 : decode cX4_costOfRow 39 = .ok (.iconst 1, 1) := by decide +kernel
theorem dX4_costOfRow_40 : decode cX4_costOfRow 40 = .ok (.iadd, 1) := by decide +kernel
theorem dX4_costOfRow_41 : decode cX4_costOfRow 41 = .ok (.iconst 2, 1) := by decide +kernel
theorem dX4_costOfRow_42 : decode cX4_costOfRow 42 = .ok (.invokestatic 87, 3) := by decide +kernel
theorem dX4_costOfRow_45 : decode cX4_costOfRow 45 = .ok (.istore 4, 2) := by decide +kernel
theorem dX4_costOfRow_47 : decode cX4_costOfRow 47 = .ok (.goto 27, 3) := by decide +kernel
theorem dX4_costOfRow_50 : decode cX4_costOfRow 50 = .ok (.iconst 0, 1) := by decide +kernel
theorem dX4_costOfRow_51 : decode cX4_costOfRow 51 = .ok (.istore 4, 2) := by decide +kernel
theorem dX4_costOfRow_53 : decode cX4_costOfRow 53 = .ok (.iload_n 3, 1) := by decide +kernel
theorem dX4_costOfRow_54 : decode cX4_costOfRow 54 = .ok (.iload 5, 2) := by decide +kernel
theorem dX4_costOfRow_56 : decode cX4_costOfRow 56 = .ok (.iconst (-1), 1) := by decide +kernel
theorem dX4_costOfRow_57 : decode cX4_costOfRow 57 = .ok (.if_icmp .ne 7, 3) := by decide +kernel
theorem dX4_costOfRow_60 : decode cX4_costOfRow 60 = .ok (.iconst 0, 1) := by decide +kernel
theorem dX4_costOfRow_61 : decode cX4_costOfRow 61 = .ok (.goto 11, 3) := by decide +kernel
theorem dX4_costOfRow_64 : decode cX4_costOfRow 64 = .ok (.aload_n 0, 1) := by decide +kernel
theorem dX4_costOfRow_65 : decode cX4_costOfRow 65 = .ok (.iload 5, 2) := by decide +kernel
theorem dX4_costOfRow_67 : decode cX4_costOfRow 67 = .ok (.iload 7, 2) := by decide +kernel
theorem dX4_costOfRow_69 : decode cX4_costOfRow 69 = .ok (.invokevirtual 90, 3) := by decide +kernel
theorem dX4_costOfRow_72 : decode cX4_costOfRow 72 = .ok (.iadd, 1) := by decide +kernel
theorem dX4_costOfRow_73 : decode cX4_costOfRow 73 = .ok (.istore_n 3, 1) := by decide +kernel
theorem dX4_costOfRow_74 : decode cX4_costOfRow 74 = .ok (.iload_n 3, 1) := by decide +kernel
theorem dX4_costOfRow_75 : decode cX4_costOfRow 75 = .ok (.aload_n 0, 1) := by decide +kernel
theorem dX4_costOfRow_76 : decode cX4_costOfRow 76 = .ok (.iload 7, 2) := by decide +kernel
theorem dX4_costOfRow_78 : decode cX4_costOfRow 78 = .ok (.iload_n 2, 1) := by decide +kernel
theorem dX4_costOfRow_79 : decode cX4_costOfRow 79 = .ok (.iload 6, 2) := by decide +kernel
theorem dX4_costOfRow_81 : decode cX4_costOfRow 81 = .ok (.iadd, 1) := by decide +kernel
theorem dX4_costOfRow_82 : decode cX4_costOfRow 82 = .ok (.bipush 12, 2) := by decide +kernel
theorem dX4_costOfRow_84 : decode cX4_costOfRow 84 = .ok (.irem, 1) := by decide +kernel
theorem dX4_costOfRow_85 : decode cX4_costOfRow 85 = .ok (.iload 4, 2) := by decide +kernel
theorem dX4_costOfRow_87 : decode cX4_costOfRow 87 = .ok (.invokevirtual 93, 3) := by decide +kernel
theorem dX4_costOfRow_90 : decode cX4_costOfRow 90 = .ok (.iadd, 1) := by decide +kernel
theorem dX4_costOfRow_91 : decode cX4_costOfRow 91 = .ok (.istore_n 3, 1) := by decide +kernel
theorem dX4_costOfRow_92 : decode cX4_costOfRow 92 = .ok (.iload 7, 2) := by decide +kernel
theorem dX4_costOfRow_94 : decode cX4_costOfRow 94 = .ok (.istore 5, 2) := by decide +kernel
theorem dX4_costOfRow_96 : decode cX4_costOfRow 96 = .ok (.iinc 6 1, 3) := by decide +kernel
theorem dX4_costOfRow_99 : decode cX4_costOfRow 99 = .ok (.goto (-88), 3) := by decide +kernel
theorem dX4_costOfRow_102 : decode cX4_costOfRow 102 = .ok (.iload_n 3, 1) := by decide +kernel
theorem dX4_costOfRow_103 : decode cX4_costOfRow 103 = .ok (.ireturn, 1) := by decide +kernel
theorem dX5_init_0 : decode cX5_init 0 = .ok (.aload_n 0, 1) := by decide +kernel
theorem dX5_init_1 : decode cX5_init 1 = .ok (.invokespecial 3, 3) := by decide +kernel
theorem dX5_init_4 : decode cX5_init 4 = .ok (.aload_n 0, 1) := by decide +kernel
theorem dX5_init_5 : decode cX5_init 5 = .ok (.bipush 120, 2) := by decide +kernel
theorem dX5_init_7 : decode cX5_init 7 = .ok (.newarray .int, 2) := by decide +kernel
theorem dX5_init_9 : decode cX5_init 9 = .ok (.putfield 9, 3) := by decide +kernel
theorem dX5_init_12 : decode cX5_init 12 = .ok (.return_, 1) := by decide +kernel
theorem dX5_add_0 : decode cX5_add 0 = .ok (.aload_n 0, 1) := by decide +kernel
theorem dX5_add_1 : decode cX5_add 1 = .ok (.getfield 15, 3) := by decide +kernel
theorem dX5_add_4 : decode cX5_add 4 = .ok (.bipush 120, 2) := by decide +kernel
theorem dX5_add_6 : decode cX5_add 6 = .ok (.if_icmp .ge 23, 3) := by decide +kernel
theorem dX5_add_9 : decode cX5_add 9 = .ok (.aload_n 0, 1) := by decide +kernel
theorem dX5_add_10 : decode cX5_add 10 = .ok (.getfield 9, 3) := by decide +kernel
theorem dX5_add_13 : decode cX5_add 13 = .ok (.aload_n 0, 1) := by decide +kernel
theorem dX5_add_14 : decode cX5_add 14 = .ok (.getfield 15, 3) := by decide +kernel
theorem dX5_add_17 : decode cX5_add 17 = .ok (.iload_n 1, 1) := by decide +kernel
theorem dX5_add_18 : decode cX5_add 18 = .ok (.iastore, 1) := by decide +kernel
theorem dX5_add_19 : decode cX5_add 19 = .ok (.aload_n 0, 1) := by decide +kernel
theorem dX5_add_20 : decode cX5_add 20 = .ok (.dup, 1) := by decide +kernel
theorem dX5_add_21 : decode cX5_add 21 = .ok (.getfield 15, 3) := by decide +kernel
theorem dX5_add_24 : decode cX5_add 24 = .ok (.iconst 1, 1) := by decide +kernel
theorem dX5_add_25 : decode cX5_add 25 = .ok (.iadd, 1) := by decide +kernel
theorem dX5_add_26 : decode cX5_add 26 = .ok (.putfield 15, 3) := by decide +kernel
theorem dX5_add_29 : decode cX5_add 29 = .ok (.return_, 1) := by decide +kernel
theorem dX5_tellTo_0 : decode cX5_tellTo 0 = .ok (.aload_n 0, 1) := by decide +kernel
theorem dX5_tellTo_1 : decode cX5_tellTo 1 = .ok (.iconst 0, 1) := by decide +kernel
theorem dX5_tellTo_2 : decode cX5_tellTo 2 = .ok (.putfield 19, 3) := by decide +kernel
theorem dX5_tellTo_5 : decode cX5_tellTo 5 = .ok (.aload_n 0, 1) := by decide +kernel
theorem dX5_tellTo_6 : decode cX5_tellTo 6 = .ok (.invokevirtual 22, 3) := by decide +kernel
theorem dX5_tellTo_9 : decode cX5_tellTo 9 = .ok (.iconst 1, 1) := by decide +kernel
theorem dX5_tellTo_10 : decode cX5_tellTo 10 = .ok (.istore_n 2, 1) := by decide +kernel
theorem dX5_tellTo_11 : decode cX5_tellTo 11 = .ok (.iload_n 2, 1) := by decide +kernel
theorem dX5_tellTo_12 : decode cX5_tellTo 12 = .ok (.bipush 120, 2) := by decide +kernel
theorem dX5_tellTo_14 : decode cX5_tellTo 14 = .ok (.if_icmp .gt 52, 3) := by decide +kernel
theorem dX5_tellTo_17 : decode cX5_tellTo 17 = .ok (.aload_n 0, 1) := by decide +kernel
theorem dX5_tellTo_18 : decode cX5_tellTo 18 = .ok (.aload_n 1, 1) := by decide +kernel
theorem dX5_tellTo_19 : decode cX5_tellTo 19 = .ok (.invokevirtual 25, 3) := by decide +kernel
theorem dX5_tellTo_22 : decode cX5_tellTo 22 = .ok (.ifCond .ne 10, 3) := by decide +kernel
theorem dX5_tellTo_25 : decode cX5_tellTo 25 = .ok (.iconst (-1), 1) := by decide +kernel
theorem dX5_tellTo_26 : decode cX5_tellTo 26 = .ok (.aload_n 0, 1) := by decide +kernel
theorem dX5_tellTo_27 : decode cX5_tellTo 27 = .ok (.getfield 29, 3) := by decide +kernel
theorem dX5_tellTo_30 : decode cX5_tellTo 30 = .ok (.isub, 1) := by decide +kernel
theorem dX5_tellTo_31 : decode cX5_tellTo 31 = .ok (.ireturn, 1) := by decide +kernel
theorem dX5_tellTo_32 : decode cX5_tellTo 32 = .ok (.aload_n 0, 1) := by decide +kernel
theorem dX5_tellTo_33 : decode cX5_tellTo 33 = .ok (.getfield 32, 3) := by decide +kernel
theorem dX5_tellTo_36 : decode cX5_tellTo 36 = .ok (.ifCond .ne 5, 3) := by decide +kernel
theorem dX5_tellTo_39 : decode cX5_tellTo 39 = .ok (.iload_n 2, 1) := by decide +kernel
theorem dX5_tellTo_40 : decode cX5_tellTo 40 = .ok (.ireturn, 1) := by decide +kernel
theorem dX5_tellTo_41 : decode cX5_tellTo 41 = .ok (.aload_n 0, 1) := by decide +kernel
theorem dX5_tellTo_42 : decode cX5_tellTo 42 = .ok (.getfield 32, 3) := by decide +kernel
theorem dX5_tellTo_45 : decode cX5_tellTo 45 = .ok (.iconst 3, 1) := by decide +kernel
theorem dX5_tellTo_46 : decode cX5_tellTo 46 = .ok (.if_icmp .eq 10, 3) := by decide +kernel
theorem dX5_tellTo_49 : decode cX5_tellTo 49 = .ok (.iconst (-1), 1) := by decide +kernel
theorem dX5_tellTo_50 : decode cX5_tellTo 50 = .ok (.aload_n 0, 1) := by decide +kernel
theorem dX5_tellTo_51 : decode cX5_tellTo 51 = .ok (.getfield 29, 3) := by decide +kernel
theorem dX5_tellTo_54 : decode cX5_tellTo 54 = .ok (.isub, 1) := by decide +kernel
theorem dX5_tellTo_55 : decode cX5_tellTo 55 = .ok (.ireturn, 1) := by decide +kernel
theorem dX5_tellTo_56 : decode cX5_tellTo 56 = .ok (.aload_n 0, 1) := by decide +kernel
theorem dX5_tellTo_57 : decode cX5_tellTo 57 = .ok (.invokevirtual 22, 3) := by decide +kernel
theorem dX5_tellTo_60 : decode cX5_tellTo 60 = .ok (.iinc 2 1, 3) := by decide +kernel
theorem dX5_tellTo_63 : decode cX5_tellTo 63 = .ok (.goto (-52), 3) := by decide +kernel
theorem dX5_tellTo_66 : decode cX5_tellTo 66 = .ok (.iconst (-1), 1) := by decide +kernel
theorem dX5_tellTo_67 : decode cX5_tellTo 67 = .ok (.aload_n 0, 1) := by decide +kernel
theorem dX5_tellTo_68 : decode cX5_tellTo 68 = .ok (.getfield 29, 3) := by decide +kernel
theorem dX5_tellTo_71 : decode cX5_tellTo 71 = .ok (.isub, 1) := by decide +kernel
theorem dX5_tellTo_72 : decode cX5_tellTo 72 = .ok (.ireturn, 1) := by decide +kernel
theorem dX5_takeItem_0 : decode cX5_takeItem 0 = .ok (.aload_n 0, 1) := by decide +kernel
theorem dX5_takeItem_1 : decode cX5_takeItem 1 = .ok (.getfield 32, 3) := by decide +kernel
theorem dX5_takeItem_4 : decode cX5_takeItem 4 = .ok (.iconst 1, 1) := by decide +kernel
theorem dX5_takeItem_5 : decode cX5_takeItem 5 = .ok (.if_icmp .eq 5, 3) := by decide +kernel
theorem dX5_takeItem_8 : decode cX5_takeItem 8 = .ok (.iconst 0, 1) := by decide +kernel
theorem dX5_takeItem_9 : decode cX5_takeItem 9 = .ok (.ireturn, 1) := by decide +kernel
theorem dX5_takeItem_10 : decode cX5_takeItem 10 = .ok (.iconst 0, 1) := by decide +kernel
theorem dX5_takeItem_11 : decode cX5_takeItem 11 = .ok (.istore_n 2, 1) := by decide +kernel
theorem dX5_takeItem_12 : decode cX5_takeItem 12 = .ok (.iload_n 2, 1) := by decide +kernel
theorem dX5_takeItem_13 : decode cX5_takeItem 13 = .ok (.bipush 7, 2) := by decide +kernel
theorem dX5_takeItem_15 : decode cX5_takeItem 15 = .ok (.if_icmp .ge 27, 3) := by decide +kernel
theorem dX5_takeItem_18 : decode cX5_takeItem 18 = .ok (.aload_n 0, 1) := by decide +kernel
theorem dX5_takeItem_19 : decode cX5_takeItem 19 = .ok (.iload_n 2, 1) := by decide +kernel
theorem dX5_takeItem_20 : decode cX5_takeItem 20 = .ok (.invokestatic 35, 3) := by decide +kernel
theorem dX5_takeItem_23 : decode cX5_takeItem 23 = .ok (.invokevirtual 39, 3) := by decide +kernel
theorem dX5_takeItem_26 : decode cX5_takeItem 26 = .ok (.ifCond .eq 10, 3) := by decide +kernel
theorem dX5_takeItem_29 : decode cX5_takeItem 29 = .ok (.aload_n 0, 1) := by decide +kernel
theorem dX5_takeItem_30 : decode cX5_takeItem 30 = .ok (.aload_n 1, 1) := by decide +kernel
theorem dX5_takeItem_31 : decode cX5_takeItem 31 = .ok (.iload_n 2, 1) := by decide +kernel
theorem dX5_takeItem_32 : decode cX5_takeItem 32 = .ok (.invokevirtual 43, 3) := by decide +kernel
theorem dX5_takeItem_35 : decode cX5_takeItem 35 = .ok (.ireturn, 1) := by decide +kernel
theorem dX5_takeItem_36 : decode cX5_takeItem 36 = .ok (.iinc 2 1, 3) := by decide +kernel
theorem dX5_takeItem_39 : decode cX5_takeItem 39 = .ok (.goto (-27), 3) := by decide +kernel
theorem dX5_takeItem_42 : decode cX5_takeItem 42 = .ok (.aload_n 0, 1) := by decide +kernel
theorem dX5_takeItem_43 : decode cX5_takeItem 43 = .ok (.ldc 47, 2) := by decide +kernel
theorem dX5_takeItem_45 : decode cX5_takeItem 45 = .ok (.invokevirtual 39, 3) := by decide +kernel
theorem dX5_takeItem_48 : decode cX5_takeItem 48 = .ok (.ifCond .eq 9, 3) := by decide +kernel
theorem dX5_takeItem_51 : decode cX5_takeItem 51 = .ok (.aload_n 0, 1) := by decide +kernel
theorem dX5_takeItem_52 : decode cX5_takeItem 52 = .ok (.aload_n 1, 1) := by decide +kernel
theorem dX5_takeItem_53 : decode cX5_takeItem 53 = .ok (.invokevirtual 49, 3) := by decide +kernel
theorem dX5_takeItem_56 : decode cX5_takeItem 56 = .ok (.ireturn, 1) := by decide +kernel
theorem dX5_takeItem_57 : decode cX5_takeItem 57 = .ok (.aload_n 0, 1) := by decide +kernel
theorem dX5_takeItem_58 : decode cX5_takeItem 58 = .ok (.ldc 52, 2) := by decide +kernel
theorem dX5_takeItem_60 : decode cX5_takeItem 60 = .ok (.invokevirtual 39, 3) := by decide +kernel
theorem dX5_takeItem_63 : decode cX5_takeItem 63 = .ok (.ifCond .eq 9, 3) := by decide +kernel
theorem dX5_takeItem_66 : decode cX5_takeItem 66 = .ok (.aload_n 0, 1) := by decide +kernel
theorem dX5_takeItem_67 : decode cX5_takeItem 67 = .ok (.aload_n 1, 1) := by decide +kernel
theorem dX5_takeItem_68 : decode cX5_takeItem 68 = .ok (.invokevirtual 54, 3) := by decide +kernel
theorem dX5_takeItem_71 : decode cX5_takeItem 71 = .ok (.ireturn, 1) := by decide +kernel
theorem dX5_takeItem_72 : decode cX5_takeItem 72 = .ok (.aload_n 0, 1) := by decide +kernel
theorem dX5_takeItem_73 : decode cX5_takeItem 73 = .ok (.ldc 57, 2) := by decide +kernel
theorem dX5_takeItem_75 : decode cX5_takeItem 75 = .ok (.invokevirtual 39, 3) := by decide +kernel
theorem dX5_takeItem_78 : decode cX5_takeItem 78 = .ok (.ifCond .eq 15, 3) := by decide +kernel
theorem dX5_takeItem_81 : decode cX5_takeItem 81 = .ok (.aload_n 0, 1) := by decide +kernel
theorem dX5_takeItem_82 : decode cX5_takeItem 82 = .ok (.aload_n 1, 1) := by decide +kernel
theorem dX5_takeItem_83 : decode cX5_takeItem 83 = .ok (.invokevirtual 59, 3) := by decide +kernel
theorem dX5_takeItem_86 : decode cX5_takeItem 86 = .ok (.ifCond .eq 7, 3) := by decide +kernel
theorem dX5_takeItem_89 : decode cX5_takeItem 89 = .ok (.iconst 1, 1) := by decide +kernel
theorem dX5_takeItem_90 : decode cX5_takeItem 90 = .ok (.goto 4, 3) := by decide +kernel
theorem dX5_takeItem_93 : decode cX5_takeItem 93 = .ok (.iconst 0, 1) := by decide +kernel
theorem dX5_takeItem_94 : decode cX5_takeItem 94 = .ok (.ireturn, 1) := by decide +kernel
theorem dX5_takePart_0 : decode cX5_takePart 0 = .ok (.aload_n 1, 1) := by decide +kernel
theorem dX5_takePart_1 : decode cX5_takePart 1 = .ok (.getfield 62, 3) := by decide +kernel
theorem dX5_takePart_4 : decode cX5_takePart 4 = .ok (.bipush 20, 2) := by decide +kernel
theorem dX5_takePart_6 : decode cX5_takePart 6 = .ok (.if_icmp .lt 5, 3) := by decide +kernel
theorem dX5_takePart_9 : decode cX5_takePart 9 = .ok (.iconst 0, 1) := by decide +kernel
theorem dX5_takePart_10 : decode cX5_takePart 10 = .ok (.ireturn, 1) := by decide +kernel
theorem dX5_takePart_11 : decode cX5_takePart 11 = .ok (.aload_n 0, 1) := by decide +kernel
theorem dX5_takePart_12 : decode cX5_takePart 12 = .ok (.invokevirtual 22, 3) := by decide +kernel
theorem dX5_takePart_15 : decode cX5_takePart 15 = .ok (.aload_n 0, 1) := by decide +kernel
theorem dX5_takePart_16 : decode cX5_takePart 16 = .ok (.iconst 0, 1) := by decide +kernel
theorem dX5_takePart_17 : decode cX5_takePart 17 = .ok (.bipush 7, 2) := by decide +kernel
theorem dX5_takePart_19 : decode cX5_takePart 19 = .ok (.invokevirtual 67, 3) := by decide +kernel
theorem dX5_takePart_22 : decode cX5_takePart 22 = .ok (.ifCond .ne 5, 3) := by decide +kernel
theorem dX5_takePart_25 : decode cX5_takePart 25 = .ok (.iconst 0, 1) := by decide +kernel
theorem dX5_takePart_26 : decode cX5_takePart 26 = .ok (.ireturn, 1) := by decide +kernel
theorem dX5_takePart_27 : decode cX5_takePart 27 = .ok (.aload_n 0, 1) := by decide +kernel
theorem dX5_takePart_28 : decode cX5_takePart 28 = .ok (.getfield 71, 3) := by decide +kernel
theorem dX5_takePart_31 : decode cX5_takePart 31 = .ok (.istore_n 3, 1) := by decide +kernel
theorem dX5_takePart_32 : decode cX5_takePart 32 = .ok (.aload_n 0, 1) := by decide +kernel
theorem dX5_takePart_33 : decode cX5_takePart 33 = .ok (.invokevirtual 22, 3) := by decide +kernel
theorem dX5_takePart_36 : decode cX5_takePart 36 = .ok (.aload_n 0, 1) := by decide +kernel
theorem dX5_takePart_37 : decode cX5_takePart 37 = .ok (.iconst 1, 1) := by decide +kernel
theorem dX5_takePart_38 : decode cX5_takePart 38 = .ok (.sipush 999, 3) := by decide +kernel
theorem dX5_takePart_41 : decode cX5_takePart 41 = .ok (.invokevirtual 67, 3) := by decide +kernel
theorem dX5_takePart_44 : decode cX5_takePart 44 = .ok (.ifCond .ne 5, 3) := by decide +kernel
theorem dX5_takePart_47 : decode cX5_takePart 47 = .ok (.iconst 0, 1) := by decide +kernel
theorem dX5_takePart_48 : decode cX5_takePart 48 = .ok (.ireturn, 1) := by decide +kernel
theorem dX5_takePart_49 : decode cX5_takePart 49 = .ok (.aload_n 1, 1) := by decide +kernel
theorem dX5_takePart_50 : decode cX5_takePart 50 = .ok (.iload_n 2, 1) := by decide +kernel
theorem dX5_takePart_51 : decode cX5_takePart 51 = .ok (.iload_n 3, 1) := by decide +kernel
theorem dX5_takePart_52 : decode cX5_takePart 52 = .ok (.aload_n 0, 1) := by decide +kernel
theorem dX5_takePart_53 : decode cX5_takePart 53 = .ok (.getfield 71, 3) := by decide +kernel
theorem dX5_takePart_56 : decode cX5_takePart 56 = .ok (.iconst 0, 1) := by decide +kernel
theorem dX5_takePart_57 : decode cX5_takePart 57 = .ok (.invokevirtual 74, 3) := by decide +kernel
theorem dX5_takePart_60 : decode cX5_takePart 60 = .ok (.istore 4, 2) := by decide +kernel
theorem dX5_takePart_62 : decode cX5_takePart 62 = .ok (.aload_n 0, 1) := by decide +kernel
theorem dX5_takePart_63 : decode cX5_takePart 63 = .ok (.invokevirtual 22, 3) := by decide +kernel
theorem dX5_takePart_66 : decode cX5_takePart 66 = .ok (.aload_n 0, 1) := by decide +kernel
theorem dX5_takePart_67 : decode cX5_takePart 67 = .ok (.ldc 78, 2) := by decide +kernel
theorem dX5_takePart_69 : decode cX5_takePart 69 = .ok (.aload_n 1, 1) := by decide +kernel
theorem dX5_takePart_70 : decode cX5_takePart 70 = .ok (.getfield 80, 3) := by decide +kernel
theorem dX5_takePart_73 : decode cX5_takePart 73 = .ok (.iload 4, 2) := by decide +kernel
theorem dX5_takePart_75 : decode cX5_takePart 75 = .ok (.bipush 99, 2) := by decide +kernel
theorem dX5_takePart_77 : decode cX5_takePart 77 = .ok (.invokevirtual 83, 3) := by decide +kernel
theorem dX5_takePart_80 : decode cX5_takePart 80 = .ok (.ifCond .eq 24, 3) := by decide +kernel
theorem dX5_takePart_83 : decode cX5_takePart 83 = .ok (.aload_n 0, 1) := by decide +kernel
theorem dX5_takePart_84 : decode cX5_takePart 84 = .ok (.ldc 87, 2) := by decide +kernel
theorem dX5_takePart_86 : decode cX5_takePart 86 = .ok (.aload_n 1, 1) := by decide +kernel
theorem dX5_takePart_87 : decode cX5_takePart 87 = .ok (.getfield 89, 3) := by decide +kernel
theorem dX5_takePart_90 : decode cX5_takePart 90 = .ok (.iload 4, 2) := by decide +kernel
theorem dX5_takePart_92 : decode cX5_takePart 92 = .ok (.bipush 99, 2) := by decide +kernel
theorem dX5_takePart_94 : decode cX5_takePart 94 = .ok (.invokevirtual 83, 3) := by decide +kernel
theorem dX5_takePart_97 : decode cX5_takePart 97 = .ok (.ifCond .eq 7, 3) := by decide +kernel
theorem dX5_takePart_100 : decode cX5_takePart 100 = .ok (.iconst 1, 1) := by decide +kernel
theorem dX5_takePart_101 : decode cX5_takePart 101 = .ok (.goto 4, 3) := by decide +kernel
theorem dX5_takePart_104 : decode cX5_takePart 104 = .ok (.iconst 0, 1) := by decide +kernel
theorem dX5_takePart_105 : decode cX5_takePart 105 = .ok (.ireturn, 1) := by decide +kernel
theorem dX5_takePerhaps_0 : decode cX5_takePerhaps 0 = .ok (.aload_n 0, 1) := by decide +kernel
theorem dX5_takePerhaps_1 : decode cX5_takePerhaps 1 = .ok (.getfield 32, 3) := by decide +kernel
theorem dX5_takePerhaps_4 : decode cX5_takePerhaps 4 = .ok (.iconst 1, 1) := by decide +kernel
theorem dX5_takePerhaps_5 : decode cX5_takePerhaps 5 = .ok (.if_icmp .ne 11, 3) := by decide +kernel
theorem dX5_takePerhaps_8 : decode cX5_takePerhaps 8 = .ok (.aload_n 0, 1) := by decide +kernel
theorem dX5_takePerhaps_9 : decode cX5_takePerhaps 9 = .ok (.aload_n 1, 1) := by decide +kernel
theorem dX5_takePerhaps_10 : decode cX5_takePerhaps 10 = .ok (.invokevirtual 39, 3) := by decide +kernel
theorem dX5_takePerhaps_13 : decode cX5_takePerhaps 13 = .ok (.ifCond .ne 5, 3) := by decide +kernel
theorem dX5_takePerhaps_16 : decode cX5_takePerhaps 16 = .ok (.iconst 1, 1) := by decide +kernel
theorem dX5_takePerhaps_17 : decode cX5_takePerhaps 17 = .ok (.ireturn, 1) := by decide +kernel
theorem dX5_takePerhaps_18 : decode cX5_takePerhaps 18 = .ok (.aload_n 0, 1) := by decide +kernel
theorem dX5_takePerhaps_19 : decode cX5_takePerhaps 19 = .ok (.invokevirtual 22, 3) := by decide +kernel
theorem dX5_takePerhaps_22 : decode cX5_takePerhaps 22 = .ok (.aload_n 0, 1) := by decide +kernel
theorem dX5_takePerhaps_23 : decode cX5_takePerhaps 23 = .ok (.iconst 0, 1) := by decide +kernel
theorem dX5_takePerhaps_24 : decode cX5_takePerhaps 24 = .ok (.iload 4, 2) := by decide +kernel
theorem dX5_takePerhaps_26 : decode cX5_takePerhaps 26 = .ok (.invokevirtual 67, 3) := by decide +kernel
theorem dX5_takePerhaps_29 : decode cX5_takePerhaps 29 = .ok (.ifCond .eq 13, 3) := by decide +kernel
theorem dX5_takePerhaps_32 : decode cX5_takePerhaps 32 = .ok (.iload_n 3, 1) := by decide +kernel
theorem dX5_takePerhaps_33 : decode cX5_takePerhaps 33 = .ok (.ifCond .lt 9, 3) := by decide +kernel
theorem dX5_takePerhaps_36 : decode cX5_takePerhaps 36 = .ok (.iload_n 3, 1) := by decide +kernel
theorem dX5_takePerhaps_37 : decode cX5_takePerhaps 37 = .ok (.aload_n 2, 1) := by decide +kernel
theorem dX5_takePerhaps_38 : decode cX5_takePerhaps 38 = .ok (.arraylength, 1) := by decide +kernel
theorem dX5_takePerhaps_39 : decode cX5_takePerhaps 39 = .ok (.if_icmp .lt 5, 3) := by decide +kernel
theorem dX5_takePerhaps_42 : decode cX5_takePerhaps 42 = .ok (.iconst 0, 1) := by decide +kernel
theorem dX5_takePerhaps_43 : decode cX5_takePerhaps 43 = .ok (.ireturn, 1) := by decide +kernel
theorem dX5_takePerhaps_44 : decode cX5_takePerhaps 44 = .ok (.aload_n 2, 1) := by decide +kernel
theorem dX5_takePerhaps_45 : decode cX5_takePerhaps 45 = .ok (.iload_n 3, 1) := by decide +kernel
theorem dX5_takePerhaps_46 : decode cX5_takePerhaps 46 = .ok (.aload_n 0, 1) := by decide +kernel
theorem dX5_takePerhaps_47 : decode cX5_takePerhaps 47 = .ok (.getfield 71, 3) := by decide +kernel
theorem dX5_takePerhaps_50 : decode cX5_takePerhaps 50 = .ok (.iastore, 1) := by decide +kernel
theorem dX5_takePerhaps_51 : decode cX5_takePerhaps 51 = .ok (.aload_n 0, 1) := by decide +kernel
theorem dX5_takePerhaps_52 : decode cX5_takePerhaps 52 = .ok (.invokevirtual 22, 3) := by decide +kernel
theorem dX5_takePerhaps_55 : decode cX5_takePerhaps 55 = .ok (.iconst 1, 1) := by decide +kernel
theorem dX5_takePerhaps_56 : decode cX5_takePerhaps 56 = .ok (.ireturn, 1) := by decide +kernel
theorem dX5_takeCamp_0 : decode cX5_takeCamp 0 = .ok (.aload_n 1, 1) := by decide +kernel
theorem dX5_takeCamp_1 : decode cX5_takeCamp 1 = .ok (.getfield 92, 3) := by decide +kernel
theorem dX5_takeCamp_4 : decode cX5_takeCamp 4 = .ok (.bipush 6, 2) := by decide +kernel
theorem dX5_takeCamp_6 : decode cX5_takeCamp 6 = .ok (.if_icmp .lt 5, 3) := by decide +kernel
theorem dX5_takeCamp_9 : decode cX5_takeCamp 9 = .ok (.iconst 0, 1) := by decide +kernel
theorem dX5_takeCamp_10 : decode cX5_takeCamp 10 = .ok (.ireturn, 1) := by decide +kernel
theorem dX5_takeCamp_11 : decode cX5_takeCamp 11 = .ok (.aload_n 0, 1) := by decide +kernel
theorem dX5_takeCamp_12 : decode cX5_takeCamp 12 = .ok (.invokevirtual 22, 3) := by decide +kernel
theorem dX5_takeCamp_15 : decode cX5_takeCamp 15 = .ok (.aload_n 0, 1) := by decide +kernel
theorem dX5_takeCamp_16 : decode cX5_takeCamp 16 = .ok (.iconst 0, 1) := by decide +kernel
theorem dX5_takeCamp_17 : decode cX5_takeCamp 17 = .ok (.bipush 99, 2) := by decide +kernel
theorem dX5_takeCamp_19 : decode cX5_takeCamp 19 = .ok (.invokevirtual 67, 3) := by decide +kernel
theorem dX5_takeCamp_22 : decode cX5_takeCamp 22 = .ok (.ifCond .ne 5, 3) := by decide +kernel
theorem dX5_takeCamp_25 : decode cX5_takeCamp 25 = .ok (.iconst 0, 1) := by decide +kernel
theorem dX5_takeCamp_26 : decode cX5_takeCamp 26 = .ok (.ireturn, 1) := by decide +kernel
theorem dX5_takeCamp_27 : decode cX5_takeCamp 27 = .ok (.aload_n 1, 1) := by decide +kernel
theorem dX5_takeCamp_28 : decode cX5_takeCamp 28 = .ok (.aload_n 0, 1) := by decide +kernel
theorem dX5_takeCamp_29 : decode cX5_takeCamp 29 = .ok (.getfield 71, 3) := by decide +kernel
theorem dX5_takeCamp_32 : decode cX5_takeCamp 32 = .ok (.invokevirtual 95, 3) := by decide +kernel
theorem dX5_takeCamp_35 : decode cX5_takeCamp 35 = .ok (.istore_n 2, 1) := by decide +kernel
theorem dX5_takeCamp_36 : decode cX5_takeCamp 36 = .ok (.aload_n 0, 1) := by decide +kernel
theorem dX5_takeCamp_37 : decode cX5_takeCamp 37 = .ok (.invokevirtual 22, 3) := by decide +kernel
theorem dX5_takeCamp_40 : decode cX5_takeCamp 40 = .ok (.aload_n 0, 1) := by decide +kernel
theorem dX5_takeCamp_41 : decode cX5_takeCamp 41 = .ok (.getfield 32, 3) := by decide +kernel
theorem dX5_takeCamp_44 : decode cX5_takeCamp 44 = .ok (.iconst 1, 1) := by decide +kernel
theorem dX5_takeCamp_45 : decode cX5_takeCamp 45 = .ok (.if_icmp .ne 21, 3) := by decide +kernel
theorem dX5_takeCamp_48 : decode cX5_takeCamp 48 = .ok (.aload_n 0, 1) := by decide +kernel
theorem dX5_takeCamp_49 : decode cX5_takeCamp 49 = .ok (.ldc 99, 2) := by decide +kernel
theorem dX5_takeCamp_51 : decode cX5_takeCamp 51 = .ok (.invokevirtual 39, 3) := by decide +kernel
theorem dX5_takeCamp_54 : decode cX5_takeCamp 54 = .ok (.ifCond .eq 12, 3) := by decide +kernel
theorem dX5_takeCamp_57 : decode cX5_takeCamp 57 = .ok (.aload_n 0, 1) := by decide +kernel
theorem dX5_takeCamp_58 : decode cX5_takeCamp 58 = .ok (.aload_n 1, 1) := by decide +kernel
theorem dX5_takeCamp_59 : decode cX5_takeCamp 59 = .ok (.iload_n 2, 1) := by decide +kernel
theorem dX5_takeCamp_60 : decode cX5_takeCamp 60 = .ok (.invokevirtual 101, 3) := by decide +kernel
theorem dX5_takeCamp_63 : decode cX5_takeCamp 63 = .ok (.ifCond .eq 7, 3) := by decide +kernel
theorem dX5_takeCamp_66 : decode cX5_takeCamp 66 = .ok (.iconst 1, 1) := by decide +kernel
theorem dX5_takeCamp_67 : decode cX5_takeCamp 67 = .ok (.goto 4, 3) := by decide +kernel
theorem dX5_takeCamp_70 : decode cX5_takeCamp 70 = .ok (.iconst 0, 1) := by decide +kernel
theorem dX5_takeCamp_71 : decode cX5_takeCamp 71 = .ok (.ireturn, 1) := by decide +kernel
theorem dX5_takeGrass_0 : decode cX5_takeGrass 0 = .ok (.aload_n 0, 1) := by decide +kernel
theorem dX5_takeGrass_1 : decode cX5_takeGrass 1 = .ok (.invokevirtual 22, 3) := by decide +kernel
theorem dX5_takeGrass_4 : decode cX5_takeGrass 4 = .ok (.iload_n 2, 1) := by decide +kernel
theorem dX5_takeGrass_5 : decode cX5_takeGrass 5 = .ok (.ifCond .lt 14, 3) := by decide +kernel
theorem dX5_takeGrass_8 : decode cX5_takeGrass 8 = .ok (.aload_n 0, 1) := by decide +kernel
theorem dX5_takeGrass_9 : decode cX5_takeGrass 9 = .ok (.iconst 0, 1) := by decide +kernel
theorem dX5_takeGrass_10 : decode cX5_takeGrass 10 = .ok (.sipush 999, 3) := by decide +kernel
theorem dX5_takeGrass_13 : decode cX5_takeGrass 13 = .ok (.invokevirtual 67, 3) := by decide +kernel
theorem dX5_takeGrass_16 : decode cX5_takeGrass 16 = .ok (.ifCond .ne 5, 3) := by decide +kernel
theorem dX5_takeGrass_19 : decode cX5_takeGrass 19 = .ok (.iconst 0, 1) := by decide +kernel
theorem dX5_takeGrass_20 : decode cX5_takeGrass 20 = .ok (.ireturn, 1) := by decide +kernel
theorem dX5_takeGrass_21 : decode cX5_takeGrass 21 = .ok (.iconst 0, 1) := by decide +kernel
theorem dX5_takeGrass_22 : decode cX5_takeGrass 22 = .ok (.istore_n 3, 1) := by decide +kernel
theorem dX5_takeGrass_23 : decode cX5_takeGrass 23 = .ok (.iload_n 3, 1) := by decide +kernel
theorem dX5_takeGrass_24 : decode cX5_takeGrass 24 = .ok (.bipush 12, 2) := by decide +kernel
theorem dX5_takeGrass_26 : decode cX5_takeGrass 26 = .ok (.if_icmp .ge 51, 3) := by decide +kernel
theorem dX5_takeGrass_29 : decode cX5_takeGrass 29 = .ok (.aload_n 0, 1) := by decide +kernel
theorem dX5_takeGrass_30 : decode cX5_takeGrass 30 = .ok (.getfield 32, 3) := by decide +kernel
theorem dX5_takeGrass_33 : decode cX5_takeGrass 33 = .ok (.iconst 2, 1) := by decide +kernel
theorem dX5_takeGrass_34 : decode cX5_takeGrass 34 = .ok (.if_icmp .eq 5, 3) := by decide +kernel
theorem dX5_takeGrass_37 : decode cX5_takeGrass 37 = .ok (.iconst 1, 1) := by decide +kernel
theorem dX5_takeGrass_38 : decode cX5_takeGrass 38 = .ok (.ireturn, 1) := by decide +kernel
theorem dX5_takeGrass_39 : decode cX5_takeGrass 39 = .ok (.aload_n 0, 1) := by decide +kernel
theorem dX5_takeGrass_40 : decode cX5_takeGrass 40 = .ok (.iconst 0, 1) := by decide +kernel
theorem dX5_takeGrass_41 : decode cX5_takeGrass 41 = .ok (.sipush 999, 3) := by decide +kernel
theorem dX5_takeGrass_44 : decode cX5_takeGrass 44 = .ok (.invokevirtual 67, 3) := by decide +kernel
theorem dX5_takeGrass_47 : decode cX5_takeGrass 47 = .ok (.ifCond .ne 5, 3) := by decide +kernel
theorem dX5_takeGrass_50 : decode cX5_takeGrass 50 = .ok (.iconst 0, 1) := by decide +kernel
theorem dX5_takeGrass_51 : decode cX5_takeGrass 51 = .ok (.ireturn, 1) := by decide +kernel
theorem dX5_takeGrass_52 : decode cX5_takeGrass 52 = .ok (.aload_n 1, 1) := by decide +kernel
theorem dX5_takeGrass_53 : decode cX5_takeGrass 53 = .ok (.getfield 104, 3) := by decide +kernel
theorem dX5_takeGrass_56 : decode cX5_takeGrass 56 = .ok (.iload_n 2, 1) := by decide +kernel
theorem dX5_takeGrass_57 : decode cX5_takeGrass 57 = .ok (.bipush 12, 2) := by decide +kernel
theorem dX5_takeGrass_59 : decode cX5_takeGrass 59 = .ok (.imul, 1) := by decide +kernel
theorem dX5_takeGrass_60 : decode cX5_takeGrass 60 = .ok (.iload_n 3, 1) := by decide +kernel
theorem dX5_takeGrass_61 : decode cX5_takeGrass 61 = .ok (.iadd, 1) := by decide +kernel
theorem dX5_takeGrass_62 : decode cX5_takeGrass 62 = .ok (.aload_n 0, 1) := by decide +kernel
theorem dX5_takeGrass_63 : decode cX5_takeGrass 63 = .ok (.getfield 71, 3) := by decide +kernel
theorem dX5_takeGrass_66 : decode cX5_takeGrass 66 = .ok (.iastore, 1) := by decide +kernel
theorem dX5_takeGrass_67 : decode cX5_takeGrass 67 = .ok (.aload_n 0, 1) := by decide +kernel
theorem dX5_takeGrass_68 : decode cX5_takeGrass 68 = .ok (.invokevirtual 22, 3) := by decide +kernel
theorem dX5_takeGrass_71 : decode cX5_takeGrass 71 = .ok (.iinc 3 1, 3) := by decide +kernel
theorem dX5_takeGrass_74 : decode cX5_takeGrass 74 = .ok (.goto (-51), 3) := by decide +kernel
theorem dX5_takeGrass_77 : decode cX5_takeGrass 77 = .ok (.aload_n 0, 1) := by decide +kernel
theorem dX5_takeGrass_78 : decode cX5_takeGrass 78 = .ok (.getfield 32, 3) := by decide +kernel
theorem dX5_takeGrass_81 : decode cX5_takeGrass 81 = .ok (.iconst 2, 1) := by decide +kernel
theorem dX5_takeGrass_82 : decode cX5_takeGrass 82 = .ok (.if_icmp .eq 7, 3) := by decide +kernel
theorem dX5_takeGrass_85 : decode cX5_takeGrass 85 = .ok (.iconst 1, 1) := by decide +kernel
theorem dX5_takeGrass_86 : decode cX5_takeGrass 86 = .ok (.goto 4, 3) := by decide +kernel
theorem dX5_takeGrass_89 : decode cX5_takeGrass 89 = .ok (.iconst 0, 1) := by decide +kernel
theorem dX5_takeGrass_90 : decode cX5_takeGrass 90 = .ok (.ireturn, 1) := by decide +kernel
theorem dX5_takeBeast_0 : decode cX5_takeBeast 0 = .ok (.aload_n 1, 1) := by decide +kernel
theorem dX5_takeBeast_1 : decode cX5_takeBeast 1 = .ok (.getfield 106, 3) := by decide +kernel
theorem dX5_takeBeast_4 : decode cX5_takeBeast 4 = .ok (.bipush 6, 2) := by decide +kernel
theorem dX5_takeBeast_6 : decode cX5_takeBeast 6 = .ok (.if_icmp .lt 5, 3) := by decide +kernel
theorem dX5_takeBeast_9 : decode cX5_takeBeast 9 = .ok (.iconst 0, 1) := by decide +kernel
theorem dX5_takeBeast_10 : decode cX5_takeBeast 10 = .ok (.ireturn, 1) := by decide +kernel
theorem dX5_takeBeast_11 : decode cX5_takeBeast 11 = .ok (.aload_n 0, 1) := by decide +kernel
theorem dX5_takeBeast_12 : decode cX5_takeBeast 12 = .ok (.invokevirtual 22, 3) := by decide +kernel
theorem dX5_takeBeast_15 : decode cX5_takeBeast 15 = .ok (.aload_n 0, 1) := by decide +kernel
theorem dX5_takeBeast_16 : decode cX5_takeBeast 16 = .ok (.iconst 1, 1) := by decide +kernel
theorem dX5_takeBeast_17 : decode cX5_takeBeast 17 = .ok (.sipush 999, 3) := by decide +kernel
theorem dX5_takeBeast_20 : decode cX5_takeBeast 20 = .ok (.invokevirtual 67, 3) := by decide +kernel
theorem dX5_takeBeast_23 : decode cX5_takeBeast 23 = .ok (.ifCond .ne 5, 3) := by decide +kernel
theorem dX5_takeBeast_26 : decode cX5_takeBeast 26 = .ok (.iconst 0, 1) := by decide +kernel
theorem dX5_takeBeast_27 : decode cX5_takeBeast 27 = .ok (.ireturn, 1) := by decide +kernel
theorem dX5_takeBeast_28 : decode cX5_takeBeast 28 = .ok (.aload_n 1, 1) := by decide +kernel
theorem dX5_takeBeast_29 : decode cX5_takeBeast 29 = .ok (.aload_n 0, 1) := by decide +kernel
theorem dX5_takeBeast_30 : decode cX5_takeBeast 30 = .ok (.getfield 71, 3) := by decide +kernel
theorem dX5_takeBeast_33 : decode cX5_takeBeast 33 = .ok (.invokevirtual 109, 3) := by decide +kernel
theorem dX5_takeBeast_36 : decode cX5_takeBeast 36 = .ok (.pop, 1) := by decide +kernel
theorem dX5_takeBeast_37 : decode cX5_takeBeast 37 = .ok (.aload_n 0, 1) := by decide +kernel
theorem dX5_takeBeast_38 : decode cX5_takeBeast 38 = .ok (.invokevirtual 22, 3) := by decide +kernel
theorem dX5_takeBeast_41 : decode cX5_takeBeast 41 = .ok (.iconst 1, 1) := by decide +kernel
theorem dX5_takeBeast_42 : decode cX5_takeBeast 42 = .ok (.ireturn, 1) := by decide +kernel
theorem dX5_takeDraw_0 : decode cX5_takeDraw 0 = .ok (.aload_n 0, 1) := by decide +kernel
theorem dX5_takeDraw_1 : decode cX5_takeDraw 1 = .ok (.invokevirtual 22, 3) := by decide +kernel
theorem dX5_takeDraw_4 : decode cX5_takeDraw 4 = .ok (.aload_n 0, 1) := by decide +kernel
theorem dX5_takeDraw_5 : decode cX5_takeDraw 5 = .ok (.iconst 0, 1) := by decide +kernel
theorem dX5_takeDraw_6 : decode cX5_takeDraw 6 = .ok (.bipush 99, 2) := by decide +kernel
theorem dX5_takeDraw_8 : decode cX5_takeDraw 8 = .ok (.invokevirtual 67, 3) := by decide +kernel
theorem dX5_takeDraw_11 : decode cX5_takeDraw 11 = .ok (.ifCond .ne 5, 3) := by decide +kernel
theorem dX5_takeDraw_14 : decode cX5_takeDraw 14 = .ok (.iconst 0, 1) := by decide +kernel
theorem dX5_takeDraw_15 : decode cX5_takeDraw 15 = .ok (.ireturn, 1) := by decide +kernel
theorem dX5_takeDraw_16 : decode cX5_takeDraw 16 = .ok (.aload_n 1, 1) := by decide +kernel
theorem dX5_takeDraw_17 : decode cX5_takeDraw 17 = .ok (.aload_n 0, 1) := by decide +kernel
theorem dX5_takeDraw_18 : decode cX5_takeDraw 18 = .ok (.getfield 71, 3) := by decide +kernel
theorem dX5_takeDraw_21 : decode cX5_takeDraw 21 = .ok (.putfield 112, 3) := by decide +kernel
theorem dX5_takeDraw_24 : decode cX5_takeDraw 24 = .ok (.aload_n 0, 1) := by decide +kernel
theorem dX5_takeDraw_25 : decode cX5_takeDraw 25 = .ok (.invokevirtual 22, 3) := by decide +kernel
theorem dX5_takeDraw_28 : decode cX5_takeDraw 28 = .ok (.iconst 1, 1) := by decide +kernel
theorem dX5_takeDraw_29 : decode cX5_takeDraw 29 = .ok (.ireturn, 1) := by decide +kernel
theorem dX5_isNumber_0 : decode cX5_isNumber 0 = .ok (.aload_n 0, 1) := by decide +kernel
theorem dX5_isNumber_1 : decode cX5_isNumber 1 = .ok (.getfield 32, 3) := by decide +kernel
theorem dX5_isNumber_4 : decode cX5_isNumber 4 = .ok (.iconst 2, 1) := by decide +kernel
theorem dX5_isNumber_5 : decode cX5_isNumber 5 = .ok (.if_icmp .ne 19, 3) := by decide +kernel
theorem dX5_isNumber_8 : decode cX5_isNumber 8 = .ok (.aload_n 0, 1) := by decide +kernel
theorem dX5_isNumber_9 : decode cX5_isNumber 9 = .ok (.getfield 71, 3) := by decide +kernel
theorem dX5_isNumber_12 : decode cX5_isNumber 12 = .ok (.iload_n 1, 1) := by decide +kernel
theorem dX5_isNumber_13 : decode cX5_isNumber 13 = .ok (.iload_n 2, 1) := by decide +kernel
theorem dX5_isNumber_14 : decode cX5_isNumber 14 = .ok (.invokestatic 114, 3) := by decide +kernel
theorem dX5_isNumber_17 : decode cX5_isNumber 17 = .ok (.ifCond .eq 7, 3) := by decide +kernel
theorem dX5_isNumber_20 : decode cX5_isNumber 20 = .ok (.iconst 1, 1) := by decide +kernel
theorem dX5_isNumber_21 : decode cX5_isNumber 21 = .ok (.goto 4, 3) := by decide +kernel
theorem dX5_isNumber_24 : decode cX5_isNumber 24 = .ok (.iconst 0, 1) := by decide +kernel
theorem dX5_isNumber_25 : decode cX5_isNumber 25 = .ok (.ireturn, 1) := by decide +kernel
theorem dX5_isWord_0 : decode cX5_isWord 0 = .ok (.aload_n 0, 1) := by decide +kernel
theorem dX5_isWord_1 : decode cX5_isWord 1 = .ok (.getfield 19, 3) := by decide +kernel
theorem dX5_isWord_4 : decode cX5_isWord 4 = .ok (.aload_n 0, 1) := by decide +kernel
theorem dX5_isWord_5 : decode cX5_isWord 5 = .ok (.getfield 29, 3) := by decide +kernel
theorem dX5_isWord_8 : decode cX5_isWord 8 = .ok (.isub, 1) := by decide +kernel
theorem dX5_isWord_9 : decode cX5_isWord 9 = .ok (.aload_n 1, 1) := by decide +kernel
theorem dX5_isWord_10 : decode cX5_isWord 10 = .ok (.invokevirtual 118, 3) := by decide +kernel
theorem dX5_isWord_13 : decode cX5_isWord 13 = .ok (.if_icmp .eq 5, 3) := by decide +kernel
theorem dX5_isWord_16 : decode cX5_isWord 16 = .ok (.iconst 0, 1) := by decide +kernel
theorem dX5_isWord_17 : decode cX5_isWord 17 = .ok (.ireturn, 1) := by decide +kernel
theorem dX5_isWord_18 : decode cX5_isWord 18 = .ok (.iconst 0, 1) := by decide +kernel
theorem dX5_isWord_19 : decode cX5_isWord 19 = .ok (.istore_n 2, 1) := by decide +kernel
theorem dX5_isWord_20 : decode cX5_isWord 20 = .ok (.iload_n 2, 1) := by decide +kernel
theorem dX5_isWord_21 : decode cX5_isWord 21 = .ok (.aload_n 1, 1) := by decide +kernel
theorem dX5_isWord_22 : decode cX5_isWord 22 = .ok (.invokevirtual 118, 3) := by decide +kernel
theorem dX5_isWord_25 : decode cX5_isWord 25 = .ok (.if_icmp .ge 30, 3) := by decide +kernel
theorem dX5_isWord_28 : decode cX5_isWord 28 = .ok (.aload_n 0, 1) := by decide +kernel
theorem dX5_isWord_29 : decode cX5_isWord 29 = .ok (.getfield 9, 3) := by decide +kernel
theorem dX5_isWord_32 : decode cX5_isWord 32 = .ok (.aload_n 0, 1) := by decide +kernel
theorem dX5_isWord_33 : decode cX5_isWord 33 = .ok (.getfield 29, 3) := by decide +kernel
theorem dX5_isWord_36 : decode cX5_isWord 36 = .ok (.iload_n 2, 1) := by decide +kernel
theorem dX5_isWord_37 : decode cX5_isWord 37 = .ok (.iadd, 1) := by decide +kernel
theorem dX5_isWord_38 : decode cX5_isWord 38 = .ok (.iaload, 1) := by decide +kernel
theorem dX5_isWord_39 : decode cX5_isWord 39 = .ok (.aload_n 1, 1) := by decide +kernel
theorem dX5_isWord_40 : decode cX5_isWord 40 = .ok (.iload_n 2, 1) := by decide +kernel
theorem dX5_isWord_41 : decode cX5_isWord 41 = .ok (.invokevirtual 124, 3) := by decide +kernel
theorem dX5_isWord_44 : decode cX5_isWord 44 = .ok (.if_icmp .eq 5, 3) := by decide +kernel
theorem dX5_isWord_47 : decode cX5_isWord 47 = .ok (.iconst 0, 1) := by decide +kernel
theorem dX5_isWord_48 : decode cX5_isWord 48 = .ok (.ireturn, 1) := by decide +kernel
theorem dX5_isWord_49 : decode cX5_isWord 49 = .ok (.iinc 2 1, 3) := by decide +kernel
theorem dX5_isWord_52 : decode cX5_isWord 52 = .ok (.goto (-32), 3) := by decide +kernel
theorem dX5_isWord_55 : decode cX5_isWord 55 = .ok (.iconst 1, 1) := by decide +kernel
theorem dX5_isWord_56 : decode cX5_isWord 56 = .ok (.ireturn, 1) := by decide +kernel
theorem dX5_kindName_0 : decode cX5_kindName 0 = .ok (.iload_n 0, 1) := by decide +kernel
theorem dX5_kindName_1 : decode cX5_kindName 1 = .ok (.tableswitch 57 1 6 #[39, 42, 45, 48, 51, 54], 39) := by decide +kernel
theorem dX5_kindName_40 : decode cX5_kindName 40 = .ok (.ldc 128, 2) := by decide +kernel
theorem dX5_kindName_42 : decode cX5_kindName 42 = .ok (.areturn, 1) := by decide +kernel
theorem dX5_kindName_43 : decode cX5_kindName 43 = .ok (.ldc 130, 2) := by decide +kernel
theorem dX5_kindName_45 : decode cX5_kindName 45 = .ok (.areturn, 1) := by decide +kernel
theorem dX5_kindName_46 : decode cX5_kindName 46 = .ok (.ldc 132, 2) := by decide +kernel
theorem dX5_kindName_48 : decode cX5_kindName 48 = .ok (.areturn, 1) := by decide +kernel
theorem dX5_kindName_49 : decode cX5_kindName 49 = .ok (.ldc 134, 2) := by decide +kernel
theorem dX5_kindName_51 : decode cX5_kindName 51 = .ok (.areturn, 1) := by decide +kernel
theorem dX5_kindName_52 : decode cX5_kindName 52 = .ok (.ldc 136, 2) := by decide +kernel
theorem dX5_kindName_54 : decode cX5_kindName 54 = .ok (.areturn, 1) := by decide +kernel
theorem dX5_kindName_55 : decode cX5_kindName 55 = .ok (.ldc 138, 2) := by decide +kernel
theorem dX5_kindName_57 : decode cX5_kindName 57 = .ok (.areturn, 1) := by decide +kernel
theorem dX5_kindName_58 : decode cX5_kindName 58 = .ok (.ldc 140, 2) := by decide +kernel
theorem dX5_kindName_60 : decode cX5_kindName 60 = .ok (.areturn, 1) := by decide +kernel
theorem dX5_step_0 : decode cX5_step 0 = .ok (.aload_n 0, 1) := by decide +kernel
theorem dX5_step_1 : decode cX5_step 1 = .ok (.getfield 19, 3) := by decide +kernel
theorem dX5_step_4 : decode cX5_step 4 = .ok (.aload_n 0, 1) := by decide +kernel
theorem dX5_step_5 : decode cX5_step 5 = .ok (.getfield 15, 3) := by decide +kernel
theorem dX5_step_8 : decode cX5_step 8 = .ok (.if_icmp .ge 30, 3) := by decide +kernel
theorem dX5_step_11 : decode cX5_step 11 = .ok (.aload_n 0, 1) := by decide +kernel
theorem dX5_step_12 : decode cX5_step 12 = .ok (.getfield 9, 3) := by decide +kernel
theorem dX5_step_15 : decode cX5_step 15 = .ok (.aload_n 0, 1) := by decide +kernel
theorem dX5_step_16 : decode cX5_step 16 = .ok (.getfield 19, 3) := by decide +kernel
theorem dX5_step_19 : decode cX5_step 19 = .ok (.iaload, 1) := by decide +kernel
theorem dX5_step_20 : decode cX5_step 20 = .ok (.bipush 32, 2) := by decide +kernel
theorem dX5_step_22 : decode cX5_step 22 = .ok (.if_icmp .ne 16, 3) := by decide +kernel
theorem dX5_step_25 : decode cX5_step 25 = .ok (.aload_n 0, 1) := by decide +kernel
theorem dX5_step_26 : decode cX5_step 26 = .ok (.dup, 1) := by decide +kernel
theorem dX5_step_27 : decode cX5_step 27 = .ok (.getfield 19, 3) := by decide +kernel
theorem dX5_step_30 : decode cX5_step 30 = .ok (.iconst 1, 1) := by decide +kernel
theorem dX5_step_31 : decode cX5_step 31 = .ok (.iadd, 1) := by decide +kernel
theorem dX5_step_32 : decode cX5_step 32 = .ok (.putfield 19, 3) := by decide +kernel
theorem dX5_step_35 : decode cX5_step 35 = .ok (.goto (-35), 3) := by decide +kernel
theorem dX5_step_38 : decode cX5_step 38 = .ok (.aload_n 0, 1) := by decide +kernel
theorem dX5_step_39 : decode cX5_step 39 = .ok (.aload_n 0, 1) := by decide +kernel
theorem dX5_step_40 : decode cX5_step 40 = .ok (.getfield 19, 3) := by decide +kernel
theorem dX5_step_43 : decode cX5_step 43 = .ok (.putfield 29, 3) := by decide +kernel
theorem dX5_step_46 : decode cX5_step 46 = .ok (.aload_n 0, 1) := by decide +kernel
theorem dX5_step_47 : decode cX5_step 47 = .ok (.getfield 19, 3) := by decide +kernel
theorem dX5_step_50 : decode cX5_step 50 = .ok (.aload_n 0, 1) := by decide +kernel
theorem dX5_step_51 : decode cX5_step 51 = .ok (.getfield 15, 3) := by decide +kernel
theorem dX5_step_54 : decode cX5_step 54 = .ok (.if_icmp .lt 11, 3) := by decide +kernel
theorem dX5_step_57 : decode cX5_step 57 = .ok (.aload_n 0, 1) := by decide +kernel
theorem dX5_step_58 : decode cX5_step 58 = .ok (.iconst 0, 1) := by decide +kernel
theorem dX5_step_59 : decode cX5_step 59 = .ok (.putfield 32, 3) := by decide +kernel
theorem dX5_step_62 : decode cX5_step 62 = .ok (.goto 189, 3) := by decide +kernel
theorem dX5_step_65 : decode cX5_step 65 = .ok (.aload_n 0, 1) := by decide +kernel
theorem dX5_step_66 : decode cX5_step 66 = .ok (.getfield 9, 3) := by decide +kernel
theorem dX5_step_69 : decode cX5_step 69 = .ok (.aload_n 0, 1) := by decide +kernel
theorem dX5_step_70 : decode cX5_step 70 = .ok (.getfield 19, 3) := by decide +kernel
theorem dX5_step_73 : decode cX5_step 73 = .ok (.iaload, 1) := by decide +kernel
theorem dX5_step_74 : decode cX5_step 74 = .ok (.invokestatic 142, 3) := by decide +kernel
theorem dX5_step_77 : decode cX5_step 77 = .ok (.ifCond .eq 47, 3) := by decide +kernel
theorem dX5_step_80 : decode cX5_step 80 = .ok (.aload_n 0, 1) := by decide +kernel
theorem dX5_step_81 : decode cX5_step 81 = .ok (.iconst 1, 1) := by decide +kernel
theorem dX5_step_82 : decode cX5_step 82 = .ok (.putfield 32, 3) := by decide +kernel
theorem dX5_step_85 : decode cX5_step 85 = .ok (.aload_n 0, 1) := by decide +kernel
theorem dX5_step_86 : decode cX5_step 86 = .ok (.getfield 19, 3) := by decide +kernel
theorem dX5_step_89 : decode cX5_step 89 = .ok (.aload_n 0, 1) := by decide +kernel
theorem dX5_step_90 : decode cX5_step 90 = .ok (.getfield 15, 3) := by decide +kernel
theorem dX5_step_93 : decode cX5_step 93 = .ok (.if_icmp .ge 158, 3) := by decide +kernel
theorem dX5_step_96 : decode cX5_step 96 = .ok (.aload_n 0, 1) := by decide +kernel
theorem dX5_step_97 : decode cX5_step 97 = .ok (.getfield 9, 3) := by decide +kernel
theorem dX5_step_100 : decode cX5_step 100 = .ok (.aload_n 0, 1) := by decide +kernel
theorem dX5_step_101 : decode cX5_step 101 = .ok (.getfield 19, 3) := by decide +kernel
theorem dX5_step_104 : decode cX5_step 104 = .ok (.iaload, 1) := by decide +kernel
theorem dX5_step_105 : decode cX5_step 105 = .ok (.invokestatic 142, 3) := by decide +kernel
theorem dX5_step_108 : decode cX5_step 108 = .ok (.ifCond .eq 143, 3) := by decide +kernel
theorem dX5_step_111 : decode cX5_step 111 = .ok (.aload_n 0, 1) := by decide +kernel
theorem dX5_step_112 : decode cX5_step 112 = .ok (.dup, 1) := by decide +kernel
theorem dX5_step_113 : decode cX5_step 113 = .ok (.getfield 19, 3) := by decide +kernel
theorem dX5_step_116 : decode cX5_step 116 = .ok (.iconst 1, 1) := by decide +kernel
theorem dX5_step_117 : decode cX5_step 117 = .ok (.iadd, 1) := by decide +kernel
theorem dX5_step_118 : decode cX5_step 118 = .ok (.putfield 19, 3) := by decide +kernel
theorem dX5_step_121 : decode cX5_step 121 = .ok (.goto (-36), 3) := by decide +kernel
theorem dX5_step_124 : decode cX5_step 124 = .ok (.aload_n 0, 1) := by decide +kernel
theorem dX5_step_125 : decode cX5_step 125 = .ok (.getfield 9, 3) := by decide +kernel
theorem dX5_step_128 : decode cX5_step 128 = .ok (.aload_n 0, 1) := by decide +kernel
theorem dX5_step_129 : decode cX5_step 129 = .ok (.getfield 19, 3) := by decide +kernel
theorem dX5_step_132 : decode cX5_step 132 = .ok (.iaload, 1) := by decide +kernel
theorem dX5_step_133 : decode cX5_step 133 = .ok (.invokestatic 146, 3) := by decide +kernel
theorem dX5_step_136 : decode cX5_step 136 = .ok (.ifCond .eq 82, 3) := by decide +kernel
theorem dX5_step_139 : decode cX5_step 139 = .ok (.aload_n 0, 1) := by decide +kernel
theorem dX5_step_140 : decode cX5_step 140 = .ok (.iconst 2, 1) := by decide +kernel
theorem dX5_step_141 : decode cX5_step 141 = .ok (.putfield 32, 3) := by decide +kernel
theorem dX5_step_144 : decode cX5_step 144 = .ok (.aload_n 0, 1) := by decide +kernel
theorem dX5_step_145 : decode cX5_step 145 = .ok (.iconst 0, 1) := by decide +kernel
theorem dX5_step_146 : decode cX5_step 146 = .ok (.putfield 71, 3) := by decide +kernel
theorem dX5_step_149 : decode cX5_step 149 = .ok (.aload_n 0, 1) := by decide +kernel
theorem dX5_step_150 : decode cX5_step 150 = .ok (.getfield 19, 3) := by decide +kernel
theorem dX5_step_153 : decode cX5_step 153 = .ok (.aload_n 0, 1) := by decide +kernel
theorem dX5_step_154 : decode cX5_step 154 = .ok (.getfield 15, 3) := by decide +kernel
theorem dX5_step_157 : decode cX5_step 157 = .ok (.if_icmp .ge 94, 3) := by decide +kernel
theorem dX5_step_160 : decode cX5_step 160 = .ok (.aload_n 0, 1) := by decide +kernel
theorem dX5_step_161 : decode cX5_step 161 = .ok (.getfield 9, 3) := by decide +kernel
theorem dX5_step_164 : decode cX5_step 164 = .ok (.aload_n 0, 1) := by decide +kernel
theorem dX5_step_165 : decode cX5_step 165 = .ok (.getfield 19, 3) := by decide +kernel
theorem dX5_step_168 : decode cX5_step 168 = .ok (.iaload, 1) := by decide +kernel
theorem dX5_step_169 : decode cX5_step 169 = .ok (.invokestatic 146, 3) := by decide +kernel
theorem dX5_step_172 : decode cX5_step 172 = .ok (.ifCond .eq 79, 3) := by decide +kernel
theorem dX5_step_175 : decode cX5_step 175 = .ok (.aload_n 0, 1) := by decide +kernel
theorem dX5_step_176 : decode cX5_step 176 = .ok (.aload_n 0, 1) := by decide +kernel
theorem dX5_step_177 : decode cX5_step 177 = .ok (.getfield 71, 3) := by decide +kernel
theorem dX5_step_180 : decode cX5_step 180 = .ok (.bipush 10, 2) := by decide +kernel
theorem dX5_step_182 : decode cX5_step 182 = .ok (.imul, 1) := by decide +kernel
theorem dX5_step_183 : decode cX5_step 183 = .ok (.aload_n 0, 1) := by decide +kernel
theorem dX5_step_184 : decode cX5_step 184 = .ok (.getfield 9, 3) := by decide +kernel
theorem dX5_step_187 : decode cX5_step 187 = .ok (.aload_n 0, 1) := by decide +kernel
theorem dX5_step_188 : decode cX5_step 188 = .ok (.getfield 19, 3) := by decide +kernel
theorem dX5_step_191 : decode cX5_step 191 = .ok (.iaload, 1) := by decide +kernel
theorem dX5_step_192 : decode cX5_step 192 = .ok (.iadd, 1) := by decide +kernel
theorem dX5_step_193 : decode cX5_step 193 = .ok (.bipush 48, 2) := by decide +kernel
theorem dX5_step_195 : decode cX5_step 195 = .ok (.isub, 1) := by decide +kernel
theorem dX5_step_196 : decode cX5_step 196 = .ok (.sipush 1000, 3) := by decide +kernel
theorem dX5_step_199 : decode cX5_step 199 = .ok (.invokestatic 149, 3) := by decide +kernel
theorem dX5_step_202 : decode cX5_step 202 = .ok (.putfield 71, 3) := by decide +kernel
theorem dX5_step_205 : decode cX5_step 205 = .ok (.aload_n 0, 1) := by decide +kernel
theorem dX5_step_206 : decode cX5_step 206 = .ok (.dup, 1) := by decide +kernel
theorem dX5_step_207 : decode cX5_step 207 = .ok (.getfield 19, 3) := by decide +kernel
theorem dX5_step_210 : decode cX5_step 210 = .ok (.iconst 1, 1) := by decide +kernel
theorem dX5_step_211 : decode cX5_step 211 = .ok (.iadd, 1) := by decide +kernel
theorem dX5_step_212 : decode cX5_step 212 = .ok (.putfield 19, 3) := by decide +kernel
theorem dX5_step_215 : decode cX5_step 215 = .ok (.goto (-66), 3) := by decide +kernel
theorem dX5_step_218 : decode cX5_step 218 = .ok (.aload_n 0, 1) := by decide +kernel
theorem dX5_step_219 : decode cX5_step 219 = .ok (.aload_n 0, 1) := by decide +kernel
theorem dX5_step_220 : decode cX5_step 220 = .ok (.getfield 9, 3) := by decide +kernel
theorem dX5_step_223 : decode cX5_step 223 = .ok (.aload_n 0, 1) := by decide +kernel
theorem dX5_step_224 : decode cX5_step 224 = .ok (.getfield 19, 3) := by decide +kernel
theorem dX5_step_227 : decode cX5_step 227 = .ok (.iaload, 1) := by decide +kernel
theorem dX5_step_228 : decode cX5_step 228 = .ok (.bipush 44, 2) := by decide +kernel
theorem dX5_step_230 : decode cX5_step 230 = .ok (.if_icmp .ne 7, 3) := by decide +kernel
theorem dX5_step_233 : decode cX5_step 233 = .ok (.iconst 3, 1) := by decide +kernel
theorem dX5_step_234 : decode cX5_step 234 = .ok (.goto 4, 3) := by decide +kernel
theorem dX5_step_237 : decode cX5_step 237 = .ok (.iconst 4, 1) := by decide +kernel
theorem dX5_step_238 : decode cX5_step 238 = .ok (.putfield 32, 3) := by decide +kernel
theorem dX5_step_241 : decode cX5_step 241 = .ok (.aload_n 0, 1) := by decide +kernel
theorem dX5_step_242 : decode cX5_step 242 = .ok (.dup, 1) := by decide +kernel
theorem dX5_step_243 : decode cX5_step 243 = .ok (.getfield 19, 3) := by decide +kernel
theorem dX5_step_246 : decode cX5_step 246 = .ok (.iconst 1, 1) := by decide +kernel
theorem dX5_step_247 : decode cX5_step 247 = .ok (.iadd, 1) := by decide +kernel
theorem dX5_step_248 : decode cX5_step 248 = .ok (.putfield 19, 3) := by decide +kernel
theorem dX5_step_251 : decode cX5_step 251 = .ok (.return_, 1) := by decide +kernel
theorem dX5_isLetter_0 : decode cX5_isLetter 0 = .ok (.iload_n 0, 1) := by decide +kernel
theorem dX5_isLetter_1 : decode cX5_isLetter 1 = .ok (.bipush 97, 2) := by decide +kernel
theorem dX5_isLetter_3 : decode cX5_isLetter 3 = .ok (.if_icmp .lt 13, 3) := by decide +kernel
theorem dX5_isLetter_6 : decode cX5_isLetter 6 = .ok (.iload_n 0, 1) := by decide +kernel
theorem dX5_isLetter_7 : decode cX5_isLetter 7 = .ok (.bipush 122, 2) := by decide +kernel
theorem dX5_isLetter_9 : decode cX5_isLetter 9 = .ok (.if_icmp .gt 7, 3) := by decide +kernel
theorem dX5_isLetter_12 : decode cX5_isLetter 12 = .ok (.iconst 1, 1) := by decide +kernel
theorem dX5_isLetter_13 : decode cX5_isLetter 13 = .ok (.goto 4, 3) := by decide +kernel
theorem dX5_isLetter_16 : decode cX5_isLetter 16 = .ok (.iconst 0, 1) := by decide +kernel
theorem dX5_isLetter_17 : decode cX5_isLetter 17 = .ok (.ireturn, 1) := by decide +kernel
theorem dX5_isDigit_0 : decode cX5_isDigit 0 = .ok (.iload_n 0, 1) := by decide +kernel
theorem dX5_isDigit_1 : decode cX5_isDigit 1 = .ok (.bipush 48, 2) := by decide +kernel
theorem dX5_isDigit_3 : decode cX5_isDigit 3 = .ok (.if_icmp .lt 13, 3) := by decide +kernel
theorem dX5_isDigit_6 : decode cX5_isDigit 6 = .ok (.iload_n 0, 1) := by decide +kernel
theorem dX5_isDigit_7 : decode cX5_isDigit 7 = .ok (.bipush 57, 2) := by decide +kernel
theorem dX5_isDigit_9 : decode cX5_isDigit 9 = .ok (.if_icmp .gt 7, 3) := by decide +kernel
theorem dX5_isDigit_12 : decode cX5_isDigit 12 = .ok (.iconst 1, 1) := by decide +kernel
theorem dX5_isDigit_13 : decode cX5_isDigit 13 = .ok (.goto 4, 3) := by decide +kernel
theorem dX5_isDigit_16 : decode cX5_isDigit 16 = .ok (.iconst 0, 1) := by decide +kernel
theorem dX5_isDigit_17 : decode cX5_isDigit 17 = .ok (.ireturn, 1) := by decide +kernel
end
section
theorem dX6_init_0 : decode cX6_init 0 = .ok (.aload_n 0, 1) := by decide +kernel
theorem dX6_init_1 : decode cX6_init 1 = .ok (.invokespecial 1, 3) := by decide +kernel
theorem dX6_init_4 : decode cX6_init 4 = .ok (.aload_n 0, 1) := by decide +kernel
theorem dX6_init_5 : decode cX6_init 5 = .ok (.new 7, 3) := by decide +kernel
theorem dX6_init_8 : decode cX6_init 8 = .ok (.dup, 1) := by decide +kernel
theorem dX6_init_9 : decode cX6_init 9 = .ok (.invokespecial 9, 3) := by decide +kernel
theorem dX6_init_12 : decode cX6_init 12 = .ok (.putfield 10, 3) := by decide +kernel
theorem dX6_init_15 : decode cX6_init 15 = .ok (.aload_n 0, 1) := by decide +kernel
theorem dX6_init_16 : decode cX6_init 16 = .ok (.new 7, 3) := by decide +kernel
theorem dX6_init_19 : decode cX6_init 19 = .ok (.dup, 1) := by decide +kernel
theorem dX6_init_20 : decode cX6_init 20 = .ok (.invokespecial 9, 3) := by decide +kernel
theorem dX6_init_23 : decode cX6_init 23 = .ok (.putfield 16, 3) := by decide +kernel
theorem dX6_init_26 : decode cX6_init 26 = .ok (.aload_n 0, 1) := by decide +kernel
theorem dX6_init_27 : decode cX6_init 27 = .ok (.new 7, 3) := by decide +kernel
theorem dX6_init_30 : decode cX6_init 30 = .ok (.dup, 1) := by decide +kernel
theorem dX6_init_31 : decode cX6_init 31 = .ok (.invokespecial 9, 3) := by decide +kernel
theorem dX6_init_34 : decode cX6_init 34 = .ok (.putfield 19, 3) := by decide +kernel
theorem dX6_init_37 : decode cX6_init 37 = .ok (.aload_n 0, 1) := by decide +kernel
theorem dX6_init_38 : decode cX6_init 38 = .ok (.iconst 0, 1) := by decide +kernel
theorem dX6_init_39 : decode cX6_init 39 = .ok (.putfield 22, 3) := by decide +kernel
theorem dX6_init_42 : decode cX6_init 42 = .ok (.aload_n 0, 1) := by decide +kernel
theorem dX6_init_43 : decode cX6_init 43 = .ok (.new 26, 3) := by decide +kernel
theorem dX6_init_46 : decode cX6_init 46 = .ok (.dup, 1) := by decide +kernel
theorem dX6_init_47 : decode cX6_init 47 = .ok (.aload_n 0, 1) := by decide +kernel
theorem dX6_init_48 : decode cX6_init 48 = .ok (.getfield 10, 3) := by decide +kernel
theorem dX6_init_51 : decode cX6_init 51 = .ok (.invokespecial 28, 3) := by decide +kernel
theorem dX6_init_54 : decode cX6_init 54 = .ok (.putfield 31, 3) := by decide +kernel
theorem dX6_init_57 : decode cX6_init 57 = .ok (.aload_n 0, 1) := by decide +kernel
theorem dX6_init_58 : decode cX6_init 58 = .ok (.new 35, 3) := by decide +kernel
theorem dX6_init_61 : decode cX6_init 61 = .ok (.dup, 1) := by decide +kernel
theorem dX6_init_62 : decode cX6_init 62 = .ok (.aload_n 0, 1) := by decide +kernel
theorem dX6_init_63 : decode cX6_init 63 = .ok (.getfield 10, 3) := by decide +kernel
theorem dX6_init_66 : decode cX6_init 66 = .ok (.invokespecial 37, 3) := by decide +kernel
theorem dX6_init_69 : decode cX6_init 69 = .ok (.putfield 38, 3) := by decide +kernel
theorem dX6_init_72 : decode cX6_init 72 = .ok (.aload_n 0, 1) := by decide +kernel
theorem dX6_init_73 : decode cX6_init 73 = .ok (.new 42, 3) := by decide +kernel
theorem dX6_init_76 : decode cX6_init 76 = .ok (.dup, 1) := by decide +kernel
theorem dX6_init_77 : decode cX6_init 77 = .ok (.aload_n 0, 1) := by decide +kernel
theorem dX6_init_78 : decode cX6_init 78 = .ok (.getfield 10, 3) := by decide +kernel
theorem dX6_init_81 : decode cX6_init 81 = .ok (.invokespecial 44, 3) := by decide +kernel
theorem dX6_init_84 : decode cX6_init 84 = .ok (.putfield 45, 3) := by decide +kernel
theorem dX6_init_87 : decode cX6_init 87 = .ok (.aload_n 0, 1) := by decide +kernel
theorem dX6_init_88 : decode cX6_init 88 = .ok (.new 49, 3) := by decide +kernel
theorem dX6_init_91 : decode cX6_init 91 = .ok (.dup, 1) := by decide +kernel
theorem dX6_init_92 : decode cX6_init 92 = .ok (.invokespecial 51, 3) := by decide +kernel
theorem dX6_init_95 : decode cX6_init 95 = .ok (.putfield 52, 3) := by decide +kernel
theorem dX6_init_98 : decode cX6_init 98 = .ok (.aload_n 0, 1) := by decide +kernel
theorem dX6_init_99 : decode cX6_init 99 = .ok (.iconst 4, 1) := by decide +kernel
theorem dX6_init_100 : decode cX6_init 100 = .ok (.anewarray 56, 3) := by decide +kernel
theorem dX6_init_103 : decode cX6_init 103 = .ok (.putfield 58, 3) := by decide +kernel
theorem dX6_init_106 : decode cX6_init 106 = .ok (.iconst 0, 1) := by decide +kernel
theorem dX6_init_107 : decode cX6_init 107 = .ok (.istore_n 1, 1) := by decide +kernel
theorem dX6_init_108 : decode cX6_init 108 = .ok (.iload_n 1, 1) := by decide +kernel
theorem dX6_init_109 : decode cX6_init 109 = .ok (.iconst 4, 1) := by decide +kernel
theorem dX6_init_110 : decode cX6_init 110 = .ok (.if_icmp .ge 22, 3) := by decide +kernel
theorem dX6_init_113 : decode cX6_init 113 = .ok (.aload_n 0, 1) := by decide +kernel
theorem dX6_init_114 : decode cX6_init 114 = .ok (.getfield 58, 3) := by decide +kernel
theorem dX6_init_117 : decode cX6_init 117 = .ok (.iload_n 1, 1) := by decide +kernel
theorem dX6_init_118 : decode cX6_init 118 = .ok (.new 56, 3) := by decide +kernel
theorem dX6_init_121 : decode cX6_init 121 = .ok (.dup, 1) := by decide +kernel
theorem dX6_init_122 : decode cX6_init 122 = .ok (.invokespecial 62, 3) := by decide +kernel
theorem dX6_init_125 : decode cX6_init 125 = .ok (.aastore, 1) := by decide +kernel
theorem dX6_init_126 : decode cX6_init 126 = .ok (.iinc 1 1, 3) := by decide +kernel
theorem dX6_init_129 : decode cX6_init 129 = .ok (.goto (-21), 3) := by decide +kernel
theorem dX6_init_132 : decode cX6_init 132 = .ok (.aload_n 0, 1) := by decide +kernel
theorem dX6_init_133 : decode cX6_init 133 = .ok (.bipush 7, 2) := by decide +kernel
theorem dX6_init_135 : decode cX6_init 135 = .ok (.newarray .int, 2) := by decide +kernel
theorem dX6_init_137 : decode cX6_init 137 = .ok (.putfield 63, 3) := by decide +kernel
theorem dX6_init_140 : decode cX6_init 140 = .ok (.return_, 1) := by decide +kernel
theorem dX6_part_0 : decode cX6_part 0 = .ok (.iload_n 1, 1) := by decide +kernel
theorem dX6_part_1 : decode cX6_part 1 = .ok (.iconst 0, 1) := by decide +kernel
theorem dX6_part_2 : decode cX6_part 2 = .ok (.bipush 6, 2) := by decide +kernel
theorem dX6_part_4 : decode cX6_part 4 = .ok (.invokestatic 67, 3) := by decide +kernel
theorem dX6_part_7 : decode cX6_part 7 = .ok (.ifCond .eq 35, 3) := by decide +kernel
theorem dX6_part_10 : decode cX6_part 10 = .ok (.iload_n 2, 1) := by decide +kernel
theorem dX6_part_11 : decode cX6_part 11 = .ok (.iconst 0, 1) := by decide +kernel
theorem dX6_part_12 : decode cX6_part 12 = .ok (.bipush 7, 2) := by decide +kernel
theorem dX6_part_14 : decode cX6_part 14 = .ok (.invokestatic 67, 3) := by decide +kernel
theorem dX6_part_17 : decode cX6_part 17 = .ok (.ifCond .eq 25, 3) := by decide +kernel
theorem dX6_part_20 : decode cX6_part 20 = .ok (.iload_n 3, 1) := by decide +kernel
theorem dX6_part_21 : decode cX6_part 21 = .ok (.iconst 1, 1) := by decide +kernel
theorem dX6_part_22 : decode cX6_part 22 = .ok (.sipush 999, 3) := by decide +kernel
theorem dX6_part_25 : decode cX6_part 25 = .ok (.invokestatic 67, 3) := by decide +kernel
theorem dX6_part_28 : decode cX6_part 28 = .ok (.ifCond .eq 14, 3) := by decide +kernel
theorem dX6_part_31 : decode cX6_part 31 = .ok (.iload 4, 2) := by decide +kernel
theorem dX6_part_33 : decode cX6_part 33 = .ok (.iconst 0, 1) := by decide +kernel
theorem dX6_part_34 : decode cX6_part 34 = .ok (.bipush 99, 2) := by decide +kernel
theorem dX6_part_36 : decode cX6_part 36 = .ok (.invokestatic 67, 3) := by decide +kernel
theorem dX6_part_39 : decode cX6_part 39 = .ok (.ifCond .ne 9, 3) := by decide +kernel
theorem dX6_part_42 : decode cX6_part 42 = .ok (.aload_n 0, 1) := by decide +kernel
theorem dX6_part_43 : decode cX6_part 43 = .ok (.iconst 0, 1) := by decide +kernel
theorem dX6_part_44 : decode cX6_part 44 = .ok (.invokevirtual 71, 3) := by decide +kernel
theorem dX6_part_47 : decode cX6_part 47 = .ok (.ireturn, 1) := by decide +kernel
theorem dX6_part_48 : decode cX6_part 48 = .ok (.aload_n 0, 1) := by decide +kernel
theorem dX6_part_49 : decode cX6_part 49 = .ok (.getfield 10, 3) := by decide +kernel
theorem dX6_part_52 : decode cX6_part 52 = .ok (.getfield 75, 3) := by decide +kernel
theorem dX6_part_55 : decode cX6_part 55 = .ok (.bipush 20, 2) := by decide +kernel
theorem dX6_part_57 : decode cX6_part 57 = .ok (.if_icmp .lt 9, 3) := by decide +kernel
theorem dX6_part_60 : decode cX6_part 60 = .ok (.aload_n 0, 1) := by decide +kernel
theorem dX6_part_61 : decode cX6_part 61 = .ok (.iconst 1, 1) := by decide +kernel
theorem dX6_part_62 : decode cX6_part 62 = .ok (.invokevirtual 71, 3) := by decide +kernel
theorem dX6_part_65 : decode cX6_part 65 = .ok (.ireturn, 1) := by decide +kernel
theorem dX6_part_66 : decode cX6_part 66 = .ok (.aload_n 0, 1) := by decide +kernel
theorem dX6_part_67 : decode cX6_part 67 = .ok (.getfield 10, 3) := by decide +kernel
theorem dX6_part_70 : decode cX6_part 70 = .ok (.iload_n 1, 1) := by decide +kernel
theorem dX6_part_71 : decode cX6_part 71 = .ok (.iload_n 2, 1) := by decide +kernel
theorem dX6_part_72 : decode cX6_part 72 = .ok (.iload_n 3, 1) := by decide +kernel
theorem dX6_part_73 : decode cX6_part 73 = .ok (.iload 4, 2) := by decide +kernel
theorem dX6_part_75 : decode cX6_part 75 = .ok (.invokevirtual 79, 3) := by decide +kernel
theorem dX6_part_78 : decode cX6_part 78 = .ok (.ireturn, 1) := by decide +kernel
theorem dX6_of_0 : decode cX6_of 0 = .ok (.aload_n 0, 1) := by decide +kernel
theorem dX6_of_1 : decode cX6_of 1 = .ok (.getfield 10, 3) := by decide +kernel
theorem dX6_of_4 : decode cX6_of 4 = .ok (.iload_n 1, 1) := by decide +kernel
theorem dX6_of_5 : decode cX6_of 5 = .ok (.invokevirtual 83, 3) := by decide +kernel
theorem dX6_of_8 : decode cX6_of 8 = .ok (.ifCond .eq 13, 3) := by decide +kernel
theorem dX6_of_11 : decode cX6_of 11 = .ok (.iload_n 2, 1) := by decide +kernel
theorem dX6_of_12 : decode cX6_of 12 = .ok (.iconst 0, 1) := by decide +kernel
theorem dX6_of_13 : decode cX6_of 13 = .ok (.bipush 9, 2) := by decide +kernel
theorem dX6_of_15 : decode cX6_of 15 = .ok (.invokestatic 67, 3) := by decide +kernel
theorem dX6_of_18 : decode cX6_of 18 = .ok (.ifCond .ne 9, 3) := by decide +kernel
theorem dX6_of_21 : decode cX6_of 21 = .ok (.aload_n 0, 1) := by decide +kernel
theorem dX6_of_22 : decode cX6_of 22 = .ok (.iconst 0, 1) := by decide +kernel
theorem dX6_of_23 : decode cX6_of 23 = .ok (.invokevirtual 71, 3) := by decide +kernel
theorem dX6_of_26 : decode cX6_of 26 = .ok (.ireturn, 1) := by decide +kernel
theorem dX6_of_27 : decode cX6_of 27 = .ok (.aload_n 0, 1) := by decide +kernel
theorem dX6_of_28 : decode cX6_of 28 = .ok (.getfield 31, 3) := by decide +kernel
theorem dX6_of_31 : decode cX6_of 31 = .ok (.invokevirtual 87, 3) := by decide +kernel
theorem dX6_of_34 : decode cX6_of 34 = .ok (.iload_n 2, 1) := by decide +kernel
theorem dX6_of_35 : decode cX6_of 35 = .ok (.tableswitch 143 0 8 #[49, 59, 69, 79, 89, 99, 116, 125, 134], 49) := by decide +kernel
theorem dX6_of_84 : decode cX6_of 84 = .ok (.aload_n 0, 1) := by decide +kernel
theorem dX6_of_85 : decode cX6_of 85 = .ok (.getfield 10, 3) := by decide +kernel
theorem dX6_of_88 : decode cX6_of 88 = .ok (.getfield 90, 3) := by decide +kernel
theorem dX6_of_91 : decode cX6_of 91 = .ok (.iload_n 1, 1) := by decide +kernel
theorem dX6_of_92 : decode cX6_of 92 = .ok (.iaload, 1) := by decide +kernel
theorem dX6_of_93 : decode cX6_of 93 = .ok (.ireturn, 1) := by decide +kernel
theorem dX6_of_94 : decode cX6_of 94 = .ok (.aload_n 0, 1) := by decide +kernel
theorem dX6_of_95 : decode cX6_of 95 = .ok (.getfield 10, 3) := by decide +kernel
theorem dX6_of_98 : decode cX6_of 98 = .ok (.getfield 93, 3) := by decide +kernel
theorem dX6_of_101 : decode cX6_of 101 = .ok (.iload_n 1, 1) := by decide +kernel
theorem dX6_of_102 : decode cX6_of 102 = .ok (.iaload, 1) := by decide +kernel
theorem dX6_of_103 : decode cX6_of 103 = .ok (.ireturn, 1) := by decide +kernel
theorem dX6_of_104 : decode cX6_of 104 = .ok (.aload_n 0, 1) := by decide +kernel
theorem dX6_of_105 : decode cX6_of 105 = .ok (.getfield 10, 3) := by decide +kernel
theorem dX6_of_108 : decode cX6_of 108 = .ok (.getfield 96, 3) := by decide +kernel
theorem dX6_of_111 : decode cX6_of 111 = .ok (.iload_n 1, 1) := by decide +kernel
theorem dX6_of_112 : decode cX6_of 112 = .ok (.iaload, 1) := by decide +kernel
theorem dX6_of_113 : decode cX6_of 113 = .ok (.ireturn, 1) := by decide +kernel
theorem dX6_of_114 : decode cX6_of 114 = .ok (.aload_n 0, 1) := by decide +kernel
theorem dX6_of_115 : decode cX6_of 115 = .ok (.getfield 10, 3) := by decide +kernel
theorem dX6_of_118 : decode cX6_of 118 = .ok (.getfield 99, 3) := by decide +kernel
theorem dX6_of_121 : decode cX6_of 121 = .ok (.iload_n 1, 1) := by decide +kernel
theorem dX6_of_122 : decode cX6_of 122 = .ok (.iaload, 1) := by decide +kernel
theorem dX6_of_123 : decode cX6_of 123 = .ok (.ireturn, 1) := by decide +kernel
theorem dX6_of_124 : decode cX6_of 124 = .ok (.aload_n 0, 1) := by decide +kernel
theorem dX6_of_125 : decode cX6_of 125 = .ok (.getfield 10, 3) := by decide +kernel
theorem dX6_of_128 : decode cX6_of 128 = .ok (.getfield 102, 3) := by decide +kernel
theorem dX6_of_131 : decode cX6_of 131 = .ok (.iload_n 1, 1) := by decide +kernel
theorem dX6_of_132 : decode cX6_of 132 = .ok (.iaload, 1) := by decide +kernel
theorem dX6_of_133 : decode cX6_of 133 = .ok (.ireturn, 1) := by decide +kernel
theorem dX6_of_134 : decode cX6_of 134 = .ok (.aload_n 0, 1) := by decide +kernel
theorem dX6_of_135 : decode cX6_of 135 = .ok (.getfield 10, 3) := by decide +kernel
theorem dX6_of_138 : decode cX6_of 138 = .ok (.iload_n 1, 1) := by decide +kernel
theorem dX6_of_139 : decode cX6_of 139 = .ok (.invokevirtual 105, 3) := by decide +kernel
theorem dX6_of_142 : decode cX6_of 142 = .ok (.ifCond .eq 7, 3) := by decide +kernel
theorem dX6_of_145 : decode cX6_of 145 = .ok (.iconst 1, 1) := by decide +kernel
theorem dX6_of_146 : decode cX6_of 146 = .ok (.goto 4, 3) := by decide +kernel
theorem dX6_of_149 : decode cX6_of 149 = .ok (.iconst 0, 1) := by decide +kernel
theorem dX6_of_150 : decode cX6_of 150 = .ok (.ireturn, 1) := by decide +kernel
theorem dX6_of_151 : decode cX6_of 151 = .ok (.aload_n 0, 1) := by decide +kernel
theorem dX6_of_152 : decode cX6_of 152 = .ok (.getfield 31, 3) := by decide +kernel
theorem dX6_of_155 : decode cX6_of 155 = .ok (.iload_n 1, 1) := by decide +kernel
theorem dX6_of_156 : decode cX6_of 156 = .ok (.invokevirtual 108, 3) := by decide +kernel
theorem dX6_of_159 : decode cX6_of 159 = .ok (.ireturn, 1) := by decide +kernel
theorem dX6_of_160 : decode cX6_of 160 = .ok (.aload_n 0, 1) := by decide +kernel
theorem dX6_of_161 : decode cX6_of 161 = .ok (.getfield 31, 3) := by decide +kernel
theorem dX6_of_164 : decode cX6_of 164 = .ok (.iload_n 1, 1) := by decide +kernel
theorem dX6_of_165 : decode cX6_of 165 = .ok (.invokevirtual 111, 3) := by decide +kernel
theorem dX6_of_168 : decode cX6_of 168 = .ok (.ireturn, 1) := by decide +kernel
theorem dX6_of_169 : decode cX6_of 169 = .ok (.aload_n 0, 1) := by decide +kernel
theorem dX6_of_170 : decode cX6_of 170 = .ok (.getfield 31, 3) := by decide +kernel
theorem dX6_of_173 : decode cX6_of 173 = .ok (.iload_n 1, 1) := by decide +kernel
theorem dX6_of_174 : decode cX6_of 174 = .ok (.invokevirtual 114, 3) := by decide +kernel
theorem dX6_of_177 : decode cX6_of 177 = .ok (.ireturn, 1) := by decide +kernel
theorem dX6_of_178 : decode cX6_of 178 = .ok (.aload_n 0, 1) := by decide +kernel
theorem dX6_of_179 : decode cX6_of 179 = .ok (.getfield 31, 3) := by decide +kernel
theorem dX6_of_182 : decode cX6_of 182 = .ok (.iload_n 1, 1) := by decide +kernel
theorem dX6_of_183 : decode cX6_of 183 = .ok (.invokevirtual 117, 3) := by decide +kernel
theorem dX6_of_186 : decode cX6_of 186 = .ok (.ireturn, 1) := by decide +kernel
theorem dX6_set_0 : decode cX6_set 0 = .ok (.aload_n 0, 1) := by decide +kernel
theorem dX6_set_1 : decode cX6_set 1 = .ok (.getfield 10, 3) := by decide +kernel
theorem dX6_set_4 : decode cX6_set 4 = .ok (.iload_n 1, 1) := by decide +kernel
theorem dX6_set_5 : decode cX6_set 5 = .ok (.invokevirtual 83, 3) := by decide +kernel
theorem dX6_set_8 : decode cX6_set 8 = .ok (.ifCond .ne 9, 3) := by decide +kernel
theorem dX6_set_11 : decode cX6_set 11 = .ok (.aload_n 0, 1) := by decide +kernel
theorem dX6_set_12 : decode cX6_set 12 = .ok (.iconst 0, 1) := by decide +kernel
theorem dX6_set_13 : decode cX6_set 13 = .ok (.invokevirtual 71, 3) := by decide +kernel
theorem dX6_set_16 : decode cX6_set 16 = .ok (.ireturn, 1) := by decide +kernel
theorem dX6_set_17 : decode cX6_set 17 = .ok (.iload_n 2, 1) := by decide +kernel
theorem dX6_set_18 : decode cX6_set 18 = .ok (.iconst 2, 1) := by decide +kernel
theorem dX6_set_19 : decode cX6_set 19 = .ok (.if_icmp .ne 27, 3) := by decide +kernel
theorem dX6_set_22 : decode cX6_set 22 = .ok (.iload_n 3, 1) := by decide +kernel
theorem dX6_set_23 : decode cX6_set 23 = .ok (.iconst 1, 1) := by decide +kernel
theorem dX6_set_24 : decode cX6_set 24 = .ok (.sipush 999, 3) := by decide +kernel
theorem dX6_set_27 : decode cX6_set 27 = .ok (.invokestatic 67, 3) := by decide +kernel
theorem dX6_set_30 : decode cX6_set 30 = .ok (.ifCond .eq 16, 3) := by decide +kernel
theorem dX6_set_33 : decode cX6_set 33 = .ok (.aload_n 0, 1) := by decide +kernel
theorem dX6_set_34 : decode cX6_set 34 = .ok (.getfield 10, 3) := by decide +kernel
theorem dX6_set_37 : decode cX6_set 37 = .ok (.getfield 96, 3) := by decide +kernel
theorem dX6_set_40 : decode cX6_set 40 = .ok (.iload_n 1, 1) := by decide +kernel
theorem dX6_set_41 : decode cX6_set 41 = .ok (.iload_n 3, 1) := by decide +kernel
theorem dX6_set_42 : decode cX6_set 42 = .ok (.invokestatic 120, 3) := by decide +kernel
theorem dX6_set_45 : decode cX6_set 45 = .ok (.ireturn, 1) := by decide +kernel
theorem dX6_set_46 : decode cX6_set 46 = .ok (.iload_n 2, 1) := by decide +kernel
theorem dX6_set_47 : decode cX6_set 47 = .ok (.iconst 3, 1) := by decide +kernel
theorem dX6_set_48 : decode cX6_set 48 = .ok (.if_icmp .ne 26, 3) := by decide +kernel
theorem dX6_set_51 : decode cX6_set 51 = .ok (.iload_n 3, 1) := by decide +kernel
theorem dX6_set_52 : decode cX6_set 52 = .ok (.iconst 0, 1) := by decide +kernel
theorem dX6_set_53 : decode cX6_set 53 = .ok (.bipush 99, 2) := by decide +kernel
theorem dX6_set_55 : decode cX6_set 55 = .ok (.invokestatic 67, 3) := by decide +kernel
theorem dX6_set_58 : decode cX6_set 58 = .ok (.ifCond .eq 16, 3) := by decide +kernel
theorem dX6_set_61 : decode cX6_set 61 = .ok (.aload_n 0, 1) := by decide +kernel
theorem dX6_set_62 : decode cX6_set 62 = .ok (.getfield 10, 3) := by decide +kernel
theorem dX6_set_65 : decode cX6_set 65 = .ok (.getfield 99, 3) := by decide +kernel
theorem dX6_set_68 : decode cX6_set 68 = .ok (.iload_n 1, 1) := by decide +kernel
theorem dX6_set_69 : decode cX6_set 69 = .ok (.iload_n 3, 1) := by decide +kernel
theorem dX6_set_70 : decode cX6_set 70 = .ok (.invokestatic 120, 3) := by decide +kernel
theorem dX6_set_73 : decode cX6_set 73 = .ok (.ireturn, 1) := by decide +kernel
theorem dX6_set_74 : decode cX6_set 74 = .ok (.iload_n 2, 1) := by decide +kernel
theorem dX6_set_75 : decode cX6_set 75 = .ok (.iconst 4, 1) := by decide +kernel
theorem dX6_set_76 : decode cX6_set 76 = .ok (.if_icmp .ne 26, 3) := by decide +kernel
theorem dX6_set_79 : decode cX6_set 79 = .ok (.iload_n 3, 1) := by decide +kernel
theorem dX6_set_80 : decode cX6_set 80 = .ok (.iconst 0, 1) := by decide +kernel
theorem dX6_set_81 : decode cX6_set 81 = .ok (.bipush 99, 2) := by decide +kernel
theorem dX6_set_83 : decode cX6_set 83 = .ok (.invokestatic 67, 3) := by decide +kernel
theorem dX6_set_86 : decode cX6_set 86 = .ok (.ifCond .eq 16, 3) := by decide +kernel
theorem dX6_set_89 : decode cX6_set 89 = .ok (.aload_n 0, 1) := by decide +kernel
theorem dX6_set_90 : decode cX6_set 90 = .ok (.getfield 10, 3) := by decide +kernel
theorem dX6_set_93 : decode cX6_set 93 = .ok (.getfield 102, 3) := by decide +kernel
theorem dX6_set_96 : decode cX6_set 96 = .ok (.iload_n 1, 1) := by decide +kernel
theorem dX6_set_97 : decode cX6_set 97 = .ok (.iload_n 3, 1) := by decide +kernel
theorem dX6_set_98 : decode cX6_set 98 = .ok (.invokestatic 120, 3) := by decide +kernel
theorem dX6_set_101 : decode cX6_set 101 = .ok (.ireturn, 1) := by decide +kernel
theorem dX6_set_102 : decode cX6_set 102 = .ok (.aload_n 0, 1) := by decide +kernel
theorem dX6_set_103 : decode cX6_set 103 = .ok (.iconst 0, 1) := by decide +kernel
theorem dX6_set_104 : decode cX6_set 104 = .ok (.invokevirtual 71, 3) := by decide +kernel
theorem dX6_set_107 : decode cX6_set 107 = .ok (.ireturn, 1) := by decide +kernel
theorem dX6_want_0 : decode cX6_want 0 = .ok (.aload_n 0, 1) := by decide +kernel
theorem dX6_want_1 : decode cX6_want 1 = .ok (.getfield 10, 3) := by decide +kernel
theorem dX6_want_4 : decode cX6_want 4 = .ok (.iload_n 1, 1) := by decide +kernel
theorem dX6_want_5 : decode cX6_want 5 = .ok (.invokevirtual 83, 3) := by decide +kernel
theorem dX6_want_8 : decode cX6_want 8 = .ok (.ifCond .ne 9, 3) := by decide +kernel
theorem dX6_want_11 : decode cX6_want 11 = .ok (.aload_n 0, 1) := by decide +kernel
theorem dX6_want_12 : decode cX6_want 12 = .ok (.iconst 0, 1) := by decide +kernel
theorem dX6_want_13 : decode cX6_want 13 = .ok (.invokevirtual 71, 3) := by decide +kernel
theorem dX6_want_16 : decode cX6_want 16 = .ok (.ireturn, 1) := by decide +kernel
theorem dX6_want_17 : decode cX6_want 17 = .ok (.aload_n 0, 1) := by decide +kernel
theorem dX6_want_18 : decode cX6_want 18 = .ok (.getfield 10, 3) := by decide +kernel
theorem dX6_want_21 : decode cX6_want 21 = .ok (.iload_n 1, 1) := by decide +kernel
theorem dX6_want_22 : decode cX6_want 22 = .ok (.invokevirtual 105, 3) := by decide +kernel
theorem dX6_want_25 : decode cX6_want 25 = .ok (.iload_n 2, 1) := by decide +kernel
theorem dX6_want_26 : decode cX6_want 26 = .ok (.if_icmp .ne 5, 3) := by decide +kernel
theorem dX6_want_29 : decode cX6_want 29 = .ok (.iconst 0, 1) := by decide +kernel
theorem dX6_want_30 : decode cX6_want 30 = .ok (.ireturn, 1) := by decide +kernel
theorem dX6_want_31 : decode cX6_want 31 = .ok (.aload_n 0, 1) := by decide +kernel
theorem dX6_want_32 : decode cX6_want 32 = .ok (.getfield 10, 3) := by decide +kernel
theorem dX6_want_35 : decode cX6_want 35 = .ok (.dup, 1) := by decide +kernel
theorem dX6_want_36 : decode cX6_want 36 = .ok (.getfield 124, 3) := by decide +kernel
theorem dX6_want_39 : decode cX6_want 39 = .ok (.iconst 1, 1) := by decide +kernel
theorem dX6_want_40 : decode cX6_want 40 = .ok (.iload_n 1, 1) := by decide +kernel
theorem dX6_want_41 : decode cX6_want 41 = .ok (.ishl, 1) := by decide +kernel
theorem dX6_want_42 : decode cX6_want 42 = .ok (.ixor, 1) := by decide +kernel
theorem dX6_want_43 : decode cX6_want 43 = .ok (.putfield 124, 3) := by decide +kernel
theorem dX6_want_46 : decode cX6_want 46 = .ok (.iconst 1, 1) := by decide +kernel
theorem dX6_want_47 : decode cX6_want 47 = .ok (.ireturn, 1) := by decide +kernel
theorem dX6_as_0 : decode cX6_as 0 = .ok (.aload_n 0, 1) := by decide +kernel
theorem dX6_as_1 : decode cX6_as 1 = .ok (.getfield 10, 3) := by decide +kernel
theorem dX6_as_4 : decode cX6_as 4 = .ok (.iload_n 1, 1) := by decide +kernel
theorem dX6_as_5 : decode cX6_as 5 = .ok (.invokevirtual 83, 3) := by decide +kernel
theorem dX6_as_8 : decode cX6_as 8 = .ok (.ifCond .eq 13, 3) := by decide +kernel
theorem dX6_as_11 : decode cX6_as 11 = .ok (.iload_n 2, 1) := by decide +kernel
theorem dX6_as_12 : decode cX6_as 12 = .ok (.iconst 0, 1) := by decide +kernel
theorem dX6_as_13 : decode cX6_as 13 = .ok (.bipush 6, 2) := by decide +kernel
theorem dX6_as_15 : decode cX6_as 15 = .ok (.invokestatic 67, 3) := by decide +kernel
theorem dX6_as_18 : decode cX6_as 18 = .ok (.ifCond .ne 9, 3) := by decide +kernel
theorem dX6_as_21 : decode cX6_as 21 = .ok (.aload_n 0, 1) := by decide +kernel
theorem dX6_as_22 : decode cX6_as 22 = .ok (.iconst 0, 1) := by decide +kernel
theorem dX6_as_23 : decode cX6_as 23 = .ok (.invokevirtual 71, 3) := by decide +kernel
theorem dX6_as_26 : decode cX6_as 26 = .ok (.ireturn, 1) := by decide +kernel
theorem dX6_as_27 : decode cX6_as 27 = .ok (.aload_n 0, 1) := by decide +kernel
theorem dX6_as_28 : decode cX6_as 28 = .ok (.getfield 10, 3) := by decide +kernel
theorem dX6_as_31 : decode cX6_as 31 = .ok (.getfield 90, 3) := by decide +kernel
theorem dX6_as_34 : decode cX6_as 34 = .ok (.iload_n 1, 1) := by decide +kernel
theorem dX6_as_35 : decode cX6_as 35 = .ok (.iaload, 1) := by decide +kernel
theorem dX6_as_36 : decode cX6_as 36 = .ok (.iload_n 2, 1) := by decide +kernel
theorem dX6_as_37 : decode cX6_as 37 = .ok (.invokestatic 127, 3) := by decide +kernel
theorem dX6_as_40 : decode cX6_as 40 = .ok (.ifCond .ne 9, 3) := by decide +kernel
theorem dX6_as_43 : decode cX6_as 43 = .ok (.aload_n 0, 1) := by decide +kernel
theorem dX6_as_44 : decode cX6_as 44 = .ok (.iconst 2, 1) := by decide +kernel
theorem dX6_as_45 : decode cX6_as 45 = .ok (.invokevirtual 71, 3) := by decide +kernel
theorem dX6_as_48 : decode cX6_as 48 = .ok (.ireturn, 1) := by decide +kernel
theorem dX6_as_49 : decode cX6_as 49 = .ok (.aload_n 0, 1) := by decide +kernel
theorem dX6_as_50 : decode cX6_as 50 = .ok (.getfield 31, 3) := by decide +kernel
theorem dX6_as_53 : decode cX6_as 53 = .ok (.invokevirtual 87, 3) := by decide +kernel
theorem dX6_as_56 : decode cX6_as 56 = .ok (.aload_n 0, 1) := by decide +kernel
theorem dX6_as_57 : decode cX6_as 57 = .ok (.getfield 31, 3) := by decide +kernel
theorem dX6_as_60 : decode cX6_as 60 = .ok (.iload_n 1, 1) := by decide +kernel
theorem dX6_as_61 : decode cX6_as 61 = .ok (.invokevirtual 108, 3) := by decide +kernel
theorem dX6_as_64 : decode cX6_as 64 = .ok (.ireturn, 1) := by decide +kernel
theorem dX6_sky_0 : decode cX6_sky 0 = .ok (.iload_n 1, 1) := by decide +kernel
theorem dX6_sky_1 : decode cX6_sky 1 = .ok (.iconst 0, 1) := by decide +kernel
theorem dX6_sky_2 : decode cX6_sky 2 = .ok (.iconst 4, 1) := by decide +kernel
theorem dX6_sky_3 : decode cX6_sky 3 = .ok (.invokestatic 67, 3) := by decide +kernel
theorem dX6_sky_6 : decode cX6_sky 6 = .ok (.ifCond .eq 16, 3) := by decide +kernel
theorem dX6_sky_9 : decode cX6_sky 9 = .ok (.iload_n 2, 1) := by decide +kernel
theorem dX6_sky_10 : decode cX6_sky 10 = .ok (.iconst 0, 1) := by decide +kernel
theorem dX6_sky_11 : decode cX6_sky 11 = .ok (.getstatic 131, 3) := by decide +kernel
theorem dX6_sky_14 : decode cX6_sky 14 = .ok (.iload_n 1, 1) := by decide +kernel
theorem dX6_sky_15 : decode cX6_sky 15 = .ok (.iaload, 1) := by decide +kernel
theorem dX6_sky_16 : decode cX6_sky 16 = .ok (.invokestatic 67, 3) := by decide +kernel
theorem dX6_sky_19 : decode cX6_sky 19 = .ok (.ifCond .ne 9, 3) := by decide +kernel
theorem dX6_sky_22 : decode cX6_sky 22 = .ok (.aload_n 0, 1) := by decide +kernel
theorem dX6_sky_23 : decode cX6_sky 23 = .ok (.iconst 0, 1) := by decide +kernel
theorem dX6_sky_24 : decode cX6_sky 24 = .ok (.invokevirtual 71, 3) := by decide +kernel
theorem dX6_sky_27 : decode cX6_sky 27 = .ok (.ireturn, 1) := by decide +kernel
theorem dX6_sky_28 : decode cX6_sky 28 = .ok (.aload_n 0, 1) := by decide +kernel
theorem dX6_sky_29 : decode cX6_sky 29 = .ok (.getfield 10, 3) := by decide +kernel
theorem dX6_sky_32 : decode cX6_sky 32 = .ok (.getfield 134, 3) := by decide +kernel
theorem dX6_sky_35 : decode cX6_sky 35 = .ok (.iload_n 1, 1) := by decide +kernel
theorem dX6_sky_36 : decode cX6_sky 36 = .ok (.iload_n 2, 1) := by decide +kernel
theorem dX6_sky_37 : decode cX6_sky 37 = .ok (.invokestatic 120, 3) := by decide +kernel
theorem dX6_sky_40 : decode cX6_sky 40 = .ok (.ireturn, 1) := by decide +kernel
theorem dX6_draw_0 : decode cX6_draw 0 = .ok (.iload_n 1, 1) := by decide +kernel
theorem dX6_draw_1 : decode cX6_draw 1 = .ok (.iconst 0, 1) := by decide +kernel
theorem dX6_draw_2 : decode cX6_draw 2 = .ok (.bipush 99, 2) := by decide +kernel
theorem dX6_draw_4 : decode cX6_draw 4 = .ok (.invokestatic 67, 3) := by decide +kernel
theorem dX6_draw_7 : decode cX6_draw 7 = .ok (.ifCond .ne 9, 3) := by decide +kernel
theorem dX6_draw_10 : decode cX6_draw 10 = .ok (.aload_n 0, 1) := by decide +kernel
theorem dX6_draw_11 : decode cX6_draw 11 = .ok (.iconst 0, 1) := by decide +kernel
theorem dX6_draw_12 : decode cX6_draw 12 = .ok (.invokevirtual 71, 3) := by decide +kernel
theorem dX6_draw_15 : decode cX6_draw 15 = .ok (.ireturn, 1) := by decide +kernel
theorem dX6_draw_16 : decode cX6_draw 16 = .ok (.aload_n 0, 1) := by decide +kernel
theorem dX6_draw_17 : decode cX6_draw 17 = .ok (.getfield 10, 3) := by decide +kernel
theorem dX6_draw_20 : decode cX6_draw 20 = .ok (.getfield 137, 3) := by decide +kernel
theorem dX6_draw_23 : decode cX6_draw 23 = .ok (.istore_n 2, 1) := by decide +kernel
theorem dX6_draw_24 : decode cX6_draw 24 = .ok (.aload_n 0, 1) := by decide +kernel
theorem dX6_draw_25 : decode cX6_draw 25 = .ok (.getfield 10, 3) := by decide +kernel
theorem dX6_draw_28 : decode cX6_draw 28 = .ok (.iload_n 1, 1) := by decide +kernel
theorem dX6_draw_29 : decode cX6_draw 29 = .ok (.putfield 137, 3) := by decide +kernel
theorem dX6_draw_32 : decode cX6_draw 32 = .ok (.iload_n 2, 1) := by decide +kernel
theorem dX6_draw_33 : decode cX6_draw 33 = .ok (.ireturn, 1) := by decide +kernel
theorem dX6_age_0 : decode cX6_age 0 = .ok (.iload_n 1, 1) := by decide +kernel
theorem dX6_age_1 : decode cX6_age 1 = .ok (.iconst 1, 1) := by decide +kernel
theorem dX6_age_2 : decode cX6_age 2 = .ok (.bipush 50, 2) := by decide +kernel
theorem dX6_age_4 : decode cX6_age 4 = .ok (.invokestatic 67, 3) := by decide +kernel
theorem dX6_age_7 : decode cX6_age 7 = .ok (.ifCond .ne 9, 3) := by decide +kernel
theorem dX6_age_10 : decode cX6_age 10 = .ok (.aload_n 0, 1) := by decide +kernel
theorem dX6_age_11 : decode cX6_age 11 = .ok (.iconst 0, 1) := by decide +kernel
theorem dX6_age_12 : decode cX6_age 12 = .ok (.invokevirtual 71, 3) := by decide +kernel
theorem dX6_age_15 : decode cX6_age 15 = .ok (.ireturn, 1) := by decide +kernel
theorem dX6_age_16 : decode cX6_age 16 = .ok (.iconst 0, 1) := by decide +kernel
theorem dX6_age_17 : decode cX6_age 17 = .ok (.istore_n 2, 1) := by decide +kernel
theorem dX6_age_18 : decode cX6_age 18 = .ok (.iconst 0, 1) := by decide +kernel
theorem dX6_age_19 : decode cX6_age 19 = .ok (.istore_n 3, 1) := by decide +kernel
theorem dX6_age_20 : decode cX6_age 20 = .ok (.iload_n 3, 1) := by decide +kernel
theorem dX6_age_21 : decode cX6_age 21 = .ok (.iload_n 1, 1) := by decide +kernel
theorem dX6_age_22 : decode cX6_age 22 = .ok (.if_icmp .ge 19, 3) := by decide +kernel
theorem dX6_age_25 : decode cX6_age 25 = .ok (.iload_n 2, 1) := by decide +kernel
theorem dX6_age_26 : decode cX6_age 26 = .ok (.aload_n 0, 1) := by decide +kernel
theorem dX6_age_27 : decode cX6_age 27 = .ok (.getfield 10, 3) := by decide +kernel
theorem dX6_age_30 : decode cX6_age 30 = .ok (.invokevirtual 140, 3) := by decide +kernel
theorem dX6_age_33 : decode cX6_age 33 = .ok (.iadd, 1) := by decide +kernel
theorem dX6_age_34 : decode cX6_age 34 = .ok (.istore_n 2, 1) := by decide +kernel
theorem dX6_age_35 : decode cX6_age 35 = .ok (.iinc 3 1, 3) := by decide +kernel
theorem dX6_age_38 : decode cX6_age 38 = .ok (.goto (-18), 3) := by decide +kernel
theorem dX6_age_41 : decode cX6_age 41 = .ok (.iload_n 2, 1) := by decide +kernel
theorem dX6_age_42 : decode cX6_age 42 = .ok (.ireturn, 1) := by decide +kernel
theorem dX6_side_0 : decode cX6_side 0 = .ok (.iload_n 1, 1) := by decide +kernel
theorem dX6_side_1 : decode cX6_side 1 = .ok (.iconst 0, 1) := by decide +kernel
theorem dX6_side_2 : decode cX6_side 2 = .ok (.bipush 7, 2) := by decide +kernel
theorem dX6_side_4 : decode cX6_side 4 = .ok (.invokestatic 67, 3) := by decide +kernel
theorem dX6_side_7 : decode cX6_side 7 = .ok (.ifCond .eq 12, 3) := by decide +kernel
theorem dX6_side_10 : decode cX6_side 10 = .ok (.iload_n 2, 1) := by decide +kernel
theorem dX6_side_11 : decode cX6_side 11 = .ok (.iconst 0, 1) := by decide +kernel
theorem dX6_side_12 : decode cX6_side 12 = .ok (.iconst 2, 1) := by decide +kernel
theorem dX6_side_13 : decode cX6_side 13 = .ok (.invokestatic 67, 3) := by decide +kernel
theorem dX6_side_16 : decode cX6_side 16 = .ok (.ifCond .ne 9, 3) := by decide +kernel
theorem dX6_side_19 : decode cX6_side 19 = .ok (.aload_n 0, 1) := by decide +kernel
theorem dX6_side_20 : decode cX6_side 20 = .ok (.iconst 0, 1) := by decide +kernel
theorem dX6_side_21 : decode cX6_side 21 = .ok (.invokevirtual 71, 3) := by decide +kernel
theorem dX6_side_24 : decode cX6_side 24 = .ok (.ireturn, 1) := by decide +kernel
theorem dX6_side_25 : decode cX6_side 25 = .ok (.aload_n 0, 1) := by decide +kernel
theorem dX6_side_26 : decode cX6_side 26 = .ok (.getfield 31, 3) := by decide +kernel
theorem dX6_side_29 : decode cX6_side 29 = .ok (.invokevirtual 87, 3) := by decide +kernel
theorem dX6_side_32 : decode cX6_side 32 = .ok (.aload_n 0, 1) := by decide +kernel
theorem dX6_side_33 : decode cX6_side 33 = .ok (.getfield 31, 3) := by decide +kernel
theorem dX6_side_36 : decode cX6_side 36 = .ok (.invokevirtual 144, 3) := by decide +kernel
theorem dX6_side_39 : decode cX6_side 39 = .ok (.iload_n 2, 1) := by decide +kernel
theorem dX6_side_40 : decode cX6_side 40 = .ok (.lookupswitch 46 #[(0, 28), (1, 37)], 28) := by decide +kernel
theorem dX6_side_68 : decode cX6_side 68 = .ok (.aload_n 0, 1) := by decide +kernel
theorem dX6_side_69 : decode cX6_side 69 = .ok (.getfield 31, 3) := by decide +kernel
theorem dX6_side_72 : decode cX6_side 72 = .ok (.iload_n 1, 1) := by decide +kernel
theorem dX6_side_73 : decode cX6_side 73 = .ok (.invokevirtual 147, 3) := by decide +kernel
theorem dX6_side_76 : decode cX6_side 76 = .ok (.ireturn, 1) := by decide +kernel
theorem dX6_side_77 : decode cX6_side 77 = .ok (.aload_n 0, 1) := by decide +kernel
theorem dX6_side_78 : decode cX6_side 78 = .ok (.getfield 31, 3) := by decide +kernel
theorem dX6_side_81 : decode cX6_side 81 = .ok (.iload_n 1, 1) := by decide +kernel
theorem dX6_side_82 : decode cX6_side 82 = .ok (.invokevirtual 150, 3) := by decide +kernel
theorem dX6_side_85 : decode cX6_side 85 = .ok (.ireturn, 1) := by decide +kernel
theorem dX6_side_86 : decode cX6_side 86 = .ok (.aload_n 0, 1) := by decide +kernel
theorem dX6_side_87 : decode cX6_side 87 = .ok (.getfield 31, 3) := by decide +kernel
theorem dX6_side_90 : decode cX6_side 90 = .ok (.iload_n 1, 1) := by decide +kernel
theorem dX6_side_91 : decode cX6_side 91 = .ok (.invokevirtual 153, 3) := by decide +kernel
theorem dX6_side_94 : decode cX6_side 94 = .ok (.ireturn, 1) := by decide +kernel
theorem dX6_stands_0 : decode cX6_stands 0 = .ok (.aload_n 0, 1) := by decide +kernel
theorem dX6_stands_1 : decode cX6_stands 1 = .ok (.getfield 31, 3) := by decide +kernel
theorem dX6_stands_4 : decode cX6_stands 4 = .ok (.invokevirtual 87, 3) := by decide +kernel
theorem dX6_stands_7 : decode cX6_stands 7 = .ok (.aload_n 0, 1) := by decide +kernel
theorem dX6_stands_8 : decode cX6_stands 8 = .ok (.getfield 31, 3) := by decide +kernel
theorem dX6_stands_11 : decode cX6_stands 11 = .ok (.invokevirtual 156, 3) := by decide +kernel
theorem dX6_stands_14 : decode cX6_stands 14 = .ok (.ifCond .eq 7, 3) := by decide +kernel
theorem dX6_stands_17 : decode cX6_stands 17 = .ok (.iconst 1, 1) := by decide +kernel
theorem dX6_stands_18 : decode cX6_stands 18 = .ok (.goto 4, 3) := by decide +kernel
theorem dX6_stands_21 : decode cX6_stands 21 = .ok (.iconst 0, 1) := by decide +kernel
theorem dX6_stands_22 : decode cX6_stands 22 = .ok (.ireturn, 1) := by decide +kernel
theorem dX6_first_0 : decode cX6_first 0 = .ok (.aload_n 0, 1) := by decide +kernel
theorem dX6_first_1 : decode cX6_first 1 = .ok (.getfield 31, 3) := by decide +kernel
theorem dX6_first_4 : decode cX6_first 4 = .ok (.invokevirtual 87, 3) := by decide +kernel
theorem dX6_first_7 : decode cX6_first 7 = .ok (.aload_n 0, 1) := by decide +kernel
theorem dX6_first_8 : decode cX6_first 8 = .ok (.getfield 31, 3) := by decide +kernel
theorem dX6_first_11 : decode cX6_first 11 = .ok (.invokevirtual 144, 3) := by decide +kernel
theorem dX6_first_14 : decode cX6_first 14 = .ok (.aload_n 0, 1) := by decide +kernel
theorem dX6_first_15 : decode cX6_first 15 = .ok (.getfield 31, 3) := by decide +kernel
theorem dX6_first_18 : decode cX6_first 18 = .ok (.invokevirtual 160, 3) := by decide +kernel
theorem dX6_first_21 : decode cX6_first 21 = .ok (.ireturn, 1) := by decide +kernel
theorem dX6_gust_0 : decode cX6_gust 0 = .ok (.aload_n 0, 1) := by decide +kernel
theorem dX6_gust_1 : decode cX6_gust 1 = .ok (.getfield 31, 3) := by decide +kernel
theorem dX6_gust_4 : decode cX6_gust 4 = .ok (.invokevirtual 87, 3) := by decide +kernel
theorem dX6_gust_7 : decode cX6_gust 7 = .ok (.iconst 0, 1) := by decide +kernel
theorem dX6_gust_8 : decode cX6_gust 8 = .ok (.istore_n 1, 1) := by decide +kernel
theorem dX6_gust_9 : decode cX6_gust 9 = .ok (.iload_n 1, 1) := by decide +kernel
theorem dX6_gust_10 : decode cX6_gust 10 = .ok (.bipush 99, 2) := by decide +kernel
theorem dX6_gust_12 : decode cX6_gust 12 = .ok (.if_icmp .gt 29, 3) := by decide +kernel
theorem dX6_gust_15 : decode cX6_gust 15 = .ok (.aload_n 0, 1) := by decide +kernel
theorem dX6_gust_16 : decode cX6_gust 16 = .ok (.getfield 31, 3) := by decide +kernel
theorem dX6_gust_19 : decode cX6_gust 19 = .ok (.iload_n 1, 1) := by decide +kernel
theorem dX6_gust_20 : decode cX6_gust 20 = .ok (.putfield 163, 3) := by decide +kernel
theorem dX6_gust_23 : decode cX6_gust 23 = .ok (.aload_n 0, 1) := by decide +kernel
theorem dX6_gust_24 : decode cX6_gust 24 = .ok (.getfield 31, 3) := by decide +kernel
theorem dX6_gust_27 : decode cX6_gust 27 = .ok (.invokevirtual 156, 3) := by decide +kernel
theorem dX6_gust_30 : decode cX6_gust 30 = .ok (.ifCond .ne 5, 3) := by decide +kernel
theorem dX6_gust_33 : decode cX6_gust 33 = .ok (.iload_n 1, 1) := by decide +kernel
theorem dX6_gust_34 : decode cX6_gust 34 = .ok (.ireturn, 1) := by decide +kernel
theorem dX6_gust_35 : decode cX6_gust 35 = .ok (.iinc 1 1, 3) := by decide +kernel
theorem dX6_gust_38 : decode cX6_gust 38 = .ok (.goto (-29), 3) := by decide +kernel
theorem dX6_gust_41 : decode cX6_gust 41 = .ok (.aload_n 0, 1) := by decide +kernel
theorem dX6_gust_42 : decode cX6_gust 42 = .ok (.iconst 3, 1) := by decide +kernel
theorem dX6_gust_43 : decode cX6_gust 43 = .ok (.invokevirtual 71, 3) := by decide +kernel
theorem dX6_gust_46 : decode cX6_gust 46 = .ok (.ireturn, 1) := by decide +kernel
theorem dX6_canWant_0 : decode cX6_canWant 0 = .ok (.aload_n 0, 1) := by decide +kernel
theorem dX6_canWant_1 : decode cX6_canWant 1 = .ok (.getfield 31, 3) := by decide +kernel
theorem dX6_canWant_4 : decode cX6_canWant 4 = .ok (.invokevirtual 87, 3) := by decide +kernel
theorem dX6_canWant_7 : decode cX6_canWant 7 = .ok (.iconst 0, 1) := by decide +kernel
theorem dX6_canWant_8 : decode cX6_canWant 8 = .ok (.istore_n 1, 1) := by decide +kernel
theorem dX6_canWant_9 : decode cX6_canWant 9 = .ok (.iconst 0, 1) := by decide +kernel
theorem dX6_canWant_10 : decode cX6_canWant 10 = .ok (.istore_n 2, 1) := by decide +kernel
theorem dX6_canWant_11 : decode cX6_canWant 11 = .ok (.iload_n 2, 1) := by decide +kernel
theorem dX6_canWant_12 : decode cX6_canWant 12 = .ok (.aload_n 0, 1) := by decide +kernel
theorem dX6_canWant_13 : decode cX6_canWant 13 = .ok (.getfield 10, 3) := by decide +kernel
theorem dX6_canWant_16 : decode cX6_canWant 16 = .ok (.getfield 75, 3) := by decide +kernel
theorem dX6_canWant_19 : decode cX6_canWant 19 = .ok (.if_icmp .ge 56, 3) := by decide +kernel
theorem dX6_canWant_22 : decode cX6_canWant 22 = .ok (.aload_n 0, 1) := by decide +kernel
theorem dX6_canWant_23 : decode cX6_canWant 23 = .ok (.getfield 31, 3) := by decide +kernel
theorem dX6_canWant_26 : decode cX6_canWant 26 = .ok (.aload_n 0, 1) := by decide +kernel
theorem dX6_canWant_27 : decode cX6_canWant 27 = .ok (.getfield 10, 3) := by decide +kernel
theorem dX6_canWant_30 : decode cX6_canWant 30 = .ok (.getfield 124, 3) := by decide +kernel
theorem dX6_canWant_33 : decode cX6_canWant 33 = .ok (.iconst 1, 1) := by decide +kernel
theorem dX6_canWant_34 : decode cX6_canWant 34 = .ok (.iload_n 2, 1) := by decide +kernel
theorem dX6_canWant_35 : decode cX6_canWant 35 = .ok (.ishl, 1) := by decide +kernel
theorem dX6_canWant_36 : decode cX6_canWant 36 = .ok (.iconst (-1), 1) := by decide +kernel
theorem dX6_canWant_37 : decode cX6_canWant 37 = .ok (.ixor, 1) := by decide +kernel
theorem dX6_canWant_38 : decode cX6_canWant 38 = .ok (.iand, 1) := by decide +kernel
theorem dX6_canWant_39 : decode cX6_canWant 39 = .ok (.putfield 166, 3) := by decide +kernel
theorem dX6_canWant_42 : decode cX6_canWant 42 = .ok (.aload_n 0, 1) := by decide +kernel
theorem dX6_canWant_43 : decode cX6_canWant 43 = .ok (.getfield 10, 3) := by decide +kernel
theorem dX6_canWant_46 : decode cX6_canWant 46 = .ok (.iload_n 2, 1) := by decide +kernel
theorem dX6_canWant_47 : decode cX6_canWant 47 = .ok (.invokevirtual 105, 3) := by decide +kernel
theorem dX6_canWant_50 : decode cX6_canWant 50 = .ok (.ifCond .eq 19, 3) := by decide +kernel
theorem dX6_canWant_53 : decode cX6_canWant 53 = .ok (.aload_n 0, 1) := by decide +kernel
theorem dX6_canWant_54 : decode cX6_canWant 54 = .ok (.getfield 31, 3) := by decide +kernel
theorem dX6_canWant_57 : decode cX6_canWant 57 = .ok (.invokevirtual 156, 3) := by decide +kernel
theorem dX6_canWant_60 : decode cX6_canWant 60 = .ok (.ifCond .eq 9, 3) := by decide +kernel
theorem dX6_canWant_63 : decode cX6_canWant 63 = .ok (.iload_n 1, 1) := by decide +kernel
theorem dX6_canWant_64 : decode cX6_canWant 64 = .ok (.iconst 1, 1) := by decide +kernel
theorem dX6_canWant_65 : decode cX6_canWant 65 = .ok (.iload_n 2, 1) := by decide +kernel
theorem dX6_canWant_66 : decode cX6_canWant 66 = .ok (.ishl, 1) := by decide +kernel
theorem dX6_canWant_67 : decode cX6_canWant 67 = .ok (.ior, 1) := by decide +kernel
theorem dX6_canWant_68 : decode cX6_canWant 68 = .ok (.istore_n 1, 1) := by decide +kernel
theorem dX6_canWant_69 : decode cX6_canWant 69 = .ok (.iinc 2 1, 3) := by decide +kernel
theorem dX6_canWant_72 : decode cX6_canWant 72 = .ok (.goto (-61), 3) := by decide +kernel
theorem dX6_canWant_75 : decode cX6_canWant 75 = .ok (.iload_n 1, 1) := by decide +kernel
theorem dX6_canWant_76 : decode cX6_canWant 76 = .ok (.ireturn, 1) := by decide +kernel
theorem dX6_span_0 : decode cX6_span 0 = .ok (.iload_n 1, 1) := by decide +kernel
theorem dX6_span_1 : decode cX6_span 1 = .ok (.iconst 0, 1) := by decide +kernel
theorem dX6_span_2 : decode cX6_span 2 = .ok (.iconst 1, 1) := by decide +kernel
theorem dX6_span_3 : decode cX6_span 3 = .ok (.invokestatic 67, 3) := by decide +kernel
theorem dX6_span_6 : decode cX6_span 6 = .ok (.ifCond .ne 9, 3) := by decide +kernel
theorem dX6_span_9 : decode cX6_span 9 = .ok (.aload_n 0, 1) := by decide +kernel
theorem dX6_span_10 : decode cX6_span 10 = .ok (.iconst 0, 1) := by decide +kernel
theorem dX6_span_11 : decode cX6_span 11 = .ok (.invokevirtual 71, 3) := by decide +kernel
theorem dX6_span_14 : decode cX6_span 14 = .ok (.ireturn, 1) := by decide +kernel
theorem dX6_span_15 : decode cX6_span 15 = .ok (.aload_n 0, 1) := by decide +kernel
theorem dX6_span_16 : decode cX6_span 16 = .ok (.getfield 31, 3) := by decide +kernel
theorem dX6_span_19 : decode cX6_span 19 = .ok (.invokevirtual 87, 3) := by decide +kernel
theorem dX6_span_22 : decode cX6_span 22 = .ok (.iconst 0, 1) := by decide +kernel
theorem dX6_span_23 : decode cX6_span 23 = .ok (.istore_n 2, 1) := by decide +kernel
theorem dX6_span_24 : decode cX6_span 24 = .ok (.iload_n 2, 1) := by decide +kernel
theorem dX6_span_25 : decode cX6_span 25 = .ok (.bipush 99, 2) := by decide +kernel
theorem dX6_span_27 : decode cX6_span 27 = .ok (.if_icmp .gt 46, 3) := by decide +kernel
theorem dX6_span_30 : decode cX6_span 30 = .ok (.aload_n 0, 1) := by decide +kernel
theorem dX6_span_31 : decode cX6_span 31 = .ok (.getfield 31, 3) := by decide +kernel
theorem dX6_span_34 : decode cX6_span 34 = .ok (.iload_n 1, 1) := by decide +kernel
theorem dX6_span_35 : decode cX6_span 35 = .ok (.ifCond .ne 7, 3) := by decide +kernel
theorem dX6_span_38 : decode cX6_span 38 = .ok (.iload_n 2, 1) := by decide +kernel
theorem dX6_span_39 : decode cX6_span 39 = .ok (.goto 7, 3) := by decide +kernel
theorem dX6_span_42 : decode cX6_span 42 = .ok (.bipush 99, 2) := by decide +kernel
theorem dX6_span_44 : decode cX6_span 44 = .ok (.iload_n 2, 1) := by decide +kernel
theorem dX6_span_45 : decode cX6_span 45 = .ok (.isub, 1) := by decide +kernel
theorem dX6_span_46 : decode cX6_span 46 = .ok (.putfield 169, 3) := by decide +kernel
theorem dX6_span_49 : decode cX6_span 49 = .ok (.aload_n 0, 1) := by decide +kernel
theorem dX6_span_50 : decode cX6_span 50 = .ok (.getfield 31, 3) := by decide +kernel
theorem dX6_span_53 : decode cX6_span 53 = .ok (.invokevirtual 156, 3) := by decide +kernel
theorem dX6_span_56 : decode cX6_span 56 = .ok (.ifCond .eq 11, 3) := by decide +kernel
theorem dX6_span_59 : decode cX6_span 59 = .ok (.aload_n 0, 1) := by decide +kernel
theorem dX6_span_60 : decode cX6_span 60 = .ok (.getfield 31, 3) := by decide +kernel
theorem dX6_span_63 : decode cX6_span 63 = .ok (.getfield 169, 3) := by decide +kernel
theorem dX6_span_66 : decode cX6_span 66 = .ok (.ireturn, 1) := by decide +kernel
theorem dX6_span_67 : decode cX6_span 67 = .ok (.iinc 2 1, 3) := by decide +kernel
theorem dX6_span_70 : decode cX6_span 70 = .ok (.goto (-46), 3) := by decide +kernel
theorem dX6_span_73 : decode cX6_span 73 = .ok (.aload_n 0, 1) := by decide +kernel
theorem dX6_span_74 : decode cX6_span 74 = .ok (.iconst 3, 1) := by decide +kernel
theorem dX6_span_75 : decode cX6_span 75 = .ok (.invokevirtual 71, 3) := by decide +kernel
theorem dX6_span_78 : decode cX6_span 78 = .ok (.ireturn, 1) := by decide +kernel
theorem dX6_worst_0 : decode cX6_worst 0 = .ok (.aload_n 0, 1) := by decide +kernel
theorem dX6_worst_1 : decode cX6_worst 1 = .ok (.getfield 31, 3) := by decide +kernel
theorem dX6_worst_4 : decode cX6_worst 4 = .ok (.invokevirtual 87, 3) := by decide +kernel
theorem dX6_worst_7 : decode cX6_worst 7 = .ok (.iconst 0, 1) := by decide +kernel
theorem dX6_worst_8 : decode cX6_worst 8 = .ok (.istore_n 1, 1) := by decide +kernel
theorem dX6_worst_9 : decode cX6_worst 9 = .ok (.iconst 0, 1) := by decide +kernel
theorem dX6_worst_10 : decode cX6_worst 10 = .ok (.istore_n 2, 1) := by decide +kernel
theorem dX6_worst_11 : decode cX6_worst 11 = .ok (.iconst 0, 1) := by decide +kernel
theorem dX6_worst_12 : decode cX6_worst 12 = .ok (.istore_n 3, 1) := by decide +kernel
theorem dX6_worst_13 : decode cX6_worst 13 = .ok (.iload_n 3, 1) := by decide +kernel
theorem dX6_worst_14 : decode cX6_worst 14 = .ok (.bipush 8, 2) := by decide +kernel
theorem dX6_worst_16 : decode cX6_worst 16 = .ok (.if_icmp .ge 55, 3) := by decide +kernel
theorem dX6_worst_19 : decode cX6_worst 19 = .ok (.aload_n 0, 1) := by decide +kernel
theorem dX6_worst_20 : decode cX6_worst 20 = .ok (.getfield 31, 3) := by decide +kernel
theorem dX6_worst_23 : decode cX6_worst 23 = .ok (.iload_n 3, 1) := by decide +kernel
theorem dX6_worst_24 : decode cX6_worst 24 = .ok (.putfield 170, 3) := by decide +kernel
theorem dX6_worst_27 : decode cX6_worst 27 = .ok (.aload_n 0, 1) := by decide +kernel
theorem dX6_worst_28 : decode cX6_worst 28 = .ok (.getfield 31, 3) := by decide +kernel
theorem dX6_worst_31 : decode cX6_worst 31 = .ok (.invokevirtual 144, 3) := by decide +kernel
theorem dX6_worst_34 : decode cX6_worst 34 = .ok (.aload_n 0, 1) := by decide +kernel
theorem dX6_worst_35 : decode cX6_worst 35 = .ok (.getfield 31, 3) := by decide +kernel
theorem dX6_worst_38 : decode cX6_worst 38 = .ok (.aload_n 0, 1) := by decide +kernel
theorem dX6_worst_39 : decode cX6_worst 39 = .ok (.getfield 31, 3) := by decide +kernel
theorem dX6_worst_42 : decode cX6_worst 42 = .ok (.invokevirtual 160, 3) := by decide +kernel
theorem dX6_worst_45 : decode cX6_worst 45 = .ok (.invokevirtual 153, 3) := by decide +kernel
theorem dX6_worst_48 : decode cX6_worst 48 = .ok (.istore 4, 2) := by decide +kernel
theorem dX6_worst_50 : decode cX6_worst 50 = .ok (.iload_n 3, 1) := by decide +kernel
theorem dX6_worst_51 : decode cX6_worst 51 = .ok (.ifCond .eq 9, 3) := by decide +kernel
theorem dX6_worst_54 : decode cX6_worst 54 = .ok (.iload 4, 2) := by decide +kernel
theorem dX6_worst_56 : decode cX6_worst 56 = .ok (.iload_n 2, 1) := by decide +kernel
theorem dX6_worst_57 : decode cX6_worst 57 = .ok (.if_icmp .ge 8, 3) := by decide +kernel
theorem dX6_worst_60 : decode cX6_worst 60 = .ok (.iload 4, 2) := by decide +kernel
theorem dX6_worst_62 : decode cX6_worst 62 = .ok (.istore_n 2, 1) := by decide +kernel
theorem dX6_worst_63 : decode cX6_worst 63 = .ok (.iload_n 3, 1) := by decide +kernel
theorem dX6_worst_64 : decode cX6_worst 64 = .ok (.istore_n 1, 1) := by decide +kernel
theorem dX6_worst_65 : decode cX6_worst 65 = .ok (.iinc 3 1, 3) := by decide +kernel
theorem dX6_worst_68 : decode cX6_worst 68 = .ok (.goto (-55), 3) := by decide +kernel
theorem dX6_worst_71 : decode cX6_worst 71 = .ok (.iload_n 1, 1) := by decide +kernel
theorem dX6_worst_72 : decode cX6_worst 72 = .ok (.ireturn, 1) := by decide +kernel
theorem dX6_warmth_0 : decode cX6_warmth 0 = .ok (.iload_n 1, 1) := by decide +kernel
theorem dX6_warmth_1 : decode cX6_warmth 1 = .ok (.iconst 0, 1) := by decide +kernel
theorem dX6_warmth_2 : decode cX6_warmth 2 = .ok (.iconst 1, 1) := by decide +kernel
theorem dX6_warmth_3 : decode cX6_warmth 3 = .ok (.invokestatic 67, 3) := by decide +kernel
theorem dX6_warmth_6 : decode cX6_warmth 6 = .ok (.ifCond .ne 9, 3) := by decide +kernel
theorem dX6_warmth_9 : decode cX6_warmth 9 = .ok (.aload_n 0, 1) := by decide +kernel
theorem dX6_warmth_10 : decode cX6_warmth 10 = .ok (.iconst 0, 1) := by decide +kernel
theorem dX6_warmth_11 : decode cX6_warmth 11 = .ok (.invokevirtual 71, 3) := by decide +kernel
theorem dX6_warmth_14 : decode cX6_warmth 14 = .ok (.ireturn, 1) := by decide +kernel
theorem dX6_warmth_15 : decode cX6_warmth 15 = .ok (.aload_n 0, 1) := by decide +kernel
theorem dX6_warmth_16 : decode cX6_warmth 16 = .ok (.getfield 31, 3) := by decide +kernel
theorem dX6_warmth_19 : decode cX6_warmth 19 = .ok (.invokevirtual 87, 3) := by decide +kernel
theorem dX6_warmth_22 : decode cX6_warmth 22 = .ok (.iload_n 1, 1) := by decide +kernel
theorem dX6_warmth_23 : decode cX6_warmth 23 = .ok (.ifCond .ne 13, 3) := by decide +kernel
theorem dX6_warmth_26 : decode cX6_warmth 26 = .ok (.aload_n 0, 1) := by decide +kernel
theorem dX6_warmth_27 : decode cX6_warmth 27 = .ok (.getfield 31, 3) := by decide +kernel
theorem dX6_warmth_30 : decode cX6_warmth 30 = .ok (.invokevirtual 173, 3) := by decide +kernel
theorem dX6_warmth_33 : decode cX6_warmth 33 = .ok (.goto 10, 3) := by decide +kernel
theorem dX6_warmth_36 : decode cX6_warmth 36 = .ok (.aload_n 0, 1) := by decide +kernel
theorem dX6_warmth_37 : decode cX6_warmth 37 = .ok (.getfield 31, 3) := by decide +kernel
theorem dX6_warmth_40 : decode cX6_warmth 40 = .ok (.invokevirtual 176, 3) := by decide +kernel
theorem dX6_warmth_43 : decode cX6_warmth 43 = .ok (.ireturn, 1) := by decide +kernel
theorem dX6_idle_0 : decode cX6_idle 0 = .ok (.aload_n 0, 1) := by decide +kernel
theorem dX6_idle_1 : decode cX6_idle 1 = .ok (.getfield 31, 3) := by decide +kernel
theorem dX6_idle_4 : decode cX6_idle 4 = .ok (.invokevirtual 87, 3) := by decide +kernel
theorem dX6_idle_7 : decode cX6_idle 7 = .ok (.aload_n 0, 1) := by decide +kernel
theorem dX6_idle_8 : decode cX6_idle 8 = .ok (.getfield 31, 3) := by decide +kernel
theorem dX6_idle_11 : decode cX6_idle 11 = .ok (.invokevirtual 176, 3) := by decide +kernel
theorem dX6_idle_14 : decode cX6_idle 14 = .ok (.istore_n 1, 1) := by decide +kernel
theorem dX6_idle_15 : decode cX6_idle 15 = .ok (.iconst 0, 1) := by decide +kernel
theorem dX6_idle_16 : decode cX6_idle 16 = .ok (.istore_n 2, 1) := by decide +kernel
theorem dX6_idle_17 : decode cX6_idle 17 = .ok (.iconst 0, 1) := by decide +kernel
theorem dX6_idle_18 : decode cX6_idle 18 = .ok (.istore_n 3, 1) := by decide +kernel
theorem dX6_idle_19 : decode cX6_idle 19 = .ok (.iload_n 3, 1) := by decide +kernel
theorem dX6_idle_20 : decode cX6_idle 20 = .ok (.aload_n 0, 1) := by decide +kernel
theorem dX6_idle_21 : decode cX6_idle 21 = .ok (.getfield 10, 3) := by decide +kernel
theorem dX6_idle_24 : decode cX6_idle 24 = .ok (.getfield 75, 3) := by decide +kernel
theorem dX6_idle_27 : decode cX6_idle 27 = .ok (.if_icmp .ge 57, 3) := by decide +kernel
theorem dX6_idle_30 : decode cX6_idle 30 = .ok (.aload_n 0, 1) := by decide +kernel
theorem dX6_idle_31 : decode cX6_idle 31 = .ok (.getfield 31, 3) := by decide +kernel
theorem dX6_idle_34 : decode cX6_idle 34 = .ok (.aload_n 0, 1) := by decide +kernel
theorem dX6_idle_35 : decode cX6_idle 35 = .ok (.getfield 10, 3) := by decide +kernel
theorem dX6_idle_38 : decode cX6_idle 38 = .ok (.getfield 124, 3) := by decide +kernel
theorem dX6_idle_41 : decode cX6_idle 41 = .ok (.iconst 1, 1) := by decide +kernel
theorem dX6_idle_42 : decode cX6_idle 42 = .ok (.iload_n 3, 1) := by decide +kernel
theorem dX6_idle_43 : decode cX6_idle 43 = .ok (.ishl, 1) := by decide +kernel
theorem dX6_idle_44 : decode cX6_idle 44 = .ok (.iconst (-1), 1) := by decide +kernel
theorem dX6_idle_45 : decode cX6_idle 45 = .ok (.ixor, 1) := by decide +kernel
theorem dX6_idle_46 : decode cX6_idle 46 = .ok (.iand, 1) := by decide +kernel
theorem dX6_idle_47 : decode cX6_idle 47 = .ok (.putfield 166, 3) := by decide +kernel
theorem dX6_idle_50 : decode cX6_idle 50 = .ok (.aload_n 0, 1) := by decide +kernel
theorem dX6_idle_51 : decode cX6_idle 51 = .ok (.getfield 10, 3) := by decide +kernel
theorem dX6_idle_54 : decode cX6_idle 54 = .ok (.iload_n 3, 1) := by decide +kernel
theorem dX6_idle_55 : decode cX6_idle 55 = .ok (.invokevirtual 105, 3) := by decide +kernel
theorem dX6_idle_58 : decode cX6_idle 58 = .ok (.ifCond .eq 20, 3) := by decide +kernel
theorem dX6_idle_61 : decode cX6_idle 61 = .ok (.aload_n 0, 1) := by decide +kernel
theorem dX6_idle_62 : decode cX6_idle 62 = .ok (.getfield 31, 3) := by decide +kernel
theorem dX6_idle_65 : decode cX6_idle 65 = .ok (.invokevirtual 176, 3) := by decide +kernel
theorem dX6_idle_68 : decode cX6_idle 68 = .ok (.iload_n 1, 1) := by decide +kernel
theorem dX6_idle_69 : decode cX6_idle 69 = .ok (.if_icmp .ne 9, 3) := by decide +kernel
theorem dX6_idle_72 : decode cX6_idle 72 = .ok (.iload_n 2, 1) := by decide +kernel
theorem dX6_idle_73 : decode cX6_idle 73 = .ok (.iconst 1, 1) := by decide +kernel
theorem dX6_idle_74 : decode cX6_idle 74 = .ok (.iload_n 3, 1) := by decide +kernel
theorem dX6_idle_75 : decode cX6_idle 75 = .ok (.ishl, 1) := by decide +kernel
theorem dX6_idle_76 : decode cX6_idle 76 = .ok (.ior, 1) := by decide +kernel
theorem dX6_idle_77 : decode cX6_idle 77 = .ok (.istore_n 2, 1) := by decide +kernel
theorem dX6_idle_78 : decode cX6_idle 78 = .ok (.iinc 3 1, 3) := by decide +kernel
theorem dX6_idle_81 : decode cX6_idle 81 = .ok (.goto (-62), 3) := by decide +kernel
theorem dX6_idle_84 : decode cX6_idle 84 = .ok (.iload_n 2, 1) := by decide +kernel
theorem dX6_idle_85 : decode cX6_idle 85 = .ok (.ireturn, 1) := by decide +kernel
theorem dX6_beast_0 : decode cX6_beast 0 = .ok (.iload_n 1, 1) := by decide +kernel
theorem dX6_beast_1 : decode cX6_beast 1 = .ok (.iconst 1, 1) := by decide +kernel
theorem dX6_beast_2 : decode cX6_beast 2 = .ok (.sipush 999, 3) := by decide +kernel
theorem dX6_beast_5 : decode cX6_beast 5 = .ok (.invokestatic 67, 3) := by decide +kernel
theorem dX6_beast_8 : decode cX6_beast 8 = .ok (.ifCond .ne 9, 3) := by decide +kernel
theorem dX6_beast_11 : decode cX6_beast 11 = .ok (.aload_n 0, 1) := by decide +kernel
theorem dX6_beast_12 : decode cX6_beast 12 = .ok (.iconst 0, 1) := by decide +kernel
theorem dX6_beast_13 : decode cX6_beast 13 = .ok (.invokevirtual 71, 3) := by decide +kernel
theorem dX6_beast_16 : decode cX6_beast 16 = .ok (.ireturn, 1) := by decide +kernel
theorem dX6_beast_17 : decode cX6_beast 17 = .ok (.aload_n 0, 1) := by decide +kernel
theorem dX6_beast_18 : decode cX6_beast 18 = .ok (.getfield 10, 3) := by decide +kernel
theorem dX6_beast_21 : decode cX6_beast 21 = .ok (.getfield 179, 3) := by decide +kernel
theorem dX6_beast_24 : decode cX6_beast 24 = .ok (.bipush 6, 2) := by decide +kernel
theorem dX6_beast_26 : decode cX6_beast 26 = .ok (.if_icmp .lt 9, 3) := by decide +kernel
theorem dX6_beast_29 : decode cX6_beast 29 = .ok (.aload_n 0, 1) := by decide +kernel
theorem dX6_beast_30 : decode cX6_beast 30 = .ok (.iconst 1, 1) := by decide +kernel
theorem dX6_beast_31 : decode cX6_beast 31 = .ok (.invokevirtual 71, 3) := by decide +kernel
theorem dX6_beast_34 : decode cX6_beast 34 = .ok (.ireturn, 1) := by decide +kernel
theorem dX6_beast_35 : decode cX6_beast 35 = .ok (.aload_n 0, 1) := by decide +kernel
theorem dX6_beast_36 : decode cX6_beast 36 = .ok (.getfield 10, 3) := by decide +kernel
theorem dX6_beast_39 : decode cX6_beast 39 = .ok (.iload_n 1, 1) := by decide +kernel
theorem dX6_beast_40 : decode cX6_beast 40 = .ok (.invokevirtual 182, 3) := by decide +kernel
theorem dX6_beast_43 : decode cX6_beast 43 = .ok (.ireturn, 1) := by decide +kernel
theorem dX6_cap_0 : decode cX6_cap 0 = .ok (.iload_n 1, 1) := by decide +kernel
theorem dX6_cap_1 : decode cX6_cap 1 = .ok (.iconst 0, 1) := by decide +kernel
theorem dX6_cap_2 : decode cX6_cap 2 = .ok (.aload_n 0, 1) := by decide +kernel
theorem dX6_cap_3 : decode cX6_cap 3 = .ok (.getfield 10, 3) := by decide +kernel
theorem dX6_cap_6 : decode cX6_cap 6 = .ok (.getfield 179, 3) := by decide +kernel
theorem dX6_cap_9 : decode cX6_cap 9 = .ok (.iconst 1, 1) := by decide +kernel
theorem dX6_cap_10 : decode cX6_cap 10 = .ok (.isub, 1) := by decide +kernel
theorem dX6_cap_11 : decode cX6_cap 11 = .ok (.invokestatic 67, 3) := by decide +kernel
theorem dX6_cap_14 : decode cX6_cap 14 = .ok (.ifCond .ne 9, 3) := by decide +kernel
theorem dX6_cap_17 : decode cX6_cap 17 = .ok (.aload_n 0, 1) := by decide +kernel
theorem dX6_cap_18 : decode cX6_cap 18 = .ok (.iconst 0, 1) := by decide +kernel
theorem dX6_cap_19 : decode cX6_cap 19 = .ok (.invokevirtual 71, 3) := by decide +kernel
theorem dX6_cap_22 : decode cX6_cap 22 = .ok (.ireturn, 1) := by decide +kernel
theorem dX6_cap_23 : decode cX6_cap 23 = .ok (.aload_n 0, 1) := by decide +kernel
theorem dX6_cap_24 : decode cX6_cap 24 = .ok (.getfield 10, 3) := by decide +kernel
theorem dX6_cap_27 : decode cX6_cap 27 = .ok (.getfield 185, 3) := by decide +kernel
theorem dX6_cap_30 : decode cX6_cap 30 = .ok (.iload_n 1, 1) := by decide +kernel
theorem dX6_cap_31 : decode cX6_cap 31 = .ok (.iaload, 1) := by decide +kernel
theorem dX6_cap_32 : decode cX6_cap 32 = .ok (.ireturn, 1) := by decide +kernel
theorem dX6_beasts_0 : decode cX6_beasts 0 = .ok (.aload_n 0, 1) := by decide +kernel
theorem dX6_beasts_1 : decode cX6_beasts 1 = .ok (.getfield 10, 3) := by decide +kernel
theorem dX6_beasts_4 : decode cX6_beasts 4 = .ok (.iload_n 1, 1) := by decide +kernel
theorem dX6_beasts_5 : decode cX6_beasts 5 = .ok (.invokevirtual 188, 3) := by decide +kernel
theorem dX6_beasts_8 : decode cX6_beasts 8 = .ok (.ifCond .ne 9, 3) := by decide +kernel
theorem dX6_beasts_11 : decode cX6_beasts 11 = .ok (.aload_n 0, 1) := by decide +kernel
theorem dX6_beasts_12 : decode cX6_beasts 12 = .ok (.iconst 0, 1) := by decide +kernel
theorem dX6_beasts_13 : decode cX6_beasts 13 = .ok (.invokevirtual 71, 3) := by decide +kernel
theorem dX6_beasts_16 : decode cX6_beasts 16 = .ok (.ireturn, 1) := by decide +kernel
theorem dX6_beasts_17 : decode cX6_beasts 17 = .ok (.iload_n 1, 1) := by decide +kernel
theorem dX6_beasts_18 : decode cX6_beasts 18 = .ok (.invokestatic 191, 3) := by decide +kernel
theorem dX6_beasts_21 : decode cX6_beasts 21 = .ok (.bipush 10, 2) := by decide +kernel
theorem dX6_beasts_23 : decode cX6_beasts 23 = .ok (.if_icmp .le 10, 3) := by decide +kernel
theorem dX6_beasts_26 : decode cX6_beasts 26 = .ok (.aload_n 0, 1) := by decide +kernel
theorem dX6_beasts_27 : decode cX6_beasts 27 = .ok (.bipush 6, 2) := by decide +kernel
theorem dX6_beasts_29 : decode cX6_beasts 29 = .ok (.invokevirtual 71, 3) := by decide +kernel
theorem dX6_beasts_32 : decode cX6_beasts 32 = .ok (.ireturn, 1) := by decide +kernel
theorem dX6_beasts_33 : decode cX6_beasts 33 = .ok (.aload_n 0, 1) := by decide +kernel
theorem dX6_beasts_34 : decode cX6_beasts 34 = .ok (.getfield 38, 3) := by decide +kernel
theorem dX6_beasts_37 : decode cX6_beasts 37 = .ok (.iload_n 1, 1) := by decide +kernel
theorem dX6_beasts_38 : decode cX6_beasts 38 = .ok (.invokevirtual 196, 3) := by decide +kernel
theorem dX6_beasts_41 : decode cX6_beasts 41 = .ok (.aload_n 0, 1) := by decide +kernel
theorem dX6_beasts_42 : decode cX6_beasts 42 = .ok (.getfield 38, 3) := by decide +kernel
theorem dX6_beasts_45 : decode cX6_beasts 45 = .ok (.invokevirtual 200, 3) := by decide +kernel
theorem dX6_beasts_48 : decode cX6_beasts 48 = .ok (.istore_n 2, 1) := by decide +kernel
theorem dX6_beasts_49 : decode cX6_beasts 49 = .ok (.iload_n 2, 1) := by decide +kernel
theorem dX6_beasts_50 : decode cX6_beasts 50 = .ok (.aload_n 0, 1) := by decide +kernel
theorem dX6_beasts_51 : decode cX6_beasts 51 = .ok (.getfield 10, 3) := by decide +kernel
theorem dX6_beasts_54 : decode cX6_beasts 54 = .ok (.getfield 179, 3) := by decide +kernel
theorem dX6_beasts_57 : decode cX6_beasts 57 = .ok (.if_icmp .le 11, 3) := by decide +kernel
theorem dX6_beasts_60 : decode cX6_beasts 60 = .ok (.aload_n 0, 1) := by decide +kernel
theorem dX6_beasts_61 : decode cX6_beasts 61 = .ok (.iconst 3, 1) := by decide +kernel
theorem dX6_beasts_62 : decode cX6_beasts 62 = .ok (.invokevirtual 71, 3) := by decide +kernel
theorem dX6_beasts_65 : decode cX6_beasts 65 = .ok (.goto 4, 3) := by decide +kernel
theorem dX6_beasts_68 : decode cX6_beasts 68 = .ok (.iload_n 2, 1) := by decide +kernel
theorem dX6_beasts_69 : decode cX6_beasts 69 = .ok (.ireturn, 1) := by decide +kernel
theorem dX6_even_0 : decode cX6_even 0 = .ok (.aload_n 0, 1) := by decide +kernel
theorem dX6_even_1 : decode cX6_even 1 = .ok (.getfield 10, 3) := by decide +kernel
theorem dX6_even_4 : decode cX6_even 4 = .ok (.iload_n 1, 1) := by decide +kernel
theorem dX6_even_5 : decode cX6_even 5 = .ok (.invokevirtual 188, 3) := by decide +kernel
theorem dX6_even_8 : decode cX6_even 8 = .ok (.ifCond .eq 12, 3) := by decide +kernel
theorem dX6_even_11 : decode cX6_even 11 = .ok (.iload_n 2, 1) := by decide +kernel
theorem dX6_even_12 : decode cX6_even 12 = .ok (.iconst 0, 1) := by decide +kernel
theorem dX6_even_13 : decode cX6_even 13 = .ok (.iconst 1, 1) := by decide +kernel
theorem dX6_even_14 : decode cX6_even 14 = .ok (.invokestatic 67, 3) := by decide +kernel
theorem dX6_even_17 : decode cX6_even 17 = .ok (.ifCond .ne 9, 3) := by decide +kernel
theorem dX6_even_20 : decode cX6_even 20 = .ok (.aload_n 0, 1) := by decide +kernel
theorem dX6_even_21 : decode cX6_even 21 = .ok (.iconst 0, 1) := by decide +kernel
theorem dX6_even_22 : decode cX6_even 22 = .ok (.invokevirtual 71, 3) := by decide +kernel
theorem dX6_even_25 : decode cX6_even 25 = .ok (.ireturn, 1) := by decide +kernel
theorem dX6_even_26 : decode cX6_even 26 = .ok (.iload_n 1, 1) := by decide +kernel
theorem dX6_even_27 : decode cX6_even 27 = .ok (.invokestatic 191, 3) := by decide +kernel
theorem dX6_even_30 : decode cX6_even 30 = .ok (.bipush 10, 2) := by decide +kernel
theorem dX6_even_32 : decode cX6_even 32 = .ok (.if_icmp .le 10, 3) := by decide +kernel
theorem dX6_even_35 : decode cX6_even 35 = .ok (.aload_n 0, 1) := by decide +kernel
theorem dX6_even_36 : decode cX6_even 36 = .ok (.bipush 6, 2) := by decide +kernel
theorem dX6_even_38 : decode cX6_even 38 = .ok (.invokevirtual 71, 3) := by decide +kernel
theorem dX6_even_41 : decode cX6_even 41 = .ok (.ireturn, 1) := by decide +kernel
theorem dX6_even_42 : decode cX6_even 42 = .ok (.aload_n 0, 1) := by decide +kernel
theorem dX6_even_43 : decode cX6_even 43 = .ok (.getfield 38, 3) := by decide +kernel
theorem dX6_even_46 : decode cX6_even 46 = .ok (.iload_n 1, 1) := by decide +kernel
theorem dX6_even_47 : decode cX6_even 47 = .ok (.invokevirtual 196, 3) := by decide +kernel
theorem dX6_even_50 : decode cX6_even 50 = .ok (.aload_n 0, 1) := by decide +kernel
theorem dX6_even_51 : decode cX6_even 51 = .ok (.getfield 38, 3) := by decide +kernel
theorem dX6_even_54 : decode cX6_even 54 = .ok (.invokevirtual 203, 3) := by decide +kernel
theorem dX6_even_57 : decode cX6_even 57 = .ok (.iload_n 2, 1) := by decide +kernel
theorem dX6_even_58 : decode cX6_even 58 = .ok (.ifCond .ne 13, 3) := by decide +kernel
theorem dX6_even_61 : decode cX6_even 61 = .ok (.aload_n 0, 1) := by decide +kernel
theorem dX6_even_62 : decode cX6_even 62 = .ok (.getfield 38, 3) := by decide +kernel
theorem dX6_even_65 : decode cX6_even 65 = .ok (.getfield 206, 3) := by decide +kernel
theorem dX6_even_68 : decode cX6_even 68 = .ok (.goto 10, 3) := by decide +kernel
theorem dX6_even_71 : decode cX6_even 71 = .ok (.aload_n 0, 1) := by decide +kernel
theorem dX6_even_72 : decode cX6_even 72 = .ok (.getfield 38, 3) := by decide +kernel
theorem dX6_even_75 : decode cX6_even 75 = .ok (.getfield 209, 3) := by decide +kernel
theorem dX6_even_78 : decode cX6_even 78 = .ok (.ireturn, 1) := by decide +kernel
theorem dX6_camp_0 : decode cX6_camp 0 = .ok (.iload_n 1, 1) := by decide +kernel
theorem dX6_camp_1 : decode cX6_camp 1 = .ok (.iconst 0, 1) := by decide +kernel
theorem dX6_camp_2 : decode cX6_camp 2 = .ok (.bipush 99, 2) := by decide +kernel
theorem dX6_camp_4 : decode cX6_camp 4 = .ok (.invokestatic 67, 3) := by decide +kernel
theorem dX6_camp_7 : decode cX6_camp 7 = .ok (.ifCond .ne 9, 3) := by decide +kernel
theorem dX6_camp_10 : decode cX6_camp 10 = .ok (.aload_n 0, 1) := by decide +kernel
theorem dX6_camp_11 : decode cX6_camp 11 = .ok (.iconst 0, 1) := by decide +kernel
theorem dX6_camp_12 : decode cX6_camp 12 = .ok (.invokevirtual 71, 3) := by decide +kernel
theorem dX6_camp_15 : decode cX6_camp 15 = .ok (.ireturn, 1) := by decide +kernel
theorem dX6_camp_16 : decode cX6_camp 16 = .ok (.aload_n 0, 1) := by decide +kernel
theorem dX6_camp_17 : decode cX6_camp 17 = .ok (.getfield 10, 3) := by decide +kernel
theorem dX6_camp_20 : decode cX6_camp 20 = .ok (.getfield 212, 3) := by decide +kernel
theorem dX6_camp_23 : decode cX6_camp 23 = .ok (.bipush 6, 2) := by decide +kernel
theorem dX6_camp_25 : decode cX6_camp 25 = .ok (.if_icmp .lt 9, 3) := by decide +kernel
theorem dX6_camp_28 : decode cX6_camp 28 = .ok (.aload_n 0, 1) := by decide +kernel
theorem dX6_camp_29 : decode cX6_camp 29 = .ok (.iconst 1, 1) := by decide +kernel
theorem dX6_camp_30 : decode cX6_camp 30 = .ok (.invokevirtual 71, 3) := by decide +kernel
theorem dX6_camp_33 : decode cX6_camp 33 = .ok (.ireturn, 1) := by decide +kernel
theorem dX6_camp_34 : decode cX6_camp 34 = .ok (.aload_n 0, 1) := by decide +kernel
theorem dX6_camp_35 : decode cX6_camp 35 = .ok (.getfield 10, 3) := by decide +kernel
theorem dX6_camp_38 : decode cX6_camp 38 = .ok (.iload_n 1, 1) := by decide +kernel
theorem dX6_camp_39 : decode cX6_camp 39 = .ok (.invokevirtual 215, 3) := by decide +kernel
theorem dX6_camp_42 : decode cX6_camp 42 = .ok (.ireturn, 1) := by decide +kernel
theorem dX6_grass_0 : decode cX6_grass 0 = .ok (.aload_n 0, 1) := by decide +kernel
theorem dX6_grass_1 : decode cX6_grass 1 = .ok (.getfield 10, 3) := by decide +kernel
theorem dX6_grass_4 : decode cX6_grass 4 = .ok (.iload_n 1, 1) := by decide +kernel
theorem dX6_grass_5 : decode cX6_grass 5 = .ok (.invokevirtual 218, 3) := by decide +kernel
theorem dX6_grass_8 : decode cX6_grass 8 = .ok (.ifCond .eq 24, 3) := by decide +kernel
theorem dX6_grass_11 : decode cX6_grass 11 = .ok (.iload_n 2, 1) := by decide +kernel
theorem dX6_grass_12 : decode cX6_grass 12 = .ok (.iconst 0, 1) := by decide +kernel
theorem dX6_grass_13 : decode cX6_grass 13 = .ok (.bipush 11, 2) := by decide +kernel
theorem dX6_grass_15 : decode cX6_grass 15 = .ok (.invokestatic 67, 3) := by decide +kernel
theorem dX6_grass_18 : decode cX6_grass 18 = .ok (.ifCond .eq 14, 3) := by decide +kernel
theorem dX6_grass_21 : decode cX6_grass 21 = .ok (.iload_n 3, 1) := by decide +kernel
theorem dX6_grass_22 : decode cX6_grass 22 = .ok (.iconst 0, 1) := by decide +kernel
theorem dX6_grass_23 : decode cX6_grass 23 = .ok (.sipush 999, 3) := by decide +kernel
theorem dX6_grass_26 : decode cX6_grass 26 = .ok (.invokestatic 67, 3) := by decide +kernel
theorem dX6_grass_29 : decode cX6_grass 29 = .ok (.ifCond .ne 9, 3) := by decide +kernel
theorem dX6_grass_32 : decode cX6_grass 32 = .ok (.aload_n 0, 1) := by decide +kernel
theorem dX6_grass_33 : decode cX6_grass 33 = .ok (.iconst 0, 1) := by decide +kernel
theorem dX6_grass_34 : decode cX6_grass 34 = .ok (.invokevirtual 71, 3) := by decide +kernel
theorem dX6_grass_37 : decode cX6_grass 37 = .ok (.ireturn, 1) := by decide +kernel
theorem dX6_grass_38 : decode cX6_grass 38 = .ok (.aload_n 0, 1) := by decide +kernel
theorem dX6_grass_39 : decode cX6_grass 39 = .ok (.getfield 10, 3) := by decide +kernel
theorem dX6_grass_42 : decode cX6_grass 42 = .ok (.getfield 221, 3) := by decide +kernel
theorem dX6_grass_45 : decode cX6_grass 45 = .ok (.iload_n 1, 1) := by decide +kernel
theorem dX6_grass_46 : decode cX6_grass 46 = .ok (.bipush 12, 2) := by decide +kernel
theorem dX6_grass_48 : decode cX6_grass 48 = .ok (.imul, 1) := by decide +kernel
theorem dX6_grass_49 : decode cX6_grass 49 = .ok (.iload_n 2, 1) := by decide +kernel
theorem dX6_grass_50 : decode cX6_grass 50 = .ok (.iadd, 1) := by decide +kernel
theorem dX6_grass_51 : decode cX6_grass 51 = .ok (.iload_n 3, 1) := by decide +kernel
theorem dX6_grass_52 : decode cX6_grass 52 = .ok (.invokestatic 120, 3) := by decide +kernel
theorem dX6_grass_55 : decode cX6_grass 55 = .ok (.ireturn, 1) := by decide +kernel
theorem dX6_campOf_0 : decode cX6_campOf 0 = .ok (.aload_n 0, 1) := by decide +kernel
theorem dX6_campOf_1 : decode cX6_campOf 1 = .ok (.getfield 10, 3) := by decide +kernel
theorem dX6_campOf_4 : decode cX6_campOf 4 = .ok (.iload_n 1, 1) := by decide +kernel
theorem dX6_campOf_5 : decode cX6_campOf 5 = .ok (.invokevirtual 218, 3) := by decide +kernel
theorem dX6_campOf_8 : decode cX6_campOf 8 = .ok (.ifCond .eq 13, 3) := by decide +kernel
theorem dX6_campOf_11 : decode cX6_campOf 11 = .ok (.iload_n 2, 1) := by decide +kernel
theorem dX6_campOf_12 : decode cX6_campOf 12 = .ok (.iconst 0, 1) := by decide +kernel
theorem dX6_campOf_13 : decode cX6_campOf 13 = .ok (.bipush 12, 2) := by decide +kernel
theorem dX6_campOf_15 : decode cX6_campOf 15 = .ok (.invokestatic 67, 3) := by decide +kernel
theorem dX6_campOf_18 : decode cX6_campOf 18 = .ok (.ifCond .ne 9, 3) := by decide +kernel
theorem dX6_campOf_21 : decode cX6_campOf 21 = .ok (.aload_n 0, 1) := by decide +kernel
theorem dX6_campOf_22 : decode cX6_campOf 22 = .ok (.iconst 0, 1) := by decide +kernel
theorem dX6_campOf_23 : decode cX6_campOf 23 = .ok (.invokevirtual 71, 3) := by decide +kernel
theorem dX6_campOf_26 : decode cX6_campOf 26 = .ok (.ireturn, 1) := by decide +kernel
theorem dX6_campOf_27 : decode cX6_campOf 27 = .ok (.iload_n 2, 1) := by decide +kernel
theorem dX6_campOf_28 : decode cX6_campOf 28 = .ok (.bipush 12, 2) := by decide +kernel
theorem dX6_campOf_30 : decode cX6_campOf 30 = .ok (.if_icmp .ne 15, 3) := by decide +kernel
theorem dX6_campOf_33 : decode cX6_campOf 33 = .ok (.aload_n 0, 1) := by decide +kernel
theorem dX6_campOf_34 : decode cX6_campOf 34 = .ok (.getfield 10, 3) := by decide +kernel
theorem dX6_campOf_37 : decode cX6_campOf 37 = .ok (.getfield 224, 3) := by decide +kernel
theorem dX6_campOf_40 : decode cX6_campOf 40 = .ok (.iload_n 1, 1) := by decide +kernel
theorem dX6_campOf_41 : decode cX6_campOf 41 = .ok (.iaload, 1) := by decide +kernel
theorem dX6_campOf_42 : decode cX6_campOf 42 = .ok (.goto 17, 3) := by decide +kernel
theorem dX6_campOf_45 : decode cX6_campOf 45 = .ok (.aload_n 0, 1) := by decide +kernel
theorem dX6_campOf_46 : decode cX6_campOf 46 = .ok (.getfield 10, 3) := by decide +kernel
theorem dX6_campOf_49 : decode cX6_campOf 49 = .ok (.getfield 221, 3) := by decide +kernel
theorem dX6_campOf_52 : decode cX6_campOf 52 = .ok (.iload_n 1, 1) := by decide +kernel
theorem dX6_campOf_53 : decode cX6_campOf 53 = .ok (.bipush 12, 2) := by decide +kernel
theorem dX6_campOf_55 : decode cX6_campOf 55 = .ok (.imul, 1) := by decide +kernel
theorem dX6_campOf_56 : decode cX6_campOf 56 = .ok (.iload_n 2, 1) := by decide +kernel
theorem dX6_campOf_57 : decode cX6_campOf 57 = .ok (.iadd, 1) := by decide +kernel
theorem dX6_campOf_58 : decode cX6_campOf 58 = .ok (.iaload, 1) := by decide +kernel
theorem dX6_campOf_59 : decode cX6_campOf 59 = .ok (.ireturn, 1) := by decide +kernel
theorem dX6_herd_0 : decode cX6_herd 0 = .ok (.iload_n 1, 1) := by decide +kernel
theorem dX6_herd_1 : decode cX6_herd 1 = .ok (.iconst 0, 1) := by decide +kernel
theorem dX6_herd_2 : decode cX6_herd 2 = .ok (.iconst 2, 1) := by decide +kernel
theorem dX6_herd_3 : decode cX6_herd 3 = .ok (.invokestatic 67, 3) := by decide +kernel
theorem dX6_herd_6 : decode cX6_herd 6 = .ok (.ifCond .eq 16, 3) := by decide +kernel
theorem dX6_herd_9 : decode cX6_herd 9 = .ok (.iload_n 2, 1) := by decide +kernel
theorem dX6_herd_10 : decode cX6_herd 10 = .ok (.iconst 0, 1) := by decide +kernel
theorem dX6_herd_11 : decode cX6_herd 11 = .ok (.getstatic 227, 3) := by decide +kernel
theorem dX6_herd_14 : decode cX6_herd 14 = .ok (.iload_n 1, 1) := by decide +kernel
theorem dX6_herd_15 : decode cX6_herd 15 = .ok (.iaload, 1) := by decide +kernel
theorem dX6_herd_16 : decode cX6_herd 16 = .ok (.invokestatic 67, 3) := by decide +kernel
theorem dX6_herd_19 : decode cX6_herd 19 = .ok (.ifCond .ne 9, 3) := by decide +kernel
theorem dX6_herd_22 : decode cX6_herd 22 = .ok (.aload_n 0, 1) := by decide +kernel
theorem dX6_herd_23 : decode cX6_herd 23 = .ok (.iconst 0, 1) := by decide +kernel
theorem dX6_herd_24 : decode cX6_herd 24 = .ok (.invokevirtual 71, 3) := by decide +kernel
theorem dX6_herd_27 : decode cX6_herd 27 = .ok (.ireturn, 1) := by decide +kernel
theorem dX6_herd_28 : decode cX6_herd 28 = .ok (.aload_n 0, 1) := by decide +kernel
theorem dX6_herd_29 : decode cX6_herd 29 = .ok (.getfield 10, 3) := by decide +kernel
theorem dX6_herd_32 : decode cX6_herd 32 = .ok (.getfield 230, 3) := by decide +kernel
theorem dX6_herd_35 : decode cX6_herd 35 = .ok (.iload_n 1, 1) := by decide +kernel
theorem dX6_herd_36 : decode cX6_herd 36 = .ok (.iload_n 2, 1) := by decide +kernel
theorem dX6_herd_37 : decode cX6_herd 37 = .ok (.invokestatic 120, 3) := by decide +kernel
theorem dX6_herd_40 : decode cX6_herd 40 = .ok (.ireturn, 1) := by decide +kernel
theorem dX6_year_0 : decode cX6_year 0 = .ok (.iload_n 1, 1) := by decide +kernel
theorem dX6_year_1 : decode cX6_year 1 = .ok (.iconst 0, 1) := by decide +kernel
theorem dX6_year_2 : decode cX6_year 2 = .ok (.bipush 11, 2) := by decide +kernel
theorem dX6_year_4 : decode cX6_year 4 = .ok (.invokestatic 67, 3) := by decide +kernel
theorem dX6_year_7 : decode cX6_year 7 = .ok (.ifCond .eq 24, 3) := by decide +kernel
theorem dX6_year_10 : decode cX6_year 10 = .ok (.iload_n 2, 1) := by decide +kernel
theorem dX6_year_11 : decode cX6_year 11 = .ok (.iconst 1, 1) := by decide +kernel
theorem dX6_year_12 : decode cX6_year 12 = .ok (.bipush 24, 2) := by decide +kernel
theorem dX6_year_14 : decode cX6_year 14 = .ok (.invokestatic 67, 3) := by decide +kernel
theorem dX6_year_17 : decode cX6_year 17 = .ok (.ifCond .eq 14, 3) := by decide +kernel
theorem dX6_year_20 : decode cX6_year 20 = .ok (.iload_n 3, 1) := by decide +kernel
theorem dX6_year_21 : decode cX6_year 21 = .ok (.iconst (-1), 1) := by decide +kernel
theorem dX6_year_22 : decode cX6_year 22 = .ok (.iload_n 2, 1) := by decide +kernel
theorem dX6_year_23 : decode cX6_year 23 = .ok (.iconst 1, 1) := by decide +kernel
theorem dX6_year_24 : decode cX6_year 24 = .ok (.isub, 1) := by decide +kernel
theorem dX6_year_25 : decode cX6_year 25 = .ok (.invokestatic 67, 3) := by decide +kernel
theorem dX6_year_28 : decode cX6_year 28 = .ok (.ifCond .ne 9, 3) := by decide +kernel
theorem dX6_year_31 : decode cX6_year 31 = .ok (.aload_n 0, 1) := by decide +kernel
theorem dX6_year_32 : decode cX6_year 32 = .ok (.iconst 0, 1) := by decide +kernel
theorem dX6_year_33 : decode cX6_year 33 = .ok (.invokevirtual 71, 3) := by decide +kernel
theorem dX6_year_36 : decode cX6_year 36 = .ok (.ireturn, 1) := by decide +kernel
theorem dX6_year_37 : decode cX6_year 37 = .ok (.aload_n 0, 1) := by decide +kernel
theorem dX6_year_38 : decode cX6_year 38 = .ok (.getfield 10, 3) := by decide +kernel
theorem dX6_year_41 : decode cX6_year 41 = .ok (.getfield 212, 3) := by decide +kernel
theorem dX6_year_44 : decode cX6_year 44 = .ok (.ifCond .ne 9, 3) := by decide +kernel
theorem dX6_year_47 : decode cX6_year 47 = .ok (.aload_n 0, 1) := by decide +kernel
theorem dX6_year_48 : decode cX6_year 48 = .ok (.iconst 3, 1) := by decide +kernel
theorem dX6_year_49 : decode cX6_year 49 = .ok (.invokevirtual 71, 3) := by decide +kernel
theorem dX6_year_52 : decode cX6_year 52 = .ok (.ireturn, 1) := by decide +kernel
theorem dX6_year_53 : decode cX6_year 53 = .ok (.aload_n 0, 1) := by decide +kernel
theorem dX6_year_54 : decode cX6_year 54 = .ok (.getfield 45, 3) := by decide +kernel
theorem dX6_year_57 : decode cX6_year 57 = .ok (.iload_n 1, 1) := by decide +kernel
theorem dX6_year_58 : decode cX6_year 58 = .ok (.iload_n 2, 1) := by decide +kernel
theorem dX6_year_59 : decode cX6_year 59 = .ok (.invokevirtual 233, 3) := by decide +kernel
theorem dX6_year_62 : decode cX6_year 62 = .ok (.iload_n 3, 1) := by decide +kernel
theorem dX6_year_63 : decode cX6_year 63 = .ok (.ifCond .ge 13, 3) := by decide +kernel
theorem dX6_year_66 : decode cX6_year 66 = .ok (.aload_n 0, 1) := by decide +kernel
theorem dX6_year_67 : decode cX6_year 67 = .ok (.getfield 45, 3) := by decide +kernel
theorem dX6_year_70 : decode cX6_year 70 = .ok (.getfield 237, 3) := by decide +kernel
theorem dX6_year_73 : decode cX6_year 73 = .ok (.goto 12, 3) := by decide +kernel
theorem dX6_year_76 : decode cX6_year 76 = .ok (.aload_n 0, 1) := by decide +kernel
theorem dX6_year_77 : decode cX6_year 77 = .ok (.getfield 45, 3) := by decide +kernel
theorem dX6_year_80 : decode cX6_year 80 = .ok (.getfield 240, 3) := by decide +kernel
theorem dX6_year_83 : decode cX6_year 83 = .ok (.iload_n 3, 1) := by decide +kernel
theorem dX6_year_84 : decode cX6_year 84 = .ok (.iaload, 1) := by decide +kernel
theorem dX6_year_85 : decode cX6_year 85 = .ok (.ireturn, 1) := by decide +kernel
theorem dX6_moves_0 : decode cX6_moves 0 = .ok (.iload_n 1, 1) := by decide +kernel
theorem dX6_moves_1 : decode cX6_moves 1 = .ok (.iconst 0, 1) := by decide +kernel
theorem dX6_moves_2 : decode cX6_moves 2 = .ok (.bipush 11, 2) := by decide +kernel
theorem dX6_moves_4 : decode cX6_moves 4 = .ok (.invokestatic 67, 3) := by decide +kernel
theorem dX6_moves_7 : decode cX6_moves 7 = .ok (.ifCond .eq 13, 3) := by decide +kernel
theorem dX6_moves_10 : decode cX6_moves 10 = .ok (.iload_n 2, 1) := by decide +kernel
theorem dX6_moves_11 : decode cX6_moves 11 = .ok (.iconst 1, 1) := by decide +kernel
theorem dX6_moves_12 : decode cX6_moves 12 = .ok (.bipush 24, 2) := by decide +kernel
theorem dX6_moves_14 : decode cX6_moves 14 = .ok (.invokestatic 67, 3) := by decide +kernel
theorem dX6_moves_17 : decode cX6_moves 17 = .ok (.ifCond .ne 9, 3) := by decide +kernel
theorem dX6_moves_20 : decode cX6_moves 20 = .ok (.aload_n 0, 1) := by decide +kernel
theorem dX6_moves_21 : decode cX6_moves 21 = .ok (.iconst 0, 1) := by decide +kernel
theorem dX6_moves_22 : decode cX6_moves 22 = .ok (.invokevirtual 71, 3) := by decide +kernel
theorem dX6_moves_25 : decode cX6_moves 25 = .ok (.ireturn, 1) := by decide +kernel
theorem dX6_moves_26 : decode cX6_moves 26 = .ok (.aload_n 0, 1) := by decide +kernel
theorem dX6_moves_27 : decode cX6_moves 27 = .ok (.getfield 10, 3) := by decide +kernel
theorem dX6_moves_30 : decode cX6_moves 30 = .ok (.getfield 212, 3) := by decide +kernel
theorem dX6_moves_33 : decode cX6_moves 33 = .ok (.ifCond .ne 9, 3) := by decide +kernel
theorem dX6_moves_36 : decode cX6_moves 36 = .ok (.aload_n 0, 1) := by decide +kernel
theorem dX6_moves_37 : decode cX6_moves 37 = .ok (.iconst 3, 1) := by decide +kernel
theorem dX6_moves_38 : decode cX6_moves 38 = .ok (.invokevirtual 71, 3) := by decide +kernel
theorem dX6_moves_41 : decode cX6_moves 41 = .ok (.ireturn, 1) := by decide +kernel
theorem dX6_moves_42 : decode cX6_moves 42 = .ok (.aload_n 0, 1) := by decide +kernel
theorem dX6_moves_43 : decode cX6_moves 43 = .ok (.getfield 45, 3) := by decide +kernel
theorem dX6_moves_46 : decode cX6_moves 46 = .ok (.iload_n 1, 1) := by decide +kernel
theorem dX6_moves_47 : decode cX6_moves 47 = .ok (.iload_n 2, 1) := by decide +kernel
theorem dX6_moves_48 : decode cX6_moves 48 = .ok (.invokevirtual 233, 3) := by decide +kernel
theorem dX6_moves_51 : decode cX6_moves 51 = .ok (.aload_n 0, 1) := by decide +kernel
theorem dX6_moves_52 : decode cX6_moves 52 = .ok (.getfield 45, 3) := by decide +kernel
theorem dX6_moves_55 : decode cX6_moves 55 = .ok (.iload_n 2, 1) := by decide +kernel
theorem dX6_moves_56 : decode cX6_moves 56 = .ok (.invokevirtual 243, 3) := by decide +kernel
theorem dX6_moves_59 : decode cX6_moves 59 = .ok (.ireturn, 1) := by decide +kernel
theorem dX6_feed_0 : decode cX6_feed 0 = .ok (.iload_n 2, 1) := by decide +kernel
theorem dX6_feed_1 : decode cX6_feed 1 = .ok (.iconst 1, 1) := by decide +kernel
theorem dX6_feed_2 : decode cX6_feed 2 = .ok (.iconst 4, 1) := by decide +kernel
theorem dX6_feed_3 : decode cX6_feed 3 = .ok (.invokestatic 67, 3) := by decide +kernel
theorem dX6_feed_6 : decode cX6_feed 6 = .ok (.ifCond .ne 9, 3) := by decide +kernel
theorem dX6_feed_9 : decode cX6_feed 9 = .ok (.aload_n 0, 1) := by decide +kernel
theorem dX6_feed_10 : decode cX6_feed 10 = .ok (.iconst 0, 1) := by decide +kernel
theorem dX6_feed_11 : decode cX6_feed 11 = .ok (.invokevirtual 71, 3) := by decide +kernel
theorem dX6_feed_14 : decode cX6_feed 14 = .ok (.ireturn, 1) := by decide +kernel
theorem dX6_feed_15 : decode cX6_feed 15 = .ok (.aload_n 0, 1) := by decide +kernel
theorem dX6_feed_16 : decode cX6_feed 16 = .ok (.getfield 52, 3) := by decide +kernel
theorem dX6_feed_19 : decode cX6_feed 19 = .ok (.getfield 246, 3) := by decide +kernel
theorem dX6_feed_22 : decode cX6_feed 22 = .ok (.iload_n 2, 1) := by decide +kernel
theorem dX6_feed_23 : decode cX6_feed 23 = .ok (.iadd, 1) := by decide +kernel
theorem dX6_feed_24 : decode cX6_feed 24 = .ok (.bipush 120, 2) := by decide +kernel
theorem dX6_feed_26 : decode cX6_feed 26 = .ok (.if_icmp .le 9, 3) := by decide +kernel
theorem dX6_feed_29 : decode cX6_feed 29 = .ok (.aload_n 0, 1) := by decide +kernel
theorem dX6_feed_30 : decode cX6_feed 30 = .ok (.iconst 1, 1) := by decide +kernel
theorem dX6_feed_31 : decode cX6_feed 31 = .ok (.invokevirtual 71, 3) := by decide +kernel
theorem dX6_feed_34 : decode cX6_feed 34 = .ok (.ireturn, 1) := by decide +kernel
theorem dX6_feed_35 : decode cX6_feed 35 = .ok (.iload_n 2, 1) := by decide +kernel
theorem dX6_feed_36 : decode cX6_feed 36 = .ok (.iconst 1, 1) := by decide +kernel
theorem dX6_feed_37 : decode cX6_feed 37 = .ok (.isub, 1) := by decide +kernel
theorem dX6_feed_38 : decode cX6_feed 38 = .ok (.istore_n 3, 1) := by decide +kernel
theorem dX6_feed_39 : decode cX6_feed 39 = .ok (.iload_n 3, 1) := by decide +kernel
theorem dX6_feed_40 : decode cX6_feed 40 = .ok (.ifCond .lt 26, 3) := by decide +kernel
theorem dX6_feed_43 : decode cX6_feed 43 = .ok (.aload_n 0, 1) := by decide +kernel
theorem dX6_feed_44 : decode cX6_feed 44 = .ok (.getfield 52, 3) := by decide +kernel
theorem dX6_feed_47 : decode cX6_feed 47 = .ok (.iload_n 1, 1) := by decide +kernel
theorem dX6_feed_48 : decode cX6_feed 48 = .ok (.bipush 8, 2) := by decide +kernel
theorem dX6_feed_50 : decode cX6_feed 50 = .ok (.iload_n 3, 1) := by decide +kernel
theorem dX6_feed_51 : decode cX6_feed 51 = .ok (.imul, 1) := by decide +kernel
theorem dX6_feed_52 : decode cX6_feed 52 = .ok (.iushr, 1) := by decide +kernel
theorem dX6_feed_53 : decode cX6_feed 53 = .ok (.sipush 255, 3) := by decide +kernel
theorem dX6_feed_56 : decode cX6_feed 56 = .ok (.iand, 1) := by decide +kernel
theorem dX6_feed_57 : decode cX6_feed 57 = .ok (.invokevirtual 249, 3) := by decide +kernel
theorem dX6_feed_60 : decode cX6_feed 60 = .ok (.iinc 3 (-1), 3) := by decide +kernel
theorem dX6_feed_63 : decode cX6_feed 63 = .ok (.goto (-24), 3) := by decide +kernel
theorem dX6_feed_66 : decode cX6_feed 66 = .ok (.aload_n 0, 1) := by decide +kernel
theorem dX6_feed_67 : decode cX6_feed 67 = .ok (.getfield 52, 3) := by decide +kernel
theorem dX6_feed_70 : decode cX6_feed 70 = .ok (.getfield 246, 3) := by decide +kernel
theorem dX6_feed_73 : decode cX6_feed 73 = .ok (.ireturn, 1) := by decide +kernel
theorem dX6_wipe_0 : decode cX6_wipe 0 = .ok (.aload_n 0, 1) := by decide +kernel
theorem dX6_wipe_1 : decode cX6_wipe 1 = .ok (.getfield 52, 3) := by decide +kernel
theorem dX6_wipe_4 : decode cX6_wipe 4 = .ok (.getfield 246, 3) := by decide +kernel
theorem dX6_wipe_7 : decode cX6_wipe 7 = .ok (.istore_n 1, 1) := by decide +kernel
theorem dX6_wipe_8 : decode cX6_wipe 8 = .ok (.aload_n 0, 1) := by decide +kernel
theorem dX6_wipe_9 : decode cX6_wipe 9 = .ok (.getfield 52, 3) := by decide +kernel
theorem dX6_wipe_12 : decode cX6_wipe 12 = .ok (.iconst 0, 1) := by decide +kernel
theorem dX6_wipe_13 : decode cX6_wipe 13 = .ok (.putfield 246, 3) := by decide +kernel
theorem dX6_wipe_16 : decode cX6_wipe 16 = .ok (.iload_n 1, 1) := by decide +kernel
theorem dX6_wipe_17 : decode cX6_wipe 17 = .ok (.ireturn, 1) := by decide +kernel
theorem dX6_house_0 : decode cX6_house 0 = .ok (.aload_n 0, 1) := by decide +kernel
theorem dX6_house_1 : decode cX6_house 1 = .ok (.getfield 19, 3) := by decide +kernel
theorem dX6_house_4 : decode cX6_house 4 = .ok (.aload_n 0, 1) := by decide +kernel
theorem dX6_house_5 : decode cX6_house 5 = .ok (.getfield 10, 3) := by decide +kernel
theorem dX6_house_8 : decode cX6_house 8 = .ok (.invokevirtual 252, 3) := by decide +kernel
theorem dX6_house_11 : decode cX6_house 11 = .ok (.aload_n 0, 1) := by decide +kernel
theorem dX6_house_12 : decode cX6_house 12 = .ok (.getfield 52, 3) := by decide +kernel
theorem dX6_house_15 : decode cX6_house 15 = .ok (.aload_n 0, 1) := by decide +kernel
theorem dX6_house_16 : decode cX6_house 16 = .ok (.getfield 19, 3) := by decide +kernel
theorem dX6_house_19 : decode cX6_house 19 = .ok (.invokevirtual 255, 3) := by decide +kernel
theorem dX6_house_22 : decode cX6_house 22 = .ok (.istore_n 1, 1) := by decide +kernel
theorem dX6_house_23 : decode cX6_house 23 = .ok (.iload_n 1, 1) := by decide +kernel
theorem dX6_house_24 : decode cX6_house 24 = .ok (.ifCond .lt 14, 3) := by decide +kernel
theorem dX6_house_27 : decode cX6_house 27 = .ok (.aload_n 0, 1) := by decide +kernel
theorem dX6_house_28 : decode cX6_house 28 = .ok (.getfield 10, 3) := by decide +kernel
theorem dX6_house_31 : decode cX6_house 31 = .ok (.aload_n 0, 1) := by decide +kernel
theorem dX6_house_32 : decode cX6_house 32 = .ok (.getfield 19, 3) := by decide +kernel
theorem dX6_house_35 : decode cX6_house 35 = .ok (.invokevirtual 252, 3) := by decide +kernel
theorem dX6_house_38 : decode cX6_house 38 = .ok (.aload_n 0, 1) := by decide +kernel
theorem dX6_house_39 : decode cX6_house 39 = .ok (.getfield 52, 3) := by decide +kernel
theorem dX6_house_42 : decode cX6_house 42 = .ok (.iconst 0, 1) := by decide +kernel
theorem dX6_house_43 : decode cX6_house 43 = .ok (.putfield 246, 3) := by decide +kernel
theorem dX6_house_46 : decode cX6_house 46 = .ok (.iload_n 1, 1) := by decide +kernel
theorem dX6_house_47 : decode cX6_house 47 = .ok (.ireturn, 1) := by decide +kernel
theorem dX6_sheet_0 : decode cX6_sheet 0 = .ok (.iload_n 1, 1) := by decide +kernel
theorem dX6_sheet_1 : decode cX6_sheet 1 = .ok (.iconst 0, 1) := by decide +kernel
theorem dX6_sheet_2 : decode cX6_sheet 2 = .ok (.iconst 3, 1) := by decide +kernel
theorem dX6_sheet_3 : decode cX6_sheet 3 = .ok (.invokestatic 67, 3) := by decide +kernel
theorem dX6_sheet_6 : decode cX6_sheet 6 = .ok (.ifCond .eq 10, 3) := by decide +kernel
theorem dX6_sheet_9 : decode cX6_sheet 9 = .ok (.iload_n 2, 1) := by decide +kernel
theorem dX6_sheet_10 : decode cX6_sheet 10 = .ok (.invokestatic 259, 3) := by decide +kernel
theorem dX6_sheet_13 : decode cX6_sheet 13 = .ok (.ifCond .ne 9, 3) := by decide +kernel
theorem dX6_sheet_16 : decode cX6_sheet 16 = .ok (.aload_n 0, 1) := by decide +kernel
theorem dX6_sheet_17 : decode cX6_sheet 17 = .ok (.iconst 0, 1) := by decide +kernel
theorem dX6_sheet_18 : decode cX6_sheet 18 = .ok (.invokevirtual 71, 3) := by decide +kernel
theorem dX6_sheet_21 : decode cX6_sheet 21 = .ok (.ireturn, 1) := by decide +kernel
theorem dX6_sheet_22 : decode cX6_sheet 22 = .ok (.iload_n 3, 1) := by decide +kernel
theorem dX6_sheet_23 : decode cX6_sheet 23 = .ok (.ifCond .ge 10, 3) := by decide +kernel
theorem dX6_sheet_26 : decode cX6_sheet 26 = .ok (.aload_n 0, 1) := by decide +kernel
theorem dX6_sheet_27 : decode cX6_sheet 27 = .ok (.bipush 6, 2) := by decide +kernel
theorem dX6_sheet_29 : decode cX6_sheet 29 = .ok (.invokevirtual 71, 3) := by decide +kernel
theorem dX6_sheet_32 : decode cX6_sheet 32 = .ok (.ireturn, 1) := by decide +kernel
theorem dX6_sheet_33 : decode cX6_sheet 33 = .ok (.iload_n 3, 1) := by decide +kernel
theorem dX6_sheet_34 : decode cX6_sheet 34 = .ok (.bipush 40, 2) := by decide +kernel
theorem dX6_sheet_36 : decode cX6_sheet 36 = .ok (.if_icmp .le 9, 3) := by decide +kernel
theorem dX6_sheet_39 : decode cX6_sheet 39 = .ok (.aload_n 0, 1) := by decide +kernel
theorem dX6_sheet_40 : decode cX6_sheet 40 = .ok (.iconst 0, 1) := by decide +kernel
theorem dX6_sheet_41 : decode cX6_sheet 41 = .ok (.invokevirtual 71, 3) := by decide +kernel
theorem dX6_sheet_44 : decode cX6_sheet 44 = .ok (.ireturn, 1) := by decide +kernel
theorem dX6_sheet_45 : decode cX6_sheet 45 = .ok (.aload_n 0, 1) := by decide +kernel
theorem dX6_sheet_46 : decode cX6_sheet 46 = .ok (.getfield 58, 3) := by decide +kernel
theorem dX6_sheet_49 : decode cX6_sheet 49 = .ok (.iload_n 1, 1) := by decide +kernel
theorem dX6_sheet_50 : decode cX6_sheet 50 = .ok (.aaload, 1) := by decide +kernel
theorem dX6_sheet_51 : decode cX6_sheet 51 = .ok (.iload_n 2, 1) := by decide +kernel
theorem dX6_sheet_52 : decode cX6_sheet 52 = .ok (.iload_n 3, 1) := by decide +kernel
theorem dX6_sheet_53 : decode cX6_sheet 53 = .ok (.invokevirtual 262, 3) := by decide +kernel
theorem dX6_sheet_56 : decode cX6_sheet 56 = .ok (.aload_n 0, 1) := by decide +kernel
theorem dX6_sheet_57 : decode cX6_sheet 57 = .ok (.getfield 58, 3) := by decide +kernel
theorem dX6_sheet_60 : decode cX6_sheet 60 = .ok (.iload_n 1, 1) := by decide +kernel
theorem dX6_sheet_61 : decode cX6_sheet 61 = .ok (.aaload, 1) := by decide +kernel
theorem dX6_sheet_62 : decode cX6_sheet 62 = .ok (.getfield 264, 3) := by decide +kernel
theorem dX6_sheet_65 : decode cX6_sheet 65 = .ok (.ireturn, 1) := by decide +kernel
theorem dX6_write_0 : decode cX6_write 0 = .ok (.aload_n 0, 1) := by decide +kernel
theorem dX6_write_1 : decode cX6_write 1 = .ok (.iload_n 1, 1) := by decide +kernel
theorem dX6_write_2 : decode cX6_write 2 = .ok (.invokevirtual 265, 3) := by decide +kernel
theorem dX6_write_5 : decode cX6_write 5 = .ok (.istore 5, 2) := by decide +kernel
theorem dX6_write_7 : decode cX6_write 7 = .ok (.iload 5, 2) := by decide +kernel
theorem dX6_write_9 : decode cX6_write 9 = .ok (.ifCond .lt 11, 3) := by decide +kernel
theorem dX6_write_12 : decode cX6_write 12 = .ok (.aload_n 0, 1) := by decide +kernel
theorem dX6_write_13 : decode cX6_write 13 = .ok (.iload 5, 2) := by decide +kernel
theorem dX6_write_15 : decode cX6_write 15 = .ok (.invokevirtual 71, 3) := by decide +kernel
theorem dX6_write_18 : decode cX6_write 18 = .ok (.i2l, 1) := by decide +kernel
theorem dX6_write_19 : decode cX6_write 19 = .ok (.lreturn, 1) := by decide +kernel
theorem dX6_write_20 : decode cX6_write 20 = .ok (.iload_n 2, 1) := by decide +kernel
theorem dX6_write_21 : decode cX6_write 21 = .ok (.iconst 0, 1) := by decide +kernel
theorem dX6_write_22 : decode cX6_write 22 = .ok (.aload_n 0, 1) := by decide +kernel
theorem dX6_write_23 : decode cX6_write 23 = .ok (.getfield 58, 3) := by decide +kernel
theorem dX6_write_26 : decode cX6_write 26 = .ok (.iload_n 1, 1) := by decide +kernel
theorem dX6_write_27 : decode cX6_write 27 = .ok (.aaload, 1) := by decide +kernel
theorem dX6_write_28 : decode cX6_write 28 = .ok (.getfield 264, 3) := by decide +kernel
theorem dX6_write_31 : decode cX6_write 31 = .ok (.iconst 1, 1) := by decide +kernel
theorem dX6_write_32 : decode cX6_write 32 = .ok (.isub, 1) := by decide +kernel
theorem dX6_write_33 : decode cX6_write 33 = .ok (.invokestatic 67, 3) := by decide +kernel
theorem dX6_write_36 : decode cX6_write 36 = .ok (.ifCond .ne 10, 3) := by decide +kernel
theorem dX6_write_39 : decode cX6_write 39 = .ok (.aload_n 0, 1) := by decide +kernel
theorem dX6_write_40 : decode cX6_write 40 = .ok (.iconst 0, 1) := by decide +kernel
theorem dX6_write_41 : decode cX6_write 41 = .ok (.invokevirtual 71, 3) := by decide +kernel
theorem dX6_write_44 : decode cX6_write 44 = .ok (.i2l, 1) := by decide +kernel
theorem dX6_write_45 : decode cX6_write 45 = .ok (.lreturn, 1) := by decide +kernel
theorem dX6_write_46 : decode cX6_write 46 = .ok (.aload_n 0, 1) := by decide +kernel
theorem dX6_write_47 : decode cX6_write 47 = .ok (.getfield 58, 3) := by decide +kernel
theorem dX6_write_50 : decode cX6_write 50 = .ok (.iload_n 1, 1) := by decide +kernel
theorem dX6_write_51 : decode cX6_write 51 = .ok (.aaload, 1) := by decide +kernel
theorem dX6_write_52 : decode cX6_write 52 = .ok (.getfield 268, 3) := by decide +kernel
theorem dX6_write_55 : decode cX6_write 55 = .ok (.iload_n 2, 1) := by decide +kernel
theorem dX6_write_56 : decode cX6_write 56 = .ok (.laload, 1) := by decide +kernel
theorem dX6_write_57 : decode cX6_write 57 = .ok (.lstore 6, 2) := by decide +kernel
theorem dX6_write_59 : decode cX6_write 59 = .ok (.aload_n 0, 1) := by decide +kernel
theorem dX6_write_60 : decode cX6_write 60 = .ok (.getfield 58, 3) := by decide +kernel
theorem dX6_write_63 : decode cX6_write 63 = .ok (.iload_n 1, 1) := by decide +kernel
theorem dX6_write_64 : decode cX6_write 64 = .ok (.aaload, 1) := by decide +kernel
theorem dX6_write_65 : decode cX6_write 65 = .ok (.getfield 268, 3) := by decide +kernel
theorem dX6_write_68 : decode cX6_write 68 = .ok (.iload_n 2, 1) := by decide +kernel
theorem dX6_write_69 : decode cX6_write 69 = .ok (.aload_n 0, 1) := by decide +kernel
theorem dX6_write_70 : decode cX6_write 70 = .ok (.getfield 58, 3) := by decide +kernel
theorem dX6_write_73 : decode cX6_write 73 = .ok (.iload_n 1, 1) := by decide +kernel
theorem dX6_write_74 : decode cX6_write 74 = .ok (.aaload, 1) := by decide +kernel
theorem dX6_write_75 : decode cX6_write 75 = .ok (.lload_n 3, 1) := by decide +kernel
theorem dX6_write_76 : decode cX6_write 76 = .ok (.invokevirtual 272, 3) := by decide +kernel
theorem dX6_write_79 : decode cX6_write 79 = .ok (.lastore, 1) := by decide +kernel
theorem dX6_write_80 : decode cX6_write 80 = .ok (.lload 6, 2) := by decide +kernel
theorem dX6_write_82 : decode cX6_write 82 = .ok (.lreturn, 1) := by decide +kernel
theorem dX6_copy_0 : decode cX6_copy 0 = .ok (.iload_n 1, 1) := by decide +kernel
theorem dX6_copy_1 : decode cX6_copy 1 = .ok (.iconst 0, 1) := by decide +kernel
theorem dX6_copy_2 : decode cX6_copy 2 = .ok (.iconst 3, 1) := by decide +kernel
theorem dX6_copy_3 : decode cX6_copy 3 = .ok (.invokestatic 67, 3) := by decide +kernel
theorem dX6_copy_6 : decode cX6_copy 6 = .ok (.ifCond .eq 12, 3) := by decide +kernel
theorem dX6_copy_9 : decode cX6_copy 9 = .ok (.iload_n 3, 1) := by decide +kernel
theorem dX6_copy_10 : decode cX6_copy 10 = .ok (.iconst 0, 1) := by decide +kernel
theorem dX6_copy_11 : decode cX6_copy 11 = .ok (.iconst 3, 1) := by decide +kernel
theorem dX6_copy_12 : decode cX6_copy 12 = .ok (.invokestatic 67, 3) := by decide +kernel
theorem dX6_copy_15 : decode cX6_copy 15 = .ok (.ifCond .ne 9, 3) := by decide +kernel
theorem dX6_copy_18 : decode cX6_copy 18 = .ok (.aload_n 0, 1) := by decide +kernel
theorem dX6_copy_19 : decode cX6_copy 19 = .ok (.iconst 0, 1) := by decide +kernel
theorem dX6_copy_20 : decode cX6_copy 20 = .ok (.invokevirtual 71, 3) := by decide +kernel
theorem dX6_copy_23 : decode cX6_copy 23 = .ok (.ireturn, 1) := by decide +kernel
theorem dX6_copy_24 : decode cX6_copy 24 = .ok (.aload_n 0, 1) := by decide +kernel
theorem dX6_copy_25 : decode cX6_copy 25 = .ok (.getfield 58, 3) := by decide +kernel
theorem dX6_copy_28 : decode cX6_copy 28 = .ok (.iload_n 1, 1) := by decide +kernel
theorem dX6_copy_29 : decode cX6_copy 29 = .ok (.aaload, 1) := by decide +kernel
theorem dX6_copy_30 : decode cX6_copy 30 = .ok (.astore 6, 2) := by decide +kernel
theorem dX6_copy_32 : decode cX6_copy 32 = .ok (.aload_n 0, 1) := by decide +kernel
theorem dX6_copy_33 : decode cX6_copy 33 = .ok (.getfield 58, 3) := by decide +kernel
theorem dX6_copy_36 : decode cX6_copy 36 = .ok (.iload_n 3, 1) := by decide +kernel
theorem dX6_copy_37 : decode cX6_copy 37 = .ok (.aaload, 1) := by decide +kernel
theorem dX6_copy_38 : decode cX6_copy 38 = .ok (.astore 7, 2) := by decide +kernel
theorem dX6_copy_40 : decode cX6_copy 40 = .ok (.aload 6, 2) := by decide +kernel
theorem dX6_copy_42 : decode cX6_copy 42 = .ok (.invokevirtual 276, 3) := by decide +kernel
theorem dX6_copy_45 : decode cX6_copy 45 = .ok (.ifCond .ne 11, 3) := by decide +kernel
theorem dX6_copy_48 : decode cX6_copy 48 = .ok (.aload 7, 2) := by decide +kernel
theorem dX6_copy_50 : decode cX6_copy 50 = .ok (.invokevirtual 276, 3) := by decide +kernel
theorem dX6_copy_53 : decode cX6_copy 53 = .ok (.ifCond .eq 9, 3) := by decide +kernel
theorem dX6_copy_56 : decode cX6_copy 56 = .ok (.aload_n 0, 1) := by decide +kernel
theorem dX6_copy_57 : decode cX6_copy 57 = .ok (.iconst 5, 1) := by decide +kernel
theorem dX6_copy_58 : decode cX6_copy 58 = .ok (.invokevirtual 71, 3) := by decide +kernel
theorem dX6_copy_61 : decode cX6_copy 61 = .ok (.ireturn, 1) := by decide +kernel
theorem dX6_copy_62 : decode cX6_copy 62 = .ok (.aload 6, 2) := by decide +kernel
theorem dX6_copy_64 : decode cX6_copy 64 = .ok (.getfield 279, 3) := by decide +kernel
theorem dX6_copy_67 : decode cX6_copy 67 = .ok (.aload 7, 2) := by decide +kernel
theorem dX6_copy_69 : decode cX6_copy 69 = .ok (.getfield 279, 3) := by decide +kernel
theorem dX6_copy_72 : decode cX6_copy 72 = .ok (.if_icmp .eq 9, 3) := by decide +kernel
theorem dX6_copy_75 : decode cX6_copy 75 = .ok (.aload_n 0, 1) := by decide +kernel
theorem dX6_copy_76 : decode cX6_copy 76 = .ok (.iconst 2, 1) := by decide +kernel
theorem dX6_copy_77 : decode cX6_copy 77 = .ok (.invokevirtual 71, 3) := by decide +kernel
theorem dX6_copy_80 : decode cX6_copy 80 = .ok (.ireturn, 1) := by decide +kernel
theorem dX6_copy_81 : decode cX6_copy 81 = .ok (.aload 6, 2) := by decide +kernel
theorem dX6_copy_83 : decode cX6_copy 83 = .ok (.iload_n 2, 1) := by decide +kernel
theorem dX6_copy_84 : decode cX6_copy 84 = .ok (.iload 5, 2) := by decide +kernel
theorem dX6_copy_86 : decode cX6_copy 86 = .ok (.invokevirtual 282, 3) := by decide +kernel
theorem dX6_copy_89 : decode cX6_copy 89 = .ok (.ifCond .eq 15, 3) := by decide +kernel
theorem dX6_copy_92 : decode cX6_copy 92 = .ok (.aload 7, 2) := by decide +kernel
theorem dX6_copy_94 : decode cX6_copy 94 = .ok (.iload 4, 2) := by decide +kernel
theorem dX6_copy_96 : decode cX6_copy 96 = .ok (.iload 5, 2) := by decide +kernel
theorem dX6_copy_98 : decode cX6_copy 98 = .ok (.invokevirtual 282, 3) := by decide +kernel
theorem dX6_copy_101 : decode cX6_copy 101 = .ok (.ifCond .ne 9, 3) := by decide +kernel
theorem dX6_copy_104 : decode cX6_copy 104 = .ok (.aload_n 0, 1) := by decide +kernel
theorem dX6_copy_105 : decode cX6_copy 105 = .ok (.iconst 0, 1) := by decide +kernel
theorem dX6_copy_106 : decode cX6_copy 106 = .ok (.invokevirtual 71, 3) := by decide +kernel
theorem dX6_copy_109 : decode cX6_copy 109 = .ok (.ireturn, 1) := by decide +kernel
theorem dX6_copy_110 : decode cX6_copy 110 = .ok (.aload 6, 2) := by decide +kernel
theorem dX6_copy_112 : decode cX6_copy 112 = .ok (.getfield 268, 3) := by decide +kernel
theorem dX6_copy_115 : decode cX6_copy 115 = .ok (.iload_n 2, 1) := by decide +kernel
theorem dX6_copy_116 : decode cX6_copy 116 = .ok (.aload 7, 2) := by decide +kernel
theorem dX6_copy_118 : decode cX6_copy 118 = .ok (.getfield 268, 3) := by decide +kernel
theorem dX6_copy_121 : decode cX6_copy 121 = .ok (.iload 4, 2) := by decide +kernel
theorem dX6_copy_123 : decode cX6_copy 123 = .ok (.iload 5, 2) := by decide +kernel
theorem dX6_copy_125 : decode cX6_copy 125 = .ok (.invokestatic 285, 3) := by decide +kernel
theorem dX6_copy_128 : decode cX6_copy 128 = .ok (.iload 5, 2) := by decide +kernel
theorem dX6_copy_130 : decode cX6_copy 130 = .ok (.ireturn, 1) := by decide +kernel
theorem dX6_lays_0 : decode cX6_lays 0 = .ok (.aload_n 0, 1) := by decide +kernel
theorem dX6_lays_1 : decode cX6_lays 1 = .ok (.iload_n 1, 1) := by decide +kernel
theorem dX6_lays_2 : decode cX6_lays 2 = .ok (.invokevirtual 265, 3) := by decide +kernel
theorem dX6_lays_5 : decode cX6_lays 5 = .ok (.istore_n 3, 1) := by decide +kernel
theorem dX6_lays_6 : decode cX6_lays 6 = .ok (.iload_n 3, 1) := by decide +kernel
theorem dX6_lays_7 : decode cX6_lays 7 = .ok (.ifCond .lt 9, 3) := by decide +kernel
theorem dX6_lays_10 : decode cX6_lays 10 = .ok (.aload_n 0, 1) := by decide +kernel
theorem dX6_lays_11 : decode cX6_lays 11 = .ok (.iload_n 3, 1) := by decide +kernel
theorem dX6_lays_12 : decode cX6_lays 12 = .ok (.invokevirtual 71, 3) := by decide +kernel
theorem dX6_lays_15 : decode cX6_lays 15 = .ok (.ireturn, 1) := by decide +kernel
theorem dX6_lays_16 : decode cX6_lays 16 = .ok (.aload_n 0, 1) := by decide +kernel
theorem dX6_lays_17 : decode cX6_lays 17 = .ok (.getfield 10, 3) := by decide +kernel
theorem dX6_lays_20 : decode cX6_lays 20 = .ok (.iload_n 2, 1) := by decide +kernel
theorem dX6_lays_21 : decode cX6_lays 21 = .ok (.invokevirtual 218, 3) := by decide +kernel
theorem dX6_lays_24 : decode cX6_lays 24 = .ok (.ifCond .ne 9, 3) := by decide +kernel
theorem dX6_lays_27 : decode cX6_lays 27 = .ok (.aload_n 0, 1) := by decide +kernel
theorem dX6_lays_28 : decode cX6_lays 28 = .ok (.iconst 0, 1) := by decide +kernel
theorem dX6_lays_29 : decode cX6_lays 29 = .ok (.invokevirtual 71, 3) := by decide +kernel
theorem dX6_lays_32 : decode cX6_lays 32 = .ok (.ireturn, 1) := by decide +kernel
theorem dX6_lays_33 : decode cX6_lays 33 = .ok (.aload_n 0, 1) := by decide +kernel
theorem dX6_lays_34 : decode cX6_lays 34 = .ok (.getfield 58, 3) := by decide +kernel
theorem dX6_lays_37 : decode cX6_lays 37 = .ok (.iload_n 1, 1) := by decide +kernel
theorem dX6_lays_38 : decode cX6_lays 38 = .ok (.aaload, 1) := by decide +kernel
theorem dX6_lays_39 : decode cX6_lays 39 = .ok (.astore 4, 2) := by decide +kernel
theorem dX6_lays_41 : decode cX6_lays 41 = .ok (.iconst 0, 1) := by decide +kernel
theorem dX6_lays_42 : decode cX6_lays 42 = .ok (.istore 5, 2) := by decide +kernel
theorem dX6_lays_44 : decode cX6_lays 44 = .ok (.iconst 0, 1) := by decide +kernel
theorem dX6_lays_45 : decode cX6_lays 45 = .ok (.istore 6, 2) := by decide +kernel
theorem dX6_lays_47 : decode cX6_lays 47 = .ok (.iload 6, 2) := by decide +kernel
theorem dX6_lays_49 : decode cX6_lays 49 = .ok (.bipush 12, 2) := by decide +kernel
theorem dX6_lays_51 : decode cX6_lays 51 = .ok (.if_icmp .ge 66, 3) := by decide +kernel
theorem dX6_lays_54 : decode cX6_lays 54 = .ok (.iload 6, 2) := by decide +kernel
theorem dX6_lays_56 : decode cX6_lays 56 = .ok (.aload 4, 2) := by decide +kernel
theorem dX6_lays_58 : decode cX6_lays 58 = .ok (.getfield 264, 3) := by decide +kernel
theorem dX6_lays_61 : decode cX6_lays 61 = .ok (.if_icmp .ge 56, 3) := by decide +kernel
theorem dX6_lays_64 : decode cX6_lays 64 = .ok (.aload 4, 2) := by decide +kernel
theorem dX6_lays_66 : decode cX6_lays 66 = .ok (.getfield 268, 3) := by decide +kernel
theorem dX6_lays_69 : decode cX6_lays 69 = .ok (.iload 6, 2) := by decide +kernel
theorem dX6_lays_71 : decode cX6_lays 71 = .ok (.laload, 1) := by decide +kernel
theorem dX6_lays_72 : decode cX6_lays 72 = .ok (.lstore 7, 2) := by decide +kernel
theorem dX6_lays_74 : decode cX6_lays 74 = .ok (.lload 7, 2) := by decide +kernel
theorem dX6_lays_76 : decode cX6_lays 76 = .ok (.lconst 0, 1) := by decide +kernel
theorem dX6_lays_77 : decode cX6_lays 77 = .ok (.lcmp, 1) := by decide +kernel
theorem dX6_lays_78 : decode cX6_lays 78 = .ok (.ifCond .lt 33, 3) := by decide +kernel
theorem dX6_lays_81 : decode cX6_lays 81 = .ok (.lload 7, 2) := by decide +kernel
theorem dX6_lays_83 : decode cX6_lays 83 = .ok (.ldc2_w 291, 3) := by decide +kernel
theorem dX6_lays_86 : decode cX6_lays 86 = .ok (.lcmp, 1) := by decide +kernel
theorem dX6_lays_87 : decode cX6_lays 87 = .ok (.ifCond .gt 24, 3) := by decide +kernel
theorem dX6_lays_90 : decode cX6_lays 90 = .ok (.aload_n 0, 1) := by decide +kernel
theorem dX6_lays_91 : decode cX6_lays 91 = .ok (.getfield 10, 3) := by decide +kernel
theorem dX6_lays_94 : decode cX6_lays 94 = .ok (.getfield 221, 3) := by decide +kernel
theorem dX6_lays_97 : decode cX6_lays 97 = .ok (.iload_n 2, 1) := by decide +kernel
theorem dX6_lays_98 : decode cX6_lays 98 = .ok (.bipush 12, 2) := by decide +kernel
theorem dX6_lays_100 : decode cX6_lays 100 = .ok (.imul, 1) := by decide +kernel
theorem dX6_lays_101 : decode cX6_lays 101 = .ok (.iload 6, 2) := by decide +kernel
theorem dX6_lays_103 : decode cX6_lays 103 = .ok (.iadd, 1) := by decide +kernel
theorem dX6_lays_104 : decode cX6_lays 104 = .ok (.lload 7, 2) := by decide +kernel
theorem dX6_lays_106 : decode cX6_lays 106 = .ok (.l2i, 1) := by decide +kernel
theorem dX6_lays_107 : decode cX6_lays 107 = .ok (.iastore, 1) := by decide +kernel
theorem dX6_lays_108 : decode cX6_lays 108 = .ok (.iinc 5 1, 3) := by decide +kernel
theorem dX6_lays_111 : decode cX6_lays 111 = .ok (.iinc 6 1, 3) := by decide +kernel
theorem dX6_lays_114 : decode cX6_lays 114 = .ok (.goto (-67), 3) := by decide +kernel
theorem dX6_lays_117 : decode cX6_lays 117 = .ok (.iload 5, 2) := by decide +kernel
theorem dX6_lays_119 : decode cX6_lays 119 = .ok (.ireturn, 1) := by decide +kernel
theorem dX6_costs_0 : decode cX6_costs 0 = .ok (.aload_n 0, 1) := by decide +kernel
theorem dX6_costs_1 : decode cX6_costs 1 = .ok (.iload_n 1, 1) := by decide +kernel
theorem dX6_costs_2 : decode cX6_costs 2 = .ok (.invokevirtual 265, 3) := by decide +kernel
theorem dX6_costs_5 : decode cX6_costs 5 = .ok (.istore_n 3, 1) := by decide +kernel
theorem dX6_costs_6 : decode cX6_costs 6 = .ok (.iload_n 3, 1) := by decide +kernel
theorem dX6_costs_7 : decode cX6_costs 7 = .ok (.ifCond .lt 9, 3) := by decide +kernel
theorem dX6_costs_10 : decode cX6_costs 10 = .ok (.aload_n 0, 1) := by decide +kernel
theorem dX6_costs_11 : decode cX6_costs 11 = .ok (.iload_n 3, 1) := by decide +kernel
theorem dX6_costs_12 : decode cX6_costs 12 = .ok (.invokevirtual 71, 3) := by decide +kernel
theorem dX6_costs_15 : decode cX6_costs 15 = .ok (.ireturn, 1) := by decide +kernel
theorem dX6_costs_16 : decode cX6_costs 16 = .ok (.iload_n 2, 1) := by decide +kernel
theorem dX6_costs_17 : decode cX6_costs 17 = .ok (.iconst 0, 1) := by decide +kernel
theorem dX6_costs_18 : decode cX6_costs 18 = .ok (.bipush 11, 2) := by decide +kernel
theorem dX6_costs_20 : decode cX6_costs 20 = .ok (.invokestatic 67, 3) := by decide +kernel
theorem dX6_costs_23 : decode cX6_costs 23 = .ok (.ifCond .ne 9, 3) := by decide +kernel
theorem dX6_costs_26 : decode cX6_costs 26 = .ok (.aload_n 0, 1) := by decide +kernel
theorem dX6_costs_27 : decode cX6_costs 27 = .ok (.iconst 0, 1) := by decide +kernel
theorem dX6_costs_28 : decode cX6_costs 28 = .ok (.invokevirtual 71, 3) := by decide +kernel
theorem dX6_costs_31 : decode cX6_costs 31 = .ok (.ireturn, 1) := by decide +kernel
theorem dX6_costs_32 : decode cX6_costs 32 = .ok (.aload_n 0, 1) := by decide +kernel
theorem dX6_costs_33 : decode cX6_costs 33 = .ok (.getfield 58, 3) := by decide +kernel
theorem dX6_costs_36 : decode cX6_costs 36 = .ok (.iload_n 1, 1) := by decide +kernel
theorem dX6_costs_37 : decode cX6_costs 37 = .ok (.aaload, 1) := by decide +kernel
theorem dX6_costs_38 : decode cX6_costs 38 = .ok (.astore 4, 2) := by decide +kernel
theorem dX6_costs_40 : decode cX6_costs 40 = .ok (.iconst 0, 1) := by decide +kernel
theorem dX6_costs_41 : decode cX6_costs 41 = .ok (.istore 5, 2) := by decide +kernel
theorem dX6_costs_43 : decode cX6_costs 43 = .ok (.iload 5, 2) := by decide +kernel
theorem dX6_costs_45 : decode cX6_costs 45 = .ok (.aload 4, 2) := by decide +kernel
theorem dX6_costs_47 : decode cX6_costs 47 = .ok (.getfield 264, 3) := by decide +kernel
theorem dX6_costs_50 : decode cX6_costs 50 = .ok (.if_icmp .ge 48, 3) := by decide +kernel
theorem dX6_costs_53 : decode cX6_costs 53 = .ok (.aload 4, 2) := by decide +kernel
theorem dX6_costs_55 : decode cX6_costs 55 = .ok (.getfield 268, 3) := by decide +kernel
theorem dX6_costs_58 : decode cX6_costs 58 = .ok (.iload 5, 2) := by decide +kernel
theorem dX6_costs_60 : decode cX6_costs 60 = .ok (.laload, 1) := by decide +kernel
theorem dX6_costs_61 : decode cX6_costs 61 = .ok (.lconst 0, 1) := by decide +kernel
theorem dX6_costs_62 : decode cX6_costs 62 = .ok (.lcmp, 1) := by decide +kernel
theorem dX6_costs_63 : decode cX6_costs 63 = .ok (.ifCond .lt 23, 3) := by decide +kernel
theorem dX6_costs_66 : decode cX6_costs 66 = .ok (.aload 4, 2) := by decide +kernel
theorem dX6_costs_68 : decode cX6_costs 68 = .ok (.getfield 268, 3) := by decide +kernel
theorem dX6_costs_71 : decode cX6_costs 71 = .ok (.iload 5, 2) := by decide +kernel
theorem dX6_costs_73 : decode cX6_costs 73 = .ok (.laload, 1) := by decide +kernel
theorem dX6_costs_74 : decode cX6_costs 74 = .ok (.aload_n 0, 1) := by decide +kernel
theorem dX6_costs_75 : decode cX6_costs 75 = .ok (.getfield 10, 3) := by decide +kernel
theorem dX6_costs_78 : decode cX6_costs 78 = .ok (.getfield 212, 3) := by decide +kernel
theorem dX6_costs_81 : decode cX6_costs 81 = .ok (.i2l, 1) := by decide +kernel
theorem dX6_costs_82 : decode cX6_costs 82 = .ok (.lcmp, 1) := by decide +kernel
theorem dX6_costs_83 : decode cX6_costs 83 = .ok (.ifCond .lt 9, 3) := by decide +kernel
theorem dX6_costs_86 : decode cX6_costs 86 = .ok (.aload_n 0, 1) := by decide +kernel
theorem dX6_costs_87 : decode cX6_costs 87 = .ok (.iconst 2, 1) := by decide +kernel
theorem dX6_costs_88 : decode cX6_costs 88 = .ok (.invokevirtual 71, 3) := by decide +kernel
theorem dX6_costs_91 : decode cX6_costs 91 = .ok (.ireturn, 1) := by decide +kernel
theorem dX6_costs_92 : decode cX6_costs 92 = .ok (.iinc 5 1, 3) := by decide +kernel
theorem dX6_costs_95 : decode cX6_costs 95 = .ok (.goto (-52), 3) := by decide +kernel
theorem dX6_costs_98 : decode cX6_costs 98 = .ok (.aload_n 0, 1) := by decide +kernel
theorem dX6_costs_99 : decode cX6_costs 99 = .ok (.getfield 10, 3) := by decide +kernel
theorem dX6_costs_102 : decode cX6_costs 102 = .ok (.aload 4, 2) := by decide +kernel
theorem dX6_costs_104 : decode cX6_costs 104 = .ok (.iload_n 2, 1) := by decide +kernel
theorem dX6_costs_105 : decode cX6_costs 105 = .ok (.invokevirtual 293, 3) := by decide +kernel
theorem dX6_costs_108 : decode cX6_costs 108 = .ok (.ireturn, 1) := by decide +kernel
theorem dX6_read_0 : decode cX6_read 0 = .ok (.aload_n 0, 1) := by decide +kernel
theorem dX6_read_1 : decode cX6_read 1 = .ok (.iload_n 1, 1) := by decide +kernel
theorem dX6_read_2 : decode cX6_read 2 = .ok (.invokevirtual 265, 3) := by decide +kernel
theorem dX6_read_5 : decode cX6_read 5 = .ok (.istore_n 2, 1) := by decide +kernel
theorem dX6_read_6 : decode cX6_read 6 = .ok (.iload_n 2, 1) := by decide +kernel
theorem dX6_read_7 : decode cX6_read 7 = .ok (.ifCond .lt 9, 3) := by decide +kernel
theorem dX6_read_10 : decode cX6_read 10 = .ok (.aload_n 0, 1) := by decide +kernel
theorem dX6_read_11 : decode cX6_read 11 = .ok (.iload_n 2, 1) := by decide +kernel
theorem dX6_read_12 : decode cX6_read 12 = .ok (.invokevirtual 71, 3) := by decide +kernel
theorem dX6_read_15 : decode cX6_read 15 = .ok (.ireturn, 1) := by decide +kernel
theorem dX6_read_16 : decode cX6_read 16 = .ok (.aload_n 0, 1) := by decide +kernel
theorem dX6_read_17 : decode cX6_read 17 = .ok (.getfield 58, 3) := by decide +kernel
theorem dX6_read_20 : decode cX6_read 20 = .ok (.iload_n 1, 1) := by decide +kernel
theorem dX6_read_21 : decode cX6_read 21 = .ok (.aaload, 1) := by decide +kernel
theorem dX6_read_22 : decode cX6_read 22 = .ok (.astore_n 3, 1) := by decide +kernel
theorem dX6_read_23 : decode cX6_read 23 = .ok (.aload_n 0, 1) := by decide +kernel
theorem dX6_read_24 : decode cX6_read 24 = .ok (.getfield 31, 3) := by decide +kernel
theorem dX6_read_27 : decode cX6_read 27 = .ok (.invokevirtual 87, 3) := by decide +kernel
theorem dX6_read_30 : decode cX6_read 30 = .ok (.aload_n 0, 1) := by decide +kernel
theorem dX6_read_31 : decode cX6_read 31 = .ok (.getfield 31, 3) := by decide +kernel
theorem dX6_read_34 : decode cX6_read 34 = .ok (.invokevirtual 144, 3) := by decide +kernel
theorem dX6_read_37 : decode cX6_read 37 = .ok (.iconst 0, 1) := by decide +kernel
theorem dX6_read_38 : decode cX6_read 38 = .ok (.istore 4, 2) := by decide +kernel
theorem dX6_read_40 : decode cX6_read 40 = .ok (.iload 4, 2) := by decide +kernel
theorem dX6_read_42 : decode cX6_read 42 = .ok (.aload_n 3, 1) := by decide +kernel
theorem dX6_read_43 : decode cX6_read 43 = .ok (.getfield 264, 3) := by decide +kernel
theorem dX6_read_46 : decode cX6_read 46 = .ok (.if_icmp .ge 42, 3) := by decide +kernel
theorem dX6_read_49 : decode cX6_read 49 = .ok (.iload 4, 2) := by decide +kernel
theorem dX6_read_51 : decode cX6_read 51 = .ok (.bipush 8, 2) := by decide +kernel
theorem dX6_read_53 : decode cX6_read 53 = .ok (.if_icmp .ge 24, 3) := by decide +kernel
theorem dX6_read_56 : decode cX6_read 56 = .ok (.aload_n 3, 1) := by decide +kernel
theorem dX6_read_57 : decode cX6_read 57 = .ok (.getfield 268, 3) := by decide +kernel
theorem dX6_read_60 : decode cX6_read 60 = .ok (.iload 4, 2) := by decide +kernel
theorem dX6_read_62 : decode cX6_read 62 = .ok (.laload, 1) := by decide +kernel
theorem dX6_read_63 : decode cX6_read 63 = .ok (.aload_n 0, 1) := by decide +kernel
theorem dX6_read_64 : decode cX6_read 64 = .ok (.getfield 31, 3) := by decide +kernel
theorem dX6_read_67 : decode cX6_read 67 = .ok (.iload 4, 2) := by decide +kernel
theorem dX6_read_69 : decode cX6_read 69 = .ok (.invokevirtual 153, 3) := by decide +kernel
theorem dX6_read_72 : decode cX6_read 72 = .ok (.i2l, 1) := by decide +kernel
theorem dX6_read_73 : decode cX6_read 73 = .ok (.lcmp, 1) := by decide +kernel
theorem dX6_read_74 : decode cX6_read 74 = .ok (.ifCond .eq 8, 3) := by decide +kernel
theorem dX6_read_77 : decode cX6_read 77 = .ok (.iconst 1, 1) := by decide +kernel
theorem dX6_read_78 : decode cX6_read 78 = .ok (.iload 4, 2) := by decide +kernel
theorem dX6_read_80 : decode cX6_read 80 = .ok (.iadd, 1) := by decide +kernel
theorem dX6_read_81 : decode cX6_read 81 = .ok (.ireturn, 1) := by decide +kernel
theorem dX6_read_82 : decode cX6_read 82 = .ok (.iinc 4 1, 3) := by decide +kernel
theorem dX6_read_85 : decode cX6_read 85 = .ok (.goto (-45), 3) := by decide +kernel
theorem dX6_read_88 : decode cX6_read 88 = .ok (.iconst 0, 1) := by decide +kernel
theorem dX6_read_89 : decode cX6_read 89 = .ok (.ireturn, 1) := by decide +kernel
theorem dX6_image_0 : decode cX6_image 0 = .ok (.aload_n 0, 1) := by decide +kernel
theorem dX6_image_1 : decode cX6_image 1 = .ok (.getfield 16, 3) := by decide +kernel
theorem dX6_image_4 : decode cX6_image 4 = .ok (.aload_n 0, 1) := by decide +kernel
theorem dX6_image_5 : decode cX6_image 5 = .ok (.getfield 10, 3) := by decide +kernel
theorem dX6_image_8 : decode cX6_image 8 = .ok (.invokevirtual 252, 3) := by decide +kernel
theorem dX6_image_11 : decode cX6_image 11 = .ok (.aload_n 0, 1) := by decide +kernel
theorem dX6_image_12 : decode cX6_image 12 = .ok (.iconst 1, 1) := by decide +kernel
theorem dX6_image_13 : decode cX6_image 13 = .ok (.putfield 22, 3) := by decide +kernel
theorem dX6_image_16 : decode cX6_image 16 = .ok (.iconst 1, 1) := by decide +kernel
theorem dX6_image_17 : decode cX6_image 17 = .ok (.ireturn, 1) := by decide +kernel
theorem dX6_undo_0 : decode cX6_undo 0 = .ok (.aload_n 0, 1) := by decide +kernel
theorem dX6_undo_1 : decode cX6_undo 1 = .ok (.getfield 22, 3) := by decide +kernel
theorem dX6_undo_4 : decode cX6_undo 4 = .ok (.ifCond .ne 9, 3) := by decide +kernel
theorem dX6_undo_7 : decode cX6_undo 7 = .ok (.aload_n 0, 1) := by decide +kernel
theorem dX6_undo_8 : decode cX6_undo 8 = .ok (.iconst 3, 1) := by decide +kernel
theorem dX6_undo_9 : decode cX6_undo 9 = .ok (.invokevirtual 71, 3) := by decide +kernel
theorem dX6_undo_12 : decode cX6_undo 12 = .ok (.ireturn, 1) := by decide +kernel
theorem dX6_undo_13 : decode cX6_undo 13 = .ok (.aload_n 0, 1) := by decide +kernel
theorem dX6_undo_14 : decode cX6_undo 14 = .ok (.getfield 10, 3) := by decide +kernel
theorem dX6_undo_17 : decode cX6_undo 17 = .ok (.aload_n 0, 1) := by decide +kernel
theorem dX6_undo_18 : decode cX6_undo 18 = .ok (.getfield 16, 3) := by decide +kernel
theorem dX6_undo_21 : decode cX6_undo 21 = .ok (.invokevirtual 252, 3) := by decide +kernel
theorem dX6_undo_24 : decode cX6_undo 24 = .ok (.aload_n 0, 1) := by decide +kernel
theorem dX6_undo_25 : decode cX6_undo 25 = .ok (.getfield 10, 3) := by decide +kernel
theorem dX6_undo_28 : decode cX6_undo 28 = .ok (.getfield 75, 3) := by decide +kernel
theorem dX6_undo_31 : decode cX6_undo 31 = .ok (.ireturn, 1) := by decide +kernel
theorem dX6_tear_0 : decode cX6_tear 0 = .ok (.aload_n 0, 1) := by decide +kernel
theorem dX6_tear_1 : decode cX6_tear 1 = .ok (.getfield 22, 3) := by decide +kernel
theorem dX6_tear_4 : decode cX6_tear 4 = .ok (.ifCond .eq 7, 3) := by decide +kernel
theorem dX6_tear_7 : decode cX6_tear 7 = .ok (.iconst 1, 1) := by decide +kernel
theorem dX6_tear_8 : decode cX6_tear 8 = .ok (.goto 4, 3) := by decide +kernel
theorem dX6_tear_11 : decode cX6_tear 11 = .ok (.iconst 0, 1) := by decide +kernel
theorem dX6_tear_12 : decode cX6_tear 12 = .ok (.istore_n 1, 1) := by decide +kernel
theorem dX6_tear_13 : decode cX6_tear 13 = .ok (.aload_n 0, 1) := by decide +kernel
theorem dX6_tear_14 : decode cX6_tear 14 = .ok (.iconst 0, 1) := by decide +kernel
theorem dX6_tear_15 : decode cX6_tear 15 = .ok (.putfield 22, 3) := by decide +kernel
theorem dX6_tear_18 : decode cX6_tear 18 = .ok (.iload_n 1, 1) := by decide +kernel
theorem dX6_tear_19 : decode cX6_tear 19 = .ok (.ireturn, 1) := by decide +kernel
theorem dX6_count_0 : decode cX6_count 0 = .ok (.iload_n 1, 1) := by decide +kernel
theorem dX6_count_1 : decode cX6_count 1 = .ok (.tableswitch 102 0 6 #[43, 51, 62, 70, 78, 86, 94], 43) := by decide +kernel
theorem dX6_count_44 : decode cX6_count 44 = .ok (.aload_n 0, 1) := by decide +kernel
theorem dX6_count_45 : decode cX6_count 45 = .ok (.getfield 10, 3) := by decide +kernel
theorem dX6_count_48 : decode cX6_count 48 = .ok (.getfield 75, 3) := by decide +kernel
theorem dX6_count_51 : decode cX6_count 51 = .ok (.ireturn, 1) := by decide +kernel
theorem dX6_count_52 : decode cX6_count 52 = .ok (.aload_n 0, 1) := by decide +kernel
theorem dX6_count_53 : decode cX6_count 53 = .ok (.getfield 10, 3) := by decide +kernel
theorem dX6_count_56 : decode cX6_count 56 = .ok (.getfield 124, 3) := by decide +kernel
theorem dX6_count_59 : decode cX6_count 59 = .ok (.invokestatic 191, 3) := by decide +kernel
theorem dX6_count_62 : decode cX6_count 62 = .ok (.ireturn, 1) := by decide +kernel
theorem dX6_count_63 : decode cX6_count 63 = .ok (.aload_n 0, 1) := by decide +kernel
theorem dX6_count_64 : decode cX6_count 64 = .ok (.getfield 10, 3) := by decide +kernel
theorem dX6_count_67 : decode cX6_count 67 = .ok (.getfield 179, 3) := by decide +kernel
theorem dX6_count_70 : decode cX6_count 70 = .ok (.ireturn, 1) := by decide +kernel
theorem dX6_count_71 : decode cX6_count 71 = .ok (.aload_n 0, 1) := by decide +kernel
theorem dX6_count_72 : decode cX6_count 72 = .ok (.getfield 10, 3) := by decide +kernel
theorem dX6_count_75 : decode cX6_count 75 = .ok (.getfield 212, 3) := by decide +kernel
theorem dX6_count_78 : decode cX6_count 78 = .ok (.ireturn, 1) := by decide +kernel
theorem dX6_count_79 : decode cX6_count 79 = .ok (.aload_n 0, 1) := by decide +kernel
theorem dX6_count_80 : decode cX6_count 80 = .ok (.getfield 52, 3) := by decide +kernel
theorem dX6_count_83 : decode cX6_count 83 = .ok (.getfield 246, 3) := by decide +kernel
theorem dX6_count_86 : decode cX6_count 86 = .ok (.ireturn, 1) := by decide +kernel
theorem dX6_count_87 : decode cX6_count 87 = .ok (.aload_n 0, 1) := by decide +kernel
theorem dX6_count_88 : decode cX6_count 88 = .ok (.getfield 10, 3) := by decide +kernel
theorem dX6_count_91 : decode cX6_count 91 = .ok (.invokevirtual 297, 3) := by decide +kernel
theorem dX6_count_94 : decode cX6_count 94 = .ok (.ireturn, 1) := by decide +kernel
theorem dX6_count_95 : decode cX6_count 95 = .ok (.aload_n 0, 1) := by decide +kernel
theorem dX6_count_96 : decode cX6_count 96 = .ok (.getfield 10, 3) := by decide +kernel
theorem dX6_count_99 : decode cX6_count 99 = .ok (.getfield 137, 3) := by decide +kernel
theorem dX6_count_102 : decode cX6_count 102 = .ok (.ireturn, 1) := by decide +kernel
theorem dX6_count_103 : decode cX6_count 103 = .ok (.aload_n 0, 1) := by decide +kernel
theorem dX6_count_104 : decode cX6_count 104 = .ok (.iconst 0, 1) := by decide +kernel
theorem dX6_count_105 : decode cX6_count 105 = .ok (.invokevirtual 71, 3) := by decide +kernel
theorem dX6_count_108 : decode cX6_count 108 = .ok (.ireturn, 1) := by decide +kernel
theorem dX6_status_0 : decode cX6_status 0 = .ok (.iload_n 1, 1) := by decide +kernel
theorem dX6_status_1 : decode cX6_status 1 = .ok (.iconst (-1), 1) := by decide +kernel
theorem dX6_status_2 : decode cX6_status 2 = .ok (.bipush 6, 2) := by decide +kernel
theorem dX6_status_4 : decode cX6_status 4 = .ok (.invokestatic 67, 3) := by decide +kernel
theorem dX6_status_7 : decode cX6_status 7 = .ok (.ifCond .ne 9, 3) := by decide +kernel
theorem dX6_status_10 : decode cX6_status 10 = .ok (.aload_n 0, 1) := by decide +kernel
theorem dX6_status_11 : decode cX6_status 11 = .ok (.iconst 0, 1) := by decide +kernel
theorem dX6_status_12 : decode cX6_status 12 = .ok (.invokevirtual 71, 3) := by decide +kernel
theorem dX6_status_15 : decode cX6_status 15 = .ok (.ireturn, 1) := by decide +kernel
theorem dX6_status_16 : decode cX6_status 16 = .ok (.iload_n 1, 1) := by decide +kernel
theorem dX6_status_17 : decode cX6_status 17 = .ok (.ifCond .lt 10, 3) := by decide +kernel
theorem dX6_status_20 : decode cX6_status 20 = .ok (.aload_n 0, 1) := by decide +kernel
theorem dX6_status_21 : decode cX6_status 21 = .ok (.getfield 63, 3) := by decide +kernel
theorem dX6_status_24 : decode cX6_status 24 = .ok (.iload_n 1, 1) := by decide +kernel
theorem dX6_status_25 : decode cX6_status 25 = .ok (.iaload, 1) := by decide +kernel
theorem dX6_status_26 : decode cX6_status 26 = .ok (.ireturn, 1) := by decide +kernel
theorem dX6_status_27 : decode cX6_status 27 = .ok (.iconst 0, 1) := by decide +kernel
theorem dX6_status_28 : decode cX6_status 28 = .ok (.istore_n 2, 1) := by decide +kernel
theorem dX6_status_29 : decode cX6_status 29 = .ok (.iconst 0, 1) := by decide +kernel
theorem dX6_status_30 : decode cX6_status 30 = .ok (.istore_n 3, 1) := by decide +kernel
theorem dX6_status_31 : decode cX6_status 31 = .ok (.iload_n 3, 1) := by decide +kernel
theorem dX6_status_32 : decode cX6_status 32 = .ok (.bipush 7, 2) := by decide +kernel
theorem dX6_status_34 : decode cX6_status 34 = .ok (.if_icmp .ge 18, 3) := by decide +kernel
theorem dX6_status_37 : decode cX6_status 37 = .ok (.iload_n 2, 1) := by decide +kernel
theorem dX6_status_38 : decode cX6_status 38 = .ok (.aload_n 0, 1) := by decide +kernel
theorem dX6_status_39 : decode cX6_status 39 = .ok (.getfield 63, 3) := by decide +kernel
theorem dX6_status_42 : decode cX6_status 42 = .ok (.iload_n 3, 1) := by decide +kernel
theorem dX6_status_43 : decode cX6_status 43 = .ok (.iaload, 1) := by decide +kernel
theorem dX6_status_44 : decode cX6_status 44 = .ok (.iadd, 1) := by decide +kernel
theorem dX6_status_45 : decode cX6_status 45 = .ok (.istore_n 2, 1) := by decide +kernel
theorem dX6_status_46 : decode cX6_status 46 = .ok (.iinc 3 1, 3) := by decide +kernel
theorem dX6_status_49 : decode cX6_status 49 = .ok (.goto (-18), 3) := by decide +kernel
theorem dX6_status_52 : decode cX6_status 52 = .ok (.iload_n 2, 1) := by decide +kernel
theorem dX6_status_53 : decode cX6_status 53 = .ok (.ireturn, 1) := by decide +kernel
theorem dX6_finding_0 : decode cX6_finding 0 = .ok (.aload_n 0, 1) := by decide +kernel
theorem dX6_finding_1 : decode cX6_finding 1 = .ok (.getfield 63, 3) := by decide +kernel
theorem dX6_finding_4 : decode cX6_finding 4 = .ok (.iload_n 1, 1) := by decide +kernel
theorem dX6_finding_5 : decode cX6_finding 5 = .ok (.dup2, 1) := by decide +kernel
theorem dX6_finding_6 : decode cX6_finding 6 = .ok (.iaload, 1) := by decide +kernel
theorem dX6_finding_7 : decode cX6_finding 7 = .ok (.iconst 1, 1) := by decide +kernel
theorem dX6_finding_8 : decode cX6_finding 8 = .ok (.iadd, 1) := by decide +kernel
theorem dX6_finding_9 : decode cX6_finding 9 = .ok (.iastore, 1) := by decide +kernel
theorem dX6_finding_10 : decode cX6_finding 10 = .ok (.ldc_w 300, 3) := by decide +kernel
theorem dX6_finding_13 : decode cX6_finding 13 = .ok (.iload_n 1, 1) := by decide +kernel
theorem dX6_finding_14 : decode cX6_finding 14 = .ok (.isub, 1) := by decide +kernel
theorem dX6_finding_15 : decode cX6_finding 15 = .ok (.ireturn, 1) := by decide +kernel
theorem dX6_within_0 : decode cX6_within 0 = .ok (.iload_n 0, 1) := by decide +kernel
theorem dX6_within_1 : decode cX6_within 1 = .ok (.iload_n 1, 1) := by decide +kernel
theorem dX6_within_2 : decode cX6_within 2 = .ok (.if_icmp .lt 12, 3) := by decide +kernel
theorem dX6_within_5 : decode cX6_within 5 = .ok (.iload_n 0, 1) := by decide +kernel
theorem dX6_within_6 : decode cX6_within 6 = .ok (.iload_n 2, 1) := by decide +kernel
theorem dX6_within_7 : decode cX6_within 7 = .ok (.if_icmp .gt 7, 3) := by decide +kernel
theorem dX6_within_10 : decode cX6_within 10 = .ok (.iconst 1, 1) := by decide +kernel
theorem dX6_within_11 : decode cX6_within 11 = .ok (.goto 4, 3) := by decide +kernel
theorem dX6_within_14 : decode cX6_within 14 = .ok (.iconst 0, 1) := by decide +kernel
theorem dX6_within_15 : decode cX6_within 15 = .ok (.ireturn, 1) := by decide +kernel
theorem dX6_put_0 : decode cX6_put 0 = .ok (.aload_n 0, 1) := by decide +kernel
theorem dX6_put_1 : decode cX6_put 1 = .ok (.iload_n 1, 1) := by decide +kernel
theorem dX6_put_2 : decode cX6_put 2 = .ok (.iaload, 1) := by decide +kernel
theorem dX6_put_3 : decode cX6_put 3 = .ok (.istore_n 3, 1) := by decide +kernel
theorem dX6_put_4 : decode cX6_put 4 = .ok (.aload_n 0, 1) := by decide +kernel
theorem dX6_put_5 : decode cX6_put 5 = .ok (.iload_n 1, 1) := by decide +kernel
theorem dX6_put_6 : decode cX6_put 6 = .ok (.iload_n 2, 1) := by decide +kernel
theorem dX6_put_7 : decode cX6_put 7 = .ok (.iastore, 1) := by decide +kernel
theorem dX6_put_8 : decode cX6_put 8 = .ok (.iload_n 3, 1) := by decide +kernel
theorem dX6_put_9 : decode cX6_put 9 = .ok (.ireturn, 1) := by decide +kernel
theorem dX6_isOfKind_0 : decode cX6_isOfKind 0 = .ok (.iload_n 0, 1) := by decide +kernel
theorem dX6_isOfKind_1 : decode cX6_isOfKind 1 = .ok (.istore_n 2, 1) := by decide +kernel
theorem dX6_isOfKind_2 : decode cX6_isOfKind 2 = .ok (.iconst 0, 1) := by decide +kernel
theorem dX6_isOfKind_3 : decode cX6_isOfKind 3 = .ok (.istore_n 3, 1) := by decide +kernel
theorem dX6_isOfKind_4 : decode cX6_isOfKind 4 = .ok (.iload_n 3, 1) := by decide +kernel
theorem dX6_isOfKind_5 : decode cX6_isOfKind 5 = .ok (.iconst 3, 1) := by decide +kernel
theorem dX6_isOfKind_6 : decode cX6_isOfKind 6 = .ok (.if_icmp .ge 22, 3) := by decide +kernel
theorem dX6_isOfKind_9 : decode cX6_isOfKind 9 = .ok (.iload_n 2, 1) := by decide +kernel
theorem dX6_isOfKind_10 : decode cX6_isOfKind 10 = .ok (.iload_n 1, 1) := by decide +kernel
theorem dX6_isOfKind_11 : decode cX6_isOfKind 11 = .ok (.if_icmp .ne 5, 3) := by decide +kernel
theorem dX6_isOfKind_14 : decode cX6_isOfKind 14 = .ok (.iconst 1, 1) := by decide +kernel
theorem dX6_isOfKind_15 : decode cX6_isOfKind 15 = .ok (.ireturn, 1) := by decide +kernel
theorem dX6_isOfKind_16 : decode cX6_isOfKind 16 = .ok (.getstatic 301, 3) := by decide +kernel
theorem dX6_isOfKind_19 : decode cX6_isOfKind 19 = .ok (.iload_n 2, 1) := by decide +kernel
theorem dX6_isOfKind_20 : decode cX6_isOfKind 20 = .ok (.iaload, 1) := by decide +kernel
theorem dX6_isOfKind_21 : decode cX6_isOfKind 21 = .ok (.istore_n 2, 1) := by decide +kernel
theorem dX6_isOfKind_22 : decode cX6_isOfKind 22 = .ok (.iinc 3 1, 3) := by decide +kernel
theorem dX6_isOfKind_25 : decode cX6_isOfKind 25 = .ok (.goto (-21), 3) := by decide +kernel
theorem dX6_isOfKind_28 : decode cX6_isOfKind 28 = .ok (.iconst 0, 1) := by decide +kernel
theorem dX6_isOfKind_29 : decode cX6_isOfKind 29 = .ok (.ireturn, 1) := by decide +kernel
theorem dX6_isWidth_0 : decode cX6_isWidth 0 = .ok (.iload_n 0, 1) := by decide +kernel
theorem dX6_isWidth_1 : decode cX6_isWidth 1 = .ok (.ifCond .eq 21, 3) := by decide +kernel
theorem dX6_isWidth_4 : decode cX6_isWidth 4 = .ok (.iload_n 0, 1) := by decide +kernel
theorem dX6_isWidth_5 : decode cX6_isWidth 5 = .ok (.bipush 8, 2) := by decide +kernel
theorem dX6_isWidth_7 : decode cX6_isWidth 7 = .ok (.if_icmp .eq 15, 3) := by decide +kernel
theorem dX6_isWidth_10 : decode cX6_isWidth 10 = .ok (.iload_n 0, 1) := by decide +kernel
theorem dX6_isWidth_11 : decode cX6_isWidth 11 = .ok (.bipush 16, 2) := by decide +kernel
theorem dX6_isWidth_13 : decode cX6_isWidth 13 = .ok (.if_icmp .eq 9, 3) := by decide +kernel
theorem dX6_isWidth_16 : decode cX6_isWidth 16 = .ok (.iload_n 0, 1) := by decide +kernel
theorem dX6_isWidth_17 : decode cX6_isWidth 17 = .ok (.bipush 64, 2) := by decide +kernel
theorem dX6_isWidth_19 : decode cX6_isWidth 19 = .ok (.if_icmp .ne 7, 3) := by decide +kernel
theorem dX6_isWidth_22 : decode cX6_isWidth 22 = .ok (.iconst 1, 1) := by decide +kernel
theorem dX6_isWidth_23 : decode cX6_isWidth 23 = .ok (.goto 4, 3) := by decide +kernel
theorem dX6_isWidth_26 : decode cX6_isWidth 26 = .ok (.iconst 0, 1) := by decide +kernel
theorem dX6_isWidth_27 : decode cX6_isWidth 27 = .ok (.ireturn, 1) := by decide +kernel
theorem dX6_sheetTrouble_0 : decode cX6_sheetTrouble 0 = .ok (.iload_n 1, 1) := by decide +kernel
theorem dX6_sheetTrouble_1 : decode cX6_sheetTrouble 1 = .ok (.iconst 0, 1) := by decide +kernel
theorem dX6_sheetTrouble_2 : decode cX6_sheetTrouble 2 = .ok (.iconst 3, 1) := by decide +kernel
theorem dX6_sheetTrouble_3 : decode cX6_sheetTrouble 3 = .ok (.invokestatic 67, 3) := by decide +kernel
theorem dX6_sheetTrouble_6 : decode cX6_sheetTrouble 6 = .ok (.ifCond .ne 5, 3) := by decide +kernel
theorem dX6_sheetTrouble_9 : decode cX6_sheetTrouble 9 = .ok (.iconst 0, 1) := by decide +kernel
theorem dX6_sheetTrouble_10 : decode cX6_sheetTrouble 10 = .ok (.ireturn, 1) := by decide +kernel
theorem dX6_sheetTrouble_11 : decode cX6_sheetTrouble 11 = .ok (.aload_n 0, 1) := by decide +kernel
theorem dX6_sheetTrouble_12 : decode cX6_sheetTrouble 12 = .ok (.getfield 58, 3) := by decide +kernel
theorem dX6_sheetTrouble_15 : decode cX6_sheetTrouble 15 = .ok (.iload_n 1, 1) := by decide +kernel
theorem dX6_sheetTrouble_16 : decode cX6_sheetTrouble 16 = .ok (.aaload, 1) := by decide +kernel
theorem dX6_sheetTrouble_17 : decode cX6_sheetTrouble 17 = .ok (.invokevirtual 276, 3) := by decide +kernel
theorem dX6_sheetTrouble_20 : decode cX6_sheetTrouble 20 = .ok (.ifCond .eq 7, 3) := by decide +kernel
theorem dX6_sheetTrouble_23 : decode cX6_sheetTrouble 23 = .ok (.iconst 5, 1) := by decide +kernel
theorem dX6_sheetTrouble_24 : decode cX6_sheetTrouble 24 = .ok (.goto 4, 3) := by decide +kernel
theorem dX6_sheetTrouble_27 : decode cX6_sheetTrouble 27 = .ok (.iconst (-1), 1) := by decide +kernel
theorem dX6_sheetTrouble_28 : decode cX6_sheetTrouble 28 = .ok (.ireturn, 1) := by decide +kernel
end
section
theorem dX7_init_0 : decode cX7_init 0 = .ok (.aload_n 0, 1) := by decide +kernel
theorem dX7_init_1 : decode cX7_init 1 = .ok (.invokespecial 1, 3) := by decide +kernel
theorem dX7_init_4 : decode cX7_init 4 = .ok (.aload_n 0, 1) := by decide +kernel
theorem dX7_init_5 : decode cX7_init 5 = .ok (.sipush 216, 3) := by decide +kernel
theorem dX7_init_8 : decode cX7_init 8 = .ok (.newarray .int, 2) := by decide +kernel
theorem dX7_init_10 : decode cX7_init 10 = .ok (.putfield 7, 3) := by decide +kernel
theorem dX7_init_13 : decode cX7_init 13 = .ok (.aload_n 0, 1) := by decide +kernel
theorem dX7_init_14 : decode cX7_init 14 = .ok (.sipush 216, 3) := by decide +kernel
theorem dX7_init_17 : decode cX7_init 17 = .ok (.newarray .int, 2) := by decide +kernel
theorem dX7_init_19 : decode cX7_init 19 = .ok (.putfield 13, 3) := by decide +kernel
theorem dX7_init_22 : decode cX7_init 22 = .ok (.aload_n 0, 1) := by decide +kernel
theorem dX7_init_23 : decode cX7_init 23 = .ok (.sipush 216, 3) := by decide +kernel
theorem dX7_init_26 : decode cX7_init 26 = .ok (.newarray .int, 2) := by decide +kernel
theorem dX7_init_28 : decode cX7_init 28 = .ok (.putfield 16, 3) := by decide +kernel
theorem dX7_init_31 : decode cX7_init 31 = .ok (.aload_n 0, 1) := by decide +kernel
theorem dX7_init_32 : decode cX7_init 32 = .ok (.bipush 8, 2) := by decide +kernel
theorem dX7_init_34 : decode cX7_init 34 = .ok (.newarray .int, 2) := by decide +kernel
theorem dX7_init_36 : decode cX7_init 36 = .ok (.putfield 19, 3) := by decide +kernel
theorem dX7_init_39 : decode cX7_init 39 = .ok (.aload_n 0, 1) := by decide +kernel
theorem dX7_init_40 : decode cX7_init 40 = .ok (.bipush 120, 2) := by decide +kernel
theorem dX7_init_42 : decode cX7_init 42 = .ok (.newarray .int, 2) := by decide +kernel
theorem dX7_init_44 : decode cX7_init 44 = .ok (.putfield 22, 3) := by decide +kernel
theorem dX7_init_47 : decode cX7_init 47 = .ok (.aload_n 0, 1) := by decide +kernel
theorem dX7_init_48 : decode cX7_init 48 = .ok (.iconst 4, 1) := by decide +kernel
theorem dX7_init_49 : decode cX7_init 49 = .ok (.newarray .int, 2) := by decide +kernel
theorem dX7_init_51 : decode cX7_init 51 = .ok (.dup, 1) := by decide +kernel
theorem dX7_init_52 : decode cX7_init 52 = .ok (.iconst 0, 1) := by decide +kernel
theorem dX7_init_53 : decode cX7_init 53 = .ok (.iconst (-1), 1) := by decide +kernel
theorem dX7_init_54 : decode cX7_init 54 = .ok (.iastore, 1) := by decide +kernel
theorem dX7_init_55 : decode cX7_init 55 = .ok (.dup, 1) := by decide +kernel
theorem dX7_init_56 : decode cX7_init 56 = .ok (.iconst 1, 1) := by decide +kernel
theorem dX7_init_57 : decode cX7_init 57 = .ok (.iconst (-1), 1) := by decide +kernel
theorem dX7_init_58 : decode cX7_init 58 = .ok (.iastore, 1) := by decide +kernel
theorem dX7_init_59 : decode cX7_init 59 = .ok (.dup, 1) := by decide +kernel
theorem dX7_init_60 : decode cX7_init 60 = .ok (.iconst 2, 1) := by decide +kernel
theorem dX7_init_61 : decode cX7_init 61 = .ok (.iconst (-1), 1) := by decide +kernel
theorem dX7_init_62 : decode cX7_init 62 = .ok (.iastore, 1) := by decide +kernel
theorem dX7_init_63 : decode cX7_init 63 = .ok (.dup, 1) := by decide +kernel
theorem dX7_init_64 : decode cX7_init 64 = .ok (.iconst 3, 1) := by decide +kernel
theorem dX7_init_65 : decode cX7_init 65 = .ok (.iconst (-1), 1) := by decide +kernel
theorem dX7_init_66 : decode cX7_init 66 = .ok (.iastore, 1) := by decide +kernel
theorem dX7_init_67 : decode cX7_init 67 = .ok (.putfield 25, 3) := by decide +kernel
theorem dX7_init_70 : decode cX7_init 70 = .ok (.aload_n 0, 1) := by decide +kernel
theorem dX7_init_71 : decode cX7_init 71 = .ok (.iconst 4, 1) := by decide +kernel
theorem dX7_init_72 : decode cX7_init 72 = .ok (.newarray .int, 2) := by decide +kernel
theorem dX7_init_74 : decode cX7_init 74 = .ok (.putfield 28, 3) := by decide +kernel
theorem dX7_init_77 : decode cX7_init 77 = .ok (.aload_n 0, 1) := by decide +kernel
theorem dX7_init_78 : decode cX7_init 78 = .ok (.sipush 160, 3) := by decide +kernel
theorem dX7_init_81 : decode cX7_init 81 = .ok (.newarray .long, 2) := by decide +kernel
theorem dX7_init_83 : decode cX7_init 83 = .ok (.putfield 31, 3) := by decide +kernel
theorem dX7_init_86 : decode cX7_init 86 = .ok (.aload_n 0, 1) := by decide +kernel
theorem dX7_init_87 : decode cX7_init 87 = .ok (.bipush 10, 2) := by decide +kernel
theorem dX7_init_89 : decode cX7_init 89 = .ok (.newarray .int, 2) := by decide +kernel
theorem dX7_init_91 : decode cX7_init 91 = .ok (.putfield 35, 3) := by decide +kernel
theorem dX7_init_94 : decode cX7_init 94 = .ok (.aload_n 0, 1) := by decide +kernel
theorem dX7_init_95 : decode cX7_init 95 = .ok (.sipush 1024, 3) := by decide +kernel
theorem dX7_init_98 : decode cX7_init 98 = .ok (.newarray .int, 2) := by decide +kernel
theorem dX7_init_100 : decode cX7_init 100 = .ok (.putfield 38, 3) := by decide +kernel
theorem dX7_init_103 : decode cX7_init 103 = .ok (.aload_n 0, 1) := by decide +kernel
theorem dX7_init_104 : decode cX7_init 104 = .ok (.sipush 1024, 3) := by decide +kernel
theorem dX7_init_107 : decode cX7_init 107 = .ok (.newarray .boolean, 2) := by decide +kernel
theorem dX7_init_109 : decode cX7_init 109 = .ok (.putfield 41, 3) := by decide +kernel
theorem dX7_init_112 : decode cX7_init 112 = .ok (.aload_n 0, 1) := by decide +kernel
theorem dX7_init_113 : decode cX7_init 113 = .ok (.sipush 450, 3) := by decide +kernel
theorem dX7_init_116 : decode cX7_init 116 = .ok (.newarray .int, 2) := by decide +kernel
theorem dX7_init_118 : decode cX7_init 118 = .ok (.putfield 45, 3) := by decide +kernel
theorem dX7_init_121 : decode cX7_init 121 = .ok (.aload_n 0, 1) := by decide +kernel
theorem dX7_init_122 : decode cX7_init 122 = .ok (.bipush 24, 2) := by decide +kernel
theorem dX7_init_124 : decode cX7_init 124 = .ok (.newarray .int, 2) := by decide +kernel
theorem dX7_init_126 : decode cX7_init 126 = .ok (.putfield 48, 3) := by decide +kernel
theorem dX7_init_129 : decode cX7_init 129 = .ok (.aload_n 0, 1) := by decide +kernel
theorem dX7_init_130 : decode cX7_init 130 = .ok (.bipush 70, 2) := by decide +kernel
theorem dX7_init_132 : decode cX7_init 132 = .ok (.newarray .int, 2) := by decide +kernel
theorem dX7_init_134 : decode cX7_init 134 = .ok (.dup, 1) := by decide +kernel
theorem dX7_init_135 : decode cX7_init 135 = .ok (.iconst 0, 1) := by decide +kernel
theorem dX7_init_136 : decode cX7_init 136 = .ok (.bipush 112, 2) := by decide +kernel
theorem dX7_init_138 : decode cX7_init 138 = .ok (.iastore, 1) := by decide +kernel
theorem dX7_init_139 : decode cX7_init 139 = .ok (.dup, 1) := by decide +kernel
theorem dX7_init_140 : decode cX7_init 140 = .ok (.iconst 1, 1) := by decide +kernel
theorem dX7_init_141 : decode cX7_init 141 = .ok (.bipush 97, 2) := by decide +kernel
theorem dX7_init_143 : decode cX7_init 143 = .ok (.iastore, 1) := by decide +kernel
theorem dX7_init_144 : decode cX7_init 144 = .ok (.dup, 1) := by decide +kernel
theorem dX7_init_145 : decode cX7_init 145 = .ok (.iconst 2, 1) := by decide +kernel
theorem dX7_init_146 : decode cX7_init 146 = .ok (.bipush 114, 2) := by decide +kernel
theorem dX7_init_148 : decode cX7_init 148 = .ok (.iastore, 1) := by decide +kernel
theorem dX7_init_149 : decode cX7_init 149 = .ok (.dup, 1) := by decide +kernel
theorem dX7_init_150 : decode cX7_init 150 = .ok (.iconst 3, 1) := by decide +kernel
theorem dX7_init_151 : decode cX7_init 151 = .ok (.bipush 116, 2) := by decide +kernel
theorem dX7_init_153 : decode cX7_init 153 = .ok (.iastore, 1) := by decide +kernel
theorem dX7_init_154 : decode cX7_init 154 = .ok (.dup, 1) := by decide +kernel
theorem dX7_init_155 : decode cX7_init 155 = .ok (.iconst 4, 1) := by decide +kernel
theorem dX7_init_156 : decode cX7_init 156 = .ok (.iconst 0, 1) := by decide +kernel
theorem dX7_init_157 : decode cX7_init 157 = .ok (.iastore, 1) := by decide +kernel
theorem dX7_init_158 : decode cX7_init 158 = .ok (.dup, 1) := by decide +kernel
theorem dX7_init_159 : decode cX7_init 159 = .ok (.iconst 5, 1) := by decide +kernel
theorem dX7_init_160 : decode cX7_init 160 = .ok (.bipush 112, 2) := by decide +kernel
theorem dX7_init_162 : decode cX7_init 162 = .ok (.iastore, 1) := by decide +kernel
theorem dX7_init_163 : decode cX7_init 163 = .ok (.dup, 1) := by decide +kernel
theorem dX7_init_164 : decode cX7_init 164 = .ok (.bipush 6, 2) := by decide +kernel
theorem dX7_init_166 : decode cX7_init 166 = .ok (.bipush 111, 2) := by decide +kernel
theorem dX7_init_168 : decode cX7_init 168 = .ok (.iastore, 1) := by decide +kernel
theorem dX7_init_169 : decode cX7_init 169 = .ok (.dup, 1) := by decide +kernel
theorem dX7_init_170 : decode cX7_init 170 = .ok (.bipush 7, 2) := by decide +kernel
theorem dX7_init_172 : decode cX7_init 172 = .ok (.bipush 108, 2) := by decide +kernel
theorem dX7_init_174 : decode cX7_init 174 = .ok (.iastore, 1) := by decide +kernel
theorem dX7_init_175 : decode cX7_init 175 = .ok (.dup, 1) := by decide +kernel
theorem dX7_init_176 : decode cX7_init 176 = .ok (.bipush 8, 2) := by decide +kernel
theorem dX7_init_178 : decode cX7_init 178 = .ok (.bipush 101, 2) := by decide +kernel
theorem dX7_init_180 : decode cX7_init 180 = .ok (.iastore, 1) := by decide +kernel
theorem dX7_init_181 : decode cX7_init 181 = .ok (.dup, 1) := by decide +kernel
theorem dX7_init_182 : decode cX7_init 182 = .ok (.bipush 9, 2) := by decide +kernel
theorem dX7_init_184 : decode cX7_init 184 = .ok (.iconst 0, 1) := by decide +kernel
theorem dX7_init_185 : decode cX7_init 185 = .ok (.iastore, 1) := by decide +kernel
theorem dX7_init_186 : decode cX7_init 186 = .ok (.dup, 1) := by decide +kernel
theorem dX7_init_187 : decode cX7_init 187 = .ok (.bipush 10, 2) := by decide +kernel
theorem dX7_init_189 : decode cX7_init 189 = .ok (.bipush 98, 2) := by decide +kernel
theorem dX7_init_191 : decode cX7_init 191 = .ok (.iastore, 1) := by decide +kernel
theorem dX7_init_192 : decode cX7_init 192 = .ok (.dup, 1) := by decide +kernel
theorem dX7_init_193 : decode cX7_init 193 = .ok (.bipush 11, 2) := by decide +kernel
theorem dX7_init_195 : decode cX7_init 195 = .ok (.bipush 97, 2) := by decide +kernel
theorem dX7_init_197 : decode cX7_init 197 = .ok (.iastore, 1) := by decide +kernel
theorem dX7_init_198 : decode cX7_init 198 = .ok (.dup, 1) := by decide +kernel
theorem dX7_init_199 : decode cX7_init 199 = .ok (.bipush 12, 2) := by decide +kernel
theorem dX7_init_201 : decode cX7_init 201 = .ok (.bipush 110, 2) := by decide +kernel
theorem dX7_init_203 : decode cX7_init 203 = .ok (.iastore, 1) := by decide +kernel
theorem dX7_init_204 : decode cX7_init 204 = .ok (.dup, 1) := by decide +kernel
theorem dX7_init_205 : decode cX7_init 205 = .ok (.bipush 13, 2) := by decide +kernel
theorem dX7_init_207 : decode cX7_init 207 = .ok (.bipush 100, 2) := by decide +kernel
theorem dX7_init_209 : decode cX7_init 209 = .ok (.iastore, 1) := by decide +kernel
theorem dX7_init_210 : decode cX7_init 210 = .ok (.dup, 1) := by decide +kernel
theorem dX7_init_211 : decode cX7_init 211 = .ok (.bipush 14, 2) := by decide +kernel
theorem dX7_init_213 : decode cX7_init 213 = .ok (.iconst 0, 1) := by decide +kernel
theorem dX7_init_214 : decode cX7_init 214 = .ok (.iastore, 1) := by decide +kernel
theorem dX7_init_215 : decode cX7_init 215 = .ok (.dup, 1) := by decide +kernel
theorem dX7_init_216 : decode cX7_init 216 = .ok (.bipush 15, 2) := by decide +kernel
theorem dX7_init_218 : decode cX7_init 218 = .ok (.bipush 115, 2) := by decide +kernel
theorem dX7_init_220 : decode cX7_init 220 = .ok (.iastore, 1) := by decide +kernel
theorem dX7_init_221 : decode cX7_init 221 = .ok (.dup, 1) := by decide +kernel
theorem dX7_init_222 : decode cX7_init 222 = .ok (.bipush 16, 2) := by decide +kernel
theorem dX7_init_224 : decode cX7_init 224 = .ok (.bipush 116, 2) := by decide +kernel
theorem dX7_init_226 : decode cX7_init 226 = .ok (.iastore, 1) := by decide +kernel
theorem dX7_init_227 : decode cX7_init 227 = .ok (.dup, 1) := by decide +kernel
theorem dX7_init_228 : decode cX7_init 228 = .ok (.bipush 17, 2) := by decide +kernel
theorem dX7_init_230 : decode cX7_init 230 = .ok (.bipush 111, 2) := by decide +kernel
theorem dX7_init_232 : decode cX7_init 232 = .ok (.iastore, 1) := by decide +kernel
theorem dX7_init_233 : decode cX7_init 233 = .ok (.dup, 1) := by decide +kernel
theorem dX7_init_234 : decode cX7_init 234 = .ok (.bipush 18, 2) := by decide +kernel
theorem dX7_init_236 : decode cX7_init 236 = .ok (.bipush 110, 2) := by decide +kernel
theorem dX7_init_238 : decode cX7_init 238 = .ok (.iastore, 1) := by decide +kernel
theorem dX7_init_239 : decode cX7_init 239 = .ok (.dup, 1) := by decide +kernel
theorem dX7_init_240 : decode cX7_init 240 = .ok (.bipush 19, 2) := by decide +kernel
theorem dX7_init_242 : decode cX7_init 242 = .ok (.bipush 101, 2) := by decide +kernel
theorem dX7_init_244 : decode cX7_init 244 = .ok (.iastore, 1) := by decide +kernel
theorem dX7_init_245 : decode cX7_init 245 = .ok (.dup, 1) := by decide +kernel
theorem dX7_init_246 : decode cX7_init 246 = .ok (.bipush 20, 2) := by decide +kernel
theorem dX7_init_248 : decode cX7_init 248 = .ok (.iconst 0, 1) := by decide +kernel
theorem dX7_init_249 : decode cX7_init 249 = .ok (.iastore, 1) := by decide +kernel
theorem dX7_init_250 : decode cX7_init 250 = .ok (.dup, 1) := by decide +kernel
theorem dX7_init_251 : decode cX7_init 251 = .ok (.bipush 21, 2) := by decide +kernel
theorem dX7_init_253 : decode cX7_init 253 = .ok (.bipush 102, 2) := by decide +kernel
theorem dX7_init_255 : decode cX7_init 255 = .ok (.iastore, 1) := by decide +kernel
theorem dX7_init_256 : decode cX7_init 256 = .ok (.dup, 1) := by decide +kernel
theorem dX7_init_257 : decode cX7_init 257 = .ok (.bipush 22, 2) := by decide +kernel
theorem dX7_init_259 : decode cX7_init 259 = .ok (.bipush 101, 2) := by decide +kernel
theorem dX7_init_261 : decode cX7_init 261 = .ok (.iastore, 1) := by decide +kernel
theorem dX7_init_262 : decode cX7_init 262 = .ok (.dup, 1) := by decide +kernel
theorem dX7_init_263 : decode cX7_init 263 = .ok (.bipush 23, 2) := by decide +kernel
theorem dX7_init_265 : decode cX7_init 265 = .ok (.bipush 108, 2) := by decide +kernel
theorem dX7_init_267 : decode cX7_init 267 = .ok (.iastore, 1) := by decide +kernel
theorem dX7_init_268 : decode cX7_init 268 = .ok (.dup, 1) := by decide +kernel
theorem dX7_init_269 : decode cX7_init 269 = .ok (.bipush 24, 2) := by decide +kernel
theorem dX7_init_271 : decode cX7_init 271 = .ok (.bipush 116, 2) := by decide +kernel
theorem dX7_init_273 : decode cX7_init 273 = .ok (.iastore, 1) := by decide +kernel
theorem dX7_init_274 : decode cX7_init 274 = .ok (.dup, 1) := by decide +kernel
theorem dX7_init_275 : decode cX7_init 275 = .ok (.bipush 25, 2) := by decide +kernel
theorem dX7_init_277 : decode cX7_init 277 = .ok (.iconst 0, 1) := by decide +kernel
theorem dX7_init_278 : decode cX7_init 278 = .ok (.iastore, 1) := by decide +kernel
theorem dX7_init_279 : decode cX7_init 279 = .ok (.dup, 1) := by decide +kernel
theorem dX7_init_280 : decode cX7_init 280 = .ok (.bipush 26, 2) := by decide +kernel
theorem dX7_init_282 : decode cX7_init 282 = .ok (.bipush 102, 2) := by decide +kernel
theorem dX7_init_284 : decode cX7_init 284 = .ok (.iastore, 1) := by decide +kernel
theorem dX7_init_285 : decode cX7_init 285 = .ok (.dup, 1) := by decide +kernel
theorem dX7_init_286 : decode cX7_init 286 = .ok (.bipush 27, 2) := by decide +kernel
theorem dX7_init_288 : decode cX7_init 288 = .ok (.bipush 108, 2) := by decide +kernel
theorem dX7_init_290 : decode cX7_init 290 = .ok (.iastore, 1) := by decide +kernel
theorem dX7_init_291 : decode cX7_init 291 = .ok (.dup, 1) := by decide +kernel
theorem dX7_init_292 : decode cX7_init 292 = .ok (.bipush 28, 2) := by decide +kernel
theorem dX7_init_294 : decode cX7_init 294 = .ok (.bipush 97, 2) := by decide +kernel
theorem dX7_init_296 : decode cX7_init 296 = .ok (.iastore, 1) := by decide +kernel
theorem dX7_init_297 : decode cX7_init 297 = .ok (.dup, 1) := by decide +kernel
theorem dX7_init_298 : decode cX7_init 298 = .ok (.bipush 29, 2) := by decide +kernel
theorem dX7_init_300 : decode cX7_init 300 = .ok (.bipush 112, 2) := by decide +kernel
theorem dX7_init_302 : decode cX7_init 302 = .ok (.iastore, 1) := by decide +kernel
theorem dX7_init_303 : decode cX7_init 303 = .ok (.dup, 1) := by decide +kernel
theorem dX7_init_304 : decode cX7_init 304 = .ok (.bipush 30, 2) := by decide +kernel
theorem dX7_init_306 : decode cX7_init 306 = .ok (.iconst 0, 1) := by decide +kernel
theorem dX7_init_307 : decode cX7_init 307 = .ok (.iastore, 1) := by decide +kernel
theorem dX7_init_308 : decode cX7_init 308 = .ok (.dup, 1) := by decide +kernel
theorem dX7_init_309 : decode cX7_init 309 = .ok (.bipush 31, 2) := by decide +kernel
theorem dX7_init_311 : decode cX7_init 311 = .ok (.bipush 114, 2) := by decide +kernel
theorem dX7_init_313 : decode cX7_init 313 = .ok (.iastore, 1) := by decide +kernel
theorem dX7_init_314 : decode cX7_init 314 = .ok (.dup, 1) := by decide +kernel
theorem dX7_init_315 : decode cX7_init 315 = .ok (.bipush 32, 2) := by decide +kernel
theorem dX7_init_317 : decode cX7_init 317 = .ok (.bipush 111, 2) := by decide +kernel
theorem dX7_init_319 : decode cX7_init 319 = .ok (.iastore, 1) := by decide +kernel
theorem dX7_init_320 : decode cX7_init 320 = .ok (.dup, 1) := by decide +kernel
theorem dX7_init_321 : decode cX7_init 321 = .ok (.bipush 33, 2) := by decide +kernel
theorem dX7_init_323 : decode cX7_init 323 = .ok (.bipush 112, 2) := by decide +kernel
theorem dX7_init_325 : decode cX7_init 325 = .ok (.iastore, 1) := by decide +kernel
theorem dX7_init_326 : decode cX7_init 326 = .ok (.dup, 1) := by decide +kernel
theorem dX7_init_327 : decode cX7_init 327 = .ok (.bipush 34, 2) := by decide +kernel
theorem dX7_init_329 : decode cX7_init 329 = .ok (.bipush 101, 2) := by decide +kernel
theorem dX7_init_331 : decode cX7_init 331 = .ok (.iastore, 1) := by decide +kernel
theorem dX7_init_332 : decode cX7_init 332 = .ok (.dup, 1) := by decide +kernel
theorem dX7_init_333 : decode cX7_init 333 = .ok (.bipush 35, 2) := by decide +kernel
theorem dX7_init_335 : decode cX7_init 335 = .ok (.iconst 0, 1) := by decide +kernel
theorem dX7_init_336 : decode cX7_init 336 = .ok (.iastore, 1) := by decide +kernel
theorem dX7_init_337 : decode cX7_init 337 = .ok (.dup, 1) := by decide +kernel
theorem dX7_init_338 : decode cX7_init 338 = .ok (.bipush 36, 2) := by decide +kernel
theorem dX7_init_340 : decode cX7_init 340 = .ok (.bipush 99, 2) := by decide +kernel
theorem dX7_init_342 : decode cX7_init 342 = .ok (.iastore, 1) := by decide +kernel
theorem dX7_init_343 : decode cX7_init 343 = .ok (.dup, 1) := by decide +kernel
theorem dX7_init_344 : decode cX7_init 344 = .ok (.bipush 37, 2) := by decide +kernel
theorem dX7_init_346 : decode cX7_init 346 = .ok (.bipush 97, 2) := by decide +kernel
theorem dX7_init_348 : decode cX7_init 348 = .ok (.iastore, 1) := by decide +kernel
theorem dX7_init_349 : decode cX7_init 349 = .ok (.dup, 1) := by decide +kernel
theorem dX7_init_350 : decode cX7_init 350 = .ok (.bipush 38, 2) := by decide +kernel
theorem dX7_init_352 : decode cX7_init 352 = .ok (.bipush 109, 2) := by decide +kernel
theorem dX7_init_354 : decode cX7_init 354 = .ok (.iastore, 1) := by decide +kernel
theorem dX7_init_355 : decode cX7_init 355 = .ok (.dup, 1) := by decide +kernel
theorem dX7_init_356 : decode cX7_init 356 = .ok (.bipush 39, 2) := by decide +kernel
theorem dX7_init_358 : decode cX7_init 358 = .ok (.bipush 112, 2) := by decide +kernel
theorem dX7_init_360 : decode cX7_init 360 = .ok (.iastore, 1) := by decide +kernel
theorem dX7_init_361 : decode cX7_init 361 = .ok (.dup, 1) := by decide +kernel
theorem dX7_init_362 : decode cX7_init 362 = .ok (.bipush 40, 2) := by decide +kernel
theorem dX7_init_364 : decode cX7_init 364 = .ok (.iconst 0, 1) := by decide +kernel
theorem dX7_init_365 : decode cX7_init 365 = .ok (.iastore, 1) := by decide +kernel
theorem dX7_init_366 : decode cX7_init 366 = .ok (.dup, 1) := by decide +kernel
theorem dX7_init_367 : decode cX7_init 367 = .ok (.bipush 41, 2) := by decide +kernel
theorem dX7_init_369 : decode cX7_init 369 = .ok (.bipush 98, 2) := by decide +kernel
theorem dX7_init_371 : decode cX7_init 371 = .ok (.iastore, 1) := by decide +kernel
theorem dX7_init_372 : decode cX7_init 372 = .ok (.dup, 1) := by decide +kernel
theorem dX7_init_373 : decode cX7_init 373 = .ok (.bipush 42, 2) := by decide +kernel
theorem dX7_init_375 : decode cX7_init 375 = .ok (.bipush 101, 2) := by decide +kernel
theorem dX7_init_377 : decode cX7_init 377 = .ok (.iastore, 1) := by decide +kernel
theorem dX7_init_378 : decode cX7_init 378 = .ok (.dup, 1) := by decide +kernel
theorem dX7_init_379 : decode cX7_init 379 = .ok (.bipush 43, 2) := by decide +kernel
theorem dX7_init_381 : decode cX7_init 381 = .ok (.bipush 97, 2) := by decide +kernel
theorem dX7_init_383 : decode cX7_init 383 = .ok (.iastore, 1) := by decide +kernel
theorem dX7_init_384 : decode cX7_init 384 = .ok (.dup, 1) := by decide +kernel
theorem dX7_init_385 : decode cX7_init 385 = .ok (.bipush 44, 2) := by decide +kernel
theorem dX7_init_387 : decode cX7_init 387 = .ok (.bipush 115, 2) := by decide +kernel
theorem dX7_init_389 : decode cX7_init 389 = .ok (.iastore, 1) := by decide +kernel
theorem dX7_init_390 : decode cX7_init 390 = .ok (.dup, 1) := by decide +kernel
theorem dX7_init_391 : decode cX7_init 391 = .ok (.bipush 45, 2) := by decide +kernel
theorem dX7_init_393 : decode cX7_init 393 = .ok (.bipush 116, 2) := by decide +kernel
theorem dX7_init_395 : decode cX7_init 395 = .ok (.iastore, 1) := by decide +kernel
theorem dX7_init_396 : decode cX7_init 396 = .ok (.dup, 1) := by decide +kernel
theorem dX7_init_397 : decode cX7_init 397 = .ok (.bipush 46, 2) := by decide +kernel
theorem dX7_init_399 : decode cX7_init 399 = .ok (.iconst 0, 1) := by decide +kernel
theorem dX7_init_400 : decode cX7_init 400 = .ok (.iastore, 1) := by decide +kernel
theorem dX7_init_401 : decode cX7_init 401 = .ok (.dup, 1) := by decide +kernel
theorem dX7_init_402 : decode cX7_init 402 = .ok (.bipush 47, 2) := by decide +kernel
theorem dX7_init_404 : decode cX7_init 404 = .ok (.bipush 100, 2) := by decide +kernel
theorem dX7_init_406 : decode cX7_init 406 = .ok (.iastore, 1) := by decide +kernel
theorem dX7_init_407 : decode cX7_init 407 = .ok (.dup, 1) := by decide +kernel
theorem dX7_init_408 : decode cX7_init 408 = .ok (.bipush 48, 2) := by decide +kernel
theorem dX7_init_410 : decode cX7_init 410 = .ok (.bipush 114, 2) := by decide +kernel
theorem dX7_init_412 : decode cX7_init 412 = .ok (.iastore, 1) := by decide +kernel
theorem dX7_init_413 : decode cX7_init 413 = .ok (.dup, 1) := by decide +kernel
theorem dX7_init_414 : decode cX7_init 414 = .ok (.bipush 49, 2) := by decide +kernel
theorem dX7_init_416 : decode cX7_init 416 = .ok (.bipush 97, 2) := by decide +kernel
theorem dX7_init_418 : decode cX7_init 418 = .ok (.iastore, 1) := by decide +kernel
theorem dX7_init_419 : decode cX7_init 419 = .ok (.dup, 1) := by decide +kernel
theorem dX7_init_420 : decode cX7_init 420 = .ok (.bipush 50, 2) := by decide +kernel
theorem dX7_init_422 : decode cX7_init 422 = .ok (.bipush 119, 2) := by decide +kernel
theorem dX7_init_424 : decode cX7_init 424 = .ok (.iastore, 1) := by decide +kernel
theorem dX7_init_425 : decode cX7_init 425 = .ok (.dup, 1) := by decide +kernel
theorem dX7_init_426 : decode cX7_init 426 = .ok (.bipush 51, 2) := by decide +kernel
theorem dX7_init_428 : decode cX7_init 428 = .ok (.iconst 0, 1) := by decide +kernel
theorem dX7_init_429 : decode cX7_init 429 = .ok (.iastore, 1) := by decide +kernel
theorem dX7_init_430 : decode cX7_init 430 = .ok (.dup, 1) := by decide +kernel
theorem dX7_init_431 : decode cX7_init 431 = .ok (.bipush 52, 2) := by decide +kernel
theorem dX7_init_433 : decode cX7_init 433 = .ok (.bipush 119, 2) := by decide +kernel
theorem dX7_init_435 : decode cX7_init 435 = .ok (.iastore, 1) := by decide +kernel
theorem dX7_init_436 : decode cX7_init 436 = .ok (.dup, 1) := by decide +kernel
theorem dX7_init_437 : decode cX7_init 437 = .ok (.bipush 53, 2) := by decide +kernel
theorem dX7_init_439 : decode cX7_init 439 = .ok (.bipush 101, 2) := by decide +kernel
theorem dX7_init_441 : decode cX7_init 441 = .ok (.iastore, 1) := by decide +kernel
theorem dX7_init_442 : decode cX7_init 442 = .ok (.dup, 1) := by decide +kernel
theorem dX7_init_443 : decode cX7_init 443 = .ok (.bipush 54, 2) := by decide +kernel
theorem dX7_init_445 : decode cX7_init 445 = .ok (.bipush 105, 2) := by decide +kernel
theorem dX7_init_447 : decode cX7_init 447 = .ok (.iastore, 1) := by decide +kernel
theorem dX7_init_448 : decode cX7_init 448 = .ok (.dup, 1) := by decide +kernel
theorem dX7_init_449 : decode cX7_init 449 = .ok (.bipush 55, 2) := by decide +kernel
theorem dX7_init_451 : decode cX7_init 451 = .ok (.bipush 103, 2) := by decide +kernel
theorem dX7_init_453 : decode cX7_init 453 = .ok (.iastore, 1) := by decide +kernel
theorem dX7_init_454 : decode cX7_init 454 = .ok (.dup, 1) := by decide +kernel
theorem dX7_init_455 : decode cX7_init 455 = .ok (.bipush 56, 2) := by decide +kernel
theorem dX7_init_457 : decode cX7_init 457 = .ok (.bipush 104, 2) := by decide +kernel
theorem dX7_init_459 : decode cX7_init 459 = .ok (.iastore, 1) := by decide +kernel
theorem dX7_init_460 : decode cX7_init 460 = .ok (.dup, 1) := by decide +kernel
theorem dX7_init_461 : decode cX7_init 461 = .ok (.bipush 57, 2) := by decide +kernel
theorem dX7_init_463 : decode cX7_init 463 = .ok (.bipush 116, 2) := by decide +kernel
theorem dX7_init_465 : decode cX7_init 465 = .ok (.iastore, 1) := by decide +kernel
theorem dX7_init_466 : decode cX7_init 466 = .ok (.dup, 1) := by decide +kernel
theorem dX7_init_467 : decode cX7_init 467 = .ok (.bipush 58, 2) := by decide +kernel
theorem dX7_init_469 : decode cX7_init 469 = .ok (.iconst 0, 1) := by decide +kernel
theorem dX7_init_470 : decode cX7_init 470 = .ok (.iastore, 1) := by decide +kernel
theorem dX7_init_471 : decode cX7_init 471 = .ok (.dup, 1) := by decide +kernel
theorem dX7_init_472 : decode cX7_init 472 = .ok (.bipush 59, 2) := by decide +kernel
theorem dX7_init_474 : decode cX7_init 474 = .ok (.bipush 119, 2) := by decide +kernel
theorem dX7_init_476 : decode cX7_init 476 = .ok (.iastore, 1) := by decide +kernel
theorem dX7_init_477 : decode cX7_init 477 = .ok (.dup, 1) := by decide +kernel
theorem dX7_init_478 : decode cX7_init 478 = .ok (.bipush 60, 2) := by decide +kernel
theorem dX7_init_480 : decode cX7_init 480 = .ok (.bipush 101, 2) := by decide +kernel
theorem dX7_init_482 : decode cX7_init 482 = .ok (.iastore, 1) := by decide +kernel
theorem dX7_init_483 : decode cX7_init 483 = .ok (.dup, 1) := by decide +kernel
theorem dX7_init_484 : decode cX7_init 484 = .ok (.bipush 61, 2) := by decide +kernel
theorem dX7_init_486 : decode cX7_init 486 = .ok (.bipush 97, 2) := by decide +kernel
theorem dX7_init_488 : decode cX7_init 488 = .ok (.iastore, 1) := by decide +kernel
theorem dX7_init_489 : decode cX7_init 489 = .ok (.dup, 1) := by decide +kernel
theorem dX7_init_490 : decode cX7_init 490 = .ok (.bipush 62, 2) := by decide +kernel
theorem dX7_init_492 : decode cX7_init 492 = .ok (.bipush 114, 2) := by decide +kernel
theorem dX7_init_494 : decode cX7_init 494 = .ok (.iastore, 1) := by decide +kernel
theorem dX7_init_495 : decode cX7_init 495 = .ok (.dup, 1) := by decide +kernel
theorem dX7_init_496 : decode cX7_init 496 = .ok (.bipush 63, 2) := by decide +kernel
theorem dX7_init_498 : decode cX7_init 498 = .ok (.iconst 0, 1) := by decide +kernel
theorem dX7_init_499 : decode cX7_init 499 = .ok (.iastore, 1) := by decide +kernel
theorem dX7_init_500 : decode cX7_init 500 = .ok (.dup, 1) := by decide +kernel
theorem dX7_init_501 : decode cX7_init 501 = .ok (.bipush 64, 2) := by decide +kernel
theorem dX7_init_503 : decode cX7_init 503 = .ok (.bipush 103, 2) := by decide +kernel
theorem dX7_init_505 : decode cX7_init 505 = .ok (.iastore, 1) := by decide +kernel
theorem dX7_init_506 : decode cX7_init 506 = .ok (.dup, 1) := by decide +kernel
theorem dX7_init_507 : decode cX7_init 507 = .ok (.bipush 65, 2) := by decide +kernel
theorem dX7_init_509 : decode cX7_init 509 = .ok (.bipush 114, 2) := by decide +kernel
theorem dX7_init_511 : decode cX7_init 511 = .ok (.iastore, 1) := by decide +kernel
theorem dX7_init_512 : decode cX7_init 512 = .ok (.dup, 1) := by decide +kernel
theorem dX7_init_513 : decode cX7_init 513 = .ok (.bipush 66, 2) := by decide +kernel
theorem dX7_init_515 : decode cX7_init 515 = .ok (.bipush 97, 2) := by decide +kernel
theorem dX7_init_517 : decode cX7_init 517 = .ok (.iastore, 1) := by decide +kernel
theorem dX7_init_518 : decode cX7_init 518 = .ok (.dup, 1) := by decide +kernel
theorem dX7_init_519 : decode cX7_init 519 = .ok (.bipush 67, 2) := by decide +kernel
theorem dX7_init_521 : decode cX7_init 521 = .ok (.bipush 115, 2) := by decide +kernel
theorem dX7_init_523 : decode cX7_init 523 = .ok (.iastore, 1) := by decide +kernel
theorem dX7_init_524 : decode cX7_init 524 = .ok (.dup, 1) := by decide +kernel
theorem dX7_init_525 : decode cX7_init 525 = .ok (.bipush 68, 2) := by decide +kernel
theorem dX7_init_527 : decode cX7_init 527 = .ok (.bipush 115, 2) := by decide +kernel
theorem dX7_init_529 : decode cX7_init 529 = .ok (.iastore, 1) := by decide +kernel
theorem dX7_init_530 : decode cX7_init 530 = .ok (.dup, 1) := by decide +kernel
theorem dX7_init_531 : decode cX7_init 531 = .ok (.bipush 69, 2) := by decide +kernel
theorem dX7_init_533 : decode cX7_init 533 = .ok (.iconst 0, 1) := by decide +kernel
theorem dX7_init_534 : decode cX7_init 534 = .ok (.iastore, 1) := by decide +kernel
theorem dX7_init_535 : decode cX7_init 535 = .ok (.putfield 51, 3) := by decide +kernel
theorem dX7_init_538 : decode cX7_init 538 = .ok (.aload_n 0, 1) := by decide +kernel
theorem dX7_init_539 : decode cX7_init 539 = .ok (.getfield 7, 3) := by decide +kernel
theorem dX7_init_542 : decode cX7_init 542 = .ok (.bipush 7, 2) := by decide +kernel
theorem dX7_init_544 : decode cX7_init 544 = .ok (.bipush 20, 2) := by decide +kernel
theorem dX7_init_546 : decode cX7_init 546 = .ok (.iastore, 1) := by decide +kernel
theorem dX7_init_547 : decode cX7_init 547 = .ok (.aload_n 0, 1) := by decide +kernel
theorem dX7_init_548 : decode cX7_init 548 = .ok (.getfield 7, 3) := by decide +kernel
theorem dX7_init_551 : decode cX7_init 551 = .ok (.bipush 8, 2) := by decide +kernel
theorem dX7_init_553 : decode cX7_init 553 = .ok (.bipush 20, 2) := by decide +kernel
theorem dX7_init_555 : decode cX7_init 555 = .ok (.iastore, 1) := by decide +kernel
theorem dX7_init_556 : decode cX7_init 556 = .ok (.aload_n 0, 1) := by decide +kernel
theorem dX7_init_557 : decode cX7_init 557 = .ok (.getfield 7, 3) := by decide +kernel
theorem dX7_init_560 : decode cX7_init 560 = .ok (.bipush 9, 2) := by decide +kernel
theorem dX7_init_562 : decode cX7_init 562 = .ok (.bipush 100, 2) := by decide +kernel
theorem dX7_init_564 : decode cX7_init 564 = .ok (.iastore, 1) := by decide +kernel
theorem dX7_init_565 : decode cX7_init 565 = .ok (.aload_n 0, 1) := by decide +kernel
theorem dX7_init_566 : decode cX7_init 566 = .ok (.getfield 7, 3) := by decide +kernel
theorem dX7_init_569 : decode cX7_init 569 = .ok (.bipush 10, 2) := by decide +kernel
theorem dX7_init_571 : decode cX7_init 571 = .ok (.iconst 2, 1) := by decide +kernel
theorem dX7_init_572 : decode cX7_init 572 = .ok (.iastore, 1) := by decide +kernel
theorem dX7_init_573 : decode cX7_init 573 = .ok (.aload_n 0, 1) := by decide +kernel
theorem dX7_init_574 : decode cX7_init 574 = .ok (.getfield 7, 3) := by decide +kernel
theorem dX7_init_577 : decode cX7_init 577 = .ok (.bipush 11, 2) := by decide +kernel
theorem dX7_init_579 : decode cX7_init 579 = .ok (.iconst 5, 1) := by decide +kernel
theorem dX7_init_580 : decode cX7_init 580 = .ok (.iastore, 1) := by decide +kernel
theorem dX7_init_581 : decode cX7_init 581 = .ok (.return_, 1) := by decide +kernel
theorem dX7_isIn_0 : decode cX7_isIn 0 = .ok (.lload_n 0, 1) := by decide +kernel
theorem dX7_isIn_1 : decode cX7_isIn 1 = .ok (.lload_n 2, 1) := by decide +kernel
theorem dX7_isIn_2 : decode cX7_isIn 2 = .ok (.lcmp, 1) := by decide +kernel
theorem dX7_isIn_3 : decode cX7_isIn 3 = .ok (.ifCond .lt 14, 3) := by decide +kernel
theorem dX7_isIn_6 : decode cX7_isIn 6 = .ok (.lload_n 0, 1) := by decide +kernel
theorem dX7_isIn_7 : decode cX7_isIn 7 = .ok (.lload 4, 2) := by decide +kernel
theorem dX7_isIn_9 : decode cX7_isIn 9 = .ok (.lcmp, 1) := by decide +kernel
theorem dX7_isIn_10 : decode cX7_isIn 10 = .ok (.ifCond .gt 7, 3) := by decide +kernel
theorem dX7_isIn_13 : decode cX7_isIn 13 = .ok (.iconst 1, 1) := by decide +kernel
theorem dX7_isIn_14 : decode cX7_isIn 14 = .ok (.goto 4, 3) := by decide +kernel
theorem dX7_isIn_17 : decode cX7_isIn 17 = .ok (.iconst 0, 1) := by decide +kernel
theorem dX7_isIn_18 : decode cX7_isIn 18 = .ok (.ireturn, 1) := by decide +kernel
theorem dX7_finds_0 : decode cX7_finds 0 = .ok (.aload_n 0, 1) := by decide +kernel
theorem dX7_finds_1 : decode cX7_finds 1 = .ok (.getfield 19, 3) := by decide +kernel
theorem dX7_finds_4 : decode cX7_finds 4 = .ok (.iconst 0, 1) := by decide +kernel
theorem dX7_finds_5 : decode cX7_finds 5 = .ok (.dup2, 1) := by decide +kernel
theorem dX7_finds_6 : decode cX7_finds 6 = .ok (.iaload, 1) := by decide +kernel
theorem dX7_finds_7 : decode cX7_finds 7 = .ok (.iconst 1, 1) := by decide +kernel
theorem dX7_finds_8 : decode cX7_finds 8 = .ok (.iadd, 1) := by decide +kernel
theorem dX7_finds_9 : decode cX7_finds 9 = .ok (.iastore, 1) := by decide +kernel
theorem dX7_finds_10 : decode cX7_finds 10 = .ok (.aload_n 0, 1) := by decide +kernel
theorem dX7_finds_11 : decode cX7_finds 11 = .ok (.getfield 19, 3) := by decide +kernel
theorem dX7_finds_14 : decode cX7_finds 14 = .ok (.ldc 54, 2) := by decide +kernel
theorem dX7_finds_16 : decode cX7_finds 16 = .ok (.iload_n 1, 1) := by decide +kernel
theorem dX7_finds_17 : decode cX7_finds 17 = .ok (.isub, 1) := by decide +kernel
theorem dX7_finds_18 : decode cX7_finds 18 = .ok (.iconst 1, 1) := by decide +kernel
theorem dX7_finds_19 : decode cX7_finds 19 = .ok (.iadd, 1) := by decide +kernel
theorem dX7_finds_20 : decode cX7_finds 20 = .ok (.dup2, 1) := by decide +kernel
theorem dX7_finds_21 : decode cX7_finds 21 = .ok (.iaload, 1) := by decide +kernel
theorem dX7_finds_22 : decode cX7_finds 22 = .ok (.iconst 1, 1) := by decide +kernel
theorem dX7_finds_23 : decode cX7_finds 23 = .ok (.iadd, 1) := by decide +kernel
theorem dX7_finds_24 : decode cX7_finds 24 = .ok (.iastore, 1) := by decide +kernel
theorem dX7_finds_25 : decode cX7_finds 25 = .ok (.iload_n 1, 1) := by decide +kernel
theorem dX7_finds_26 : decode cX7_finds 26 = .ok (.ireturn, 1) := by decide +kernel
theorem dX7_becomes_0 : decode cX7_becomes 0 = .ok (.aload_n 0, 1) := by decide +kernel
theorem dX7_becomes_1 : decode cX7_becomes 1 = .ok (.getfield 7, 3) := by decide +kernel
theorem dX7_becomes_4 : decode cX7_becomes 4 = .ok (.iload_n 1, 1) := by decide +kernel
theorem dX7_becomes_5 : decode cX7_becomes 5 = .ok (.iaload, 1) := by decide +kernel
theorem dX7_becomes_6 : decode cX7_becomes 6 = .ok (.istore_n 3, 1) := by decide +kernel
theorem dX7_becomes_7 : decode cX7_becomes 7 = .ok (.aload_n 0, 1) := by decide +kernel
theorem dX7_becomes_8 : decode cX7_becomes 8 = .ok (.getfield 7, 3) := by decide +kernel
theorem dX7_becomes_11 : decode cX7_becomes 11 = .ok (.iload_n 1, 1) := by decide +kernel
theorem dX7_becomes_12 : decode cX7_becomes 12 = .ok (.iload_n 2, 1) := by decide +kernel
theorem dX7_becomes_13 : decode cX7_becomes 13 = .ok (.iastore, 1) := by decide +kernel
theorem dX7_becomes_14 : decode cX7_becomes 14 = .ok (.iload_n 3, 1) := by decide +kernel
theorem dX7_becomes_15 : decode cX7_becomes 15 = .ok (.ireturn, 1) := by decide +kernel
theorem dX7_has_0 : decode cX7_has 0 = .ok (.aload_n 0, 1) := by decide +kernel
theorem dX7_has_1 : decode cX7_has 1 = .ok (.getfield 7, 3) := by decide +kernel
theorem dX7_has_4 : decode cX7_has 4 = .ok (.bipush 12, 2) := by decide +kernel
theorem dX7_has_6 : decode cX7_has 6 = .ok (.bipush 6, 2) := by decide +kernel
theorem dX7_has_8 : decode cX7_has 8 = .ok (.iload_n 1, 1) := by decide +kernel
theorem dX7_has_9 : decode cX7_has 9 = .ok (.imul, 1) := by decide +kernel
theorem dX7_has_10 : decode cX7_has 10 = .ok (.iadd, 1) := by decide +kernel
theorem dX7_has_11 : decode cX7_has 11 = .ok (.iload_n 2, 1) := by decide +kernel
theorem dX7_has_12 : decode cX7_has 12 = .ok (.iadd, 1) := by decide +kernel
theorem dX7_has_13 : decode cX7_has 13 = .ok (.iaload, 1) := by decide +kernel
theorem dX7_has_14 : decode cX7_has 14 = .ok (.ireturn, 1) := by decide +kernel
theorem dX7_gets_0 : decode cX7_gets 0 = .ok (.aload_n 0, 1) := by decide +kernel
theorem dX7_gets_1 : decode cX7_gets 1 = .ok (.getfield 7, 3) := by decide +kernel
theorem dX7_gets_4 : decode cX7_gets 4 = .ok (.bipush 12, 2) := by decide +kernel
theorem dX7_gets_6 : decode cX7_gets 6 = .ok (.bipush 6, 2) := by decide +kernel
theorem dX7_gets_8 : decode cX7_gets 8 = .ok (.iload_n 1, 1) := by decide +kernel
theorem dX7_gets_9 : decode cX7_gets 9 = .ok (.imul, 1) := by decide +kernel
theorem dX7_gets_10 : decode cX7_gets 10 = .ok (.iadd, 1) := by decide +kernel
theorem dX7_gets_11 : decode cX7_gets 11 = .ok (.iload_n 2, 1) := by decide +kernel
theorem dX7_gets_12 : decode cX7_gets 12 = .ok (.iadd, 1) := by decide +kernel
theorem dX7_gets_13 : decode cX7_gets 13 = .ok (.iload_n 3, 1) := by decide +kernel
theorem dX7_gets_14 : decode cX7_gets 14 = .ok (.iastore, 1) := by decide +kernel
theorem dX7_gets_15 : decode cX7_gets 15 = .ok (.return_, 1) := by decide +kernel
theorem dX7_isPart_0 : decode cX7_isPart 0 = .ok (.iload_n 1, 1) := by decide +kernel
theorem dX7_isPart_1 : decode cX7_isPart 1 = .ok (.ifCond .lt 17, 3) := by decide +kernel
theorem dX7_isPart_4 : decode cX7_isPart 4 = .ok (.iload_n 1, 1) := by decide +kernel
theorem dX7_isPart_5 : decode cX7_isPart 5 = .ok (.aload_n 0, 1) := by decide +kernel
theorem dX7_isPart_6 : decode cX7_isPart 6 = .ok (.getfield 7, 3) := by decide +kernel
theorem dX7_isPart_9 : decode cX7_isPart 9 = .ok (.iconst 0, 1) := by decide +kernel
theorem dX7_isPart_10 : decode cX7_isPart 10 = .ok (.iaload, 1) := by decide +kernel
theorem dX7_isPart_11 : decode cX7_isPart 11 = .ok (.if_icmp .ge 7, 3) := by decide +kernel
theorem dX7_isPart_14 : decode cX7_isPart 14 = .ok (.iconst 1, 1) := by decide +kernel
theorem dX7_isPart_15 : decode cX7_isPart 15 = .ok (.goto 4, 3) := by decide +kernel
theorem dX7_isPart_18 : decode cX7_isPart 18 = .ok (.iconst 0, 1) := by decide +kernel
theorem dX7_isPart_19 : decode cX7_isPart 19 = .ok (.ireturn, 1) := by decide +kernel
theorem dX7_isThere_0 : decode cX7_isThere 0 = .ok (.aload_n 0, 1) := by decide +kernel
theorem dX7_isThere_1 : decode cX7_isThere 1 = .ok (.iload_n 1, 1) := by decide +kernel
theorem dX7_isThere_2 : decode cX7_isThere 2 = .ok (.iconst 5, 1) := by decide +kernel
theorem dX7_isThere_3 : decode cX7_isThere 3 = .ok (.invokevirtual 55, 3) := by decide +kernel
theorem dX7_isThere_6 : decode cX7_isThere 6 = .ok (.iconst 1, 1) := by decide +kernel
theorem dX7_isThere_7 : decode cX7_isThere 7 = .ok (.if_icmp .ne 7, 3) := by decide +kernel
theorem dX7_isThere_10 : decode cX7_isThere 10 = .ok (.iconst 1, 1) := by decide +kernel
theorem dX7_isThere_11 : decode cX7_isThere 11 = .ok (.goto 4, 3) := by decide +kernel
theorem dX7_isThere_14 : decode cX7_isThere 14 = .ok (.iconst 0, 1) := by decide +kernel
theorem dX7_isThere_15 : decode cX7_isThere 15 = .ok (.ireturn, 1) := by decide +kernel
theorem dX7_comes_0 : decode cX7_comes 0 = .ok (.aload_n 0, 1) := by decide +kernel
theorem dX7_comes_1 : decode cX7_comes 1 = .ok (.getfield 7, 3) := by decide +kernel
theorem dX7_comes_4 : decode cX7_comes 4 = .ok (.iconst 0, 1) := by decide +kernel
theorem dX7_comes_5 : decode cX7_comes 5 = .ok (.iaload, 1) := by decide +kernel
theorem dX7_comes_6 : decode cX7_comes 6 = .ok (.istore 6, 2) := by decide +kernel
theorem dX7_comes_8 : decode cX7_comes 8 = .ok (.aload_n 0, 1) := by decide +kernel
theorem dX7_comes_9 : decode cX7_comes 9 = .ok (.iload 6, 2) := by decide +kernel
theorem dX7_comes_11 : decode cX7_comes 11 = .ok (.iconst 0, 1) := by decide +kernel
theorem dX7_comes_12 : decode cX7_comes 12 = .ok (.iload_n 1, 1) := by decide +kernel
theorem dX7_comes_13 : decode cX7_comes 13 = .ok (.invokevirtual 59, 3) := by decide +kernel
theorem dX7_comes_16 : decode cX7_comes 16 = .ok (.aload_n 0, 1) := by decide +kernel
theorem dX7_comes_17 : decode cX7_comes 17 = .ok (.iload 6, 2) := by decide +kernel
theorem dX7_comes_19 : decode cX7_comes 19 = .ok (.iconst 1, 1) := by decide +kernel
theorem dX7_comes_20 : decode cX7_comes 20 = .ok (.iload_n 2, 1) := by decide +kernel
theorem dX7_comes_21 : decode cX7_comes 21 = .ok (.invokevirtual 59, 3) := by decide +kernel
theorem dX7_comes_24 : decode cX7_comes 24 = .ok (.aload_n 0, 1) := by decide +kernel
theorem dX7_comes_25 : decode cX7_comes 25 = .ok (.iload 6, 2) := by decide +kernel
theorem dX7_comes_27 : decode cX7_comes 27 = .ok (.iconst 2, 1) := by decide +kernel
theorem dX7_comes_28 : decode cX7_comes 28 = .ok (.iload_n 3, 1) := by decide +kernel
theorem dX7_comes_29 : decode cX7_comes 29 = .ok (.invokevirtual 59, 3) := by decide +kernel
theorem dX7_comes_32 : decode cX7_comes 32 = .ok (.aload_n 0, 1) := by decide +kernel
theorem dX7_comes_33 : decode cX7_comes 33 = .ok (.iload 6, 2) := by decide +kernel
theorem dX7_comes_35 : decode cX7_comes 35 = .ok (.iconst 3, 1) := by decide +kernel
theorem dX7_comes_36 : decode cX7_comes 36 = .ok (.iload 4, 2) := by decide +kernel
theorem dX7_comes_38 : decode cX7_comes 38 = .ok (.invokevirtual 59, 3) := by decide +kernel
theorem dX7_comes_41 : decode cX7_comes 41 = .ok (.aload_n 0, 1) := by decide +kernel
theorem dX7_comes_42 : decode cX7_comes 42 = .ok (.iload 6, 2) := by decide +kernel
theorem dX7_comes_44 : decode cX7_comes 44 = .ok (.iconst 4, 1) := by decide +kernel
theorem dX7_comes_45 : decode cX7_comes 45 = .ok (.iload 5, 2) := by decide +kernel
theorem dX7_comes_47 : decode cX7_comes 47 = .ok (.invokevirtual 59, 3) := by decide +kernel
theorem dX7_comes_50 : decode cX7_comes 50 = .ok (.aload_n 0, 1) := by decide +kernel
theorem dX7_comes_51 : decode cX7_comes 51 = .ok (.iload 6, 2) := by decide +kernel
theorem dX7_comes_53 : decode cX7_comes 53 = .ok (.iconst 5, 1) := by decide +kernel
theorem dX7_comes_54 : decode cX7_comes 54 = .ok (.iconst 1, 1) := by decide +kernel
theorem dX7_comes_55 : decode cX7_comes 55 = .ok (.invokevirtual 59, 3) := by decide +kernel
theorem dX7_comes_58 : decode cX7_comes 58 = .ok (.aload_n 0, 1) := by decide +kernel
theorem dX7_comes_59 : decode cX7_comes 59 = .ok (.getfield 7, 3) := by decide +kernel
theorem dX7_comes_62 : decode cX7_comes 62 = .ok (.iconst 0, 1) := by decide +kernel
theorem dX7_comes_63 : decode cX7_comes 63 = .ok (.dup2, 1) := by decide +kernel
theorem dX7_comes_64 : decode cX7_comes 64 = .ok (.iaload, 1) := by decide +kernel
theorem dX7_comes_65 : decode cX7_comes 65 = .ok (.iconst 1, 1) := by decide +kernel
theorem dX7_comes_66 : decode cX7_comes 66 = .ok (.iadd, 1) := by decide +kernel
theorem dX7_comes_67 : decode cX7_comes 67 = .ok (.iastore, 1) := by decide +kernel
theorem dX7_comes_68 : decode cX7_comes 68 = .ok (.return_, 1) := by decide +kernel
theorem dX7_part_0 : decode cX7_part 0 = .ok (.iload_n 1, 1) := by decide +kernel
theorem dX7_part_1 : decode cX7_part 1 = .ok (.i2l, 1) := by decide +kernel
theorem dX7_part_2 : decode cX7_part 2 = .ok (.lconst 0, 1) := by decide +kernel
theorem dX7_part_3 : decode cX7_part 3 = .ok (.ldc2_w 63, 3) := by decide +kernel
theorem dX7_part_6 : decode cX7_part 6 = .ok (.invokestatic 65, 3) := by decide +kernel
theorem dX7_part_9 : decode cX7_part 9 = .ok (.ifCond .eq 40, 3) := by decide +kernel
theorem dX7_part_12 : decode cX7_part 12 = .ok (.iload_n 2, 1) := by decide +kernel
theorem dX7_part_13 : decode cX7_part 13 = .ok (.i2l, 1) := by decide +kernel
theorem dX7_part_14 : decode cX7_part 14 = .ok (.lconst 0, 1) := by decide +kernel
theorem dX7_part_15 : decode cX7_part 15 = .ok (.ldc2_w 69, 3) := by decide +kernel
theorem dX7_part_18 : decode cX7_part 18 = .ok (.invokestatic 65, 3) := by decide +kernel
theorem dX7_part_21 : decode cX7_part 21 = .ok (.ifCond .eq 28, 3) := by decide +kernel
theorem dX7_part_24 : decode cX7_part 24 = .ok (.iload_n 3, 1) := by decide +kernel
theorem dX7_part_25 : decode cX7_part 25 = .ok (.i2l, 1) := by decide +kernel
theorem dX7_part_26 : decode cX7_part 26 = .ok (.lconst 1, 1) := by decide +kernel
theorem dX7_part_27 : decode cX7_part 27 = .ok (.ldc2_w 71, 3) := by decide +kernel
theorem dX7_part_30 : decode cX7_part 30 = .ok (.invokestatic 65, 3) := by decide +kernel
theorem dX7_part_33 : decode cX7_part 33 = .ok (.ifCond .eq 16, 3) := by decide +kernel
theorem dX7_part_36 : decode cX7_part 36 = .ok (.iload 4, 2) := by decide +kernel
theorem dX7_part_38 : decode cX7_part 38 = .ok (.i2l, 1) := by decide +kernel
theorem dX7_part_39 : decode cX7_part 39 = .ok (.lconst 0, 1) := by decide +kernel
theorem dX7_part_40 : decode cX7_part 40 = .ok (.ldc2_w 73, 3) := by decide +kernel
theorem dX7_part_43 : decode cX7_part 43 = .ok (.invokestatic 65, 3) := by decide +kernel
theorem dX7_part_46 : decode cX7_part 46 = .ok (.ifCond .ne 10, 3) := by decide +kernel
theorem dX7_part_49 : decode cX7_part 49 = .ok (.aload_n 0, 1) := by decide +kernel
theorem dX7_part_50 : decode cX7_part 50 = .ok (.ldc 54, 2) := by decide +kernel
theorem dX7_part_52 : decode cX7_part 52 = .ok (.invokevirtual 75, 3) := by decide +kernel
theorem dX7_part_55 : decode cX7_part 55 = .ok (.ireturn, 1) := by decide +kernel
theorem dX7_part_56 : decode cX7_part 56 = .ok (.aload_n 0, 1) := by decide +kernel
theorem dX7_part_57 : decode cX7_part 57 = .ok (.getfield 7, 3) := by decide +kernel
theorem dX7_part_60 : decode cX7_part 60 = .ok (.iconst 0, 1) := by decide +kernel
theorem dX7_part_61 : decode cX7_part 61 = .ok (.iaload, 1) := by decide +kernel
theorem dX7_part_62 : decode cX7_part 62 = .ok (.bipush 20, 2) := by decide +kernel
theorem dX7_part_64 : decode cX7_part 64 = .ok (.if_icmp .ne 10, 3) := by decide +kernel
theorem dX7_part_67 : decode cX7_part 67 = .ok (.aload_n 0, 1) := by decide +kernel
theorem dX7_part_68 : decode cX7_part 68 = .ok (.ldc 79, 2) := by decide +kernel
theorem dX7_part_70 : decode cX7_part 70 = .ok (.invokevirtual 75, 3) := by decide +kernel
theorem dX7_part_73 : decode cX7_part 73 = .ok (.ireturn, 1) := by decide +kernel
theorem dX7_part_74 : decode cX7_part 74 = .ok (.aload_n 0, 1) := by decide +kernel
theorem dX7_part_75 : decode cX7_part 75 = .ok (.iload_n 1, 1) := by decide +kernel
theorem dX7_part_76 : decode cX7_part 76 = .ok (.iload_n 2, 1) := by decide +kernel
theorem dX7_part_77 : decode cX7_part 77 = .ok (.iload_n 3, 1) := by decide +kernel
theorem dX7_part_78 : decode cX7_part 78 = .ok (.iload 4, 2) := by decide +kernel
theorem dX7_part_80 : decode cX7_part 80 = .ok (.iconst 0, 1) := by decide +kernel
theorem dX7_part_81 : decode cX7_part 81 = .ok (.invokevirtual 80, 3) := by decide +kernel
theorem dX7_part_84 : decode cX7_part 84 = .ok (.aload_n 0, 1) := by decide +kernel
theorem dX7_part_85 : decode cX7_part 85 = .ok (.getfield 7, 3) := by decide +kernel
theorem dX7_part_88 : decode cX7_part 88 = .ok (.iconst 0, 1) := by decide +kernel
theorem dX7_part_89 : decode cX7_part 89 = .ok (.iaload, 1) := by decide +kernel
theorem dX7_part_90 : decode cX7_part 90 = .ok (.iconst 1, 1) := by decide +kernel
theorem dX7_part_91 : decode cX7_part 91 = .ok (.isub, 1) := by decide +kernel
theorem dX7_part_92 : decode cX7_part 92 = .ok (.ireturn, 1) := by decide +kernel
theorem dX7_good_0 : decode cX7_good 0 = .ok (.aload_n 0, 1) := by decide +kernel
theorem dX7_good_1 : decode cX7_good 1 = .ok (.iload_n 1, 1) := by decide +kernel
theorem dX7_good_2 : decode cX7_good 2 = .ok (.invokevirtual 84, 3) := by decide +kernel
theorem dX7_good_5 : decode cX7_good 5 = .ok (.ifCond .eq 25, 3) := by decide +kernel
theorem dX7_good_8 : decode cX7_good 8 = .ok (.aload_n 0, 1) := by decide +kernel
theorem dX7_good_9 : decode cX7_good 9 = .ok (.iload_n 1, 1) := by decide +kernel
theorem dX7_good_10 : decode cX7_good 10 = .ok (.iconst 2, 1) := by decide +kernel
theorem dX7_good_11 : decode cX7_good 11 = .ok (.invokevirtual 55, 3) := by decide +kernel
theorem dX7_good_14 : decode cX7_good 14 = .ok (.bipush 100, 2) := by decide +kernel
theorem dX7_good_16 : decode cX7_good 16 = .ok (.aload_n 0, 1) := by decide +kernel
theorem dX7_good_17 : decode cX7_good 17 = .ok (.iload_n 1, 1) := by decide +kernel
theorem dX7_good_18 : decode cX7_good 18 = .ok (.iconst 4, 1) := by decide +kernel
theorem dX7_good_19 : decode cX7_good 19 = .ok (.invokevirtual 55, 3) := by decide +kernel
theorem dX7_good_22 : decode cX7_good 22 = .ok (.isub, 1) := by decide +kernel
theorem dX7_good_23 : decode cX7_good 23 = .ok (.imul, 1) := by decide +kernel
theorem dX7_good_24 : decode cX7_good 24 = .ok (.bipush 100, 2) := by decide +kernel
theorem dX7_good_26 : decode cX7_good 26 = .ok (.idiv, 1) := by decide +kernel
theorem dX7_good_27 : decode cX7_good 27 = .ok (.goto 4, 3) := by decide +kernel
theorem dX7_good_30 : decode cX7_good 30 = .ok (.iconst 0, 1) := by decide +kernel
theorem dX7_good_31 : decode cX7_good 31 = .ok (.ireturn, 1) := by decide +kernel
theorem dX7_pushes_0 : decode cX7_pushes 0 = .ok (.aload_n 0, 1) := by decide +kernel
theorem dX7_pushes_1 : decode cX7_pushes 1 = .ok (.iload_n 1, 1) := by decide +kernel
theorem dX7_pushes_2 : decode cX7_pushes 2 = .ok (.iconst 0, 1) := by decide +kernel
theorem dX7_pushes_3 : decode cX7_pushes 3 = .ok (.invokevirtual 55, 3) := by decide +kernel
theorem dX7_pushes_6 : decode cX7_pushes 6 = .ok (.istore_n 2, 1) := by decide +kernel
theorem dX7_pushes_7 : decode cX7_pushes 7 = .ok (.iload_n 2, 1) := by decide +kernel
theorem dX7_pushes_8 : decode cX7_pushes 8 = .ok (.iconst 1, 1) := by decide +kernel
theorem dX7_pushes_9 : decode cX7_pushes 9 = .ok (.if_icmp .ne 31, 3) := by decide +kernel
theorem dX7_pushes_12 : decode cX7_pushes 12 = .ok (.aload_n 0, 1) := by decide +kernel
theorem dX7_pushes_13 : decode cX7_pushes 13 = .ok (.iload_n 1, 1) := by decide +kernel
theorem dX7_pushes_14 : decode cX7_pushes 14 = .ok (.invokevirtual 88, 3) := by decide +kernel
theorem dX7_pushes_17 : decode cX7_pushes 17 = .ok (.ifCond .le 21, 3) := by decide +kernel
theorem dX7_pushes_20 : decode cX7_pushes 20 = .ok (.aload_n 0, 1) := by decide +kernel
theorem dX7_pushes_21 : decode cX7_pushes 21 = .ok (.iload_n 1, 1) := by decide +kernel
theorem dX7_pushes_22 : decode cX7_pushes 22 = .ok (.invokevirtual 88, 3) := by decide +kernel
theorem dX7_pushes_25 : decode cX7_pushes 25 = .ok (.aload_n 0, 1) := by decide +kernel
theorem dX7_pushes_26 : decode cX7_pushes 26 = .ok (.getfield 7, 3) := by decide +kernel
theorem dX7_pushes_29 : decode cX7_pushes 29 = .ok (.bipush 6, 2) := by decide +kernel
theorem dX7_pushes_31 : decode cX7_pushes 31 = .ok (.iaload, 1) := by decide +kernel
theorem dX7_pushes_32 : decode cX7_pushes 32 = .ok (.iconst 4, 1) := by decide +kernel
theorem dX7_pushes_33 : decode cX7_pushes 33 = .ok (.idiv, 1) := by decide +kernel
theorem dX7_pushes_34 : decode cX7_pushes 34 = .ok (.iadd, 1) := by decide +kernel
theorem dX7_pushes_35 : decode cX7_pushes 35 = .ok (.goto 4, 3) := by decide +kernel
theorem dX7_pushes_38 : decode cX7_pushes 38 = .ok (.iconst 0, 1) := by decide +kernel
theorem dX7_pushes_39 : decode cX7_pushes 39 = .ok (.ireturn, 1) := by decide +kernel
theorem dX7_pushes_40 : decode cX7_pushes 40 = .ok (.iload_n 2, 1) := by decide +kernel
theorem dX7_pushes_41 : decode cX7_pushes 41 = .ok (.iconst 5, 1) := by decide +kernel
theorem dX7_pushes_42 : decode cX7_pushes 42 = .ok (.if_icmp .ne 35, 3) := by decide +kernel
theorem dX7_pushes_45 : decode cX7_pushes 45 = .ok (.aload_n 0, 1) := by decide +kernel
theorem dX7_pushes_46 : decode cX7_pushes 46 = .ok (.iload_n 1, 1) := by decide +kernel
theorem dX7_pushes_47 : decode cX7_pushes 47 = .ok (.invokevirtual 84, 3) := by decide +kernel
theorem dX7_pushes_50 : decode cX7_pushes 50 = .ok (.ifCond .eq 27, 3) := by decide +kernel
theorem dX7_pushes_53 : decode cX7_pushes 53 = .ok (.aload_n 0, 1) := by decide +kernel
theorem dX7_pushes_54 : decode cX7_pushes 54 = .ok (.getfield 7, 3) := by decide +kernel
theorem dX7_pushes_57 : decode cX7_pushes 57 = .ok (.iconst 4, 1) := by decide +kernel
theorem dX7_pushes_58 : decode cX7_pushes 58 = .ok (.iaload, 1) := by decide +kernel
theorem dX7_pushes_59 : decode cX7_pushes 59 = .ok (.aload_n 0, 1) := by decide +kernel
theorem dX7_pushes_60 : decode cX7_pushes 60 = .ok (.iload_n 1, 1) := by decide +kernel
theorem dX7_pushes_61 : decode cX7_pushes 61 = .ok (.iconst 1, 1) := by decide +kernel
theorem dX7_pushes_62 : decode cX7_pushes 62 = .ok (.invokevirtual 55, 3) := by decide +kernel
theorem dX7_pushes_65 : decode cX7_pushes 65 = .ok (.if_icmp .ne 12, 3) := by decide +kernel
theorem dX7_pushes_68 : decode cX7_pushes 68 = .ok (.aload_n 0, 1) := by decide +kernel
theorem dX7_pushes_69 : decode cX7_pushes 69 = .ok (.getfield 7, 3) := by decide +kernel
theorem dX7_pushes_72 : decode cX7_pushes 72 = .ok (.iconst 3, 1) := by decide +kernel
theorem dX7_pushes_73 : decode cX7_pushes 73 = .ok (.iaload, 1) := by decide +kernel
theorem dX7_pushes_74 : decode cX7_pushes 74 = .ok (.goto 4, 3) := by decide +kernel
theorem dX7_pushes_77 : decode cX7_pushes 77 = .ok (.iconst 0, 1) := by decide +kernel
theorem dX7_pushes_78 : decode cX7_pushes 78 = .ok (.ireturn, 1) := by decide +kernel
theorem dX7_holdsOf_0 : decode cX7_holdsOf 0 = .ok (.aload_n 0, 1) := by decide +kernel
theorem dX7_holdsOf_1 : decode cX7_holdsOf 1 = .ok (.iload_n 1, 1) := by decide +kernel
theorem dX7_holdsOf_2 : decode cX7_holdsOf 2 = .ok (.invokevirtual 88, 3) := by decide +kernel
theorem dX7_holdsOf_5 : decode cX7_holdsOf 5 = .ok (.aload_n 0, 1) := by decide +kernel
theorem dX7_holdsOf_6 : decode cX7_holdsOf 6 = .ok (.getfield 7, 3) := by decide +kernel
theorem dX7_holdsOf_9 : decode cX7_holdsOf 9 = .ok (.bipush 8, 2) := by decide +kernel
theorem dX7_holdsOf_11 : decode cX7_holdsOf 11 = .ok (.iaload, 1) := by decide +kernel
theorem dX7_holdsOf_12 : decode cX7_holdsOf 12 = .ok (.imul, 1) := by decide +kernel
theorem dX7_holdsOf_13 : decode cX7_holdsOf 13 = .ok (.bipush 20, 2) := by decide +kernel
theorem dX7_holdsOf_15 : decode cX7_holdsOf 15 = .ok (.idiv, 1) := by decide +kernel
theorem dX7_holdsOf_16 : decode cX7_holdsOf 16 = .ok (.istore_n 2, 1) := by decide +kernel
theorem dX7_holdsOf_17 : decode cX7_holdsOf 17 = .ok (.aload_n 0, 1) := by decide +kernel
theorem dX7_holdsOf_18 : decode cX7_holdsOf 18 = .ok (.iload_n 1, 1) := by decide +kernel
theorem dX7_holdsOf_19 : decode cX7_holdsOf 19 = .ok (.iconst 0, 1) := by decide +kernel
theorem dX7_holdsOf_20 : decode cX7_holdsOf 20 = .ok (.invokevirtual 55, 3) := by decide +kernel
theorem dX7_holdsOf_23 : decode cX7_holdsOf 23 = .ok (.tableswitch 77 2 6 #[33, 49, 68, 68, 35], 33) := by decide +kernel
theorem dX7_holdsOf_56 : decode cX7_holdsOf 56 = .ok (.iload_n 2, 1) := by decide +kernel
theorem dX7_holdsOf_57 : decode cX7_holdsOf 57 = .ok (.ireturn, 1) := by decide +kernel
theorem dX7_holdsOf_58 : decode cX7_holdsOf 58 = .ok (.iload_n 2, 1) := by decide +kernel
theorem dX7_holdsOf_59 : decode cX7_holdsOf 59 = .ok (.aload_n 0, 1) := by decide +kernel
theorem dX7_holdsOf_60 : decode cX7_holdsOf 60 = .ok (.getfield 7, 3) := by decide +kernel
theorem dX7_holdsOf_63 : decode cX7_holdsOf 63 = .ok (.iconst 5, 1) := by decide +kernel
theorem dX7_holdsOf_64 : decode cX7_holdsOf 64 = .ok (.iaload, 1) := by decide +kernel
theorem dX7_holdsOf_65 : decode cX7_holdsOf 65 = .ok (.iload_n 2, 1) := by decide +kernel
theorem dX7_holdsOf_66 : decode cX7_holdsOf 66 = .ok (.imul, 1) := by decide +kernel
theorem dX7_holdsOf_67 : decode cX7_holdsOf 67 = .ok (.bipush 10, 2) := by decide +kernel
theorem dX7_holdsOf_69 : decode cX7_holdsOf 69 = .ok (.idiv, 1) := by decide +kernel
theorem dX7_holdsOf_70 : decode cX7_holdsOf 70 = .ok (.isub, 1) := by decide +kernel
theorem dX7_holdsOf_71 : decode cX7_holdsOf 71 = .ok (.ireturn, 1) := by decide +kernel
theorem dX7_holdsOf_72 : decode cX7_holdsOf 72 = .ok (.aload_n 0, 1) := by decide +kernel
theorem dX7_holdsOf_73 : decode cX7_holdsOf 73 = .ok (.iload_n 1, 1) := by decide +kernel
theorem dX7_holdsOf_74 : decode cX7_holdsOf 74 = .ok (.invokevirtual 88, 3) := by decide +kernel
theorem dX7_holdsOf_77 : decode cX7_holdsOf 77 = .ok (.ifCond .le 12, 3) := by decide +kernel
theorem dX7_holdsOf_80 : decode cX7_holdsOf 80 = .ok (.aload_n 0, 1) := by decide +kernel
theorem dX7_holdsOf_81 : decode cX7_holdsOf 81 = .ok (.iload_n 1, 1) := by decide +kernel
theorem dX7_holdsOf_82 : decode cX7_holdsOf 82 = .ok (.iconst 3, 1) := by decide +kernel
theorem dX7_holdsOf_83 : decode cX7_holdsOf 83 = .ok (.invokevirtual 55, 3) := by decide +kernel
theorem dX7_holdsOf_86 : decode cX7_holdsOf 86 = .ok (.goto 4, 3) := by decide +kernel
theorem dX7_holdsOf_89 : decode cX7_holdsOf 89 = .ok (.iconst 0, 1) := by decide +kernel
theorem dX7_holdsOf_90 : decode cX7_holdsOf 90 = .ok (.ireturn, 1) := by decide +kernel
theorem dX7_holdsOf_91 : decode cX7_holdsOf 91 = .ok (.aload_n 0, 1) := by decide +kernel
theorem dX7_holdsOf_92 : decode cX7_holdsOf 92 = .ok (.iload_n 1, 1) := by decide +kernel
theorem dX7_holdsOf_93 : decode cX7_holdsOf 93 = .ok (.invokevirtual 88, 3) := by decide +kernel
theorem dX7_holdsOf_96 : decode cX7_holdsOf 96 = .ok (.bipush 10, 2) := by decide +kernel
theorem dX7_holdsOf_98 : decode cX7_holdsOf 98 = .ok (.idiv, 1) := by decide +kernel
theorem dX7_holdsOf_99 : decode cX7_holdsOf 99 = .ok (.ireturn, 1) := by decide +kernel
theorem dX7_holdsOf_100 : decode cX7_holdsOf 100 = .ok (.iconst 0, 1) := by decide +kernel
theorem dX7_holdsOf_101 : decode cX7_holdsOf 101 = .ok (.ireturn, 1) := by decide +kernel
theorem dX7_warms_0 : decode cX7_warms 0 = .ok (.aload_n 0, 1) := by decide +kernel
theorem dX7_warms_1 : decode cX7_warms 1 = .ok (.iload_n 1, 1) := by decide +kernel
theorem dX7_warms_2 : decode cX7_warms 2 = .ok (.iconst 0, 1) := by decide +kernel
theorem dX7_warms_3 : decode cX7_warms 3 = .ok (.invokevirtual 55, 3) := by decide +kernel
theorem dX7_warms_6 : decode cX7_warms 6 = .ok (.istore_n 2, 1) := by decide +kernel
theorem dX7_warms_7 : decode cX7_warms 7 = .ok (.iload_n 2, 1) := by decide +kernel
theorem dX7_warms_8 : decode cX7_warms 8 = .ok (.iconst 4, 1) := by decide +kernel
theorem dX7_warms_9 : decode cX7_warms 9 = .ok (.if_icmp .eq 10, 3) := by decide +kernel
theorem dX7_warms_12 : decode cX7_warms 12 = .ok (.iload_n 2, 1) := by decide +kernel
theorem dX7_warms_13 : decode cX7_warms 13 = .ok (.iconst 5, 1) := by decide +kernel
theorem dX7_warms_14 : decode cX7_warms 14 = .ok (.if_icmp .eq 5, 3) := by decide +kernel
theorem dX7_warms_17 : decode cX7_warms 17 = .ok (.iconst 0, 1) := by decide +kernel
theorem dX7_warms_18 : decode cX7_warms 18 = .ok (.ireturn, 1) := by decide +kernel
theorem dX7_warms_19 : decode cX7_warms 19 = .ok (.aload_n 0, 1) := by decide +kernel
theorem dX7_warms_20 : decode cX7_warms 20 = .ok (.getfield 7, 3) := by decide +kernel
theorem dX7_warms_23 : decode cX7_warms 23 = .ok (.iconst 5, 1) := by decide +kernel
theorem dX7_warms_24 : decode cX7_warms 24 = .ok (.iaload, 1) := by decide +kernel
theorem dX7_warms_25 : decode cX7_warms 25 = .ok (.iconst 5, 1) := by decide +kernel
theorem dX7_warms_26 : decode cX7_warms 26 = .ok (.if_icmp .lt 15, 3) := by decide +kernel
theorem dX7_warms_29 : decode cX7_warms 29 = .ok (.aload_n 0, 1) := by decide +kernel
theorem dX7_warms_30 : decode cX7_warms 30 = .ok (.iload_n 1, 1) := by decide +kernel
theorem dX7_warms_31 : decode cX7_warms 31 = .ok (.invokevirtual 88, 3) := by decide +kernel
theorem dX7_warms_34 : decode cX7_warms 34 = .ok (.iconst 5, 1) := by decide +kernel
theorem dX7_warms_35 : decode cX7_warms 35 = .ok (.idiv, 1) := by decide +kernel
theorem dX7_warms_36 : decode cX7_warms 36 = .ok (.iconst 2, 1) := by decide +kernel
theorem dX7_warms_37 : decode cX7_warms 37 = .ok (.idiv, 1) := by decide +kernel
theorem dX7_warms_38 : decode cX7_warms 38 = .ok (.goto 10, 3) := by decide +kernel
theorem dX7_warms_41 : decode cX7_warms 41 = .ok (.aload_n 0, 1) := by decide +kernel
theorem dX7_warms_42 : decode cX7_warms 42 = .ok (.iload_n 1, 1) := by decide +kernel
theorem dX7_warms_43 : decode cX7_warms 43 = .ok (.invokevirtual 88, 3) := by decide +kernel
theorem dX7_warms_46 : decode cX7_warms 46 = .ok (.iconst 5, 1) := by decide +kernel
theorem dX7_warms_47 : decode cX7_warms 47 = .ok (.idiv, 1) := by decide +kernel
theorem dX7_warms_48 : decode cX7_warms 48 = .ok (.istore_n 3, 1) := by decide +kernel
theorem dX7_warms_49 : decode cX7_warms 49 = .ok (.iload_n 3, 1) := by decide +kernel
theorem dX7_warms_50 : decode cX7_warms 50 = .ok (.aload_n 0, 1) := by decide +kernel
theorem dX7_warms_51 : decode cX7_warms 51 = .ok (.getfield 7, 3) := by decide +kernel
theorem dX7_warms_54 : decode cX7_warms 54 = .ok (.iconst 3, 1) := by decide +kernel
theorem dX7_warms_55 : decode cX7_warms 55 = .ok (.iaload, 1) := by decide +kernel
theorem dX7_warms_56 : decode cX7_warms 56 = .ok (.bipush 10, 2) := by decide +kernel
theorem dX7_warms_58 : decode cX7_warms 58 = .ok (.idiv, 1) := by decide +kernel
theorem dX7_warms_59 : decode cX7_warms 59 = .ok (.isub, 1) := by decide +kernel
theorem dX7_warms_60 : decode cX7_warms 60 = .ok (.istore 4, 2) := by decide +kernel
theorem dX7_warms_62 : decode cX7_warms 62 = .ok (.iload_n 2, 1) := by decide +kernel
theorem dX7_warms_63 : decode cX7_warms 63 = .ok (.iconst 4, 1) := by decide +kernel
theorem dX7_warms_64 : decode cX7_warms 64 = .ok (.if_icmp .ne 7, 3) := by decide +kernel
theorem dX7_warms_67 : decode cX7_warms 67 = .ok (.iload_n 3, 1) := by decide +kernel
theorem dX7_warms_68 : decode cX7_warms 68 = .ok (.goto 14, 3) := by decide +kernel
theorem dX7_warms_71 : decode cX7_warms 71 = .ok (.iload 4, 2) := by decide +kernel
theorem dX7_warms_73 : decode cX7_warms 73 = .ok (.ifCond .ge 7, 3) := by decide +kernel
theorem dX7_warms_76 : decode cX7_warms 76 = .ok (.iconst 0, 1) := by decide +kernel
theorem dX7_warms_77 : decode cX7_warms 77 = .ok (.goto 5, 3) := by decide +kernel
theorem dX7_warms_80 : decode cX7_warms 80 = .ok (.iload 4, 2) := by decide +kernel
theorem dX7_warms_82 : decode cX7_warms 82 = .ok (.ireturn, 1) := by decide +kernel
theorem dX7_of_0 : decode cX7_of 0 = .ok (.aload_n 0, 1) := by decide +kernel
theorem dX7_of_1 : decode cX7_of 1 = .ok (.iload_n 1, 1) := by decide +kernel
theorem dX7_of_2 : decode cX7_of 2 = .ok (.invokevirtual 91, 3) := by decide +kernel
theorem dX7_of_5 : decode cX7_of 5 = .ok (.ifCond .eq 15, 3) := by decide +kernel
theorem dX7_of_8 : decode cX7_of 8 = .ok (.iload_n 2, 1) := by decide +kernel
theorem dX7_of_9 : decode cX7_of 9 = .ok (.i2l, 1) := by decide +kernel
theorem dX7_of_10 : decode cX7_of 10 = .ok (.lconst 0, 1) := by decide +kernel
theorem dX7_of_11 : decode cX7_of 11 = .ok (.ldc2_w 94, 3) := by decide +kernel
theorem dX7_of_14 : decode cX7_of 14 = .ok (.invokestatic 65, 3) := by decide +kernel
theorem dX7_of_17 : decode cX7_of 17 = .ok (.ifCond .ne 10, 3) := by decide +kernel
theorem dX7_of_20 : decode cX7_of 20 = .ok (.aload_n 0, 1) := by decide +kernel
theorem dX7_of_21 : decode cX7_of 21 = .ok (.ldc 54, 2) := by decide +kernel
theorem dX7_of_23 : decode cX7_of 23 = .ok (.invokevirtual 75, 3) := by decide +kernel
theorem dX7_of_26 : decode cX7_of 26 = .ok (.ireturn, 1) := by decide +kernel
theorem dX7_of_27 : decode cX7_of 27 = .ok (.iload_n 2, 1) := by decide +kernel
theorem dX7_of_28 : decode cX7_of 28 = .ok (.bipush 6, 2) := by decide +kernel
theorem dX7_of_30 : decode cX7_of 30 = .ok (.if_icmp .ge 12, 3) := by decide +kernel
theorem dX7_of_33 : decode cX7_of 33 = .ok (.aload_n 0, 1) := by decide +kernel
theorem dX7_of_34 : decode cX7_of 34 = .ok (.iload_n 1, 1) := by decide +kernel
theorem dX7_of_35 : decode cX7_of 35 = .ok (.iload_n 2, 1) := by decide +kernel
theorem dX7_of_36 : decode cX7_of 36 = .ok (.invokevirtual 55, 3) := by decide +kernel
theorem dX7_of_39 : decode cX7_of 39 = .ok (.goto 50, 3) := by decide +kernel
theorem dX7_of_42 : decode cX7_of 42 = .ok (.iload_n 2, 1) := by decide +kernel
theorem dX7_of_43 : decode cX7_of 43 = .ok (.bipush 6, 2) := by decide +kernel
theorem dX7_of_45 : decode cX7_of 45 = .ok (.if_icmp .ne 11, 3) := by decide +kernel
theorem dX7_of_48 : decode cX7_of 48 = .ok (.aload_n 0, 1) := by decide +kernel
theorem dX7_of_49 : decode cX7_of 49 = .ok (.iload_n 1, 1) := by decide +kernel
theorem dX7_of_50 : decode cX7_of 50 = .ok (.invokevirtual 88, 3) := by decide +kernel
theorem dX7_of_53 : decode cX7_of 53 = .ok (.goto 36, 3) := by decide +kernel
theorem dX7_of_56 : decode cX7_of 56 = .ok (.iload_n 2, 1) := by decide +kernel
theorem dX7_of_57 : decode cX7_of 57 = .ok (.bipush 7, 2) := by decide +kernel
theorem dX7_of_59 : decode cX7_of 59 = .ok (.if_icmp .ne 11, 3) := by decide +kernel
theorem dX7_of_62 : decode cX7_of 62 = .ok (.aload_n 0, 1) := by decide +kernel
theorem dX7_of_63 : decode cX7_of 63 = .ok (.iload_n 1, 1) := by decide +kernel
theorem dX7_of_64 : decode cX7_of 64 = .ok (.invokevirtual 96, 3) := by decide +kernel
theorem dX7_of_67 : decode cX7_of 67 = .ok (.goto 22, 3) := by decide +kernel
theorem dX7_of_70 : decode cX7_of 70 = .ok (.iload_n 2, 1) := by decide +kernel
theorem dX7_of_71 : decode cX7_of 71 = .ok (.bipush 8, 2) := by decide +kernel
theorem dX7_of_73 : decode cX7_of 73 = .ok (.if_icmp .ne 11, 3) := by decide +kernel
theorem dX7_of_76 : decode cX7_of 76 = .ok (.aload_n 0, 1) := by decide +kernel
theorem dX7_of_77 : decode cX7_of 77 = .ok (.iload_n 1, 1) := by decide +kernel
theorem dX7_of_78 : decode cX7_of 78 = .ok (.invokevirtual 99, 3) := by decide +kernel
theorem dX7_of_81 : decode cX7_of 81 = .ok (.goto 8, 3) := by decide +kernel
theorem dX7_of_84 : decode cX7_of 84 = .ok (.aload_n 0, 1) := by decide +kernel
theorem dX7_of_85 : decode cX7_of 85 = .ok (.iload_n 1, 1) := by decide +kernel
theorem dX7_of_86 : decode cX7_of 86 = .ok (.invokevirtual 102, 3) := by decide +kernel
theorem dX7_of_89 : decode cX7_of 89 = .ok (.ireturn, 1) := by decide +kernel
theorem dX7_set_0 : decode cX7_set 0 = .ok (.aload_n 0, 1) := by decide +kernel
theorem dX7_set_1 : decode cX7_set 1 = .ok (.iload_n 1, 1) := by decide +kernel
theorem dX7_set_2 : decode cX7_set 2 = .ok (.invokevirtual 91, 3) := by decide +kernel
theorem dX7_set_5 : decode cX7_set 5 = .ok (.ifCond .eq 49, 3) := by decide +kernel
theorem dX7_set_8 : decode cX7_set 8 = .ok (.iload_n 2, 1) := by decide +kernel
theorem dX7_set_9 : decode cX7_set 9 = .ok (.i2l, 1) := by decide +kernel
theorem dX7_set_10 : decode cX7_set 10 = .ok (.ldc2_w 105, 3) := by decide +kernel
theorem dX7_set_13 : decode cX7_set 13 = .ok (.ldc2_w 107, 3) := by decide +kernel
theorem dX7_set_16 : decode cX7_set 16 = .ok (.invokestatic 65, 3) := by decide +kernel
theorem dX7_set_19 : decode cX7_set 19 = .ok (.ifCond .eq 35, 3) := by decide +kernel
theorem dX7_set_22 : decode cX7_set 22 = .ok (.iload_n 3, 1) := by decide +kernel
theorem dX7_set_23 : decode cX7_set 23 = .ok (.i2l, 1) := by decide +kernel
theorem dX7_set_24 : decode cX7_set 24 = .ok (.iload_n 2, 1) := by decide +kernel
theorem dX7_set_25 : decode cX7_set 25 = .ok (.iconst 2, 1) := by decide +kernel
theorem dX7_set_26 : decode cX7_set 26 = .ok (.if_icmp .ne 7, 3) := by decide +kernel
theorem dX7_set_29 : decode cX7_set 29 = .ok (.lconst 1, 1) := by decide +kernel
theorem dX7_set_30 : decode cX7_set 30 = .ok (.goto 4, 3) := by decide +kernel
theorem dX7_set_33 : decode cX7_set 33 = .ok (.lconst 0, 1) := by decide +kernel
theorem dX7_set_34 : decode cX7_set 34 = .ok (.iload_n 2, 1) := by decide +kernel
theorem dX7_set_35 : decode cX7_set 35 = .ok (.iconst 2, 1) := by decide +kernel
theorem dX7_set_36 : decode cX7_set 36 = .ok (.if_icmp .ne 9, 3) := by decide +kernel
theorem dX7_set_39 : decode cX7_set 39 = .ok (.ldc2_w 71, 3) := by decide +kernel
theorem dX7_set_42 : decode cX7_set 42 = .ok (.goto 6, 3) := by decide +kernel
theorem dX7_set_45 : decode cX7_set 45 = .ok (.ldc2_w 73, 3) := by decide +kernel
theorem dX7_set_48 : decode cX7_set 48 = .ok (.invokestatic 65, 3) := by decide +kernel
theorem dX7_set_51 : decode cX7_set 51 = .ok (.ifCond .ne 10, 3) := by decide +kernel
theorem dX7_set_54 : decode cX7_set 54 = .ok (.aload_n 0, 1) := by decide +kernel
theorem dX7_set_55 : decode cX7_set 55 = .ok (.ldc 54, 2) := by decide +kernel
theorem dX7_set_57 : decode cX7_set 57 = .ok (.invokevirtual 75, 3) := by decide +kernel
theorem dX7_set_60 : decode cX7_set 60 = .ok (.ireturn, 1) := by decide +kernel
theorem dX7_set_61 : decode cX7_set 61 = .ok (.aload_n 0, 1) := by decide +kernel
theorem dX7_set_62 : decode cX7_set 62 = .ok (.bipush 12, 2) := by decide +kernel
theorem dX7_set_64 : decode cX7_set 64 = .ok (.bipush 6, 2) := by decide +kernel
theorem dX7_set_66 : decode cX7_set 66 = .ok (.iload_n 1, 1) := by decide +kernel
theorem dX7_set_67 : decode cX7_set 67 = .ok (.imul, 1) := by decide +kernel
theorem dX7_set_68 : decode cX7_set 68 = .ok (.iadd, 1) := by decide +kernel
theorem dX7_set_69 : decode cX7_set 69 = .ok (.iload_n 2, 1) := by decide +kernel
theorem dX7_set_70 : decode cX7_set 70 = .ok (.iadd, 1) := by decide +kernel
theorem dX7_set_71 : decode cX7_set 71 = .ok (.iload_n 3, 1) := by decide +kernel
theorem dX7_set_72 : decode cX7_set 72 = .ok (.invokevirtual 109, 3) := by decide +kernel
theorem dX7_set_75 : decode cX7_set 75 = .ok (.ireturn, 1) := by decide +kernel
theorem dX7_want_0 : decode cX7_want 0 = .ok (.aload_n 0, 1) := by decide +kernel
theorem dX7_want_1 : decode cX7_want 1 = .ok (.iload_n 1, 1) := by decide +kernel
theorem dX7_want_2 : decode cX7_want 2 = .ok (.invokevirtual 91, 3) := by decide +kernel
theorem dX7_want_5 : decode cX7_want 5 = .ok (.ifCond .ne 10, 3) := by decide +kernel
theorem dX7_want_8 : decode cX7_want 8 = .ok (.aload_n 0, 1) := by decide +kernel
theorem dX7_want_9 : decode cX7_want 9 = .ok (.ldc 54, 2) := by decide +kernel
theorem dX7_want_11 : decode cX7_want 11 = .ok (.invokevirtual 75, 3) := by decide +kernel
theorem dX7_want_14 : decode cX7_want 14 = .ok (.ireturn, 1) := by decide +kernel
theorem dX7_want_15 : decode cX7_want 15 = .ok (.iload_n 2, 1) := by decide +kernel
theorem dX7_want_16 : decode cX7_want 16 = .ok (.ifCond .eq 7, 3) := by decide +kernel
theorem dX7_want_19 : decode cX7_want 19 = .ok (.iconst 1, 1) := by decide +kernel
theorem dX7_want_20 : decode cX7_want 20 = .ok (.goto 4, 3) := by decide +kernel
theorem dX7_want_23 : decode cX7_want 23 = .ok (.iconst 0, 1) := by decide +kernel
theorem dX7_want_24 : decode cX7_want 24 = .ok (.istore_n 3, 1) := by decide +kernel
theorem dX7_want_25 : decode cX7_want 25 = .ok (.aload_n 0, 1) := by decide +kernel
theorem dX7_want_26 : decode cX7_want 26 = .ok (.bipush 12, 2) := by decide +kernel
theorem dX7_want_28 : decode cX7_want 28 = .ok (.bipush 6, 2) := by decide +kernel
theorem dX7_want_30 : decode cX7_want 30 = .ok (.iload_n 1, 1) := by decide +kernel
theorem dX7_want_31 : decode cX7_want 31 = .ok (.imul, 1) := by decide +kernel
theorem dX7_want_32 : decode cX7_want 32 = .ok (.iadd, 1) := by decide +kernel
theorem dX7_want_33 : decode cX7_want 33 = .ok (.iconst 5, 1) := by decide +kernel
theorem dX7_want_34 : decode cX7_want 34 = .ok (.iadd, 1) := by decide +kernel
theorem dX7_want_35 : decode cX7_want 35 = .ok (.iload_n 3, 1) := by decide +kernel
theorem dX7_want_36 : decode cX7_want 36 = .ok (.invokevirtual 109, 3) := by decide +kernel
theorem dX7_want_39 : decode cX7_want 39 = .ok (.iload_n 3, 1) := by decide +kernel
theorem dX7_want_40 : decode cX7_want 40 = .ok (.if_icmp .ne 7, 3) := by decide +kernel
theorem dX7_want_43 : decode cX7_want 43 = .ok (.iconst 0, 1) := by decide +kernel
theorem dX7_want_44 : decode cX7_want 44 = .ok (.goto 4, 3) := by decide +kernel
theorem dX7_want_47 : decode cX7_want 47 = .ok (.iconst 1, 1) := by decide +kernel
theorem dX7_want_48 : decode cX7_want 48 = .ok (.ireturn, 1) := by decide +kernel
theorem dX7_as_0 : decode cX7_as 0 = .ok (.aload_n 0, 1) := by decide +kernel
theorem dX7_as_1 : decode cX7_as 1 = .ok (.iload_n 1, 1) := by decide +kernel
theorem dX7_as_2 : decode cX7_as 2 = .ok (.invokevirtual 91, 3) := by decide +kernel
theorem dX7_as_5 : decode cX7_as 5 = .ok (.ifCond .eq 15, 3) := by decide +kernel
theorem dX7_as_8 : decode cX7_as 8 = .ok (.iload_n 2, 1) := by decide +kernel
theorem dX7_as_9 : decode cX7_as 9 = .ok (.i2l, 1) := by decide +kernel
theorem dX7_as_10 : decode cX7_as 10 = .ok (.lconst 0, 1) := by decide +kernel
theorem dX7_as_11 : decode cX7_as 11 = .ok (.ldc2_w 63, 3) := by decide +kernel
theorem dX7_as_14 : decode cX7_as 14 = .ok (.invokestatic 65, 3) := by decide +kernel
theorem dX7_as_17 : decode cX7_as 17 = .ok (.ifCond .ne 10, 3) := by decide +kernel
theorem dX7_as_20 : decode cX7_as 20 = .ok (.aload_n 0, 1) := by decide +kernel
theorem dX7_as_21 : decode cX7_as 21 = .ok (.ldc 54, 2) := by decide +kernel
theorem dX7_as_23 : decode cX7_as 23 = .ok (.invokevirtual 75, 3) := by decide +kernel
theorem dX7_as_26 : decode cX7_as 26 = .ok (.ireturn, 1) := by decide +kernel
theorem dX7_as_27 : decode cX7_as 27 = .ok (.aload_n 0, 1) := by decide +kernel
theorem dX7_as_28 : decode cX7_as 28 = .ok (.iload_n 1, 1) := by decide +kernel
theorem dX7_as_29 : decode cX7_as 29 = .ok (.iconst 0, 1) := by decide +kernel
theorem dX7_as_30 : decode cX7_as 30 = .ok (.invokevirtual 55, 3) := by decide +kernel
theorem dX7_as_33 : decode cX7_as 33 = .ok (.istore_n 3, 1) := by decide +kernel
theorem dX7_as_34 : decode cX7_as 34 = .ok (.iload_n 3, 1) := by decide +kernel
theorem dX7_as_35 : decode cX7_as 35 = .ok (.iload_n 2, 1) := by decide +kernel
theorem dX7_as_36 : decode cX7_as 36 = .ok (.if_icmp .eq 28, 3) := by decide +kernel
theorem dX7_as_39 : decode cX7_as 39 = .ok (.iload_n 2, 1) := by decide +kernel
theorem dX7_as_40 : decode cX7_as 40 = .ok (.ifCond .eq 24, 3) := by decide +kernel
theorem dX7_as_43 : decode cX7_as 43 = .ok (.iload_n 2, 1) := by decide +kernel
theorem dX7_as_44 : decode cX7_as 44 = .ok (.iconst 4, 1) := by decide +kernel
theorem dX7_as_45 : decode cX7_as 45 = .ok (.if_icmp .ne 8, 3) := by decide +kernel
theorem dX7_as_48 : decode cX7_as 48 = .ok (.iload_n 3, 1) := by decide +kernel
theorem dX7_as_49 : decode cX7_as 49 = .ok (.iconst 5, 1) := by decide +kernel
theorem dX7_as_50 : decode cX7_as 50 = .ok (.if_icmp .eq 14, 3) := by decide +kernel
theorem dX7_as_53 : decode cX7_as 53 = .ok (.iload_n 2, 1) := by decide +kernel
theorem dX7_as_54 : decode cX7_as 54 = .ok (.iconst 2, 1) := by decide +kernel
theorem dX7_as_55 : decode cX7_as 55 = .ok (.if_icmp .ne 13, 3) := by decide +kernel
theorem dX7_as_58 : decode cX7_as 58 = .ok (.iload_n 3, 1) := by decide +kernel
theorem dX7_as_59 : decode cX7_as 59 = .ok (.bipush 6, 2) := by decide +kernel
theorem dX7_as_61 : decode cX7_as 61 = .ok (.if_icmp .ne 7, 3) := by decide +kernel
theorem dX7_as_64 : decode cX7_as 64 = .ok (.iconst 1, 1) := by decide +kernel
theorem dX7_as_65 : decode cX7_as 65 = .ok (.goto 4, 3) := by decide +kernel
theorem dX7_as_68 : decode cX7_as 68 = .ok (.iconst 0, 1) := by decide +kernel
theorem dX7_as_69 : decode cX7_as 69 = .ok (.istore 4, 2) := by decide +kernel
theorem dX7_as_71 : decode cX7_as 71 = .ok (.iload 4, 2) := by decide +kernel
theorem dX7_as_73 : decode cX7_as 73 = .ok (.ifCond .eq 11, 3) := by decide +kernel
theorem dX7_as_76 : decode cX7_as 76 = .ok (.aload_n 0, 1) := by decide +kernel
theorem dX7_as_77 : decode cX7_as 77 = .ok (.iload_n 1, 1) := by decide +kernel
theorem dX7_as_78 : decode cX7_as 78 = .ok (.invokevirtual 88, 3) := by decide +kernel
theorem dX7_as_81 : decode cX7_as 81 = .ok (.goto 9, 3) := by decide +kernel
theorem dX7_as_84 : decode cX7_as 84 = .ok (.aload_n 0, 1) := by decide +kernel
theorem dX7_as_85 : decode cX7_as 85 = .ok (.ldc 112, 2) := by decide +kernel
theorem dX7_as_87 : decode cX7_as 87 = .ok (.invokevirtual 75, 3) := by decide +kernel
theorem dX7_as_90 : decode cX7_as 90 = .ok (.ireturn, 1) := by decide +kernel
theorem dX7_mostSky_0 : decode cX7_mostSky 0 = .ok (.iload_n 0, 1) := by decide +kernel
theorem dX7_mostSky_1 : decode cX7_mostSky 1 = .ok (.iconst 1, 1) := by decide +kernel
theorem dX7_mostSky_2 : decode cX7_mostSky 2 = .ok (.if_icmp .ne 8, 3) := by decide +kernel
theorem dX7_mostSky_5 : decode cX7_mostSky 5 = .ok (.bipush 7, 2) := by decide +kernel
theorem dX7_mostSky_7 : decode cX7_mostSky 7 = .ok (.goto 25, 3) := by decide +kernel
theorem dX7_mostSky_10 : decode cX7_mostSky 10 = .ok (.iload_n 0, 1) := by decide +kernel
theorem dX7_mostSky_11 : decode cX7_mostSky 11 = .ok (.iconst 2, 1) := by decide +kernel
theorem dX7_mostSky_12 : decode cX7_mostSky 12 = .ok (.if_icmp .ne 8, 3) := by decide +kernel
theorem dX7_mostSky_15 : decode cX7_mostSky 15 = .ok (.bipush 9, 2) := by decide +kernel
theorem dX7_mostSky_17 : decode cX7_mostSky 17 = .ok (.goto 15, 3) := by decide +kernel
theorem dX7_mostSky_20 : decode cX7_mostSky 20 = .ok (.iload_n 0, 1) := by decide +kernel
theorem dX7_mostSky_21 : decode cX7_mostSky 21 = .ok (.iconst 4, 1) := by decide +kernel
theorem dX7_mostSky_22 : decode cX7_mostSky 22 = .ok (.if_icmp .ne 8, 3) := by decide +kernel
theorem dX7_mostSky_25 : decode cX7_mostSky 25 = .ok (.bipush 60, 2) := by decide +kernel
theorem dX7_mostSky_27 : decode cX7_mostSky 27 = .ok (.goto 5, 3) := by decide +kernel
theorem dX7_mostSky_30 : decode cX7_mostSky 30 = .ok (.bipush 99, 2) := by decide +kernel
theorem dX7_mostSky_32 : decode cX7_mostSky 32 = .ok (.ireturn, 1) := by decide +kernel
theorem dX7_sky_0 : decode cX7_sky 0 = .ok (.iload_n 1, 1) := by decide +kernel
theorem dX7_sky_1 : decode cX7_sky 1 = .ok (.i2l, 1) := by decide +kernel
theorem dX7_sky_2 : decode cX7_sky 2 = .ok (.lconst 0, 1) := by decide +kernel
theorem dX7_sky_3 : decode cX7_sky 3 = .ok (.ldc2_w 107, 3) := by decide +kernel
theorem dX7_sky_6 : decode cX7_sky 6 = .ok (.invokestatic 65, 3) := by decide +kernel
theorem dX7_sky_9 : decode cX7_sky 9 = .ok (.ifCond .eq 28, 3) := by decide +kernel
theorem dX7_sky_12 : decode cX7_sky 12 = .ok (.iload_n 2, 1) := by decide +kernel
theorem dX7_sky_13 : decode cX7_sky 13 = .ok (.i2l, 1) := by decide +kernel
theorem dX7_sky_14 : decode cX7_sky 14 = .ok (.lconst 0, 1) := by decide +kernel
theorem dX7_sky_15 : decode cX7_sky 15 = .ok (.iload_n 1, 1) := by decide +kernel
theorem dX7_sky_16 : decode cX7_sky 16 = .ok (.invokestatic 113, 3) := by decide +kernel
theorem dX7_sky_19 : decode cX7_sky 19 = .ok (.i2l, 1) := by decide +kernel
theorem dX7_sky_20 : decode cX7_sky 20 = .ok (.invokestatic 65, 3) := by decide +kernel
theorem dX7_sky_23 : decode cX7_sky 23 = .ok (.ifCond .eq 14, 3) := by decide +kernel
theorem dX7_sky_26 : decode cX7_sky 26 = .ok (.aload_n 0, 1) := by decide +kernel
theorem dX7_sky_27 : decode cX7_sky 27 = .ok (.iconst 3, 1) := by decide +kernel
theorem dX7_sky_28 : decode cX7_sky 28 = .ok (.iload_n 1, 1) := by decide +kernel
theorem dX7_sky_29 : decode cX7_sky 29 = .ok (.iadd, 1) := by decide +kernel
theorem dX7_sky_30 : decode cX7_sky 30 = .ok (.iload_n 2, 1) := by decide +kernel
theorem dX7_sky_31 : decode cX7_sky 31 = .ok (.invokevirtual 109, 3) := by decide +kernel
theorem dX7_sky_34 : decode cX7_sky 34 = .ok (.goto 9, 3) := by decide +kernel
theorem dX7_sky_37 : decode cX7_sky 37 = .ok (.aload_n 0, 1) := by decide +kernel
theorem dX7_sky_38 : decode cX7_sky 38 = .ok (.ldc 54, 2) := by decide +kernel
theorem dX7_sky_40 : decode cX7_sky 40 = .ok (.invokevirtual 75, 3) := by decide +kernel
theorem dX7_sky_43 : decode cX7_sky 43 = .ok (.ireturn, 1) := by decide +kernel
theorem dX7_draw_0 : decode cX7_draw 0 = .ok (.iload_n 1, 1) := by decide +kernel
theorem dX7_draw_1 : decode cX7_draw 1 = .ok (.i2l, 1) := by decide +kernel
theorem dX7_draw_2 : decode cX7_draw 2 = .ok (.lconst 0, 1) := by decide +kernel
theorem dX7_draw_3 : decode cX7_draw 3 = .ok (.ldc2_w 73, 3) := by decide +kernel
theorem dX7_draw_6 : decode cX7_draw 6 = .ok (.invokestatic 65, 3) := by decide +kernel
theorem dX7_draw_9 : decode cX7_draw 9 = .ok (.ifCond .eq 13, 3) := by decide +kernel
theorem dX7_draw_12 : decode cX7_draw 12 = .ok (.aload_n 0, 1) := by decide +kernel
theorem dX7_draw_13 : decode cX7_draw 13 = .ok (.bipush 8, 2) := by decide +kernel
theorem dX7_draw_15 : decode cX7_draw 15 = .ok (.iload_n 1, 1) := by decide +kernel
theorem dX7_draw_16 : decode cX7_draw 16 = .ok (.invokevirtual 109, 3) := by decide +kernel
theorem dX7_draw_19 : decode cX7_draw 19 = .ok (.goto 9, 3) := by decide +kernel
theorem dX7_draw_22 : decode cX7_draw 22 = .ok (.aload_n 0, 1) := by decide +kernel
theorem dX7_draw_23 : decode cX7_draw 23 = .ok (.ldc 54, 2) := by decide +kernel
theorem dX7_draw_25 : decode cX7_draw 25 = .ok (.invokevirtual 75, 3) := by decide +kernel
theorem dX7_draw_28 : decode cX7_draw 28 = .ok (.ireturn, 1) := by decide +kernel
theorem dX7_age_0 : decode cX7_age 0 = .ok (.iload_n 1, 1) := by decide +kernel
theorem dX7_age_1 : decode cX7_age 1 = .ok (.i2l, 1) := by decide +kernel
theorem dX7_age_2 : decode cX7_age 2 = .ok (.lconst 1, 1) := by decide +kernel
theorem dX7_age_3 : decode cX7_age 3 = .ok (.ldc2_w 116, 3) := by decide +kernel
theorem dX7_age_6 : decode cX7_age 6 = .ok (.invokestatic 65, 3) := by decide +kernel
theorem dX7_age_9 : decode cX7_age 9 = .ok (.ifCond .ne 10, 3) := by decide +kernel
theorem dX7_age_12 : decode cX7_age 12 = .ok (.aload_n 0, 1) := by decide +kernel
theorem dX7_age_13 : decode cX7_age 13 = .ok (.ldc 54, 2) := by decide +kernel
theorem dX7_age_15 : decode cX7_age 15 = .ok (.invokevirtual 75, 3) := by decide +kernel
theorem dX7_age_18 : decode cX7_age 18 = .ok (.ireturn, 1) := by decide +kernel
theorem dX7_age_19 : decode cX7_age 19 = .ok (.iconst 0, 1) := by decide +kernel
theorem dX7_age_20 : decode cX7_age 20 = .ok (.istore_n 2, 1) := by decide +kernel
theorem dX7_age_21 : decode cX7_age 21 = .ok (.iconst 0, 1) := by decide +kernel
theorem dX7_age_22 : decode cX7_age 22 = .ok (.istore_n 3, 1) := by decide +kernel
theorem dX7_age_23 : decode cX7_age 23 = .ok (.iload_n 3, 1) := by decide +kernel
theorem dX7_age_24 : decode cX7_age 24 = .ok (.iload_n 1, 1) := by decide +kernel
theorem dX7_age_25 : decode cX7_age 25 = .ok (.if_icmp .ge 117, 3) := by decide +kernel
theorem dX7_age_28 : decode cX7_age 28 = .ok (.iconst 0, 1) := by decide +kernel
theorem dX7_age_29 : decode cX7_age 29 = .ok (.istore 4, 2) := by decide +kernel
theorem dX7_age_31 : decode cX7_age 31 = .ok (.iload 4, 2) := by decide +kernel
theorem dX7_age_33 : decode cX7_age 33 = .ok (.aload_n 0, 1) := by decide +kernel
theorem dX7_age_34 : decode cX7_age 34 = .ok (.getfield 7, 3) := by decide +kernel
theorem dX7_age_37 : decode cX7_age 37 = .ok (.iconst 0, 1) := by decide +kernel
theorem dX7_age_38 : decode cX7_age 38 = .ok (.iaload, 1) := by decide +kernel
theorem dX7_age_39 : decode cX7_age 39 = .ok (.if_icmp .ge 97, 3) := by decide +kernel
theorem dX7_age_42 : decode cX7_age 42 = .ok (.aload_n 0, 1) := by decide +kernel
theorem dX7_age_43 : decode cX7_age 43 = .ok (.iload 4, 2) := by decide +kernel
theorem dX7_age_45 : decode cX7_age 45 = .ok (.invokevirtual 84, 3) := by decide +kernel
theorem dX7_age_48 : decode cX7_age 48 = .ok (.ifCond .eq 82, 3) := by decide +kernel
theorem dX7_age_51 : decode cX7_age 51 = .ok (.aload_n 0, 1) := by decide +kernel
theorem dX7_age_52 : decode cX7_age 52 = .ok (.iload 4, 2) := by decide +kernel
theorem dX7_age_54 : decode cX7_age 54 = .ok (.iconst 4, 1) := by decide +kernel
theorem dX7_age_55 : decode cX7_age 55 = .ok (.invokevirtual 55, 3) := by decide +kernel
theorem dX7_age_58 : decode cX7_age 58 = .ok (.aload_n 0, 1) := by decide +kernel
theorem dX7_age_59 : decode cX7_age 59 = .ok (.getfield 7, 3) := by decide +kernel
theorem dX7_age_62 : decode cX7_age 62 = .ok (.iconst 5, 1) := by decide +kernel
theorem dX7_age_63 : decode cX7_age 63 = .ok (.iaload, 1) := by decide +kernel
theorem dX7_age_64 : decode cX7_age 64 = .ok (.iconst 4, 1) := by decide +kernel
theorem dX7_age_65 : decode cX7_age 65 = .ok (.if_icmp .le 7, 3) := by decide +kernel
theorem dX7_age_68 : decode cX7_age 68 = .ok (.iconst 2, 1) := by decide +kernel
theorem dX7_age_69 : decode cX7_age 69 = .ok (.goto 4, 3) := by decide +kernel
theorem dX7_age_72 : decode cX7_age 72 = .ok (.iconst 1, 1) := by decide +kernel
theorem dX7_age_73 : decode cX7_age 73 = .ok (.iadd, 1) := by decide +kernel
theorem dX7_age_74 : decode cX7_age 74 = .ok (.istore 5, 2) := by decide +kernel
theorem dX7_age_76 : decode cX7_age 76 = .ok (.aload_n 0, 1) := by decide +kernel
theorem dX7_age_77 : decode cX7_age 77 = .ok (.iload 4, 2) := by decide +kernel
theorem dX7_age_79 : decode cX7_age 79 = .ok (.iconst 4, 1) := by decide +kernel
theorem dX7_age_80 : decode cX7_age 80 = .ok (.iload 5, 2) := by decide +kernel
theorem dX7_age_82 : decode cX7_age 82 = .ok (.bipush 99, 2) := by decide +kernel
theorem dX7_age_84 : decode cX7_age 84 = .ok (.if_icmp .le 7, 3) := by decide +kernel
theorem dX7_age_87 : decode cX7_age 87 = .ok (.iconst 0, 1) := by decide +kernel
theorem dX7_age_88 : decode cX7_age 88 = .ok (.goto 5, 3) := by decide +kernel
theorem dX7_age_91 : decode cX7_age 91 = .ok (.iload 5, 2) := by decide +kernel
theorem dX7_age_93 : decode cX7_age 93 = .ok (.invokevirtual 59, 3) := by decide +kernel
theorem dX7_age_96 : decode cX7_age 96 = .ok (.aload_n 0, 1) := by decide +kernel
theorem dX7_age_97 : decode cX7_age 97 = .ok (.iload 4, 2) := by decide +kernel
theorem dX7_age_99 : decode cX7_age 99 = .ok (.iconst 5, 1) := by decide +kernel
theorem dX7_age_100 : decode cX7_age 100 = .ok (.iload 5, 2) := by decide +kernel
theorem dX7_age_102 : decode cX7_age 102 = .ok (.bipush 99, 2) := by decide +kernel
theorem dX7_age_104 : decode cX7_age 104 = .ok (.if_icmp .le 7, 3) := by decide +kernel
theorem dX7_age_107 : decode cX7_age 107 = .ok (.iconst 0, 1) := by decide +kernel
theorem dX7_age_108 : decode cX7_age 108 = .ok (.goto 4, 3) := by decide +kernel
theorem dX7_age_111 : decode cX7_age 111 = .ok (.iconst 1, 1) := by decide +kernel
theorem dX7_age_112 : decode cX7_age 112 = .ok (.invokevirtual 59, 3) := by decide +kernel
theorem dX7_age_115 : decode cX7_age 115 = .ok (.iload_n 2, 1) := by decide +kernel
theorem dX7_age_116 : decode cX7_age 116 = .ok (.iload 5, 2) := by decide +kernel
theorem dX7_age_118 : decode cX7_age 118 = .ok (.bipush 99, 2) := by decide +kernel
theorem dX7_age_120 : decode cX7_age 120 = .ok (.if_icmp .le 7, 3) := by decide +kernel
theorem dX7_age_123 : decode cX7_age 123 = .ok (.iconst 1, 1) := by decide +kernel
theorem dX7_age_124 : decode cX7_age 124 = .ok (.goto 4, 3) := by decide +kernel
theorem dX7_age_127 : decode cX7_age 127 = .ok (.iconst 0, 1) := by decide +kernel
theorem dX7_age_128 : decode cX7_age 128 = .ok (.iadd, 1) := by decide +kernel
theorem dX7_age_129 : decode cX7_age 129 = .ok (.istore_n 2, 1) := by decide +kernel
theorem dX7_age_130 : decode cX7_age 130 = .ok (.iinc 4 1, 3) := by decide +kernel
theorem dX7_age_133 : decode cX7_age 133 = .ok (.goto (-102), 3) := by decide +kernel
theorem dX7_age_136 : decode cX7_age 136 = .ok (.iinc 3 1, 3) := by decide +kernel
theorem dX7_age_139 : decode cX7_age 139 = .ok (.goto (-116), 3) := by decide +kernel
theorem dX7_age_142 : decode cX7_age 142 = .ok (.iload_n 2, 1) := by decide +kernel
theorem dX7_age_143 : decode cX7_age 143 = .ok (.ireturn, 1) := by decide +kernel
theorem dX7_strain_0 : decode cX7_strain 0 = .ok (.iconst 0, 1) := by decide +kernel
theorem dX7_strain_1 : decode cX7_strain 1 = .ok (.istore_n 2, 1) := by decide +kernel
theorem dX7_strain_2 : decode cX7_strain 2 = .ok (.iconst 0, 1) := by decide +kernel
theorem dX7_strain_3 : decode cX7_strain 3 = .ok (.istore_n 3, 1) := by decide +kernel
theorem dX7_strain_4 : decode cX7_strain 4 = .ok (.iload_n 3, 1) := by decide +kernel
theorem dX7_strain_5 : decode cX7_strain 5 = .ok (.aload_n 0, 1) := by decide +kernel
theorem dX7_strain_6 : decode cX7_strain 6 = .ok (.getfield 7, 3) := by decide +kernel
theorem dX7_strain_9 : decode cX7_strain 9 = .ok (.iconst 0, 1) := by decide +kernel
theorem dX7_strain_10 : decode cX7_strain 10 = .ok (.iaload, 1) := by decide +kernel
theorem dX7_strain_11 : decode cX7_strain 11 = .ok (.if_icmp .ge 31, 3) := by decide +kernel
theorem dX7_strain_14 : decode cX7_strain 14 = .ok (.iload_n 2, 1) := by decide +kernel
theorem dX7_strain_15 : decode cX7_strain 15 = .ok (.aload_n 0, 1) := by decide +kernel
theorem dX7_strain_16 : decode cX7_strain 16 = .ok (.iload_n 3, 1) := by decide +kernel
theorem dX7_strain_17 : decode cX7_strain 17 = .ok (.iconst 1, 1) := by decide +kernel
theorem dX7_strain_18 : decode cX7_strain 18 = .ok (.invokevirtual 55, 3) := by decide +kernel
theorem dX7_strain_21 : decode cX7_strain 21 = .ok (.iload_n 1, 1) := by decide +kernel
theorem dX7_strain_22 : decode cX7_strain 22 = .ok (.if_icmp .ne 11, 3) := by decide +kernel
theorem dX7_strain_25 : decode cX7_strain 25 = .ok (.aload_n 0, 1) := by decide +kernel
theorem dX7_strain_26 : decode cX7_strain 26 = .ok (.iload_n 3, 1) := by decide +kernel
theorem dX7_strain_27 : decode cX7_strain 27 = .ok (.invokevirtual 96, 3) := by decide +kernel
theorem dX7_strain_30 : decode cX7_strain 30 = .ok (.goto 4, 3) := by decide +kernel
theorem dX7_strain_33 : decode cX7_strain 33 = .ok (.iconst 0, 1) := by decide +kernel
theorem dX7_strain_34 : decode cX7_strain 34 = .ok (.iadd, 1) := by decide +kernel
theorem dX7_strain_35 : decode cX7_strain 35 = .ok (.istore_n 2, 1) := by decide +kernel
theorem dX7_strain_36 : decode cX7_strain 36 = .ok (.iinc 3 1, 3) := by decide +kernel
theorem dX7_strain_39 : decode cX7_strain 39 = .ok (.goto (-35), 3) := by decide +kernel
theorem dX7_strain_42 : decode cX7_strain 42 = .ok (.iload_n 1, 1) := by decide +kernel
theorem dX7_strain_43 : decode cX7_strain 43 = .ok (.bipush 8, 2) := by decide +kernel
theorem dX7_strain_45 : decode cX7_strain 45 = .ok (.iadd, 1) := by decide +kernel
theorem dX7_strain_46 : decode cX7_strain 46 = .ok (.aload_n 0, 1) := by decide +kernel
theorem dX7_strain_47 : decode cX7_strain 47 = .ok (.getfield 7, 3) := by decide +kernel
theorem dX7_strain_50 : decode cX7_strain 50 = .ok (.iconst 4, 1) := by decide +kernel
theorem dX7_strain_51 : decode cX7_strain 51 = .ok (.iaload, 1) := by decide +kernel
theorem dX7_strain_52 : decode cX7_strain 52 = .ok (.isub, 1) := by decide +kernel
theorem dX7_strain_53 : decode cX7_strain 53 = .ok (.bipush 8, 2) := by decide +kernel
theorem dX7_strain_55 : decode cX7_strain 55 = .ok (.irem, 1) := by decide +kernel
theorem dX7_strain_56 : decode cX7_strain 56 = .ok (.istore_n 3, 1) := by decide +kernel
theorem dX7_strain_57 : decode cX7_strain 57 = .ok (.iload_n 2, 1) := by decide +kernel
theorem dX7_strain_58 : decode cX7_strain 58 = .ok (.iload_n 3, 1) := by decide +kernel
theorem dX7_strain_59 : decode cX7_strain 59 = .ok (.iconst 4, 1) := by decide +kernel
theorem dX7_strain_60 : decode cX7_strain 60 = .ok (.if_icmp .ne 12, 3) := by decide +kernel
theorem dX7_strain_63 : decode cX7_strain 63 = .ok (.aload_n 0, 1) := by decide +kernel
theorem dX7_strain_64 : decode cX7_strain 64 = .ok (.getfield 7, 3) := by decide +kernel
theorem dX7_strain_67 : decode cX7_strain 67 = .ok (.iconst 3, 1) := by decide +kernel
theorem dX7_strain_68 : decode cX7_strain 68 = .ok (.iaload, 1) := by decide +kernel
theorem dX7_strain_69 : decode cX7_strain 69 = .ok (.goto 26, 3) := by decide +kernel
theorem dX7_strain_72 : decode cX7_strain 72 = .ok (.iload_n 3, 1) := by decide +kernel
theorem dX7_strain_73 : decode cX7_strain 73 = .ok (.ifCond .ne 14, 3) := by decide +kernel
theorem dX7_strain_76 : decode cX7_strain 76 = .ok (.aload_n 0, 1) := by decide +kernel
theorem dX7_strain_77 : decode cX7_strain 77 = .ok (.getfield 7, 3) := by decide +kernel
theorem dX7_strain_80 : decode cX7_strain 80 = .ok (.iconst 3, 1) := by decide +kernel
theorem dX7_strain_81 : decode cX7_strain 81 = .ok (.iaload, 1) := by decide +kernel
theorem dX7_strain_82 : decode cX7_strain 82 = .ok (.iconst 2, 1) := by decide +kernel
theorem dX7_strain_83 : decode cX7_strain 83 = .ok (.idiv, 1) := by decide +kernel
theorem dX7_strain_84 : decode cX7_strain 84 = .ok (.goto 11, 3) := by decide +kernel
theorem dX7_strain_87 : decode cX7_strain 87 = .ok (.aload_n 0, 1) := by decide +kernel
theorem dX7_strain_88 : decode cX7_strain 88 = .ok (.getfield 7, 3) := by decide +kernel
theorem dX7_strain_91 : decode cX7_strain 91 = .ok (.iconst 3, 1) := by decide +kernel
theorem dX7_strain_92 : decode cX7_strain 92 = .ok (.iaload, 1) := by decide +kernel
theorem dX7_strain_93 : decode cX7_strain 93 = .ok (.iconst 4, 1) := by decide +kernel
theorem dX7_strain_94 : decode cX7_strain 94 = .ok (.idiv, 1) := by decide +kernel
theorem dX7_strain_95 : decode cX7_strain 95 = .ok (.iadd, 1) := by decide +kernel
theorem dX7_strain_96 : decode cX7_strain 96 = .ok (.ireturn, 1) := by decide +kernel
theorem dX7_ownHold_0 : decode cX7_ownHold 0 = .ok (.iconst 0, 1) := by decide +kernel
theorem dX7_ownHold_1 : decode cX7_ownHold 1 = .ok (.istore_n 2, 1) := by decide +kernel
theorem dX7_ownHold_2 : decode cX7_ownHold 2 = .ok (.iconst 0, 1) := by decide +kernel
theorem dX7_ownHold_3 : decode cX7_ownHold 3 = .ok (.istore_n 3, 1) := by decide +kernel
theorem dX7_ownHold_4 : decode cX7_ownHold 4 = .ok (.iload_n 3, 1) := by decide +kernel
theorem dX7_ownHold_5 : decode cX7_ownHold 5 = .ok (.aload_n 0, 1) := by decide +kernel
theorem dX7_ownHold_6 : decode cX7_ownHold 6 = .ok (.getfield 7, 3) := by decide +kernel
theorem dX7_ownHold_9 : decode cX7_ownHold 9 = .ok (.iconst 0, 1) := by decide +kernel
theorem dX7_ownHold_10 : decode cX7_ownHold 10 = .ok (.iaload, 1) := by decide +kernel
theorem dX7_ownHold_11 : decode cX7_ownHold 11 = .ok (.if_icmp .ge 31, 3) := by decide +kernel
theorem dX7_ownHold_14 : decode cX7_ownHold 14 = .ok (.iload_n 2, 1) := by decide +kernel
theorem dX7_ownHold_15 : decode cX7_ownHold 15 = .ok (.aload_n 0, 1) := by decide +kernel
theorem dX7_ownHold_16 : decode cX7_ownHold 16 = .ok (.iload_n 3, 1) := by decide +kernel
theorem dX7_ownHold_17 : decode cX7_ownHold 17 = .ok (.iconst 1, 1) := by decide +kernel
theorem dX7_ownHold_18 : decode cX7_ownHold 18 = .ok (.invokevirtual 55, 3) := by decide +kernel
theorem dX7_ownHold_21 : decode cX7_ownHold 21 = .ok (.iload_n 1, 1) := by decide +kernel
theorem dX7_ownHold_22 : decode cX7_ownHold 22 = .ok (.if_icmp .ne 11, 3) := by decide +kernel
theorem dX7_ownHold_25 : decode cX7_ownHold 25 = .ok (.aload_n 0, 1) := by decide +kernel
theorem dX7_ownHold_26 : decode cX7_ownHold 26 = .ok (.iload_n 3, 1) := by decide +kernel
theorem dX7_ownHold_27 : decode cX7_ownHold 27 = .ok (.invokevirtual 99, 3) := by decide +kernel
theorem dX7_ownHold_30 : decode cX7_ownHold 30 = .ok (.goto 4, 3) := by decide +kernel
theorem dX7_ownHold_33 : decode cX7_ownHold 33 = .ok (.iconst 0, 1) := by decide +kernel
theorem dX7_ownHold_34 : decode cX7_ownHold 34 = .ok (.iadd, 1) := by decide +kernel
theorem dX7_ownHold_35 : decode cX7_ownHold 35 = .ok (.istore_n 2, 1) := by decide +kernel
theorem dX7_ownHold_36 : decode cX7_ownHold 36 = .ok (.iinc 3 1, 3) := by decide +kernel
theorem dX7_ownHold_39 : decode cX7_ownHold 39 = .ok (.goto (-35), 3) := by decide +kernel
theorem dX7_ownHold_42 : decode cX7_ownHold 42 = .ok (.iload_n 2, 1) := by decide +kernel
theorem dX7_ownHold_43 : decode cX7_ownHold 43 = .ok (.ireturn, 1) := by decide +kernel
theorem dX7_holdOf_0 : decode cX7_holdOf 0 = .ok (.aload_n 0, 1) := by decide +kernel
theorem dX7_holdOf_1 : decode cX7_holdOf 1 = .ok (.iload_n 1, 1) := by decide +kernel
theorem dX7_holdOf_2 : decode cX7_holdOf 2 = .ok (.invokevirtual 118, 3) := by decide +kernel
theorem dX7_holdOf_5 : decode cX7_holdOf 5 = .ok (.aload_n 0, 1) := by decide +kernel
theorem dX7_holdOf_6 : decode cX7_holdOf 6 = .ok (.iload_n 1, 1) := by decide +kernel
theorem dX7_holdOf_7 : decode cX7_holdOf 7 = .ok (.iconst 1, 1) := by decide +kernel
theorem dX7_holdOf_8 : decode cX7_holdOf 8 = .ok (.iadd, 1) := by decide +kernel
theorem dX7_holdOf_9 : decode cX7_holdOf 9 = .ok (.bipush 8, 2) := by decide +kernel
theorem dX7_holdOf_11 : decode cX7_holdOf 11 = .ok (.irem, 1) := by decide +kernel
theorem dX7_holdOf_12 : decode cX7_holdOf 12 = .ok (.invokevirtual 118, 3) := by decide +kernel
theorem dX7_holdOf_15 : decode cX7_holdOf 15 = .ok (.aload_n 0, 1) := by decide +kernel
theorem dX7_holdOf_16 : decode cX7_holdOf 16 = .ok (.iload_n 1, 1) := by decide +kernel
theorem dX7_holdOf_17 : decode cX7_holdOf 17 = .ok (.bipush 7, 2) := by decide +kernel
theorem dX7_holdOf_19 : decode cX7_holdOf 19 = .ok (.iadd, 1) := by decide +kernel
theorem dX7_holdOf_20 : decode cX7_holdOf 20 = .ok (.bipush 8, 2) := by decide +kernel
theorem dX7_holdOf_22 : decode cX7_holdOf 22 = .ok (.irem, 1) := by decide +kernel
theorem dX7_holdOf_23 : decode cX7_holdOf 23 = .ok (.invokevirtual 118, 3) := by decide +kernel
theorem dX7_holdOf_26 : decode cX7_holdOf 26 = .ok (.iadd, 1) := by decide +kernel
theorem dX7_holdOf_27 : decode cX7_holdOf 27 = .ok (.iconst 2, 1) := by decide +kernel
theorem dX7_holdOf_28 : decode cX7_holdOf 28 = .ok (.idiv, 1) := by decide +kernel
theorem dX7_holdOf_29 : decode cX7_holdOf 29 = .ok (.iadd, 1) := by decide +kernel
theorem dX7_holdOf_30 : decode cX7_holdOf 30 = .ok (.ireturn, 1) := by decide +kernel
theorem dX7_spare_0 : decode cX7_spare 0 = .ok (.aload_n 0, 1) := by decide +kernel
theorem dX7_spare_1 : decode cX7_spare 1 = .ok (.iload_n 1, 1) := by decide +kernel
theorem dX7_spare_2 : decode cX7_spare 2 = .ok (.invokevirtual 121, 3) := by decide +kernel
theorem dX7_spare_5 : decode cX7_spare 5 = .ok (.aload_n 0, 1) := by decide +kernel
theorem dX7_spare_6 : decode cX7_spare 6 = .ok (.iload_n 1, 1) := by decide +kernel
theorem dX7_spare_7 : decode cX7_spare 7 = .ok (.invokevirtual 124, 3) := by decide +kernel
theorem dX7_spare_10 : decode cX7_spare 10 = .ok (.isub, 1) := by decide +kernel
theorem dX7_spare_11 : decode cX7_spare 11 = .ok (.ireturn, 1) := by decide +kernel
theorem dX7_side_0 : decode cX7_side 0 = .ok (.iload_n 1, 1) := by decide +kernel
theorem dX7_side_1 : decode cX7_side 1 = .ok (.i2l, 1) := by decide +kernel
theorem dX7_side_2 : decode cX7_side 2 = .ok (.lconst 0, 1) := by decide +kernel
theorem dX7_side_3 : decode cX7_side 3 = .ok (.ldc2_w 69, 3) := by decide +kernel
theorem dX7_side_6 : decode cX7_side 6 = .ok (.invokestatic 65, 3) := by decide +kernel
theorem dX7_side_9 : decode cX7_side 9 = .ok (.ifCond .eq 15, 3) := by decide +kernel
theorem dX7_side_12 : decode cX7_side 12 = .ok (.iload_n 2, 1) := by decide +kernel
theorem dX7_side_13 : decode cX7_side 13 = .ok (.i2l, 1) := by decide +kernel
theorem dX7_side_14 : decode cX7_side 14 = .ok (.lconst 0, 1) := by decide +kernel
theorem dX7_side_15 : decode cX7_side 15 = .ok (.ldc2_w 105, 3) := by decide +kernel
theorem dX7_side_18 : decode cX7_side 18 = .ok (.invokestatic 65, 3) := by decide +kernel
theorem dX7_side_21 : decode cX7_side 21 = .ok (.ifCond .ne 10, 3) := by decide +kernel
theorem dX7_side_24 : decode cX7_side 24 = .ok (.aload_n 0, 1) := by decide +kernel
theorem dX7_side_25 : decode cX7_side 25 = .ok (.ldc 54, 2) := by decide +kernel
theorem dX7_side_27 : decode cX7_side 27 = .ok (.invokevirtual 75, 3) := by decide +kernel
theorem dX7_side_30 : decode cX7_side 30 = .ok (.ireturn, 1) := by decide +kernel
theorem dX7_side_31 : decode cX7_side 31 = .ok (.iload_n 2, 1) := by decide +kernel
theorem dX7_side_32 : decode cX7_side 32 = .ok (.ifCond .ne 11, 3) := by decide +kernel
theorem dX7_side_35 : decode cX7_side 35 = .ok (.aload_n 0, 1) := by decide +kernel
theorem dX7_side_36 : decode cX7_side 36 = .ok (.iload_n 1, 1) := by decide +kernel
theorem dX7_side_37 : decode cX7_side 37 = .ok (.invokevirtual 124, 3) := by decide +kernel
theorem dX7_side_40 : decode cX7_side 40 = .ok (.goto 21, 3) := by decide +kernel
theorem dX7_side_43 : decode cX7_side 43 = .ok (.iload_n 2, 1) := by decide +kernel
theorem dX7_side_44 : decode cX7_side 44 = .ok (.iconst 1, 1) := by decide +kernel
theorem dX7_side_45 : decode cX7_side 45 = .ok (.if_icmp .ne 11, 3) := by decide +kernel
theorem dX7_side_48 : decode cX7_side 48 = .ok (.aload_n 0, 1) := by decide +kernel
theorem dX7_side_49 : decode cX7_side 49 = .ok (.iload_n 1, 1) := by decide +kernel
theorem dX7_side_50 : decode cX7_side 50 = .ok (.invokevirtual 121, 3) := by decide +kernel
theorem dX7_side_53 : decode cX7_side 53 = .ok (.goto 8, 3) := by decide +kernel
theorem dX7_side_56 : decode cX7_side 56 = .ok (.aload_n 0, 1) := by decide +kernel
theorem dX7_side_57 : decode cX7_side 57 = .ok (.iload_n 1, 1) := by decide +kernel
theorem dX7_side_58 : decode cX7_side 58 = .ok (.invokevirtual 127, 3) := by decide +kernel
theorem dX7_side_61 : decode cX7_side 61 = .ok (.ireturn, 1) := by decide +kernel
theorem dX7_isStanding_0 : decode cX7_isStanding 0 = .ok (.iconst 0, 1) := by decide +kernel
theorem dX7_isStanding_1 : decode cX7_isStanding 1 = .ok (.istore_n 1, 1) := by decide +kernel
theorem dX7_isStanding_2 : decode cX7_isStanding 2 = .ok (.iconst 0, 1) := by decide +kernel
theorem dX7_isStanding_3 : decode cX7_isStanding 3 = .ok (.istore_n 2, 1) := by decide +kernel
theorem dX7_isStanding_4 : decode cX7_isStanding 4 = .ok (.iload_n 2, 1) := by decide +kernel
theorem dX7_isStanding_5 : decode cX7_isStanding 5 = .ok (.aload_n 0, 1) := by decide +kernel
theorem dX7_isStanding_6 : decode cX7_isStanding 6 = .ok (.getfield 7, 3) := by decide +kernel
theorem dX7_isStanding_9 : decode cX7_isStanding 9 = .ok (.iconst 0, 1) := by decide +kernel
theorem dX7_isStanding_10 : decode cX7_isStanding 10 = .ok (.iaload, 1) := by decide +kernel
theorem dX7_isStanding_11 : decode cX7_isStanding 11 = .ok (.if_icmp .ge 85, 3) := by decide +kernel
theorem dX7_isStanding_14 : decode cX7_isStanding 14 = .ok (.aload_n 0, 1) := by decide +kernel
theorem dX7_isStanding_15 : decode cX7_isStanding 15 = .ok (.iload_n 2, 1) := by decide +kernel
theorem dX7_isStanding_16 : decode cX7_isStanding 16 = .ok (.iconst 0, 1) := by decide +kernel
theorem dX7_isStanding_17 : decode cX7_isStanding 17 = .ok (.invokevirtual 55, 3) := by decide +kernel
theorem dX7_isStanding_20 : decode cX7_isStanding 20 = .ok (.istore_n 3, 1) := by decide +kernel
theorem dX7_isStanding_21 : decode cX7_isStanding 21 = .ok (.iload_n 3, 1) := by decide +kernel
theorem dX7_isStanding_22 : decode cX7_isStanding 22 = .ok (.iconst 2, 1) := by decide +kernel
theorem dX7_isStanding_23 : decode cX7_isStanding 23 = .ok (.if_icmp .eq 9, 3) := by decide +kernel
theorem dX7_isStanding_26 : decode cX7_isStanding 26 = .ok (.iload_n 3, 1) := by decide +kernel
theorem dX7_isStanding_27 : decode cX7_isStanding 27 = .ok (.bipush 6, 2) := by decide +kernel
theorem dX7_isStanding_29 : decode cX7_isStanding 29 = .ok (.if_icmp .ne 33, 3) := by decide +kernel
theorem dX7_isStanding_32 : decode cX7_isStanding 32 = .ok (.aload_n 0, 1) := by decide +kernel
theorem dX7_isStanding_33 : decode cX7_isStanding 33 = .ok (.iload_n 2, 1) := by decide +kernel
theorem dX7_isStanding_34 : decode cX7_isStanding 34 = .ok (.invokevirtual 84, 3) := by decide +kernel
theorem dX7_isStanding_37 : decode cX7_isStanding 37 = .ok (.ifCond .eq 25, 3) := by decide +kernel
theorem dX7_isStanding_40 : decode cX7_isStanding 40 = .ok (.aload_n 0, 1) := by decide +kernel
theorem dX7_isStanding_41 : decode cX7_isStanding 41 = .ok (.getfield 7, 3) := by decide +kernel
theorem dX7_isStanding_44 : decode cX7_isStanding 44 = .ok (.bipush 8, 2) := by decide +kernel
theorem dX7_isStanding_46 : decode cX7_isStanding 46 = .ok (.iaload, 1) := by decide +kernel
theorem dX7_isStanding_47 : decode cX7_isStanding 47 = .ok (.aload_n 0, 1) := by decide +kernel
theorem dX7_isStanding_48 : decode cX7_isStanding 48 = .ok (.iload_n 2, 1) := by decide +kernel
theorem dX7_isStanding_49 : decode cX7_isStanding 49 = .ok (.invokevirtual 88, 3) := by decide +kernel
theorem dX7_isStanding_52 : decode cX7_isStanding 52 = .ok (.iconst 2, 1) := by decide +kernel
theorem dX7_isStanding_53 : decode cX7_isStanding 53 = .ok (.idiv, 1) := by decide +kernel
theorem dX7_isStanding_54 : decode cX7_isStanding 54 = .ok (.bipush 20, 2) := by decide +kernel
theorem dX7_isStanding_56 : decode cX7_isStanding 56 = .ok (.iadd, 1) := by decide +kernel
theorem dX7_isStanding_57 : decode cX7_isStanding 57 = .ok (.if_icmp .le 5, 3) := by decide +kernel
theorem dX7_isStanding_60 : decode cX7_isStanding 60 = .ok (.iconst 0, 1) := by decide +kernel
theorem dX7_isStanding_61 : decode cX7_isStanding 61 = .ok (.ireturn, 1) := by decide +kernel
theorem dX7_isStanding_62 : decode cX7_isStanding 62 = .ok (.iload_n 1, 1) := by decide +kernel
theorem dX7_isStanding_63 : decode cX7_isStanding 63 = .ok (.iload_n 3, 1) := by decide +kernel
theorem dX7_isStanding_64 : decode cX7_isStanding 64 = .ok (.iconst 1, 1) := by decide +kernel
theorem dX7_isStanding_65 : decode cX7_isStanding 65 = .ok (.if_icmp .ne 22, 3) := by decide +kernel
theorem dX7_isStanding_68 : decode cX7_isStanding 68 = .ok (.aload_n 0, 1) := by decide +kernel
theorem dX7_isStanding_69 : decode cX7_isStanding 69 = .ok (.iload_n 2, 1) := by decide +kernel
theorem dX7_isStanding_70 : decode cX7_isStanding 70 = .ok (.invokevirtual 88, 3) := by decide +kernel
theorem dX7_isStanding_73 : decode cX7_isStanding 73 = .ok (.ifCond .le 14, 3) := by decide +kernel
theorem dX7_isStanding_76 : decode cX7_isStanding 76 = .ok (.iconst 1, 1) := by decide +kernel
theorem dX7_isStanding_77 : decode cX7_isStanding 77 = .ok (.aload_n 0, 1) := by decide +kernel
theorem dX7_isStanding_78 : decode cX7_isStanding 78 = .ok (.iload_n 2, 1) := by decide +kernel
theorem dX7_isStanding_79 : decode cX7_isStanding 79 = .ok (.iconst 1, 1) := by decide +kernel
theorem dX7_isStanding_80 : decode cX7_isStanding 80 = .ok (.invokevirtual 55, 3) := by decide +kernel
theorem dX7_isStanding_83 : decode cX7_isStanding 83 = .ok (.ishl, 1) := by decide +kernel
theorem dX7_isStanding_84 : decode cX7_isStanding 84 = .ok (.goto 4, 3) := by decide +kernel
theorem dX7_isStanding_87 : decode cX7_isStanding 87 = .ok (.iconst 0, 1) := by decide +kernel
theorem dX7_isStanding_88 : decode cX7_isStanding 88 = .ok (.ior, 1) := by decide +kernel
theorem dX7_isStanding_89 : decode cX7_isStanding 89 = .ok (.istore_n 1, 1) := by decide +kernel
theorem dX7_isStanding_90 : decode cX7_isStanding 90 = .ok (.iinc 2 1, 3) := by decide +kernel
theorem dX7_isStanding_93 : decode cX7_isStanding 93 = .ok (.goto (-89), 3) := by decide +kernel
theorem dX7_isStanding_96 : decode cX7_isStanding 96 = .ok (.iconst 0, 1) := by decide +kernel
theorem dX7_isStanding_97 : decode cX7_isStanding 97 = .ok (.istore_n 2, 1) := by decide +kernel
theorem dX7_isStanding_98 : decode cX7_isStanding 98 = .ok (.iconst 1, 1) := by decide +kernel
theorem dX7_isStanding_99 : decode cX7_isStanding 99 = .ok (.istore_n 3, 1) := by decide +kernel
theorem dX7_isStanding_100 : decode cX7_isStanding 100 = .ok (.iconst 0, 1) := by decide +kernel
theorem dX7_isStanding_101 : decode cX7_isStanding 101 = .ok (.istore 4, 2) := by decide +kernel
theorem dX7_isStanding_103 : decode cX7_isStanding 103 = .ok (.iload 4, 2) := by decide +kernel
theorem dX7_isStanding_105 : decode cX7_isStanding 105 = .ok (.bipush 8, 2) := by decide +kernel
theorem dX7_isStanding_107 : decode cX7_isStanding 107 = .ok (.if_icmp .ge 37, 3) := by decide +kernel
theorem dX7_isStanding_110 : decode cX7_isStanding 110 = .ok (.iload_n 2, 1) := by decide +kernel
theorem dX7_isStanding_111 : decode cX7_isStanding 111 = .ok (.iload_n 1, 1) := by decide +kernel
theorem dX7_isStanding_112 : decode cX7_isStanding 112 = .ok (.iload 4, 2) := by decide +kernel
theorem dX7_isStanding_114 : decode cX7_isStanding 114 = .ok (.ishr, 1) := by decide +kernel
theorem dX7_isStanding_115 : decode cX7_isStanding 115 = .ok (.iconst 1, 1) := by decide +kernel
theorem dX7_isStanding_116 : decode cX7_isStanding 116 = .ok (.iand, 1) := by decide +kernel
theorem dX7_isStanding_117 : decode cX7_isStanding 117 = .ok (.iadd, 1) := by decide +kernel
theorem dX7_isStanding_118 : decode cX7_isStanding 118 = .ok (.istore_n 2, 1) := by decide +kernel
theorem dX7_isStanding_119 : decode cX7_isStanding 119 = .ok (.iload_n 3, 1) := by decide +kernel
theorem dX7_isStanding_120 : decode cX7_isStanding 120 = .ok (.ifCond .eq 16, 3) := by decide +kernel
theorem dX7_isStanding_123 : decode cX7_isStanding 123 = .ok (.aload_n 0, 1) := by decide +kernel
theorem dX7_isStanding_124 : decode cX7_isStanding 124 = .ok (.iload 4, 2) := by decide +kernel
theorem dX7_isStanding_126 : decode cX7_isStanding 126 = .ok (.invokevirtual 127, 3) := by decide +kernel
theorem dX7_isStanding_129 : decode cX7_isStanding 129 = .ok (.ifCond .lt 7, 3) := by decide +kernel
theorem dX7_isStanding_132 : decode cX7_isStanding 132 = .ok (.iconst 1, 1) := by decide +kernel
theorem dX7_isStanding_133 : decode cX7_isStanding 133 = .ok (.goto 4, 3) := by decide +kernel
theorem dX7_isStanding_136 : decode cX7_isStanding 136 = .ok (.iconst 0, 1) := by decide +kernel
theorem dX7_isStanding_137 : decode cX7_isStanding 137 = .ok (.istore_n 3, 1) := by decide +kernel
theorem dX7_isStanding_138 : decode cX7_isStanding 138 = .ok (.iinc 4 1, 3) := by decide +kernel
theorem dX7_isStanding_141 : decode cX7_isStanding 141 = .ok (.goto (-38), 3) := by decide +kernel
theorem dX7_isStanding_144 : decode cX7_isStanding 144 = .ok (.iload_n 3, 1) := by decide +kernel
theorem dX7_isStanding_145 : decode cX7_isStanding 145 = .ok (.ifCond .eq 12, 3) := by decide +kernel
theorem dX7_isStanding_148 : decode cX7_isStanding 148 = .ok (.iload_n 2, 1) := by decide +kernel
theorem dX7_isStanding_149 : decode cX7_isStanding 149 = .ok (.iconst 3, 1) := by decide +kernel
theorem dX7_isStanding_150 : decode cX7_isStanding 150 = .ok (.if_icmp .lt 7, 3) := by decide +kernel
theorem dX7_isStanding_153 : decode cX7_isStanding 153 = .ok (.iconst 1, 1) := by decide +kernel
theorem dX7_isStanding_154 : decode cX7_isStanding 154 = .ok (.goto 4, 3) := by decide +kernel
theorem dX7_isStanding_157 : decode cX7_isStanding 157 = .ok (.iconst 0, 1) := by decide +kernel
theorem dX7_isStanding_158 : decode cX7_isStanding 158 = .ok (.ireturn, 1) := by decide +kernel
theorem dX7_stands_0 : decode cX7_stands 0 = .ok (.aload_n 0, 1) := by decide +kernel
theorem dX7_stands_1 : decode cX7_stands 1 = .ok (.invokevirtual 130, 3) := by decide +kernel
theorem dX7_stands_4 : decode cX7_stands 4 = .ok (.ifCond .eq 7, 3) := by decide +kernel
theorem dX7_stands_7 : decode cX7_stands 7 = .ok (.iconst 1, 1) := by decide +kernel
theorem dX7_stands_8 : decode cX7_stands 8 = .ok (.goto 4, 3) := by decide +kernel
theorem dX7_stands_11 : decode cX7_stands 11 = .ok (.iconst 0, 1) := by decide +kernel
theorem dX7_stands_12 : decode cX7_stands 12 = .ok (.ireturn, 1) := by decide +kernel
theorem dX7_leastSpare_0 : decode cX7_leastSpare 0 = .ok (.iconst 0, 1) := by decide +kernel
theorem dX7_leastSpare_1 : decode cX7_leastSpare 1 = .ok (.istore_n 1, 1) := by decide +kernel
theorem dX7_leastSpare_2 : decode cX7_leastSpare 2 = .ok (.iconst 1, 1) := by decide +kernel
theorem dX7_leastSpare_3 : decode cX7_leastSpare 3 = .ok (.istore_n 2, 1) := by decide +kernel
theorem dX7_leastSpare_4 : decode cX7_leastSpare 4 = .ok (.iload_n 2, 1) := by decide +kernel
theorem dX7_leastSpare_5 : decode cX7_leastSpare 5 = .ok (.bipush 8, 2) := by decide +kernel
theorem dX7_leastSpare_7 : decode cX7_leastSpare 7 = .ok (.if_icmp .ge 28, 3) := by decide +kernel
theorem dX7_leastSpare_10 : decode cX7_leastSpare 10 = .ok (.aload_n 0, 1) := by decide +kernel
theorem dX7_leastSpare_11 : decode cX7_leastSpare 11 = .ok (.iload_n 2, 1) := by decide +kernel
theorem dX7_leastSpare_12 : decode cX7_leastSpare 12 = .ok (.invokevirtual 127, 3) := by decide +kernel
theorem dX7_leastSpare_15 : decode cX7_leastSpare 15 = .ok (.aload_n 0, 1) := by decide +kernel
theorem dX7_leastSpare_16 : decode cX7_leastSpare 16 = .ok (.iload_n 1, 1) := by decide +kernel
theorem dX7_leastSpare_17 : decode cX7_leastSpare 17 = .ok (.invokevirtual 127, 3) := by decide +kernel
theorem dX7_leastSpare_20 : decode cX7_leastSpare 20 = .ok (.if_icmp .ge 7, 3) := by decide +kernel
theorem dX7_leastSpare_23 : decode cX7_leastSpare 23 = .ok (.iload_n 2, 1) := by decide +kernel
theorem dX7_leastSpare_24 : decode cX7_leastSpare 24 = .ok (.goto 4, 3) := by decide +kernel
theorem dX7_leastSpare_27 : decode cX7_leastSpare 27 = .ok (.iload_n 1, 1) := by decide +kernel
theorem dX7_leastSpare_28 : decode cX7_leastSpare 28 = .ok (.istore_n 1, 1) := by decide +kernel
theorem dX7_leastSpare_29 : decode cX7_leastSpare 29 = .ok (.iinc 2 1, 3) := by decide +kernel
theorem dX7_leastSpare_32 : decode cX7_leastSpare 32 = .ok (.goto (-28), 3) := by decide +kernel
theorem dX7_leastSpare_35 : decode cX7_leastSpare 35 = .ok (.iload_n 1, 1) := by decide +kernel
theorem dX7_leastSpare_36 : decode cX7_leastSpare 36 = .ok (.ireturn, 1) := by decide +kernel
theorem dX7_first_0 : decode cX7_first 0 = .ok (.aload_n 0, 1) := by decide +kernel
theorem dX7_first_1 : decode cX7_first 1 = .ok (.invokevirtual 134, 3) := by decide +kernel
theorem dX7_first_4 : decode cX7_first 4 = .ok (.ireturn, 1) := by decide +kernel
theorem dX7_gust_0 : decode cX7_gust 0 = .ok (.aload_n 0, 1) := by decide +kernel
theorem dX7_gust_1 : decode cX7_gust 1 = .ok (.getfield 7, 3) := by decide +kernel
theorem dX7_gust_4 : decode cX7_gust 4 = .ok (.iconst 3, 1) := by decide +kernel
theorem dX7_gust_5 : decode cX7_gust 5 = .ok (.iaload, 1) := by decide +kernel
theorem dX7_gust_6 : decode cX7_gust 6 = .ok (.istore_n 1, 1) := by decide +kernel
theorem dX7_gust_7 : decode cX7_gust 7 = .ok (.iconst (-1), 1) := by decide +kernel
theorem dX7_gust_8 : decode cX7_gust 8 = .ok (.istore_n 2, 1) := by decide +kernel
theorem dX7_gust_9 : decode cX7_gust 9 = .ok (.iconst 0, 1) := by decide +kernel
theorem dX7_gust_10 : decode cX7_gust 10 = .ok (.istore_n 3, 1) := by decide +kernel
theorem dX7_gust_11 : decode cX7_gust 11 = .ok (.iload_n 3, 1) := by decide +kernel
theorem dX7_gust_12 : decode cX7_gust 12 = .ok (.bipush 100, 2) := by decide +kernel
theorem dX7_gust_14 : decode cX7_gust 14 = .ok (.if_icmp .ge 33, 3) := by decide +kernel
theorem dX7_gust_17 : decode cX7_gust 17 = .ok (.iload_n 2, 1) := by decide +kernel
theorem dX7_gust_18 : decode cX7_gust 18 = .ok (.ifCond .ge 29, 3) := by decide +kernel
theorem dX7_gust_21 : decode cX7_gust 21 = .ok (.aload_n 0, 1) := by decide +kernel
theorem dX7_gust_22 : decode cX7_gust 22 = .ok (.getfield 7, 3) := by decide +kernel
theorem dX7_gust_25 : decode cX7_gust 25 = .ok (.iconst 3, 1) := by decide +kernel
theorem dX7_gust_26 : decode cX7_gust 26 = .ok (.iload_n 3, 1) := by decide +kernel
theorem dX7_gust_27 : decode cX7_gust 27 = .ok (.iastore, 1) := by decide +kernel
theorem dX7_gust_28 : decode cX7_gust 28 = .ok (.aload_n 0, 1) := by decide +kernel
theorem dX7_gust_29 : decode cX7_gust 29 = .ok (.invokevirtual 130, 3) := by decide +kernel
theorem dX7_gust_32 : decode cX7_gust 32 = .ok (.ifCond .eq 7, 3) := by decide +kernel
theorem dX7_gust_35 : decode cX7_gust 35 = .ok (.iconst (-1), 1) := by decide +kernel
theorem dX7_gust_36 : decode cX7_gust 36 = .ok (.goto 4, 3) := by decide +kernel
theorem dX7_gust_39 : decode cX7_gust 39 = .ok (.iload_n 3, 1) := by decide +kernel
theorem dX7_gust_40 : decode cX7_gust 40 = .ok (.istore_n 2, 1) := by decide +kernel
theorem dX7_gust_41 : decode cX7_gust 41 = .ok (.iinc 3 1, 3) := by decide +kernel
theorem dX7_gust_44 : decode cX7_gust 44 = .ok (.goto (-33), 3) := by decide +kernel
theorem dX7_gust_47 : decode cX7_gust 47 = .ok (.aload_n 0, 1) := by decide +kernel
theorem dX7_gust_48 : decode cX7_gust 48 = .ok (.getfield 7, 3) := by decide +kernel
theorem dX7_gust_51 : decode cX7_gust 51 = .ok (.iconst 3, 1) := by decide +kernel
theorem dX7_gust_52 : decode cX7_gust 52 = .ok (.iload_n 1, 1) := by decide +kernel
theorem dX7_gust_53 : decode cX7_gust 53 = .ok (.iastore, 1) := by decide +kernel
theorem dX7_gust_54 : decode cX7_gust 54 = .ok (.iload_n 2, 1) := by decide +kernel
theorem dX7_gust_55 : decode cX7_gust 55 = .ok (.ifCond .ge 12, 3) := by decide +kernel
theorem dX7_gust_58 : decode cX7_gust 58 = .ok (.aload_n 0, 1) := by decide +kernel
theorem dX7_gust_59 : decode cX7_gust 59 = .ok (.ldc 138, 2) := by decide +kernel
theorem dX7_gust_61 : decode cX7_gust 61 = .ok (.invokevirtual 75, 3) := by decide +kernel
theorem dX7_gust_64 : decode cX7_gust 64 = .ok (.goto 4, 3) := by decide +kernel
theorem dX7_gust_67 : decode cX7_gust 67 = .ok (.iload_n 2, 1) := by decide +kernel
theorem dX7_gust_68 : decode cX7_gust 68 = .ok (.ireturn, 1) := by decide +kernel
theorem dX7_canWant_0 : decode cX7_canWant 0 = .ok (.iconst 0, 1) := by decide +kernel
theorem dX7_canWant_1 : decode cX7_canWant 1 = .ok (.istore_n 1, 1) := by decide +kernel
theorem dX7_canWant_2 : decode cX7_canWant 2 = .ok (.iconst 0, 1) := by decide +kernel
theorem dX7_canWant_3 : decode cX7_canWant 3 = .ok (.istore_n 2, 1) := by decide +kernel
theorem dX7_canWant_4 : decode cX7_canWant 4 = .ok (.iload_n 2, 1) := by decide +kernel
theorem dX7_canWant_5 : decode cX7_canWant 5 = .ok (.aload_n 0, 1) := by decide +kernel
theorem dX7_canWant_6 : decode cX7_canWant 6 = .ok (.getfield 7, 3) := by decide +kernel
theorem dX7_canWant_9 : decode cX7_canWant 9 = .ok (.iconst 0, 1) := by decide +kernel
theorem dX7_canWant_10 : decode cX7_canWant 10 = .ok (.iaload, 1) := by decide +kernel
theorem dX7_canWant_11 : decode cX7_canWant 11 = .ok (.if_icmp .ge 48, 3) := by decide +kernel
theorem dX7_canWant_14 : decode cX7_canWant 14 = .ok (.aload_n 0, 1) := by decide +kernel
theorem dX7_canWant_15 : decode cX7_canWant 15 = .ok (.iload_n 2, 1) := by decide +kernel
theorem dX7_canWant_16 : decode cX7_canWant 16 = .ok (.invokevirtual 84, 3) := by decide +kernel
theorem dX7_canWant_19 : decode cX7_canWant 19 = .ok (.ifCond .eq 34, 3) := by decide +kernel
theorem dX7_canWant_22 : decode cX7_canWant 22 = .ok (.aload_n 0, 1) := by decide +kernel
theorem dX7_canWant_23 : decode cX7_canWant 23 = .ok (.iload_n 2, 1) := by decide +kernel
theorem dX7_canWant_24 : decode cX7_canWant 24 = .ok (.iconst 5, 1) := by decide +kernel
theorem dX7_canWant_25 : decode cX7_canWant 25 = .ok (.iconst 0, 1) := by decide +kernel
theorem dX7_canWant_26 : decode cX7_canWant 26 = .ok (.invokevirtual 59, 3) := by decide +kernel
theorem dX7_canWant_29 : decode cX7_canWant 29 = .ok (.iload_n 1, 1) := by decide +kernel
theorem dX7_canWant_30 : decode cX7_canWant 30 = .ok (.aload_n 0, 1) := by decide +kernel
theorem dX7_canWant_31 : decode cX7_canWant 31 = .ok (.invokevirtual 130, 3) := by decide +kernel
theorem dX7_canWant_34 : decode cX7_canWant 34 = .ok (.ifCond .eq 9, 3) := by decide +kernel
theorem dX7_canWant_37 : decode cX7_canWant 37 = .ok (.iconst 1, 1) := by decide +kernel
theorem dX7_canWant_38 : decode cX7_canWant 38 = .ok (.iload_n 2, 1) := by decide +kernel
theorem dX7_canWant_39 : decode cX7_canWant 39 = .ok (.ishl, 1) := by decide +kernel
theorem dX7_canWant_40 : decode cX7_canWant 40 = .ok (.goto 4, 3) := by decide +kernel
theorem dX7_canWant_43 : decode cX7_canWant 43 = .ok (.iconst 0, 1) := by decide +kernel
theorem dX7_canWant_44 : decode cX7_canWant 44 = .ok (.ior, 1) := by decide +kernel
theorem dX7_canWant_45 : decode cX7_canWant 45 = .ok (.istore_n 1, 1) := by decide +kernel
theorem dX7_canWant_46 : decode cX7_canWant 46 = .ok (.aload_n 0, 1) := by decide +kernel
theorem dX7_canWant_47 : decode cX7_canWant 47 = .ok (.iload_n 2, 1) := by decide +kernel
theorem dX7_canWant_48 : decode cX7_canWant 48 = .ok (.iconst 5, 1) := by decide +kernel
theorem dX7_canWant_49 : decode cX7_canWant 49 = .ok (.iconst 1, 1) := by decide +kernel
theorem dX7_canWant_50 : decode cX7_canWant 50 = .ok (.invokevirtual 59, 3) := by decide +kernel
theorem dX7_canWant_53 : decode cX7_canWant 53 = .ok (.iinc 2 1, 3) := by decide +kernel
theorem dX7_canWant_56 : decode cX7_canWant 56 = .ok (.goto (-52), 3) := by decide +kernel
theorem dX7_canWant_59 : decode cX7_canWant 59 = .ok (.iload_n 1, 1) := by decide +kernel
theorem dX7_canWant_60 : decode cX7_canWant 60 = .ok (.ireturn, 1) := by decide +kernel
theorem dX7_span_0 : decode cX7_span 0 = .ok (.iload_n 1, 1) := by decide +kernel
theorem dX7_span_1 : decode cX7_span 1 = .ok (.i2l, 1) := by decide +kernel
theorem dX7_span_2 : decode cX7_span 2 = .ok (.lconst 0, 1) := by decide +kernel
theorem dX7_span_3 : decode cX7_span 3 = .ok (.lconst 1, 1) := by decide +kernel
theorem dX7_span_4 : decode cX7_span 4 = .ok (.invokestatic 65, 3) := by decide +kernel
theorem dX7_span_7 : decode cX7_span 7 = .ok (.ifCond .ne 10, 3) := by decide +kernel
theorem dX7_span_10 : decode cX7_span 10 = .ok (.aload_n 0, 1) := by decide +kernel
theorem dX7_span_11 : decode cX7_span 11 = .ok (.ldc 54, 2) := by decide +kernel
theorem dX7_span_13 : decode cX7_span 13 = .ok (.invokevirtual 75, 3) := by decide +kernel
theorem dX7_span_16 : decode cX7_span 16 = .ok (.ireturn, 1) := by decide +kernel
theorem dX7_span_17 : decode cX7_span 17 = .ok (.aload_n 0, 1) := by decide +kernel
theorem dX7_span_18 : decode cX7_span 18 = .ok (.getfield 7, 3) := by decide +kernel
theorem dX7_span_21 : decode cX7_span 21 = .ok (.bipush 8, 2) := by decide +kernel
theorem dX7_span_23 : decode cX7_span 23 = .ok (.iaload, 1) := by decide +kernel
theorem dX7_span_24 : decode cX7_span 24 = .ok (.istore_n 2, 1) := by decide +kernel
theorem dX7_span_25 : decode cX7_span 25 = .ok (.iconst (-1), 1) := by decide +kernel
theorem dX7_span_26 : decode cX7_span 26 = .ok (.istore_n 3, 1) := by decide +kernel
theorem dX7_span_27 : decode cX7_span 27 = .ok (.iconst (-1), 1) := by decide +kernel
theorem dX7_span_28 : decode cX7_span 28 = .ok (.istore 4, 2) := by decide +kernel
theorem dX7_span_30 : decode cX7_span 30 = .ok (.iconst 0, 1) := by decide +kernel
theorem dX7_span_31 : decode cX7_span 31 = .ok (.istore 5, 2) := by decide +kernel
theorem dX7_span_33 : decode cX7_span 33 = .ok (.iload 5, 2) := by decide +kernel
theorem dX7_span_35 : decode cX7_span 35 = .ok (.bipush 100, 2) := by decide +kernel
theorem dX7_span_37 : decode cX7_span 37 = .ok (.if_icmp .ge 40, 3) := by decide +kernel
theorem dX7_span_40 : decode cX7_span 40 = .ok (.aload_n 0, 1) := by decide +kernel
theorem dX7_span_41 : decode cX7_span 41 = .ok (.getfield 7, 3) := by decide +kernel
theorem dX7_span_44 : decode cX7_span 44 = .ok (.bipush 8, 2) := by decide +kernel
theorem dX7_span_46 : decode cX7_span 46 = .ok (.iload 5, 2) := by decide +kernel
theorem dX7_span_48 : decode cX7_span 48 = .ok (.iastore, 1) := by decide +kernel
theorem dX7_span_49 : decode cX7_span 49 = .ok (.aload_n 0, 1) := by decide +kernel
theorem dX7_span_50 : decode cX7_span 50 = .ok (.invokevirtual 130, 3) := by decide +kernel
theorem dX7_span_53 : decode cX7_span 53 = .ok (.ifCond .eq 18, 3) := by decide +kernel
theorem dX7_span_56 : decode cX7_span 56 = .ok (.iload_n 3, 1) := by decide +kernel
theorem dX7_span_57 : decode cX7_span 57 = .ok (.ifCond .ge 8, 3) := by decide +kernel
theorem dX7_span_60 : decode cX7_span 60 = .ok (.iload 5, 2) := by decide +kernel
theorem dX7_span_62 : decode cX7_span 62 = .ok (.goto 4, 3) := by decide +kernel
theorem dX7_span_65 : decode cX7_span 65 = .ok (.iload_n 3, 1) := by decide +kernel
theorem dX7_span_66 : decode cX7_span 66 = .ok (.istore_n 3, 1) := by decide +kernel
theorem dX7_span_67 : decode cX7_span 67 = .ok (.iload 5, 2) := by decide +kernel
theorem dX7_span_69 : decode cX7_span 69 = .ok (.istore 4, 2) := by decide +kernel
theorem dX7_span_71 : decode cX7_span 71 = .ok (.iinc 5 1, 3) := by decide +kernel
theorem dX7_span_74 : decode cX7_span 74 = .ok (.goto (-41), 3) := by decide +kernel
theorem dX7_span_77 : decode cX7_span 77 = .ok (.aload_n 0, 1) := by decide +kernel
theorem dX7_span_78 : decode cX7_span 78 = .ok (.getfield 7, 3) := by decide +kernel
theorem dX7_span_81 : decode cX7_span 81 = .ok (.bipush 8, 2) := by decide +kernel
theorem dX7_span_83 : decode cX7_span 83 = .ok (.iload_n 2, 1) := by decide +kernel
theorem dX7_span_84 : decode cX7_span 84 = .ok (.iastore, 1) := by decide +kernel
theorem dX7_span_85 : decode cX7_span 85 = .ok (.iload_n 3, 1) := by decide +kernel
theorem dX7_span_86 : decode cX7_span 86 = .ok (.ifCond .ge 12, 3) := by decide +kernel
theorem dX7_span_89 : decode cX7_span 89 = .ok (.aload_n 0, 1) := by decide +kernel
theorem dX7_span_90 : decode cX7_span 90 = .ok (.ldc 138, 2) := by decide +kernel
theorem dX7_span_92 : decode cX7_span 92 = .ok (.invokevirtual 75, 3) := by decide +kernel
theorem dX7_span_95 : decode cX7_span 95 = .ok (.goto 13, 3) := by decide +kernel
theorem dX7_span_98 : decode cX7_span 98 = .ok (.iload_n 1, 1) := by decide +kernel
theorem dX7_span_99 : decode cX7_span 99 = .ok (.ifCond .ne 7, 3) := by decide +kernel
theorem dX7_span_102 : decode cX7_span 102 = .ok (.iload_n 3, 1) := by decide +kernel
theorem dX7_span_103 : decode cX7_span 103 = .ok (.goto 5, 3) := by decide +kernel
theorem dX7_span_106 : decode cX7_span 106 = .ok (.iload 4, 2) := by decide +kernel
theorem dX7_span_108 : decode cX7_span 108 = .ok (.ireturn, 1) := by decide +kernel
theorem dX7_worst_0 : decode cX7_worst 0 = .ok (.aload_n 0, 1) := by decide +kernel
theorem dX7_worst_1 : decode cX7_worst 1 = .ok (.getfield 7, 3) := by decide +kernel
theorem dX7_worst_4 : decode cX7_worst 4 = .ok (.iconst 4, 1) := by decide +kernel
theorem dX7_worst_5 : decode cX7_worst 5 = .ok (.iaload, 1) := by decide +kernel
theorem dX7_worst_6 : decode cX7_worst 6 = .ok (.istore_n 1, 1) := by decide +kernel
theorem dX7_worst_7 : decode cX7_worst 7 = .ok (.iconst (-1), 1) := by decide +kernel
theorem dX7_worst_8 : decode cX7_worst 8 = .ok (.istore_n 2, 1) := by decide +kernel
theorem dX7_worst_9 : decode cX7_worst 9 = .ok (.iconst 0, 1) := by decide +kernel
theorem dX7_worst_10 : decode cX7_worst 10 = .ok (.istore_n 3, 1) := by decide +kernel
theorem dX7_worst_11 : decode cX7_worst 11 = .ok (.iconst 0, 1) := by decide +kernel
theorem dX7_worst_12 : decode cX7_worst 12 = .ok (.istore 4, 2) := by decide +kernel
theorem dX7_worst_14 : decode cX7_worst 14 = .ok (.iload 4, 2) := by decide +kernel
theorem dX7_worst_16 : decode cX7_worst 16 = .ok (.bipush 8, 2) := by decide +kernel
theorem dX7_worst_18 : decode cX7_worst 18 = .ok (.if_icmp .ge 43, 3) := by decide +kernel
theorem dX7_worst_21 : decode cX7_worst 21 = .ok (.aload_n 0, 1) := by decide +kernel
theorem dX7_worst_22 : decode cX7_worst 22 = .ok (.getfield 7, 3) := by decide +kernel
theorem dX7_worst_25 : decode cX7_worst 25 = .ok (.iconst 4, 1) := by decide +kernel
theorem dX7_worst_26 : decode cX7_worst 26 = .ok (.iload 4, 2) := by decide +kernel
theorem dX7_worst_28 : decode cX7_worst 28 = .ok (.iastore, 1) := by decide +kernel
theorem dX7_worst_29 : decode cX7_worst 29 = .ok (.aload_n 0, 1) := by decide +kernel
theorem dX7_worst_30 : decode cX7_worst 30 = .ok (.aload_n 0, 1) := by decide +kernel
theorem dX7_worst_31 : decode cX7_worst 31 = .ok (.invokevirtual 134, 3) := by decide +kernel
theorem dX7_worst_34 : decode cX7_worst 34 = .ok (.invokevirtual 127, 3) := by decide +kernel
theorem dX7_worst_37 : decode cX7_worst 37 = .ok (.istore 5, 2) := by decide +kernel
theorem dX7_worst_39 : decode cX7_worst 39 = .ok (.iload_n 2, 1) := by decide +kernel
theorem dX7_worst_40 : decode cX7_worst 40 = .ok (.ifCond .lt 9, 3) := by decide +kernel
theorem dX7_worst_43 : decode cX7_worst 43 = .ok (.iload 5, 2) := by decide +kernel
theorem dX7_worst_45 : decode cX7_worst 45 = .ok (.iload_n 3, 1) := by decide +kernel
theorem dX7_worst_46 : decode cX7_worst 46 = .ok (.if_icmp .ge 9, 3) := by decide +kernel
theorem dX7_worst_49 : decode cX7_worst 49 = .ok (.iload 4, 2) := by decide +kernel
theorem dX7_worst_51 : decode cX7_worst 51 = .ok (.istore_n 2, 1) := by decide +kernel
theorem dX7_worst_52 : decode cX7_worst 52 = .ok (.iload 5, 2) := by decide +kernel
theorem dX7_worst_54 : decode cX7_worst 54 = .ok (.istore_n 3, 1) := by decide +kernel
theorem dX7_worst_55 : decode cX7_worst 55 = .ok (.iinc 4 1, 3) := by decide +kernel
theorem dX7_worst_58 : decode cX7_worst 58 = .ok (.goto (-44), 3) := by decide +kernel
theorem dX7_worst_61 : decode cX7_worst 61 = .ok (.aload_n 0, 1) := by decide +kernel
theorem dX7_worst_62 : decode cX7_worst 62 = .ok (.getfield 7, 3) := by decide +kernel
theorem dX7_worst_65 : decode cX7_worst 65 = .ok (.iconst 4, 1) := by decide +kernel
theorem dX7_worst_66 : decode cX7_worst 66 = .ok (.iload_n 1, 1) := by decide +kernel
theorem dX7_worst_67 : decode cX7_worst 67 = .ok (.iastore, 1) := by decide +kernel
theorem dX7_worst_68 : decode cX7_worst 68 = .ok (.iload_n 2, 1) := by decide +kernel
theorem dX7_worst_69 : decode cX7_worst 69 = .ok (.ireturn, 1) := by decide +kernel
theorem dX7_warmthNow_0 : decode cX7_warmthNow 0 = .ok (.iconst 0, 1) := by decide +kernel
theorem dX7_warmthNow_1 : decode cX7_warmthNow 1 = .ok (.istore_n 1, 1) := by decide +kernel
theorem dX7_warmthNow_2 : decode cX7_warmthNow 2 = .ok (.iconst 0, 1) := by decide +kernel
theorem dX7_warmthNow_3 : decode cX7_warmthNow 3 = .ok (.istore_n 2, 1) := by decide +kernel
theorem dX7_warmthNow_4 : decode cX7_warmthNow 4 = .ok (.iload_n 2, 1) := by decide +kernel
theorem dX7_warmthNow_5 : decode cX7_warmthNow 5 = .ok (.aload_n 0, 1) := by decide +kernel
theorem dX7_warmthNow_6 : decode cX7_warmthNow 6 = .ok (.getfield 7, 3) := by decide +kernel
theorem dX7_warmthNow_9 : decode cX7_warmthNow 9 = .ok (.iconst 0, 1) := by decide +kernel
theorem dX7_warmthNow_10 : decode cX7_warmthNow 10 = .ok (.iaload, 1) := by decide +kernel
theorem dX7_warmthNow_11 : decode cX7_warmthNow 11 = .ok (.if_icmp .ge 17, 3) := by decide +kernel
theorem dX7_warmthNow_14 : decode cX7_warmthNow 14 = .ok (.iload_n 1, 1) := by decide +kernel
theorem dX7_warmthNow_15 : decode cX7_warmthNow 15 = .ok (.aload_n 0, 1) := by decide +kernel
theorem dX7_warmthNow_16 : decode cX7_warmthNow 16 = .ok (.iload_n 2, 1) := by decide +kernel
theorem dX7_warmthNow_17 : decode cX7_warmthNow 17 = .ok (.invokevirtual 102, 3) := by decide +kernel
theorem dX7_warmthNow_20 : decode cX7_warmthNow 20 = .ok (.iadd, 1) := by decide +kernel
theorem dX7_warmthNow_21 : decode cX7_warmthNow 21 = .ok (.istore_n 1, 1) := by decide +kernel
theorem dX7_warmthNow_22 : decode cX7_warmthNow 22 = .ok (.iinc 2 1, 3) := by decide +kernel
theorem dX7_warmthNow_25 : decode cX7_warmthNow 25 = .ok (.goto (-21), 3) := by decide +kernel
theorem dX7_warmthNow_28 : decode cX7_warmthNow 28 = .ok (.iload_n 1, 1) := by decide +kernel
theorem dX7_warmthNow_29 : decode cX7_warmthNow 29 = .ok (.aload_n 0, 1) := by decide +kernel
theorem dX7_warmthNow_30 : decode cX7_warmthNow 30 = .ok (.getfield 7, 3) := by decide +kernel
theorem dX7_warmthNow_33 : decode cX7_warmthNow 33 = .ok (.iconst 3, 1) := by decide +kernel
theorem dX7_warmthNow_34 : decode cX7_warmthNow 34 = .ok (.iaload, 1) := by decide +kernel
theorem dX7_warmthNow_35 : decode cX7_warmthNow 35 = .ok (.iconst 5, 1) := by decide +kernel
theorem dX7_warmthNow_36 : decode cX7_warmthNow 36 = .ok (.idiv, 1) := by decide +kernel
theorem dX7_warmthNow_37 : decode cX7_warmthNow 37 = .ok (.isub, 1) := by decide +kernel
theorem dX7_warmthNow_38 : decode cX7_warmthNow 38 = .ok (.aload_n 0, 1) := by decide +kernel
theorem dX7_warmthNow_39 : decode cX7_warmthNow 39 = .ok (.getfield 7, 3) := by decide +kernel
theorem dX7_warmthNow_42 : decode cX7_warmthNow 42 = .ok (.bipush 6, 2) := by decide +kernel
theorem dX7_warmthNow_44 : decode cX7_warmthNow 44 = .ok (.iaload, 1) := by decide +kernel
theorem dX7_warmthNow_45 : decode cX7_warmthNow 45 = .ok (.iconst 3, 1) := by decide +kernel
theorem dX7_warmthNow_46 : decode cX7_warmthNow 46 = .ok (.idiv, 1) := by decide +kernel
theorem dX7_warmthNow_47 : decode cX7_warmthNow 47 = .ok (.isub, 1) := by decide +kernel
theorem dX7_warmthNow_48 : decode cX7_warmthNow 48 = .ok (.ireturn, 1) := by decide +kernel
theorem dX7_fuel_0 : decode cX7_fuel 0 = .ok (.bipush 10, 2) := by decide +kernel
theorem dX7_fuel_2 : decode cX7_fuel 2 = .ok (.aload_n 0, 1) := by decide +kernel
theorem dX7_fuel_3 : decode cX7_fuel 3 = .ok (.getfield 7, 3) := by decide +kernel
theorem dX7_fuel_6 : decode cX7_fuel 6 = .ok (.bipush 7, 2) := by decide +kernel
theorem dX7_fuel_8 : decode cX7_fuel 8 = .ok (.iaload, 1) := by decide +kernel
theorem dX7_fuel_9 : decode cX7_fuel 9 = .ok (.imul, 1) := by decide +kernel
theorem dX7_fuel_10 : decode cX7_fuel 10 = .ok (.aload_n 0, 1) := by decide +kernel
theorem dX7_fuel_11 : decode cX7_fuel 11 = .ok (.invokevirtual 139, 3) := by decide +kernel
theorem dX7_fuel_14 : decode cX7_fuel 14 = .ok (.isub, 1) := by decide +kernel
theorem dX7_fuel_15 : decode cX7_fuel 15 = .ok (.istore_n 1, 1) := by decide +kernel
theorem dX7_fuel_16 : decode cX7_fuel 16 = .ok (.iload_n 1, 1) := by decide +kernel
theorem dX7_fuel_17 : decode cX7_fuel 17 = .ok (.ifCond .le 12, 3) := by decide +kernel
theorem dX7_fuel_20 : decode cX7_fuel 20 = .ok (.iload_n 1, 1) := by decide +kernel
theorem dX7_fuel_21 : decode cX7_fuel 21 = .ok (.bipush 20, 2) := by decide +kernel
theorem dX7_fuel_23 : decode cX7_fuel 23 = .ok (.idiv, 1) := by decide +kernel
theorem dX7_fuel_24 : decode cX7_fuel 24 = .ok (.iconst 1, 1) := by decide +kernel
theorem dX7_fuel_25 : decode cX7_fuel 25 = .ok (.iadd, 1) := by decide +kernel
theorem dX7_fuel_26 : decode cX7_fuel 26 = .ok (.goto 4, 3) := by decide +kernel
theorem dX7_fuel_29 : decode cX7_fuel 29 = .ok (.iconst 0, 1) := by decide +kernel
theorem dX7_fuel_30 : decode cX7_fuel 30 = .ok (.ireturn, 1) := by decide +kernel
theorem dX7_warmth_0 : decode cX7_warmth 0 = .ok (.iload_n 1, 1) := by decide +kernel
theorem dX7_warmth_1 : decode cX7_warmth 1 = .ok (.ifCond .ne 10, 3) := by decide +kernel
theorem dX7_warmth_4 : decode cX7_warmth 4 = .ok (.aload_n 0, 1) := by decide +kernel
theorem dX7_warmth_5 : decode cX7_warmth 5 = .ok (.invokevirtual 139, 3) := by decide +kernel
theorem dX7_warmth_8 : decode cX7_warmth 8 = .ok (.goto 21, 3) := by decide +kernel
theorem dX7_warmth_11 : decode cX7_warmth 11 = .ok (.iload_n 1, 1) := by decide +kernel
theorem dX7_warmth_12 : decode cX7_warmth 12 = .ok (.iconst 1, 1) := by decide +kernel
theorem dX7_warmth_13 : decode cX7_warmth 13 = .ok (.if_icmp .ne 10, 3) := by decide +kernel
theorem dX7_warmth_16 : decode cX7_warmth 16 = .ok (.aload_n 0, 1) := by decide +kernel
theorem dX7_warmth_17 : decode cX7_warmth 17 = .ok (.invokevirtual 142, 3) := by decide +kernel
theorem dX7_warmth_20 : decode cX7_warmth 20 = .ok (.goto 9, 3) := by decide +kernel
theorem dX7_warmth_23 : decode cX7_warmth 23 = .ok (.aload_n 0, 1) := by decide +kernel
theorem dX7_warmth_24 : decode cX7_warmth 24 = .ok (.ldc 54, 2) := by decide +kernel
theorem dX7_warmth_26 : decode cX7_warmth 26 = .ok (.invokevirtual 75, 3) := by decide +kernel
theorem dX7_warmth_29 : decode cX7_warmth 29 = .ok (.ireturn, 1) := by decide +kernel
theorem dX7_idle_0 : decode cX7_idle 0 = .ok (.aload_n 0, 1) := by decide +kernel
theorem dX7_idle_1 : decode cX7_idle 1 = .ok (.invokevirtual 142, 3) := by decide +kernel
theorem dX7_idle_4 : decode cX7_idle 4 = .ok (.istore_n 1, 1) := by decide +kernel
theorem dX7_idle_5 : decode cX7_idle 5 = .ok (.iconst 0, 1) := by decide +kernel
theorem dX7_idle_6 : decode cX7_idle 6 = .ok (.istore_n 2, 1) := by decide +kernel
theorem dX7_idle_7 : decode cX7_idle 7 = .ok (.iconst 0, 1) := by decide +kernel
theorem dX7_idle_8 : decode cX7_idle 8 = .ok (.istore_n 3, 1) := by decide +kernel
theorem dX7_idle_9 : decode cX7_idle 9 = .ok (.iload_n 3, 1) := by decide +kernel
theorem dX7_idle_10 : decode cX7_idle 10 = .ok (.aload_n 0, 1) := by decide +kernel
theorem dX7_idle_11 : decode cX7_idle 11 = .ok (.getfield 7, 3) := by decide +kernel
theorem dX7_idle_14 : decode cX7_idle 14 = .ok (.iconst 0, 1) := by decide +kernel
theorem dX7_idle_15 : decode cX7_idle 15 = .ok (.iaload, 1) := by decide +kernel
theorem dX7_idle_16 : decode cX7_idle 16 = .ok (.if_icmp .ge 49, 3) := by decide +kernel
theorem dX7_idle_19 : decode cX7_idle 19 = .ok (.aload_n 0, 1) := by decide +kernel
theorem dX7_idle_20 : decode cX7_idle 20 = .ok (.iload_n 3, 1) := by decide +kernel
theorem dX7_idle_21 : decode cX7_idle 21 = .ok (.invokevirtual 84, 3) := by decide +kernel
theorem dX7_idle_24 : decode cX7_idle 24 = .ok (.ifCond .eq 35, 3) := by decide +kernel
theorem dX7_idle_27 : decode cX7_idle 27 = .ok (.aload_n 0, 1) := by decide +kernel
theorem dX7_idle_28 : decode cX7_idle 28 = .ok (.iload_n 3, 1) := by decide +kernel
theorem dX7_idle_29 : decode cX7_idle 29 = .ok (.iconst 5, 1) := by decide +kernel
theorem dX7_idle_30 : decode cX7_idle 30 = .ok (.iconst 0, 1) := by decide +kernel
theorem dX7_idle_31 : decode cX7_idle 31 = .ok (.invokevirtual 59, 3) := by decide +kernel
theorem dX7_idle_34 : decode cX7_idle 34 = .ok (.iload_n 2, 1) := by decide +kernel
theorem dX7_idle_35 : decode cX7_idle 35 = .ok (.aload_n 0, 1) := by decide +kernel
theorem dX7_idle_36 : decode cX7_idle 36 = .ok (.invokevirtual 142, 3) := by decide +kernel
theorem dX7_idle_39 : decode cX7_idle 39 = .ok (.iload_n 1, 1) := by decide +kernel
theorem dX7_idle_40 : decode cX7_idle 40 = .ok (.if_icmp .ne 9, 3) := by decide +kernel
theorem dX7_idle_43 : decode cX7_idle 43 = .ok (.iconst 1, 1) := by decide +kernel
theorem dX7_idle_44 : decode cX7_idle 44 = .ok (.iload_n 3, 1) := by decide +kernel
theorem dX7_idle_45 : decode cX7_idle 45 = .ok (.ishl, 1) := by decide +kernel
theorem dX7_idle_46 : decode cX7_idle 46 = .ok (.goto 4, 3) := by decide +kernel
theorem dX7_idle_49 : decode cX7_idle 49 = .ok (.iconst 0, 1) := by decide +kernel
theorem dX7_idle_50 : decode cX7_idle 50 = .ok (.ior, 1) := by decide +kernel
theorem dX7_idle_51 : decode cX7_idle 51 = .ok (.istore_n 2, 1) := by decide +kernel
theorem dX7_idle_52 : decode cX7_idle 52 = .ok (.aload_n 0, 1) := by decide +kernel
theorem dX7_idle_53 : decode cX7_idle 53 = .ok (.iload_n 3, 1) := by decide +kernel
theorem dX7_idle_54 : decode cX7_idle 54 = .ok (.iconst 5, 1) := by decide +kernel
theorem dX7_idle_55 : decode cX7_idle 55 = .ok (.iconst 1, 1) := by decide +kernel
theorem dX7_idle_56 : decode cX7_idle 56 = .ok (.invokevirtual 59, 3) := by decide +kernel
theorem dX7_idle_59 : decode cX7_idle 59 = .ok (.iinc 3 1, 3) := by decide +kernel
theorem dX7_idle_62 : decode cX7_idle 62 = .ok (.goto (-53), 3) := by decide +kernel
theorem dX7_idle_65 : decode cX7_idle 65 = .ok (.iload_n 2, 1) := by decide +kernel
theorem dX7_idle_66 : decode cX7_idle 66 = .ok (.ireturn, 1) := by decide +kernel
theorem dX7_beast_0 : decode cX7_beast 0 = .ok (.iload_n 1, 1) := by decide +kernel
theorem dX7_beast_1 : decode cX7_beast 1 = .ok (.i2l, 1) := by decide +kernel
theorem dX7_beast_2 : decode cX7_beast 2 = .ok (.lconst 1, 1) := by decide +kernel
theorem dX7_beast_3 : decode cX7_beast 3 = .ok (.ldc2_w 71, 3) := by decide +kernel
theorem dX7_beast_6 : decode cX7_beast 6 = .ok (.invokestatic 65, 3) := by decide +kernel
theorem dX7_beast_9 : decode cX7_beast 9 = .ok (.ifCond .ne 10, 3) := by decide +kernel
theorem dX7_beast_12 : decode cX7_beast 12 = .ok (.aload_n 0, 1) := by decide +kernel
theorem dX7_beast_13 : decode cX7_beast 13 = .ok (.ldc 54, 2) := by decide +kernel
theorem dX7_beast_15 : decode cX7_beast 15 = .ok (.invokevirtual 75, 3) := by decide +kernel
theorem dX7_beast_18 : decode cX7_beast 18 = .ok (.ireturn, 1) := by decide +kernel
theorem dX7_beast_19 : decode cX7_beast 19 = .ok (.aload_n 0, 1) := by decide +kernel
theorem dX7_beast_20 : decode cX7_beast 20 = .ok (.getfield 7, 3) := by decide +kernel
theorem dX7_beast_23 : decode cX7_beast 23 = .ok (.iconst 1, 1) := by decide +kernel
theorem dX7_beast_24 : decode cX7_beast 24 = .ok (.iaload, 1) := by decide +kernel
theorem dX7_beast_25 : decode cX7_beast 25 = .ok (.bipush 6, 2) := by decide +kernel
theorem dX7_beast_27 : decode cX7_beast 27 = .ok (.if_icmp .ne 10, 3) := by decide +kernel
theorem dX7_beast_30 : decode cX7_beast 30 = .ok (.aload_n 0, 1) := by decide +kernel
theorem dX7_beast_31 : decode cX7_beast 31 = .ok (.ldc 79, 2) := by decide +kernel
theorem dX7_beast_33 : decode cX7_beast 33 = .ok (.invokevirtual 75, 3) := by decide +kernel
theorem dX7_beast_36 : decode cX7_beast 36 = .ok (.ireturn, 1) := by decide +kernel
theorem dX7_beast_37 : decode cX7_beast 37 = .ok (.aload_n 0, 1) := by decide +kernel
theorem dX7_beast_38 : decode cX7_beast 38 = .ok (.getfield 7, 3) := by decide +kernel
theorem dX7_beast_41 : decode cX7_beast 41 = .ok (.sipush 132, 3) := by decide +kernel
theorem dX7_beast_44 : decode cX7_beast 44 = .ok (.aload_n 0, 1) := by decide +kernel
theorem dX7_beast_45 : decode cX7_beast 45 = .ok (.getfield 7, 3) := by decide +kernel
theorem dX7_beast_48 : decode cX7_beast 48 = .ok (.iconst 1, 1) := by decide +kernel
theorem dX7_beast_49 : decode cX7_beast 49 = .ok (.iaload, 1) := by decide +kernel
theorem dX7_beast_50 : decode cX7_beast 50 = .ok (.iadd, 1) := by decide +kernel
theorem dX7_beast_51 : decode cX7_beast 51 = .ok (.iload_n 1, 1) := by decide +kernel
theorem dX7_beast_52 : decode cX7_beast 52 = .ok (.iastore, 1) := by decide +kernel
theorem dX7_beast_53 : decode cX7_beast 53 = .ok (.aload_n 0, 1) := by decide +kernel
theorem dX7_beast_54 : decode cX7_beast 54 = .ok (.getfield 7, 3) := by decide +kernel
theorem dX7_beast_57 : decode cX7_beast 57 = .ok (.iconst 1, 1) := by decide +kernel
theorem dX7_beast_58 : decode cX7_beast 58 = .ok (.dup2, 1) := by decide +kernel
theorem dX7_beast_59 : decode cX7_beast 59 = .ok (.iaload, 1) := by decide +kernel
theorem dX7_beast_60 : decode cX7_beast 60 = .ok (.iconst 1, 1) := by decide +kernel
theorem dX7_beast_61 : decode cX7_beast 61 = .ok (.iadd, 1) := by decide +kernel
theorem dX7_beast_62 : decode cX7_beast 62 = .ok (.iastore, 1) := by decide +kernel
theorem dX7_beast_63 : decode cX7_beast 63 = .ok (.aload_n 0, 1) := by decide +kernel
theorem dX7_beast_64 : decode cX7_beast 64 = .ok (.getfield 7, 3) := by decide +kernel
theorem dX7_beast_67 : decode cX7_beast 67 = .ok (.iconst 1, 1) := by decide +kernel
theorem dX7_beast_68 : decode cX7_beast 68 = .ok (.iaload, 1) := by decide +kernel
theorem dX7_beast_69 : decode cX7_beast 69 = .ok (.iconst 1, 1) := by decide +kernel
theorem dX7_beast_70 : decode cX7_beast 70 = .ok (.isub, 1) := by decide +kernel
theorem dX7_beast_71 : decode cX7_beast 71 = .ok (.ireturn, 1) := by decide +kernel
theorem dX7_cap_0 : decode cX7_cap 0 = .ok (.iload_n 1, 1) := by decide +kernel
theorem dX7_cap_1 : decode cX7_cap 1 = .ok (.ifCond .lt 26, 3) := by decide +kernel
theorem dX7_cap_4 : decode cX7_cap 4 = .ok (.iload_n 1, 1) := by decide +kernel
theorem dX7_cap_5 : decode cX7_cap 5 = .ok (.aload_n 0, 1) := by decide +kernel
theorem dX7_cap_6 : decode cX7_cap 6 = .ok (.getfield 7, 3) := by decide +kernel
theorem dX7_cap_9 : decode cX7_cap 9 = .ok (.iconst 1, 1) := by decide +kernel
theorem dX7_cap_10 : decode cX7_cap 10 = .ok (.iaload, 1) := by decide +kernel
theorem dX7_cap_11 : decode cX7_cap 11 = .ok (.if_icmp .ge 16, 3) := by decide +kernel
theorem dX7_cap_14 : decode cX7_cap 14 = .ok (.aload_n 0, 1) := by decide +kernel
theorem dX7_cap_15 : decode cX7_cap 15 = .ok (.getfield 7, 3) := by decide +kernel
theorem dX7_cap_18 : decode cX7_cap 18 = .ok (.sipush 132, 3) := by decide +kernel
theorem dX7_cap_21 : decode cX7_cap 21 = .ok (.iload_n 1, 1) := by decide +kernel
theorem dX7_cap_22 : decode cX7_cap 22 = .ok (.iadd, 1) := by decide +kernel
theorem dX7_cap_23 : decode cX7_cap 23 = .ok (.iaload, 1) := by decide +kernel
theorem dX7_cap_24 : decode cX7_cap 24 = .ok (.goto 9, 3) := by decide +kernel
theorem dX7_cap_27 : decode cX7_cap 27 = .ok (.aload_n 0, 1) := by decide +kernel
theorem dX7_cap_28 : decode cX7_cap 28 = .ok (.ldc 54, 2) := by decide +kernel
theorem dX7_cap_30 : decode cX7_cap 30 = .ok (.invokevirtual 75, 3) := by decide +kernel
theorem dX7_cap_33 : decode cX7_cap 33 = .ok (.ireturn, 1) := by decide +kernel
theorem dX7_isLoad_0 : decode cX7_isLoad 0 = .ok (.iload_n 1, 1) := by decide +kernel
theorem dX7_isLoad_1 : decode cX7_isLoad 1 = .ok (.ifCond .lt 19, 3) := by decide +kernel
theorem dX7_isLoad_4 : decode cX7_isLoad 4 = .ok (.iload_n 1, 1) := by decide +kernel
theorem dX7_isLoad_5 : decode cX7_isLoad 5 = .ok (.iconst 1, 1) := by decide +kernel
theorem dX7_isLoad_6 : decode cX7_isLoad 6 = .ok (.aload_n 0, 1) := by decide +kernel
theorem dX7_isLoad_7 : decode cX7_isLoad 7 = .ok (.getfield 7, 3) := by decide +kernel
theorem dX7_isLoad_10 : decode cX7_isLoad 10 = .ok (.iconst 0, 1) := by decide +kernel
theorem dX7_isLoad_11 : decode cX7_isLoad 11 = .ok (.iaload, 1) := by decide +kernel
theorem dX7_isLoad_12 : decode cX7_isLoad 12 = .ok (.ishl, 1) := by decide +kernel
theorem dX7_isLoad_13 : decode cX7_isLoad 13 = .ok (.if_icmp .ge 7, 3) := by decide +kernel
theorem dX7_isLoad_16 : decode cX7_isLoad 16 = .ok (.iconst 1, 1) := by decide +kernel
theorem dX7_isLoad_17 : decode cX7_isLoad 17 = .ok (.goto 4, 3) := by decide +kernel
theorem dX7_isLoad_20 : decode cX7_isLoad 20 = .ok (.iconst 0, 1) := by decide +kernel
theorem dX7_isLoad_21 : decode cX7_isLoad 21 = .ok (.istore_n 2, 1) := by decide +kernel
theorem dX7_isLoad_22 : decode cX7_isLoad 22 = .ok (.iconst 0, 1) := by decide +kernel
theorem dX7_isLoad_23 : decode cX7_isLoad 23 = .ok (.istore_n 3, 1) := by decide +kernel
theorem dX7_isLoad_24 : decode cX7_isLoad 24 = .ok (.iload_n 3, 1) := by decide +kernel
theorem dX7_isLoad_25 : decode cX7_isLoad 25 = .ok (.aload_n 0, 1) := by decide +kernel
theorem dX7_isLoad_26 : decode cX7_isLoad 26 = .ok (.getfield 7, 3) := by decide +kernel
theorem dX7_isLoad_29 : decode cX7_isLoad 29 = .ok (.iconst 0, 1) := by decide +kernel
theorem dX7_isLoad_30 : decode cX7_isLoad 30 = .ok (.iaload, 1) := by decide +kernel
theorem dX7_isLoad_31 : decode cX7_isLoad 31 = .ok (.if_icmp .ge 35, 3) := by decide +kernel
theorem dX7_isLoad_34 : decode cX7_isLoad 34 = .ok (.iload_n 2, 1) := by decide +kernel
theorem dX7_isLoad_35 : decode cX7_isLoad 35 = .ok (.ifCond .eq 31, 3) := by decide +kernel
theorem dX7_isLoad_38 : decode cX7_isLoad 38 = .ok (.iload_n 1, 1) := by decide +kernel
theorem dX7_isLoad_39 : decode cX7_isLoad 39 = .ok (.iload_n 3, 1) := by decide +kernel
theorem dX7_isLoad_40 : decode cX7_isLoad 40 = .ok (.ishr, 1) := by decide +kernel
theorem dX7_isLoad_41 : decode cX7_isLoad 41 = .ok (.iconst 1, 1) := by decide +kernel
theorem dX7_isLoad_42 : decode cX7_isLoad 42 = .ok (.iand, 1) := by decide +kernel
theorem dX7_isLoad_43 : decode cX7_isLoad 43 = .ok (.ifCond .eq 11, 3) := by decide +kernel
theorem dX7_isLoad_46 : decode cX7_isLoad 46 = .ok (.aload_n 0, 1) := by decide +kernel
theorem dX7_isLoad_47 : decode cX7_isLoad 47 = .ok (.iload_n 3, 1) := by decide +kernel
theorem dX7_isLoad_48 : decode cX7_isLoad 48 = .ok (.invokevirtual 84, 3) := by decide +kernel
theorem dX7_isLoad_51 : decode cX7_isLoad 51 = .ok (.ifCond .eq 7, 3) := by decide +kernel
theorem dX7_isLoad_54 : decode cX7_isLoad 54 = .ok (.iconst 1, 1) := by decide +kernel
theorem dX7_isLoad_55 : decode cX7_isLoad 55 = .ok (.goto 4, 3) := by decide +kernel
theorem dX7_isLoad_58 : decode cX7_isLoad 58 = .ok (.iconst 0, 1) := by decide +kernel
theorem dX7_isLoad_59 : decode cX7_isLoad 59 = .ok (.istore_n 2, 1) := by decide +kernel
theorem dX7_isLoad_60 : decode cX7_isLoad 60 = .ok (.iinc 3 1, 3) := by decide +kernel
theorem dX7_isLoad_63 : decode cX7_isLoad 63 = .ok (.goto (-39), 3) := by decide +kernel
theorem dX7_isLoad_66 : decode cX7_isLoad 66 = .ok (.iload_n 2, 1) := by decide +kernel
theorem dX7_isLoad_67 : decode cX7_isLoad 67 = .ok (.ireturn, 1) := by decide +kernel
theorem dX7_findLoad_0 : decode cX7_findLoad 0 = .ok (.aload_n 0, 1) := by decide +kernel
theorem dX7_findLoad_1 : decode cX7_findLoad 1 = .ok (.iconst 0, 1) := by decide +kernel
theorem dX7_findLoad_2 : decode cX7_findLoad 2 = .ok (.putfield 145, 3) := by decide +kernel
theorem dX7_findLoad_5 : decode cX7_findLoad 5 = .ok (.iconst 0, 1) := by decide +kernel
theorem dX7_findLoad_6 : decode cX7_findLoad 6 = .ok (.istore_n 2, 1) := by decide +kernel
theorem dX7_findLoad_7 : decode cX7_findLoad 7 = .ok (.iconst 0, 1) := by decide +kernel
theorem dX7_findLoad_8 : decode cX7_findLoad 8 = .ok (.istore_n 3, 1) := by decide +kernel
theorem dX7_findLoad_9 : decode cX7_findLoad 9 = .ok (.iload_n 3, 1) := by decide +kernel
theorem dX7_findLoad_10 : decode cX7_findLoad 10 = .ok (.aload_n 0, 1) := by decide +kernel
theorem dX7_findLoad_11 : decode cX7_findLoad 11 = .ok (.getfield 7, 3) := by decide +kernel
theorem dX7_findLoad_14 : decode cX7_findLoad 14 = .ok (.iconst 0, 1) := by decide +kernel
theorem dX7_findLoad_15 : decode cX7_findLoad 15 = .ok (.iaload, 1) := by decide +kernel
theorem dX7_findLoad_16 : decode cX7_findLoad 16 = .ok (.if_icmp .ge 44, 3) := by decide +kernel
theorem dX7_findLoad_19 : decode cX7_findLoad 19 = .ok (.iload_n 1, 1) := by decide +kernel
theorem dX7_findLoad_20 : decode cX7_findLoad 20 = .ok (.iload_n 3, 1) := by decide +kernel
theorem dX7_findLoad_21 : decode cX7_findLoad 21 = .ok (.ishr, 1) := by decide +kernel
theorem dX7_findLoad_22 : decode cX7_findLoad 22 = .ok (.iconst 1, 1) := by decide +kernel
theorem dX7_findLoad_23 : decode cX7_findLoad 23 = .ok (.iand, 1) := by decide +kernel
theorem dX7_findLoad_24 : decode cX7_findLoad 24 = .ok (.iconst 1, 1) := by decide +kernel
theorem dX7_findLoad_25 : decode cX7_findLoad 25 = .ok (.if_icmp .ne 29, 3) := by decide +kernel
theorem dX7_findLoad_28 : decode cX7_findLoad 28 = .ok (.iload_n 2, 1) := by decide +kernel
theorem dX7_findLoad_29 : decode cX7_findLoad 29 = .ok (.bipush 10, 2) := by decide +kernel
theorem dX7_findLoad_31 : decode cX7_findLoad 31 = .ok (.if_icmp .ge 20, 3) := by decide +kernel
theorem dX7_findLoad_34 : decode cX7_findLoad 34 = .ok (.aload_n 0, 1) := by decide +kernel
theorem dX7_findLoad_35 : decode cX7_findLoad 35 = .ok (.getfield 35, 3) := by decide +kernel
theorem dX7_findLoad_38 : decode cX7_findLoad 38 = .ok (.iload_n 2, 1) := by decide +kernel
theorem dX7_findLoad_39 : decode cX7_findLoad 39 = .ok (.iload_n 3, 1) := by decide +kernel
theorem dX7_findLoad_40 : decode cX7_findLoad 40 = .ok (.iastore, 1) := by decide +kernel
theorem dX7_findLoad_41 : decode cX7_findLoad 41 = .ok (.aload_n 0, 1) := by decide +kernel
theorem dX7_findLoad_42 : decode cX7_findLoad 42 = .ok (.dup, 1) := by decide +kernel
theorem dX7_findLoad_43 : decode cX7_findLoad 43 = .ok (.getfield 145, 3) := by decide +kernel
theorem dX7_findLoad_46 : decode cX7_findLoad 46 = .ok (.iconst 1, 1) := by decide +kernel
theorem dX7_findLoad_47 : decode cX7_findLoad 47 = .ok (.iadd, 1) := by decide +kernel
theorem dX7_findLoad_48 : decode cX7_findLoad 48 = .ok (.putfield 145, 3) := by decide +kernel
theorem dX7_findLoad_51 : decode cX7_findLoad 51 = .ok (.iinc 2 1, 3) := by decide +kernel
theorem dX7_findLoad_54 : decode cX7_findLoad 54 = .ok (.iinc 3 1, 3) := by decide +kernel
theorem dX7_findLoad_57 : decode cX7_findLoad 57 = .ok (.goto (-48), 3) := by decide +kernel
theorem dX7_findLoad_60 : decode cX7_findLoad 60 = .ok (.iconst 0, 1) := by decide +kernel
theorem dX7_findLoad_61 : decode cX7_findLoad 61 = .ok (.istore_n 3, 1) := by decide +kernel
theorem dX7_findLoad_62 : decode cX7_findLoad 62 = .ok (.iload_n 3, 1) := by decide +kernel
theorem dX7_findLoad_63 : decode cX7_findLoad 63 = .ok (.iconst 1, 1) := by decide +kernel
theorem dX7_findLoad_64 : decode cX7_findLoad 64 = .ok (.aload_n 0, 1) := by decide +kernel
theorem dX7_findLoad_65 : decode cX7_findLoad 65 = .ok (.getfield 145, 3) := by decide +kernel
theorem dX7_findLoad_68 : decode cX7_findLoad 68 = .ok (.ishl, 1) := by decide +kernel
theorem dX7_findLoad_69 : decode cX7_findLoad 69 = .ok (.if_icmp .ge 75, 3) := by decide +kernel
theorem dX7_findLoad_72 : decode cX7_findLoad 72 = .ok (.iload_n 2, 1) := by decide +kernel
theorem dX7_findLoad_73 : decode cX7_findLoad 73 = .ok (.bipush 10, 2) := by decide +kernel
theorem dX7_findLoad_75 : decode cX7_findLoad 75 = .ok (.if_icmp .gt 69, 3) := by decide +kernel
theorem dX7_findLoad_78 : decode cX7_findLoad 78 = .ok (.iconst 0, 1) := by decide +kernel
theorem dX7_findLoad_79 : decode cX7_findLoad 79 = .ok (.istore 4, 2) := by decide +kernel
theorem dX7_findLoad_81 : decode cX7_findLoad 81 = .ok (.iconst 0, 1) := by decide +kernel
theorem dX7_findLoad_82 : decode cX7_findLoad 82 = .ok (.istore 5, 2) := by decide +kernel
theorem dX7_findLoad_84 : decode cX7_findLoad 84 = .ok (.iload 5, 2) := by decide +kernel
theorem dX7_findLoad_86 : decode cX7_findLoad 86 = .ok (.aload_n 0, 1) := by decide +kernel
theorem dX7_findLoad_87 : decode cX7_findLoad 87 = .ok (.getfield 145, 3) := by decide +kernel
theorem dX7_findLoad_90 : decode cX7_findLoad 90 = .ok (.if_icmp .ge 40, 3) := by decide +kernel
theorem dX7_findLoad_93 : decode cX7_findLoad 93 = .ok (.iload 4, 2) := by decide +kernel
theorem dX7_findLoad_95 : decode cX7_findLoad 95 = .ok (.iload_n 3, 1) := by decide +kernel
theorem dX7_findLoad_96 : decode cX7_findLoad 96 = .ok (.iload 5, 2) := by decide +kernel
theorem dX7_findLoad_98 : decode cX7_findLoad 98 = .ok (.ishr, 1) := by decide +kernel
theorem dX7_findLoad_99 : decode cX7_findLoad 99 = .ok (.iconst 1, 1) := by decide +kernel
theorem dX7_findLoad_100 : decode cX7_findLoad 100 = .ok (.iand, 1) := by decide +kernel
theorem dX7_findLoad_101 : decode cX7_findLoad 101 = .ok (.iconst 1, 1) := by decide +kernel
theorem dX7_findLoad_102 : decode cX7_findLoad 102 = .ok (.if_icmp .ne 18, 3) := by decide +kernel
theorem dX7_findLoad_105 : decode cX7_findLoad 105 = .ok (.aload_n 0, 1) := by decide +kernel
theorem dX7_findLoad_106 : decode cX7_findLoad 106 = .ok (.aload_n 0, 1) := by decide +kernel
theorem dX7_findLoad_107 : decode cX7_findLoad 107 = .ok (.getfield 35, 3) := by decide +kernel
theorem dX7_findLoad_110 : decode cX7_findLoad 110 = .ok (.iload 5, 2) := by decide +kernel
theorem dX7_findLoad_112 : decode cX7_findLoad 112 = .ok (.iaload, 1) := by decide +kernel
theorem dX7_findLoad_113 : decode cX7_findLoad 113 = .ok (.iconst 3, 1) := by decide +kernel
theorem dX7_findLoad_114 : decode cX7_findLoad 114 = .ok (.invokevirtual 55, 3) := by decide +kernel
theorem dX7_findLoad_117 : decode cX7_findLoad 117 = .ok (.goto 4, 3) := by decide +kernel
theorem dX7_findLoad_120 : decode cX7_findLoad 120 = .ok (.iconst 0, 1) := by decide +kernel
theorem dX7_findLoad_121 : decode cX7_findLoad 121 = .ok (.iadd, 1) := by decide +kernel
theorem dX7_findLoad_122 : decode cX7_findLoad 122 = .ok (.istore 4, 2) := by decide +kernel
theorem dX7_findLoad_124 : decode cX7_findLoad 124 = .ok (.iinc 5 1, 3) := by decide +kernel
theorem dX7_findLoad_127 : decode cX7_findLoad 127 = .ok (.goto (-43), 3) := by decide +kernel
theorem dX7_findLoad_130 : decode cX7_findLoad 130 = .ok (.aload_n 0, 1) := by decide +kernel
theorem dX7_findLoad_131 : decode cX7_findLoad 131 = .ok (.getfield 38, 3) := by decide +kernel
theorem dX7_findLoad_134 : decode cX7_findLoad 134 = .ok (.iload_n 3, 1) := by decide +kernel
theorem dX7_findLoad_135 : decode cX7_findLoad 135 = .ok (.iload 4, 2) := by decide +kernel
theorem dX7_findLoad_137 : decode cX7_findLoad 137 = .ok (.iastore, 1) := by decide +kernel
theorem dX7_findLoad_138 : decode cX7_findLoad 138 = .ok (.iinc 3 1, 3) := by decide +kernel
theorem dX7_findLoad_141 : decode cX7_findLoad 141 = .ok (.goto (-79), 3) := by decide +kernel
theorem dX7_findLoad_144 : decode cX7_findLoad 144 = .ok (.iload_n 2, 1) := by decide +kernel
theorem dX7_findLoad_145 : decode cX7_findLoad 145 = .ok (.bipush 10, 2) := by decide +kernel
theorem dX7_findLoad_147 : decode cX7_findLoad 147 = .ok (.if_icmp .gt 7, 3) := by decide +kernel
theorem dX7_findLoad_150 : decode cX7_findLoad 150 = .ok (.iconst 1, 1) := by decide +kernel
theorem dX7_findLoad_151 : decode cX7_findLoad 151 = .ok (.goto 4, 3) := by decide +kernel
theorem dX7_findLoad_154 : decode cX7_findLoad 154 = .ok (.iconst 0, 1) := by decide +kernel
theorem dX7_findLoad_155 : decode cX7_findLoad 155 = .ok (.ireturn, 1) := by decide +kernel
theorem dX7_beasts_0 : decode cX7_beasts 0 = .ok (.aload_n 0, 1) := by decide +kernel
theorem dX7_beasts_1 : decode cX7_beasts 1 = .ok (.iload_n 1, 1) := by decide +kernel
theorem dX7_beasts_2 : decode cX7_beasts 2 = .ok (.invokevirtual 149, 3) := by decide +kernel
theorem dX7_beasts_5 : decode cX7_beasts 5 = .ok (.ifCond .ne 10, 3) := by decide +kernel
theorem dX7_beasts_8 : decode cX7_beasts 8 = .ok (.aload_n 0, 1) := by decide +kernel
theorem dX7_beasts_9 : decode cX7_beasts 9 = .ok (.ldc 54, 2) := by decide +kernel
theorem dX7_beasts_11 : decode cX7_beasts 11 = .ok (.invokevirtual 75, 3) := by decide +kernel
theorem dX7_beasts_14 : decode cX7_beasts 14 = .ok (.ireturn, 1) := by decide +kernel
theorem dX7_beasts_15 : decode cX7_beasts 15 = .ok (.aload_n 0, 1) := by decide +kernel
theorem dX7_beasts_16 : decode cX7_beasts 16 = .ok (.iload_n 1, 1) := by decide +kernel
theorem dX7_beasts_17 : decode cX7_beasts 17 = .ok (.invokevirtual 152, 3) := by decide +kernel
theorem dX7_beasts_20 : decode cX7_beasts 20 = .ok (.ifCond .ne 10, 3) := by decide +kernel
theorem dX7_beasts_23 : decode cX7_beasts 23 = .ok (.aload_n 0, 1) := by decide +kernel
theorem dX7_beasts_24 : decode cX7_beasts 24 = .ok (.ldc 155, 2) := by decide +kernel
theorem dX7_beasts_26 : decode cX7_beasts 26 = .ok (.invokevirtual 75, 3) := by decide +kernel
theorem dX7_beasts_29 : decode cX7_beasts 29 = .ok (.ireturn, 1) := by decide +kernel
theorem dX7_beasts_30 : decode cX7_beasts 30 = .ok (.iconst 1, 1) := by decide +kernel
theorem dX7_beasts_31 : decode cX7_beasts 31 = .ok (.aload_n 0, 1) := by decide +kernel
theorem dX7_beasts_32 : decode cX7_beasts 32 = .ok (.getfield 145, 3) := by decide +kernel
theorem dX7_beasts_35 : decode cX7_beasts 35 = .ok (.ishl, 1) := by decide +kernel
theorem dX7_beasts_36 : decode cX7_beasts 36 = .ok (.iconst 1, 1) := by decide +kernel
theorem dX7_beasts_37 : decode cX7_beasts 37 = .ok (.isub, 1) := by decide +kernel
theorem dX7_beasts_38 : decode cX7_beasts 38 = .ok (.istore_n 2, 1) := by decide +kernel
theorem dX7_beasts_39 : decode cX7_beasts 39 = .ok (.iconst 0, 1) := by decide +kernel
theorem dX7_beasts_40 : decode cX7_beasts 40 = .ok (.istore_n 3, 1) := by decide +kernel
theorem dX7_beasts_41 : decode cX7_beasts 41 = .ok (.iload_n 3, 1) := by decide +kernel
theorem dX7_beasts_42 : decode cX7_beasts 42 = .ok (.iload_n 2, 1) := by decide +kernel
theorem dX7_beasts_43 : decode cX7_beasts 43 = .ok (.if_icmp .gt 24, 3) := by decide +kernel
theorem dX7_beasts_46 : decode cX7_beasts 46 = .ok (.aload_n 0, 1) := by decide +kernel
theorem dX7_beasts_47 : decode cX7_beasts 47 = .ok (.getfield 41, 3) := by decide +kernel
theorem dX7_beasts_50 : decode cX7_beasts 50 = .ok (.iload_n 3, 1) := by decide +kernel
theorem dX7_beasts_51 : decode cX7_beasts 51 = .ok (.iload_n 3, 1) := by decide +kernel
theorem dX7_beasts_52 : decode cX7_beasts 52 = .ok (.ifCond .ne 7, 3) := by decide +kernel
theorem dX7_beasts_55 : decode cX7_beasts 55 = .ok (.iconst 1, 1) := by decide +kernel
theorem dX7_beasts_56 : decode cX7_beasts 56 = .ok (.goto 4, 3) := by decide +kernel
theorem dX7_beasts_59 : decode cX7_beasts 59 = .ok (.iconst 0, 1) := by decide +kernel
theorem dX7_beasts_60 : decode cX7_beasts 60 = .ok (.bastore, 1) := by decide +kernel
theorem dX7_beasts_61 : decode cX7_beasts 61 = .ok (.iinc 3 1, 3) := by decide +kernel
theorem dX7_beasts_64 : decode cX7_beasts 64 = .ok (.goto (-23), 3) := by decide +kernel
theorem dX7_beasts_67 : decode cX7_beasts 67 = .ok (.iconst 0, 1) := by decide +kernel
theorem dX7_beasts_68 : decode cX7_beasts 68 = .ok (.istore_n 3, 1) := by decide +kernel
theorem dX7_beasts_69 : decode cX7_beasts 69 = .ok (.aload_n 0, 1) := by decide +kernel
theorem dX7_beasts_70 : decode cX7_beasts 70 = .ok (.getfield 41, 3) := by decide +kernel
theorem dX7_beasts_73 : decode cX7_beasts 73 = .ok (.iload_n 2, 1) := by decide +kernel
theorem dX7_beasts_74 : decode cX7_beasts 74 = .ok (.baload, 1) := by decide +kernel
theorem dX7_beasts_75 : decode cX7_beasts 75 = .ok (.ifCond .ne 113, 3) := by decide +kernel
theorem dX7_beasts_78 : decode cX7_beasts 78 = .ok (.iload_n 3, 1) := by decide +kernel
theorem dX7_beasts_79 : decode cX7_beasts 79 = .ok (.aload_n 0, 1) := by decide +kernel
theorem dX7_beasts_80 : decode cX7_beasts 80 = .ok (.getfield 7, 3) := by decide +kernel
theorem dX7_beasts_83 : decode cX7_beasts 83 = .ok (.iconst 1, 1) := by decide +kernel
theorem dX7_beasts_84 : decode cX7_beasts 84 = .ok (.iaload, 1) := by decide +kernel
theorem dX7_beasts_85 : decode cX7_beasts 85 = .ok (.if_icmp .ge 103, 3) := by decide +kernel
theorem dX7_beasts_88 : decode cX7_beasts 88 = .ok (.aload_n 0, 1) := by decide +kernel
theorem dX7_beasts_89 : decode cX7_beasts 89 = .ok (.getfield 7, 3) := by decide +kernel
theorem dX7_beasts_92 : decode cX7_beasts 92 = .ok (.sipush 132, 3) := by decide +kernel
theorem dX7_beasts_95 : decode cX7_beasts 95 = .ok (.iload_n 3, 1) := by decide +kernel
theorem dX7_beasts_96 : decode cX7_beasts 96 = .ok (.iadd, 1) := by decide +kernel
theorem dX7_beasts_97 : decode cX7_beasts 97 = .ok (.iaload, 1) := by decide +kernel
theorem dX7_beasts_98 : decode cX7_beasts 98 = .ok (.istore 4, 2) := by decide +kernel
theorem dX7_beasts_100 : decode cX7_beasts 100 = .ok (.iload_n 2, 1) := by decide +kernel
theorem dX7_beasts_101 : decode cX7_beasts 101 = .ok (.istore 5, 2) := by decide +kernel
theorem dX7_beasts_103 : decode cX7_beasts 103 = .ok (.iload 5, 2) := by decide +kernel
theorem dX7_beasts_105 : decode cX7_beasts 105 = .ok (.ifCond .le 77, 3) := by decide +kernel
theorem dX7_beasts_108 : decode cX7_beasts 108 = .ok (.iload 5, 2) := by decide +kernel
theorem dX7_beasts_110 : decode cX7_beasts 110 = .ok (.istore 6, 2) := by decide +kernel
theorem dX7_beasts_112 : decode cX7_beasts 112 = .ok (.iload 6, 2) := by decide +kernel
theorem dX7_beasts_114 : decode cX7_beasts 114 = .ok (.ifCond .le 62, 3) := by decide +kernel
theorem dX7_beasts_117 : decode cX7_beasts 117 = .ok (.aload_n 0, 1) := by decide +kernel
theorem dX7_beasts_118 : decode cX7_beasts 118 = .ok (.getfield 41, 3) := by decide +kernel
theorem dX7_beasts_121 : decode cX7_beasts 121 = .ok (.iload 5, 2) := by decide +kernel
theorem dX7_beasts_123 : decode cX7_beasts 123 = .ok (.baload, 1) := by decide +kernel
theorem dX7_beasts_124 : decode cX7_beasts 124 = .ok (.ifCond .ne 52, 3) := by decide +kernel
theorem dX7_beasts_127 : decode cX7_beasts 127 = .ok (.aload_n 0, 1) := by decide +kernel
theorem dX7_beasts_128 : decode cX7_beasts 128 = .ok (.getfield 41, 3) := by decide +kernel
theorem dX7_beasts_131 : decode cX7_beasts 131 = .ok (.iload 5, 2) := by decide +kernel
theorem dX7_beasts_133 : decode cX7_beasts 133 = .ok (.aload_n 0, 1) := by decide +kernel
theorem dX7_beasts_134 : decode cX7_beasts 134 = .ok (.getfield 38, 3) := by decide +kernel
theorem dX7_beasts_137 : decode cX7_beasts 137 = .ok (.iload 6, 2) := by decide +kernel
theorem dX7_beasts_139 : decode cX7_beasts 139 = .ok (.iaload, 1) := by decide +kernel
theorem dX7_beasts_140 : decode cX7_beasts 140 = .ok (.iload 4, 2) := by decide +kernel
theorem dX7_beasts_142 : decode cX7_beasts 142 = .ok (.if_icmp .gt 20, 3) := by decide +kernel
theorem dX7_beasts_145 : decode cX7_beasts 145 = .ok (.aload_n 0, 1) := by decide +kernel
theorem dX7_beasts_146 : decode cX7_beasts 146 = .ok (.getfield 41, 3) := by decide +kernel
theorem dX7_beasts_149 : decode cX7_beasts 149 = .ok (.iload 5, 2) := by decide +kernel
theorem dX7_beasts_151 : decode cX7_beasts 151 = .ok (.iload 6, 2) := by decide +kernel
theorem dX7_beasts_153 : decode cX7_beasts 153 = .ok (.ixor, 1) := by decide +kernel
theorem dX7_beasts_154 : decode cX7_beasts 154 = .ok (.baload, 1) := by decide +kernel
theorem dX7_beasts_155 : decode cX7_beasts 155 = .ok (.ifCond .eq 7, 3) := by decide +kernel
theorem dX7_beasts_158 : decode cX7_beasts 158 = .ok (.iconst 1, 1) := by decide +kernel
theorem dX7_beasts_159 : decode cX7_beasts 159 = .ok (.goto 4, 3) := by decide +kernel
theorem dX7_beasts_162 : decode cX7_beasts 162 = .ok (.iconst 0, 1) := by decide +kernel
theorem dX7_beasts_163 : decode cX7_beasts 163 = .ok (.bastore, 1) := by decide +kernel
theorem dX7_beasts_164 : decode cX7_beasts 164 = .ok (.iload 6, 2) := by decide +kernel
theorem dX7_beasts_166 : decode cX7_beasts 166 = .ok (.iconst 1, 1) := by decide +kernel
theorem dX7_beasts_167 : decode cX7_beasts 167 = .ok (.isub, 1) := by decide +kernel
theorem dX7_beasts_168 : decode cX7_beasts 168 = .ok (.iload 5, 2) := by decide +kernel
theorem dX7_beasts_170 : decode cX7_beasts 170 = .ok (.iand, 1) := by decide +kernel
theorem dX7_beasts_171 : decode cX7_beasts 171 = .ok (.istore 6, 2) := by decide +kernel
theorem dX7_beasts_173 : decode cX7_beasts 173 = .ok (.goto (-61), 3) := by decide +kernel
theorem dX7_beasts_176 : decode cX7_beasts 176 = .ok (.iinc 5 (-1), 3) := by decide +kernel
theorem dX7_beasts_179 : decode cX7_beasts 179 = .ok (.goto (-76), 3) := by decide +kernel
theorem dX7_beasts_182 : decode cX7_beasts 182 = .ok (.iinc 3 1, 3) := by decide +kernel
theorem dX7_beasts_185 : decode cX7_beasts 185 = .ok (.goto (-116), 3) := by decide +kernel
theorem dX7_beasts_188 : decode cX7_beasts 188 = .ok (.aload_n 0, 1) := by decide +kernel
theorem dX7_beasts_189 : decode cX7_beasts 189 = .ok (.getfield 41, 3) := by decide +kernel
theorem dX7_beasts_192 : decode cX7_beasts 192 = .ok (.iload_n 2, 1) := by decide +kernel
theorem dX7_beasts_193 : decode cX7_beasts 193 = .ok (.baload, 1) := by decide +kernel
theorem dX7_beasts_194 : decode cX7_beasts 194 = .ok (.ifCond .eq 7, 3) := by decide +kernel
theorem dX7_beasts_197 : decode cX7_beasts 197 = .ok (.iload_n 3, 1) := by decide +kernel
theorem dX7_beasts_198 : decode cX7_beasts 198 = .ok (.goto 9, 3) := by decide +kernel
theorem dX7_beasts_201 : decode cX7_beasts 201 = .ok (.aload_n 0, 1) := by decide +kernel
theorem dX7_beasts_202 : decode cX7_beasts 202 = .ok (.ldc 138, 2) := by decide +kernel
theorem dX7_beasts_204 : decode cX7_beasts 204 = .ok (.invokevirtual 75, 3) := by decide +kernel
theorem dX7_beasts_207 : decode cX7_beasts 207 = .ok (.ireturn, 1) := by decide +kernel
theorem dX7_even_0 : decode cX7_even 0 = .ok (.aload_n 0, 1) := by decide +kernel
theorem dX7_even_1 : decode cX7_even 1 = .ok (.iload_n 1, 1) := by decide +kernel
theorem dX7_even_2 : decode cX7_even 2 = .ok (.invokevirtual 149, 3) := by decide +kernel
theorem dX7_even_5 : decode cX7_even 5 = .ok (.ifCond .eq 13, 3) := by decide +kernel
theorem dX7_even_8 : decode cX7_even 8 = .ok (.iload_n 2, 1) := by decide +kernel
theorem dX7_even_9 : decode cX7_even 9 = .ok (.i2l, 1) := by decide +kernel
theorem dX7_even_10 : decode cX7_even 10 = .ok (.lconst 0, 1) := by decide +kernel
theorem dX7_even_11 : decode cX7_even 11 = .ok (.lconst 1, 1) := by decide +kernel
theorem dX7_even_12 : decode cX7_even 12 = .ok (.invokestatic 65, 3) := by decide +kernel
theorem dX7_even_15 : decode cX7_even 15 = .ok (.ifCond .ne 10, 3) := by decide +kernel
theorem dX7_even_18 : decode cX7_even 18 = .ok (.aload_n 0, 1) := by decide +kernel
theorem dX7_even_19 : decode cX7_even 19 = .ok (.ldc 54, 2) := by decide +kernel
theorem dX7_even_21 : decode cX7_even 21 = .ok (.invokevirtual 75, 3) := by decide +kernel
theorem dX7_even_24 : decode cX7_even 24 = .ok (.ireturn, 1) := by decide +kernel
theorem dX7_even_25 : decode cX7_even 25 = .ok (.aload_n 0, 1) := by decide +kernel
theorem dX7_even_26 : decode cX7_even 26 = .ok (.iload_n 1, 1) := by decide +kernel
theorem dX7_even_27 : decode cX7_even 27 = .ok (.invokevirtual 152, 3) := by decide +kernel
theorem dX7_even_30 : decode cX7_even 30 = .ok (.ifCond .ne 10, 3) := by decide +kernel
theorem dX7_even_33 : decode cX7_even 33 = .ok (.aload_n 0, 1) := by decide +kernel
theorem dX7_even_34 : decode cX7_even 34 = .ok (.ldc 155, 2) := by decide +kernel
theorem dX7_even_36 : decode cX7_even 36 = .ok (.invokevirtual 75, 3) := by decide +kernel
theorem dX7_even_39 : decode cX7_even 39 = .ok (.ireturn, 1) := by decide +kernel
theorem dX7_even_40 : decode cX7_even 40 = .ok (.iconst 1, 1) := by decide +kernel
theorem dX7_even_41 : decode cX7_even 41 = .ok (.aload_n 0, 1) := by decide +kernel
theorem dX7_even_42 : decode cX7_even 42 = .ok (.getfield 145, 3) := by decide +kernel
theorem dX7_even_45 : decode cX7_even 45 = .ok (.ishl, 1) := by decide +kernel
theorem dX7_even_46 : decode cX7_even 46 = .ok (.iconst 1, 1) := by decide +kernel
theorem dX7_even_47 : decode cX7_even 47 = .ok (.isub, 1) := by decide +kernel
theorem dX7_even_48 : decode cX7_even 48 = .ok (.istore_n 3, 1) := by decide +kernel
theorem dX7_even_49 : decode cX7_even 49 = .ok (.iconst (-1), 1) := by decide +kernel
theorem dX7_even_50 : decode cX7_even 50 = .ok (.istore 4, 2) := by decide +kernel
theorem dX7_even_52 : decode cX7_even 52 = .ok (.iconst 0, 1) := by decide +kernel
theorem dX7_even_53 : decode cX7_even 53 = .ok (.istore 5, 2) := by decide +kernel
theorem dX7_even_55 : decode cX7_even 55 = .ok (.iconst 0, 1) := by decide +kernel
theorem dX7_even_56 : decode cX7_even 56 = .ok (.istore 6, 2) := by decide +kernel
theorem dX7_even_58 : decode cX7_even 58 = .ok (.iload 6, 2) := by decide +kernel
theorem dX7_even_60 : decode cX7_even 60 = .ok (.iload_n 3, 1) := by decide +kernel
theorem dX7_even_61 : decode cX7_even 61 = .ok (.if_icmp .gt 52, 3) := by decide +kernel
theorem dX7_even_64 : decode cX7_even 64 = .ok (.aload_n 0, 1) := by decide +kernel
theorem dX7_even_65 : decode cX7_even 65 = .ok (.getfield 38, 3) := by decide +kernel
theorem dX7_even_68 : decode cX7_even 68 = .ok (.iload_n 3, 1) := by decide +kernel
theorem dX7_even_69 : decode cX7_even 69 = .ok (.iaload, 1) := by decide +kernel
theorem dX7_even_70 : decode cX7_even 70 = .ok (.iconst 2, 1) := by decide +kernel
theorem dX7_even_71 : decode cX7_even 71 = .ok (.aload_n 0, 1) := by decide +kernel
theorem dX7_even_72 : decode cX7_even 72 = .ok (.getfield 38, 3) := by decide +kernel
theorem dX7_even_75 : decode cX7_even 75 = .ok (.iload 6, 2) := by decide +kernel
theorem dX7_even_77 : decode cX7_even 77 = .ok (.iaload, 1) := by decide +kernel
theorem dX7_even_78 : decode cX7_even 78 = .ok (.imul, 1) := by decide +kernel
theorem dX7_even_79 : decode cX7_even 79 = .ok (.isub, 1) := by decide +kernel
theorem dX7_even_80 : decode cX7_even 80 = .ok (.istore 7, 2) := by decide +kernel
theorem dX7_even_82 : decode cX7_even 82 = .ok (.iload 7, 2) := by decide +kernel
theorem dX7_even_84 : decode cX7_even 84 = .ok (.ifCond .lt 23, 3) := by decide +kernel
theorem dX7_even_87 : decode cX7_even 87 = .ok (.iload 4, 2) := by decide +kernel
theorem dX7_even_89 : decode cX7_even 89 = .ok (.ifCond .lt 10, 3) := by decide +kernel
theorem dX7_even_92 : decode cX7_even 92 = .ok (.iload 7, 2) := by decide +kernel
theorem dX7_even_94 : decode cX7_even 94 = .ok (.iload 5, 2) := by decide +kernel
theorem dX7_even_96 : decode cX7_even 96 = .ok (.if_icmp .ge 11, 3) := by decide +kernel
theorem dX7_even_99 : decode cX7_even 99 = .ok (.iload 6, 2) := by decide +kernel
theorem dX7_even_101 : decode cX7_even 101 = .ok (.istore 4, 2) := by decide +kernel
theorem dX7_even_103 : decode cX7_even 103 = .ok (.iload 7, 2) := by decide +kernel
theorem dX7_even_105 : decode cX7_even 105 = .ok (.istore 5, 2) := by decide +kernel
theorem dX7_even_107 : decode cX7_even 107 = .ok (.iinc 6 1, 3) := by decide +kernel
theorem dX7_even_110 : decode cX7_even 110 = .ok (.goto (-52), 3) := by decide +kernel
theorem dX7_even_113 : decode cX7_even 113 = .ok (.iconst 0, 1) := by decide +kernel
theorem dX7_even_114 : decode cX7_even 114 = .ok (.istore 6, 2) := by decide +kernel
theorem dX7_even_116 : decode cX7_even 116 = .ok (.iconst 0, 1) := by decide +kernel
theorem dX7_even_117 : decode cX7_even 117 = .ok (.istore 7, 2) := by decide +kernel
theorem dX7_even_119 : decode cX7_even 119 = .ok (.iload 7, 2) := by decide +kernel
theorem dX7_even_121 : decode cX7_even 121 = .ok (.aload_n 0, 1) := by decide +kernel
theorem dX7_even_122 : decode cX7_even 122 = .ok (.getfield 145, 3) := by decide +kernel
theorem dX7_even_125 : decode cX7_even 125 = .ok (.if_icmp .ge 38, 3) := by decide +kernel
theorem dX7_even_128 : decode cX7_even 128 = .ok (.iload 6, 2) := by decide +kernel
theorem dX7_even_130 : decode cX7_even 130 = .ok (.iload 4, 2) := by decide +kernel
theorem dX7_even_132 : decode cX7_even 132 = .ok (.iload 7, 2) := by decide +kernel
theorem dX7_even_134 : decode cX7_even 134 = .ok (.ishr, 1) := by decide +kernel
theorem dX7_even_135 : decode cX7_even 135 = .ok (.iconst 1, 1) := by decide +kernel
theorem dX7_even_136 : decode cX7_even 136 = .ok (.iand, 1) := by decide +kernel
theorem dX7_even_137 : decode cX7_even 137 = .ok (.iconst 1, 1) := by decide +kernel
theorem dX7_even_138 : decode cX7_even 138 = .ok (.if_icmp .ne 15, 3) := by decide +kernel
theorem dX7_even_141 : decode cX7_even 141 = .ok (.iconst 1, 1) := by decide +kernel
theorem dX7_even_142 : decode cX7_even 142 = .ok (.aload_n 0, 1) := by decide +kernel
theorem dX7_even_143 : decode cX7_even 143 = .ok (.getfield 35, 3) := by decide +kernel
theorem dX7_even_146 : decode cX7_even 146 = .ok (.iload 7, 2) := by decide +kernel
theorem dX7_even_148 : decode cX7_even 148 = .ok (.iaload, 1) := by decide +kernel
theorem dX7_even_149 : decode cX7_even 149 = .ok (.ishl, 1) := by decide +kernel
theorem dX7_even_150 : decode cX7_even 150 = .ok (.goto 4, 3) := by decide +kernel
theorem dX7_even_153 : decode cX7_even 153 = .ok (.iconst 0, 1) := by decide +kernel
theorem dX7_even_154 : decode cX7_even 154 = .ok (.ior, 1) := by decide +kernel
theorem dX7_even_155 : decode cX7_even 155 = .ok (.istore 6, 2) := by decide +kernel
theorem dX7_even_157 : decode cX7_even 157 = .ok (.iinc 7 1, 3) := by decide +kernel
theorem dX7_even_160 : decode cX7_even 160 = .ok (.goto (-41), 3) := by decide +kernel
theorem dX7_even_163 : decode cX7_even 163 = .ok (.iload_n 2, 1) := by decide +kernel
theorem dX7_even_164 : decode cX7_even 164 = .ok (.ifCond .ne 8, 3) := by decide +kernel
theorem dX7_even_167 : decode cX7_even 167 = .ok (.iload 5, 2) := by decide +kernel
theorem dX7_even_169 : decode cX7_even 169 = .ok (.goto 5, 3) := by decide +kernel
theorem dX7_even_172 : decode cX7_even 172 = .ok (.iload 6, 2) := by decide +kernel
theorem dX7_even_174 : decode cX7_even 174 = .ok (.ireturn, 1) := by decide +kernel
theorem dX7_isCamp_0 : decode cX7_isCamp 0 = .ok (.lload_n 1, 1) := by decide +kernel
theorem dX7_isCamp_1 : decode cX7_isCamp 1 = .ok (.lconst 0, 1) := by decide +kernel
theorem dX7_isCamp_2 : decode cX7_isCamp 2 = .ok (.lcmp, 1) := by decide +kernel
theorem dX7_isCamp_3 : decode cX7_isCamp 3 = .ok (.ifCond .lt 19, 3) := by decide +kernel
theorem dX7_isCamp_6 : decode cX7_isCamp 6 = .ok (.lload_n 1, 1) := by decide +kernel
theorem dX7_isCamp_7 : decode cX7_isCamp 7 = .ok (.aload_n 0, 1) := by decide +kernel
theorem dX7_isCamp_8 : decode cX7_isCamp 8 = .ok (.getfield 7, 3) := by decide +kernel
theorem dX7_isCamp_11 : decode cX7_isCamp 11 = .ok (.iconst 2, 1) := by decide +kernel
theorem dX7_isCamp_12 : decode cX7_isCamp 12 = .ok (.iaload, 1) := by decide +kernel
theorem dX7_isCamp_13 : decode cX7_isCamp 13 = .ok (.i2l, 1) := by decide +kernel
theorem dX7_isCamp_14 : decode cX7_isCamp 14 = .ok (.lcmp, 1) := by decide +kernel
theorem dX7_isCamp_15 : decode cX7_isCamp 15 = .ok (.ifCond .ge 7, 3) := by decide +kernel
theorem dX7_isCamp_18 : decode cX7_isCamp 18 = .ok (.iconst 1, 1) := by decide +kernel
theorem dX7_isCamp_19 : decode cX7_isCamp 19 = .ok (.goto 4, 3) := by decide +kernel
theorem dX7_isCamp_22 : decode cX7_isCamp 22 = .ok (.iconst 0, 1) := by decide +kernel
theorem dX7_isCamp_23 : decode cX7_isCamp 23 = .ok (.ireturn, 1) := by decide +kernel
theorem dX7_comesCamp_0 : decode cX7_comesCamp 0 = .ok (.sipush 138, 3) := by decide +kernel
theorem dX7_comesCamp_3 : decode cX7_comesCamp 3 = .ok (.bipush 13, 2) := by decide +kernel
theorem dX7_comesCamp_5 : decode cX7_comesCamp 5 = .ok (.aload_n 0, 1) := by decide +kernel
theorem dX7_comesCamp_6 : decode cX7_comesCamp 6 = .ok (.getfield 7, 3) := by decide +kernel
theorem dX7_comesCamp_9 : decode cX7_comesCamp 9 = .ok (.iconst 2, 1) := by decide +kernel
theorem dX7_comesCamp_10 : decode cX7_comesCamp 10 = .ok (.iaload, 1) := by decide +kernel
theorem dX7_comesCamp_11 : decode cX7_comesCamp 11 = .ok (.imul, 1) := by decide +kernel
theorem dX7_comesCamp_12 : decode cX7_comesCamp 12 = .ok (.iadd, 1) := by decide +kernel
theorem dX7_comesCamp_13 : decode cX7_comesCamp 13 = .ok (.istore_n 2, 1) := by decide +kernel
theorem dX7_comesCamp_14 : decode cX7_comesCamp 14 = .ok (.iconst 0, 1) := by decide +kernel
theorem dX7_comesCamp_15 : decode cX7_comesCamp 15 = .ok (.istore_n 3, 1) := by decide +kernel
theorem dX7_comesCamp_16 : decode cX7_comesCamp 16 = .ok (.iload_n 3, 1) := by decide +kernel
theorem dX7_comesCamp_17 : decode cX7_comesCamp 17 = .ok (.bipush 12, 2) := by decide +kernel
theorem dX7_comesCamp_19 : decode cX7_comesCamp 19 = .ok (.if_icmp .ge 18, 3) := by decide +kernel
theorem dX7_comesCamp_22 : decode cX7_comesCamp 22 = .ok (.aload_n 0, 1) := by decide +kernel
theorem dX7_comesCamp_23 : decode cX7_comesCamp 23 = .ok (.getfield 7, 3) := by decide +kernel
theorem dX7_comesCamp_26 : decode cX7_comesCamp 26 = .ok (.iload_n 2, 1) := by decide +kernel
theorem dX7_comesCamp_27 : decode cX7_comesCamp 27 = .ok (.iload_n 3, 1) := by decide +kernel
theorem dX7_comesCamp_28 : decode cX7_comesCamp 28 = .ok (.iadd, 1) := by decide +kernel
theorem dX7_comesCamp_29 : decode cX7_comesCamp 29 = .ok (.iconst 0, 1) := by decide +kernel
theorem dX7_comesCamp_30 : decode cX7_comesCamp 30 = .ok (.iastore, 1) := by decide +kernel
theorem dX7_comesCamp_31 : decode cX7_comesCamp 31 = .ok (.iinc 3 1, 3) := by decide +kernel
theorem dX7_comesCamp_34 : decode cX7_comesCamp 34 = .ok (.goto (-18), 3) := by decide +kernel
theorem dX7_comesCamp_37 : decode cX7_comesCamp 37 = .ok (.aload_n 0, 1) := by decide +kernel
theorem dX7_comesCamp_38 : decode cX7_comesCamp 38 = .ok (.getfield 7, 3) := by decide +kernel
theorem dX7_comesCamp_41 : decode cX7_comesCamp 41 = .ok (.iload_n 2, 1) := by decide +kernel
theorem dX7_comesCamp_42 : decode cX7_comesCamp 42 = .ok (.bipush 12, 2) := by decide +kernel
theorem dX7_comesCamp_44 : decode cX7_comesCamp 44 = .ok (.iadd, 1) := by decide +kernel
theorem dX7_comesCamp_45 : decode cX7_comesCamp 45 = .ok (.iload_n 1, 1) := by decide +kernel
theorem dX7_comesCamp_46 : decode cX7_comesCamp 46 = .ok (.iastore, 1) := by decide +kernel
theorem dX7_comesCamp_47 : decode cX7_comesCamp 47 = .ok (.aload_n 0, 1) := by decide +kernel
theorem dX7_comesCamp_48 : decode cX7_comesCamp 48 = .ok (.getfield 7, 3) := by decide +kernel
theorem dX7_comesCamp_51 : decode cX7_comesCamp 51 = .ok (.iconst 2, 1) := by decide +kernel
theorem dX7_comesCamp_52 : decode cX7_comesCamp 52 = .ok (.dup2, 1) := by decide +kernel
theorem dX7_comesCamp_53 : decode cX7_comesCamp 53 = .ok (.iaload, 1) := by decide +kernel
theorem dX7_comesCamp_54 : decode cX7_comesCamp 54 = .ok (.iconst 1, 1) := by decide +kernel
theorem dX7_comesCamp_55 : decode cX7_comesCamp 55 = .ok (.iadd, 1) := by decide +kernel
theorem dX7_comesCamp_56 : decode cX7_comesCamp 56 = .ok (.iastore, 1) := by decide +kernel
theorem dX7_comesCamp_57 : decode cX7_comesCamp 57 = .ok (.return_, 1) := by decide +kernel
theorem dX7_camp_0 : decode cX7_camp 0 = .ok (.iload_n 1, 1) := by decide +kernel
theorem dX7_camp_1 : decode cX7_camp 1 = .ok (.i2l, 1) := by decide +kernel
theorem dX7_camp_2 : decode cX7_camp 2 = .ok (.lconst 0, 1) := by decide +kernel
theorem dX7_camp_3 : decode cX7_camp 3 = .ok (.ldc2_w 73, 3) := by decide +kernel
theorem dX7_camp_6 : decode cX7_camp 6 = .ok (.invokestatic 65, 3) := by decide +kernel
theorem dX7_camp_9 : decode cX7_camp 9 = .ok (.ifCond .ne 10, 3) := by decide +kernel
theorem dX7_camp_12 : decode cX7_camp 12 = .ok (.aload_n 0, 1) := by decide +kernel
theorem dX7_camp_13 : decode cX7_camp 13 = .ok (.ldc 54, 2) := by decide +kernel
theorem dX7_camp_15 : decode cX7_camp 15 = .ok (.invokevirtual 75, 3) := by decide +kernel
theorem dX7_camp_18 : decode cX7_camp 18 = .ok (.ireturn, 1) := by decide +kernel
theorem dX7_camp_19 : decode cX7_camp 19 = .ok (.aload_n 0, 1) := by decide +kernel
theorem dX7_camp_20 : decode cX7_camp 20 = .ok (.getfield 7, 3) := by decide +kernel
theorem dX7_camp_23 : decode cX7_camp 23 = .ok (.iconst 2, 1) := by decide +kernel
theorem dX7_camp_24 : decode cX7_camp 24 = .ok (.iaload, 1) := by decide +kernel
theorem dX7_camp_25 : decode cX7_camp 25 = .ok (.bipush 6, 2) := by decide +kernel
theorem dX7_camp_27 : decode cX7_camp 27 = .ok (.if_icmp .ne 10, 3) := by decide +kernel
theorem dX7_camp_30 : decode cX7_camp 30 = .ok (.aload_n 0, 1) := by decide +kernel
theorem dX7_camp_31 : decode cX7_camp 31 = .ok (.ldc 79, 2) := by decide +kernel
theorem dX7_camp_33 : decode cX7_camp 33 = .ok (.invokevirtual 75, 3) := by decide +kernel
theorem dX7_camp_36 : decode cX7_camp 36 = .ok (.ireturn, 1) := by decide +kernel
theorem dX7_camp_37 : decode cX7_camp 37 = .ok (.aload_n 0, 1) := by decide +kernel
theorem dX7_camp_38 : decode cX7_camp 38 = .ok (.iload_n 1, 1) := by decide +kernel
theorem dX7_camp_39 : decode cX7_camp 39 = .ok (.invokevirtual 156, 3) := by decide +kernel
theorem dX7_camp_42 : decode cX7_camp 42 = .ok (.aload_n 0, 1) := by decide +kernel
theorem dX7_camp_43 : decode cX7_camp 43 = .ok (.getfield 7, 3) := by decide +kernel
theorem dX7_camp_46 : decode cX7_camp 46 = .ok (.iconst 2, 1) := by decide +kernel
theorem dX7_camp_47 : decode cX7_camp 47 = .ok (.iaload, 1) := by decide +kernel
theorem dX7_camp_48 : decode cX7_camp 48 = .ok (.iconst 1, 1) := by decide +kernel
theorem dX7_camp_49 : decode cX7_camp 49 = .ok (.isub, 1) := by decide +kernel
theorem dX7_camp_50 : decode cX7_camp 50 = .ok (.ireturn, 1) := by decide +kernel
theorem dX7_grass_0 : decode cX7_grass 0 = .ok (.aload_n 0, 1) := by decide +kernel
theorem dX7_grass_1 : decode cX7_grass 1 = .ok (.iload_n 1, 1) := by decide +kernel
theorem dX7_grass_2 : decode cX7_grass 2 = .ok (.i2l, 1) := by decide +kernel
theorem dX7_grass_3 : decode cX7_grass 3 = .ok (.invokevirtual 160, 3) := by decide +kernel
theorem dX7_grass_6 : decode cX7_grass 6 = .ok (.ifCond .eq 27, 3) := by decide +kernel
theorem dX7_grass_9 : decode cX7_grass 9 = .ok (.iload_n 2, 1) := by decide +kernel
theorem dX7_grass_10 : decode cX7_grass 10 = .ok (.i2l, 1) := by decide +kernel
theorem dX7_grass_11 : decode cX7_grass 11 = .ok (.lconst 0, 1) := by decide +kernel
theorem dX7_grass_12 : decode cX7_grass 12 = .ok (.ldc2_w 164, 3) := by decide +kernel
theorem dX7_grass_15 : decode cX7_grass 15 = .ok (.invokestatic 65, 3) := by decide +kernel
theorem dX7_grass_18 : decode cX7_grass 18 = .ok (.ifCond .eq 15, 3) := by decide +kernel
theorem dX7_grass_21 : decode cX7_grass 21 = .ok (.iload_n 3, 1) := by decide +kernel
theorem dX7_grass_22 : decode cX7_grass 22 = .ok (.i2l, 1) := by decide +kernel
theorem dX7_grass_23 : decode cX7_grass 23 = .ok (.lconst 0, 1) := by decide +kernel
theorem dX7_grass_24 : decode cX7_grass 24 = .ok (.ldc2_w 71, 3) := by decide +kernel
theorem dX7_grass_27 : decode cX7_grass 27 = .ok (.invokestatic 65, 3) := by decide +kernel
theorem dX7_grass_30 : decode cX7_grass 30 = .ok (.ifCond .ne 10, 3) := by decide +kernel
theorem dX7_grass_33 : decode cX7_grass 33 = .ok (.aload_n 0, 1) := by decide +kernel
theorem dX7_grass_34 : decode cX7_grass 34 = .ok (.ldc 54, 2) := by decide +kernel
theorem dX7_grass_36 : decode cX7_grass 36 = .ok (.invokevirtual 75, 3) := by decide +kernel
theorem dX7_grass_39 : decode cX7_grass 39 = .ok (.ireturn, 1) := by decide +kernel
theorem dX7_grass_40 : decode cX7_grass 40 = .ok (.aload_n 0, 1) := by decide +kernel
theorem dX7_grass_41 : decode cX7_grass 41 = .ok (.sipush 138, 3) := by decide +kernel
theorem dX7_grass_44 : decode cX7_grass 44 = .ok (.bipush 13, 2) := by decide +kernel
theorem dX7_grass_46 : decode cX7_grass 46 = .ok (.iload_n 1, 1) := by decide +kernel
theorem dX7_grass_47 : decode cX7_grass 47 = .ok (.imul, 1) := by decide +kernel
theorem dX7_grass_48 : decode cX7_grass 48 = .ok (.iadd, 1) := by decide +kernel
theorem dX7_grass_49 : decode cX7_grass 49 = .ok (.iload_n 2, 1) := by decide +kernel
theorem dX7_grass_50 : decode cX7_grass 50 = .ok (.iadd, 1) := by decide +kernel
theorem dX7_grass_51 : decode cX7_grass 51 = .ok (.iload_n 3, 1) := by decide +kernel
theorem dX7_grass_52 : decode cX7_grass 52 = .ok (.invokevirtual 109, 3) := by decide +kernel
theorem dX7_grass_55 : decode cX7_grass 55 = .ok (.ireturn, 1) := by decide +kernel
theorem dX7_campOf_0 : decode cX7_campOf 0 = .ok (.aload_n 0, 1) := by decide +kernel
theorem dX7_campOf_1 : decode cX7_campOf 1 = .ok (.iload_n 1, 1) := by decide +kernel
theorem dX7_campOf_2 : decode cX7_campOf 2 = .ok (.i2l, 1) := by decide +kernel
theorem dX7_campOf_3 : decode cX7_campOf 3 = .ok (.invokevirtual 160, 3) := by decide +kernel
theorem dX7_campOf_6 : decode cX7_campOf 6 = .ok (.ifCond .eq 33, 3) := by decide +kernel
theorem dX7_campOf_9 : decode cX7_campOf 9 = .ok (.iload_n 2, 1) := by decide +kernel
theorem dX7_campOf_10 : decode cX7_campOf 10 = .ok (.i2l, 1) := by decide +kernel
theorem dX7_campOf_11 : decode cX7_campOf 11 = .ok (.lconst 0, 1) := by decide +kernel
theorem dX7_campOf_12 : decode cX7_campOf 12 = .ok (.ldc2_w 166, 3) := by decide +kernel
theorem dX7_campOf_15 : decode cX7_campOf 15 = .ok (.invokestatic 65, 3) := by decide +kernel
theorem dX7_campOf_18 : decode cX7_campOf 18 = .ok (.ifCond .eq 21, 3) := by decide +kernel
theorem dX7_campOf_21 : decode cX7_campOf 21 = .ok (.aload_n 0, 1) := by decide +kernel
theorem dX7_campOf_22 : decode cX7_campOf 22 = .ok (.getfield 7, 3) := by decide +kernel
theorem dX7_campOf_25 : decode cX7_campOf 25 = .ok (.sipush 138, 3) := by decide +kernel
theorem dX7_campOf_28 : decode cX7_campOf 28 = .ok (.bipush 13, 2) := by decide +kernel
theorem dX7_campOf_30 : decode cX7_campOf 30 = .ok (.iload_n 1, 1) := by decide +kernel
theorem dX7_campOf_31 : decode cX7_campOf 31 = .ok (.imul, 1) := by decide +kernel
theorem dX7_campOf_32 : decode cX7_campOf 32 = .ok (.iadd, 1) := by decide +kernel
theorem dX7_campOf_33 : decode cX7_campOf 33 = .ok (.iload_n 2, 1) := by decide +kernel
theorem dX7_campOf_34 : decode cX7_campOf 34 = .ok (.iadd, 1) := by decide +kernel
theorem dX7_campOf_35 : decode cX7_campOf 35 = .ok (.iaload, 1) := by decide +kernel
theorem dX7_campOf_36 : decode cX7_campOf 36 = .ok (.goto 9, 3) := by decide +kernel
theorem dX7_campOf_39 : decode cX7_campOf 39 = .ok (.aload_n 0, 1) := by decide +kernel
theorem dX7_campOf_40 : decode cX7_campOf 40 = .ok (.ldc 54, 2) := by decide +kernel
theorem dX7_campOf_42 : decode cX7_campOf 42 = .ok (.invokevirtual 75, 3) := by decide +kernel
theorem dX7_campOf_45 : decode cX7_campOf 45 = .ok (.ireturn, 1) := by decide +kernel
theorem dX7_herd_0 : decode cX7_herd 0 = .ok (.iload_n 1, 1) := by decide +kernel
theorem dX7_herd_1 : decode cX7_herd 1 = .ok (.i2l, 1) := by decide +kernel
theorem dX7_herd_2 : decode cX7_herd 2 = .ok (.lconst 0, 1) := by decide +kernel
theorem dX7_herd_3 : decode cX7_herd 3 = .ok (.ldc2_w 105, 3) := by decide +kernel
theorem dX7_herd_6 : decode cX7_herd 6 = .ok (.invokestatic 65, 3) := by decide +kernel
theorem dX7_herd_9 : decode cX7_herd 9 = .ok (.ifCond .eq 38, 3) := by decide +kernel
theorem dX7_herd_12 : decode cX7_herd 12 = .ok (.iload_n 2, 1) := by decide +kernel
theorem dX7_herd_13 : decode cX7_herd 13 = .ok (.i2l, 1) := by decide +kernel
theorem dX7_herd_14 : decode cX7_herd 14 = .ok (.lconst 0, 1) := by decide +kernel
theorem dX7_herd_15 : decode cX7_herd 15 = .ok (.iload_n 1, 1) := by decide +kernel
theorem dX7_herd_16 : decode cX7_herd 16 = .ok (.iconst 1, 1) := by decide +kernel
theorem dX7_herd_17 : decode cX7_herd 17 = .ok (.if_icmp .ne 9, 3) := by decide +kernel
theorem dX7_herd_20 : decode cX7_herd 20 = .ok (.ldc2_w 73, 3) := by decide +kernel
theorem dX7_herd_23 : decode cX7_herd 23 = .ok (.goto 6, 3) := by decide +kernel
theorem dX7_herd_26 : decode cX7_herd 26 = .ok (.ldc2_w 71, 3) := by decide +kernel
theorem dX7_herd_29 : decode cX7_herd 29 = .ok (.invokestatic 65, 3) := by decide +kernel
theorem dX7_herd_32 : decode cX7_herd 32 = .ok (.ifCond .eq 15, 3) := by decide +kernel
theorem dX7_herd_35 : decode cX7_herd 35 = .ok (.aload_n 0, 1) := by decide +kernel
theorem dX7_herd_36 : decode cX7_herd 36 = .ok (.bipush 9, 2) := by decide +kernel
theorem dX7_herd_38 : decode cX7_herd 38 = .ok (.iload_n 1, 1) := by decide +kernel
theorem dX7_herd_39 : decode cX7_herd 39 = .ok (.iadd, 1) := by decide +kernel
theorem dX7_herd_40 : decode cX7_herd 40 = .ok (.iload_n 2, 1) := by decide +kernel
theorem dX7_herd_41 : decode cX7_herd 41 = .ok (.invokevirtual 109, 3) := by decide +kernel
theorem dX7_herd_44 : decode cX7_herd 44 = .ok (.goto 9, 3) := by decide +kernel
theorem dX7_herd_47 : decode cX7_herd 47 = .ok (.aload_n 0, 1) := by decide +kernel
theorem dX7_herd_48 : decode cX7_herd 48 = .ok (.ldc 54, 2) := by decide +kernel
theorem dX7_herd_50 : decode cX7_herd 50 = .ok (.invokevirtual 75, 3) := by decide +kernel
theorem dX7_herd_53 : decode cX7_herd 53 = .ok (.ireturn, 1) := by decide +kernel
theorem dX7_moveCost_0 : decode cX7_moveCost 0 = .ok (.aload_n 0, 1) := by decide +kernel
theorem dX7_moveCost_1 : decode cX7_moveCost 1 = .ok (.getfield 7, 3) := by decide +kernel
theorem dX7_moveCost_4 : decode cX7_moveCost 4 = .ok (.sipush 138, 3) := by decide +kernel
theorem dX7_moveCost_7 : decode cX7_moveCost 7 = .ok (.bipush 13, 2) := by decide +kernel
theorem dX7_moveCost_9 : decode cX7_moveCost 9 = .ok (.iload_n 1, 1) := by decide +kernel
theorem dX7_moveCost_10 : decode cX7_moveCost 10 = .ok (.imul, 1) := by decide +kernel
theorem dX7_moveCost_11 : decode cX7_moveCost 11 = .ok (.iadd, 1) := by decide +kernel
theorem dX7_moveCost_12 : decode cX7_moveCost 12 = .ok (.bipush 12, 2) := by decide +kernel
theorem dX7_moveCost_14 : decode cX7_moveCost 14 = .ok (.iadd, 1) := by decide +kernel
theorem dX7_moveCost_15 : decode cX7_moveCost 15 = .ok (.iaload, 1) := by decide +kernel
theorem dX7_moveCost_16 : decode cX7_moveCost 16 = .ok (.aload_n 0, 1) := by decide +kernel
theorem dX7_moveCost_17 : decode cX7_moveCost 17 = .ok (.getfield 7, 3) := by decide +kernel
theorem dX7_moveCost_20 : decode cX7_moveCost 20 = .ok (.sipush 138, 3) := by decide +kernel
theorem dX7_moveCost_23 : decode cX7_moveCost 23 = .ok (.bipush 13, 2) := by decide +kernel
theorem dX7_moveCost_25 : decode cX7_moveCost 25 = .ok (.iload_n 2, 1) := by decide +kernel
theorem dX7_moveCost_26 : decode cX7_moveCost 26 = .ok (.imul, 1) := by decide +kernel
theorem dX7_moveCost_27 : decode cX7_moveCost 27 = .ok (.iadd, 1) := by decide +kernel
theorem dX7_moveCost_28 : decode cX7_moveCost 28 = .ok (.bipush 12, 2) := by decide +kernel
theorem dX7_moveCost_30 : decode cX7_moveCost 30 = .ok (.iadd, 1) := by decide +kernel
theorem dX7_moveCost_31 : decode cX7_moveCost 31 = .ok (.iaload, 1) := by decide +kernel
theorem dX7_moveCost_32 : decode cX7_moveCost 32 = .ok (.isub, 1) := by decide +kernel
theorem dX7_moveCost_33 : decode cX7_moveCost 33 = .ok (.istore_n 3, 1) := by decide +kernel
theorem dX7_moveCost_34 : decode cX7_moveCost 34 = .ok (.aload_n 0, 1) := by decide +kernel
theorem dX7_moveCost_35 : decode cX7_moveCost 35 = .ok (.getfield 7, 3) := by decide +kernel
theorem dX7_moveCost_38 : decode cX7_moveCost 38 = .ok (.bipush 10, 2) := by decide +kernel
theorem dX7_moveCost_40 : decode cX7_moveCost 40 = .ok (.iaload, 1) := by decide +kernel
theorem dX7_moveCost_41 : decode cX7_moveCost 41 = .ok (.iload_n 3, 1) := by decide +kernel
theorem dX7_moveCost_42 : decode cX7_moveCost 42 = .ok (.ifCond .ge 8, 3) := by decide +kernel
theorem dX7_moveCost_45 : decode cX7_moveCost 45 = .ok (.iload_n 3, 1) := by decide +kernel
theorem dX7_moveCost_46 : decode cX7_moveCost 46 = .ok (.ineg, 1) := by decide +kernel
theorem dX7_moveCost_47 : decode cX7_moveCost 47 = .ok (.goto 4, 3) := by decide +kernel
theorem dX7_moveCost_50 : decode cX7_moveCost 50 = .ok (.iload_n 3, 1) := by decide +kernel
theorem dX7_moveCost_51 : decode cX7_moveCost 51 = .ok (.imul, 1) := by decide +kernel
theorem dX7_moveCost_52 : decode cX7_moveCost 52 = .ok (.aload_n 0, 1) := by decide +kernel
theorem dX7_moveCost_53 : decode cX7_moveCost 53 = .ok (.getfield 7, 3) := by decide +kernel
theorem dX7_moveCost_56 : decode cX7_moveCost 56 = .ok (.bipush 11, 2) := by decide +kernel
theorem dX7_moveCost_58 : decode cX7_moveCost 58 = .ok (.iaload, 1) := by decide +kernel
theorem dX7_moveCost_59 : decode cX7_moveCost 59 = .ok (.iadd, 1) := by decide +kernel
theorem dX7_moveCost_60 : decode cX7_moveCost 60 = .ok (.ireturn, 1) := by decide +kernel
theorem dX7_monthCost_0 : decode cX7_monthCost 0 = .ok (.aload_n 0, 1) := by decide +kernel
theorem dX7_monthCost_1 : decode cX7_monthCost 1 = .ok (.getfield 7, 3) := by decide +kernel
theorem dX7_monthCost_4 : decode cX7_monthCost 4 = .ok (.sipush 138, 3) := by decide +kernel
theorem dX7_monthCost_7 : decode cX7_monthCost 7 = .ok (.bipush 13, 2) := by decide +kernel
theorem dX7_monthCost_9 : decode cX7_monthCost 9 = .ok (.iload_n 1, 1) := by decide +kernel
theorem dX7_monthCost_10 : decode cX7_monthCost 10 = .ok (.imul, 1) := by decide +kernel
theorem dX7_monthCost_11 : decode cX7_monthCost 11 = .ok (.iadd, 1) := by decide +kernel
theorem dX7_monthCost_12 : decode cX7_monthCost 12 = .ok (.iload_n 2, 1) := by decide +kernel
theorem dX7_monthCost_13 : decode cX7_monthCost 13 = .ok (.bipush 12, 2) := by decide +kernel
theorem dX7_monthCost_15 : decode cX7_monthCost 15 = .ok (.irem, 1) := by decide +kernel
theorem dX7_monthCost_16 : decode cX7_monthCost 16 = .ok (.iadd, 1) := by decide +kernel
theorem dX7_monthCost_17 : decode cX7_monthCost 17 = .ok (.iaload, 1) := by decide +kernel
theorem dX7_monthCost_18 : decode cX7_monthCost 18 = .ok (.istore 4, 2) := by decide +kernel
theorem dX7_monthCost_20 : decode cX7_monthCost 20 = .ok (.aload_n 0, 1) := by decide +kernel
theorem dX7_monthCost_21 : decode cX7_monthCost 21 = .ok (.getfield 7, 3) := by decide +kernel
theorem dX7_monthCost_24 : decode cX7_monthCost 24 = .ok (.bipush 9, 2) := by decide +kernel
theorem dX7_monthCost_26 : decode cX7_monthCost 26 = .ok (.iaload, 1) := by decide +kernel
theorem dX7_monthCost_27 : decode cX7_monthCost 27 = .ok (.iload_n 3, 1) := by decide +kernel
theorem dX7_monthCost_28 : decode cX7_monthCost 28 = .ok (.iconst 1, 1) := by decide +kernel
theorem dX7_monthCost_29 : decode cX7_monthCost 29 = .ok (.if_icmp .ne 8, 3) := by decide +kernel
theorem dX7_monthCost_32 : decode cX7_monthCost 32 = .ok (.iload 4, 2) := by decide +kernel
theorem dX7_monthCost_34 : decode cX7_monthCost 34 = .ok (.goto 16, 3) := by decide +kernel
theorem dX7_monthCost_37 : decode cX7_monthCost 37 = .ok (.iload_n 3, 1) := by decide +kernel
theorem dX7_monthCost_38 : decode cX7_monthCost 38 = .ok (.iconst 2, 1) := by decide +kernel
theorem dX7_monthCost_39 : decode cX7_monthCost 39 = .ok (.if_icmp .ne 10, 3) := by decide +kernel
theorem dX7_monthCost_42 : decode cX7_monthCost 42 = .ok (.iload 4, 2) := by decide +kernel
theorem dX7_monthCost_44 : decode cX7_monthCost 44 = .ok (.iconst 2, 1) := by decide +kernel
theorem dX7_monthCost_45 : decode cX7_monthCost 45 = .ok (.idiv, 1) := by decide +kernel
theorem dX7_monthCost_46 : decode cX7_monthCost 46 = .ok (.goto 4, 3) := by decide +kernel
theorem dX7_monthCost_49 : decode cX7_monthCost 49 = .ok (.iconst 0, 1) := by decide +kernel
theorem dX7_monthCost_50 : decode cX7_monthCost 50 = .ok (.isub, 1) := by decide +kernel
theorem dX7_monthCost_51 : decode cX7_monthCost 51 = .ok (.istore 5, 2) := by decide +kernel
theorem dX7_monthCost_53 : decode cX7_monthCost 53 = .ok (.iload 5, 2) := by decide +kernel
theorem dX7_monthCost_55 : decode cX7_monthCost 55 = .ok (.ifCond .ge 7, 3) := by decide +kernel
theorem dX7_monthCost_58 : decode cX7_monthCost 58 = .ok (.iconst 0, 1) := by decide +kernel
theorem dX7_monthCost_59 : decode cX7_monthCost 59 = .ok (.goto 5, 3) := by decide +kernel
theorem dX7_monthCost_62 : decode cX7_monthCost 62 = .ok (.iload 5, 2) := by decide +kernel
theorem dX7_monthCost_64 : decode cX7_monthCost 64 = .ok (.ireturn, 1) := by decide +kernel
theorem dX7_placeOf_0 : decode cX7_placeOf 0 = .ok (.bipush 18, 2) := by decide +kernel
theorem dX7_placeOf_2 : decode cX7_placeOf 2 = .ok (.iload_n 0, 1) := by decide +kernel
theorem dX7_placeOf_3 : decode cX7_placeOf 3 = .ok (.imul, 1) := by decide +kernel
theorem dX7_placeOf_4 : decode cX7_placeOf 4 = .ok (.iconst 3, 1) := by decide +kernel
theorem dX7_placeOf_5 : decode cX7_placeOf 5 = .ok (.iload_n 1, 1) := by decide +kernel
theorem dX7_placeOf_6 : decode cX7_placeOf 6 = .ok (.imul, 1) := by decide +kernel
theorem dX7_placeOf_7 : decode cX7_placeOf 7 = .ok (.iadd, 1) := by decide +kernel
theorem dX7_placeOf_8 : decode cX7_placeOf 8 = .ok (.iload_n 2, 1) := by decide +kernel
theorem dX7_placeOf_9 : decode cX7_placeOf 9 = .ok (.iadd, 1) := by decide +kernel
theorem dX7_placeOf_10 : decode cX7_placeOf 10 = .ok (.iconst 1, 1) := by decide +kernel
theorem dX7_placeOf_11 : decode cX7_placeOf 11 = .ok (.isub, 1) := by decide +kernel
theorem dX7_placeOf_12 : decode cX7_placeOf 12 = .ok (.ireturn, 1) := by decide +kernel
theorem dX7_costNext_0 : decode cX7_costNext 0 = .ok (.iload_n 2, 1) := by decide +kernel
theorem dX7_costNext_1 : decode cX7_costNext 1 = .ok (.iload 4, 2) := by decide +kernel
theorem dX7_costNext_3 : decode cX7_costNext 3 = .ok (.if_icmp .ne 27, 3) := by decide +kernel
theorem dX7_costNext_6 : decode cX7_costNext 6 = .ok (.aload_n 0, 1) := by decide +kernel
theorem dX7_costNext_7 : decode cX7_costNext 7 = .ok (.getfield 45, 3) := by decide +kernel
theorem dX7_costNext_10 : decode cX7_costNext 10 = .ok (.iload_n 1, 1) := by decide +kernel
theorem dX7_costNext_11 : decode cX7_costNext 11 = .ok (.iload 4, 2) := by decide +kernel
theorem dX7_costNext_13 : decode cX7_costNext 13 = .ok (.iload_n 3, 1) := by decide +kernel
theorem dX7_costNext_14 : decode cX7_costNext 14 = .ok (.iconst 3, 1) := by decide +kernel
theorem dX7_costNext_15 : decode cX7_costNext 15 = .ok (.if_icmp .ge 9, 3) := by decide +kernel
theorem dX7_costNext_18 : decode cX7_costNext 18 = .ok (.iload_n 3, 1) := by decide +kernel
theorem dX7_costNext_19 : decode cX7_costNext 19 = .ok (.iconst 1, 1) := by decide +kernel
theorem dX7_costNext_20 : decode cX7_costNext 20 = .ok (.iadd, 1) := by decide +kernel
theorem dX7_costNext_21 : decode cX7_costNext 21 = .ok (.goto 4, 3) := by decide +kernel
theorem dX7_costNext_24 : decode cX7_costNext 24 = .ok (.iconst 3, 1) := by decide +kernel
theorem dX7_costNext_25 : decode cX7_costNext 25 = .ok (.invokestatic 168, 3) := by decide +kernel
theorem dX7_costNext_28 : decode cX7_costNext 28 = .ok (.iaload, 1) := by decide +kernel
theorem dX7_costNext_29 : decode cX7_costNext 29 = .ok (.ireturn, 1) := by decide +kernel
theorem dX7_costNext_30 : decode cX7_costNext 30 = .ok (.aload_n 0, 1) := by decide +kernel
theorem dX7_costNext_31 : decode cX7_costNext 31 = .ok (.getfield 45, 3) := by decide +kernel
theorem dX7_costNext_34 : decode cX7_costNext 34 = .ok (.iload_n 1, 1) := by decide +kernel
theorem dX7_costNext_35 : decode cX7_costNext 35 = .ok (.iload 4, 2) := by decide +kernel
theorem dX7_costNext_37 : decode cX7_costNext 37 = .ok (.iconst 1, 1) := by decide +kernel
theorem dX7_costNext_38 : decode cX7_costNext 38 = .ok (.invokestatic 168, 3) := by decide +kernel
theorem dX7_costNext_41 : decode cX7_costNext 41 = .ok (.iaload, 1) := by decide +kernel
theorem dX7_costNext_42 : decode cX7_costNext 42 = .ok (.iload_n 2, 1) := by decide +kernel
theorem dX7_costNext_43 : decode cX7_costNext 43 = .ok (.ifCond .ge 7, 3) := by decide +kernel
theorem dX7_costNext_46 : decode cX7_costNext 46 = .ok (.iconst 0, 1) := by decide +kernel
theorem dX7_costNext_47 : decode cX7_costNext 47 = .ok (.goto 10, 3) := by decide +kernel
theorem dX7_costNext_50 : decode cX7_costNext 50 = .ok (.aload_n 0, 1) := by decide +kernel
theorem dX7_costNext_51 : decode cX7_costNext 51 = .ok (.iload_n 2, 1) := by decide +kernel
theorem dX7_costNext_52 : decode cX7_costNext 52 = .ok (.iload 4, 2) := by decide +kernel
theorem dX7_costNext_54 : decode cX7_costNext 54 = .ok (.invokevirtual 172, 3) := by decide +kernel
theorem dX7_costNext_57 : decode cX7_costNext 57 = .ok (.iadd, 1) := by decide +kernel
theorem dX7_costNext_58 : decode cX7_costNext 58 = .ok (.ireturn, 1) := by decide +kernel
theorem dX7_nextCamp_0 : decode cX7_nextCamp 0 = .ok (.iconst 0, 1) := by decide +kernel
theorem dX7_nextCamp_1 : decode cX7_nextCamp 1 = .ok (.istore 4, 2) := by decide +kernel
theorem dX7_nextCamp_3 : decode cX7_nextCamp 3 = .ok (.iconst 1, 1) := by decide +kernel
theorem dX7_nextCamp_4 : decode cX7_nextCamp 4 = .ok (.istore 5, 2) := by decide +kernel
theorem dX7_nextCamp_6 : decode cX7_nextCamp 6 = .ok (.iload 5, 2) := by decide +kernel
theorem dX7_nextCamp_8 : decode cX7_nextCamp 8 = .ok (.aload_n 0, 1) := by decide +kernel
theorem dX7_nextCamp_9 : decode cX7_nextCamp 9 = .ok (.getfield 7, 3) := by decide +kernel
theorem dX7_nextCamp_12 : decode cX7_nextCamp 12 = .ok (.iconst 2, 1) := by decide +kernel
theorem dX7_nextCamp_13 : decode cX7_nextCamp 13 = .ok (.iaload, 1) := by decide +kernel
theorem dX7_nextCamp_14 : decode cX7_nextCamp 14 = .ok (.if_icmp .ge 39, 3) := by decide +kernel
theorem dX7_nextCamp_17 : decode cX7_nextCamp 17 = .ok (.aload_n 0, 1) := by decide +kernel
theorem dX7_nextCamp_18 : decode cX7_nextCamp 18 = .ok (.iload_n 1, 1) := by decide +kernel
theorem dX7_nextCamp_19 : decode cX7_nextCamp 19 = .ok (.iload_n 2, 1) := by decide +kernel
theorem dX7_nextCamp_20 : decode cX7_nextCamp 20 = .ok (.iload_n 3, 1) := by decide +kernel
theorem dX7_nextCamp_21 : decode cX7_nextCamp 21 = .ok (.iload 5, 2) := by decide +kernel
theorem dX7_nextCamp_23 : decode cX7_nextCamp 23 = .ok (.invokevirtual 175, 3) := by decide +kernel
theorem dX7_nextCamp_26 : decode cX7_nextCamp 26 = .ok (.aload_n 0, 1) := by decide +kernel
theorem dX7_nextCamp_27 : decode cX7_nextCamp 27 = .ok (.iload_n 1, 1) := by decide +kernel
theorem dX7_nextCamp_28 : decode cX7_nextCamp 28 = .ok (.iload_n 2, 1) := by decide +kernel
theorem dX7_nextCamp_29 : decode cX7_nextCamp 29 = .ok (.iload_n 3, 1) := by decide +kernel
theorem dX7_nextCamp_30 : decode cX7_nextCamp 30 = .ok (.iload 4, 2) := by decide +kernel
theorem dX7_nextCamp_32 : decode cX7_nextCamp 32 = .ok (.invokevirtual 175, 3) := by decide +kernel
theorem dX7_nextCamp_35 : decode cX7_nextCamp 35 = .ok (.if_icmp .ge 8, 3) := by decide +kernel
theorem dX7_nextCamp_38 : decode cX7_nextCamp 38 = .ok (.iload 5, 2) := by decide +kernel
theorem dX7_nextCamp_40 : decode cX7_nextCamp 40 = .ok (.goto 5, 3) := by decide +kernel
theorem dX7_nextCamp_43 : decode cX7_nextCamp 43 = .ok (.iload 4, 2) := by decide +kernel
theorem dX7_nextCamp_45 : decode cX7_nextCamp 45 = .ok (.istore 4, 2) := by decide +kernel
theorem dX7_nextCamp_47 : decode cX7_nextCamp 47 = .ok (.iinc 5 1, 3) := by decide +kernel
theorem dX7_nextCamp_50 : decode cX7_nextCamp 50 = .ok (.goto (-44), 3) := by decide +kernel
theorem dX7_nextCamp_53 : decode cX7_nextCamp 53 = .ok (.iload 4, 2) := by decide +kernel
theorem dX7_nextCamp_55 : decode cX7_nextCamp 55 = .ok (.ireturn, 1) := by decide +kernel
theorem dX7_findYear_0 : decode cX7_findYear 0 = .ok (.iload_n 2, 1) := by decide +kernel
theorem dX7_findYear_1 : decode cX7_findYear 1 = .ok (.iconst 1, 1) := by decide +kernel
theorem dX7_findYear_2 : decode cX7_findYear 2 = .ok (.isub, 1) := by decide +kernel
theorem dX7_findYear_3 : decode cX7_findYear 3 = .ok (.istore_n 3, 1) := by decide +kernel
theorem dX7_findYear_4 : decode cX7_findYear 4 = .ok (.iload_n 3, 1) := by decide +kernel
theorem dX7_findYear_5 : decode cX7_findYear 5 = .ok (.ifCond .lt 106, 3) := by decide +kernel
theorem dX7_findYear_8 : decode cX7_findYear 8 = .ok (.iconst 0, 1) := by decide +kernel
theorem dX7_findYear_9 : decode cX7_findYear 9 = .ok (.istore 4, 2) := by decide +kernel
theorem dX7_findYear_11 : decode cX7_findYear 11 = .ok (.iload 4, 2) := by decide +kernel
theorem dX7_findYear_13 : decode cX7_findYear 13 = .ok (.aload_n 0, 1) := by decide +kernel
theorem dX7_findYear_14 : decode cX7_findYear 14 = .ok (.getfield 7, 3) := by decide +kernel
theorem dX7_findYear_17 : decode cX7_findYear 17 = .ok (.iconst 2, 1) := by decide +kernel
theorem dX7_findYear_18 : decode cX7_findYear 18 = .ok (.iaload, 1) := by decide +kernel
theorem dX7_findYear_19 : decode cX7_findYear 19 = .ok (.if_icmp .ge 86, 3) := by decide +kernel
theorem dX7_findYear_22 : decode cX7_findYear 22 = .ok (.iconst 1, 1) := by decide +kernel
theorem dX7_findYear_23 : decode cX7_findYear 23 = .ok (.istore 5, 2) := by decide +kernel
theorem dX7_findYear_25 : decode cX7_findYear 25 = .ok (.iload 5, 2) := by decide +kernel
theorem dX7_findYear_27 : decode cX7_findYear 27 = .ok (.iconst 4, 1) := by decide +kernel
theorem dX7_findYear_28 : decode cX7_findYear 28 = .ok (.if_icmp .ge 71, 3) := by decide +kernel
theorem dX7_findYear_31 : decode cX7_findYear 31 = .ok (.iload_n 3, 1) := by decide +kernel
theorem dX7_findYear_32 : decode cX7_findYear 32 = .ok (.iload_n 2, 1) := by decide +kernel
theorem dX7_findYear_33 : decode cX7_findYear 33 = .ok (.iconst 1, 1) := by decide +kernel
theorem dX7_findYear_34 : decode cX7_findYear 34 = .ok (.isub, 1) := by decide +kernel
theorem dX7_findYear_35 : decode cX7_findYear 35 = .ok (.if_icmp .ne 7, 3) := by decide +kernel
theorem dX7_findYear_38 : decode cX7_findYear 38 = .ok (.iconst 0, 1) := by decide +kernel
theorem dX7_findYear_39 : decode cX7_findYear 39 = .ok (.goto 25, 3) := by decide +kernel
theorem dX7_findYear_42 : decode cX7_findYear 42 = .ok (.aload_n 0, 1) := by decide +kernel
theorem dX7_findYear_43 : decode cX7_findYear 43 = .ok (.iload_n 3, 1) := by decide +kernel
theorem dX7_findYear_44 : decode cX7_findYear 44 = .ok (.iconst 1, 1) := by decide +kernel
theorem dX7_findYear_45 : decode cX7_findYear 45 = .ok (.iadd, 1) := by decide +kernel
theorem dX7_findYear_46 : decode cX7_findYear 46 = .ok (.iload 4, 2) := by decide +kernel
theorem dX7_findYear_48 : decode cX7_findYear 48 = .ok (.iload 5, 2) := by decide +kernel
theorem dX7_findYear_50 : decode cX7_findYear 50 = .ok (.aload_n 0, 1) := by decide +kernel
theorem dX7_findYear_51 : decode cX7_findYear 51 = .ok (.iload_n 3, 1) := by decide +kernel
theorem dX7_findYear_52 : decode cX7_findYear 52 = .ok (.iconst 1, 1) := by decide +kernel
theorem dX7_findYear_53 : decode cX7_findYear 53 = .ok (.iadd, 1) := by decide +kernel
theorem dX7_findYear_54 : decode cX7_findYear 54 = .ok (.iload 4, 2) := by decide +kernel
theorem dX7_findYear_56 : decode cX7_findYear 56 = .ok (.iload 5, 2) := by decide +kernel
theorem dX7_findYear_58 : decode cX7_findYear 58 = .ok (.invokevirtual 179, 3) := by decide +kernel
theorem dX7_findYear_61 : decode cX7_findYear 61 = .ok (.invokevirtual 175, 3) := by decide +kernel
theorem dX7_findYear_64 : decode cX7_findYear 64 = .ok (.istore 6, 2) := by decide +kernel
theorem dX7_findYear_66 : decode cX7_findYear 66 = .ok (.aload_n 0, 1) := by decide +kernel
theorem dX7_findYear_67 : decode cX7_findYear 67 = .ok (.getfield 45, 3) := by decide +kernel
theorem dX7_findYear_70 : decode cX7_findYear 70 = .ok (.iload_n 3, 1) := by decide +kernel
theorem dX7_findYear_71 : decode cX7_findYear 71 = .ok (.iload 4, 2) := by decide +kernel
theorem dX7_findYear_73 : decode cX7_findYear 73 = .ok (.iload 5, 2) := by decide +kernel
theorem dX7_findYear_75 : decode cX7_findYear 75 = .ok (.invokestatic 168, 3) := by decide +kernel
theorem dX7_findYear_78 : decode cX7_findYear 78 = .ok (.aload_n 0, 1) := by decide +kernel
theorem dX7_findYear_79 : decode cX7_findYear 79 = .ok (.iload 4, 2) := by decide +kernel
theorem dX7_findYear_81 : decode cX7_findYear 81 = .ok (.iload_n 1, 1) := by decide +kernel
theorem dX7_findYear_82 : decode cX7_findYear 82 = .ok (.iload_n 3, 1) := by decide +kernel
theorem dX7_findYear_83 : decode cX7_findYear 83 = .ok (.iadd, 1) := by decide +kernel
theorem dX7_findYear_84 : decode cX7_findYear 84 = .ok (.iload 5, 2) := by decide +kernel
theorem dX7_findYear_86 : decode cX7_findYear 86 = .ok (.invokevirtual 182, 3) := by decide +kernel
theorem dX7_findYear_89 : decode cX7_findYear 89 = .ok (.iload 6, 2) := by decide +kernel
theorem dX7_findYear_91 : decode cX7_findYear 91 = .ok (.iadd, 1) := by decide +kernel
theorem dX7_findYear_92 : decode cX7_findYear 92 = .ok (.iastore, 1) := by decide +kernel
theorem dX7_findYear_93 : decode cX7_findYear 93 = .ok (.iinc 5 1, 3) := by decide +kernel
theorem dX7_findYear_96 : decode cX7_findYear 96 = .ok (.goto (-71), 3) := by decide +kernel
theorem dX7_findYear_99 : decode cX7_findYear 99 = .ok (.iinc 4 1, 3) := by decide +kernel
theorem dX7_findYear_102 : decode cX7_findYear 102 = .ok (.goto (-91), 3) := by decide +kernel
theorem dX7_findYear_105 : decode cX7_findYear 105 = .ok (.iinc 3 (-1), 3) := by decide +kernel
theorem dX7_findYear_108 : decode cX7_findYear 108 = .ok (.goto (-104), 3) := by decide +kernel
theorem dX7_findYear_111 : decode cX7_findYear 111 = .ok (.iconst (-1), 1) := by decide +kernel
theorem dX7_findYear_112 : decode cX7_findYear 112 = .ok (.istore_n 3, 1) := by decide +kernel
theorem dX7_findYear_113 : decode cX7_findYear 113 = .ok (.iconst 0, 1) := by decide +kernel
theorem dX7_findYear_114 : decode cX7_findYear 114 = .ok (.istore 4, 2) := by decide +kernel
theorem dX7_findYear_116 : decode cX7_findYear 116 = .ok (.iconst 0, 1) := by decide +kernel
theorem dX7_findYear_117 : decode cX7_findYear 117 = .ok (.istore 5, 2) := by decide +kernel
theorem dX7_findYear_119 : decode cX7_findYear 119 = .ok (.iload 5, 2) := by decide +kernel
theorem dX7_findYear_121 : decode cX7_findYear 121 = .ok (.iload_n 2, 1) := by decide +kernel
theorem dX7_findYear_122 : decode cX7_findYear 122 = .ok (.if_icmp .ge 57, 3) := by decide +kernel
theorem dX7_findYear_125 : decode cX7_findYear 125 = .ok (.aload_n 0, 1) := by decide +kernel
theorem dX7_findYear_126 : decode cX7_findYear 126 = .ok (.iload 5, 2) := by decide +kernel
theorem dX7_findYear_128 : decode cX7_findYear 128 = .ok (.iload_n 3, 1) := by decide +kernel
theorem dX7_findYear_129 : decode cX7_findYear 129 = .ok (.iload 4, 2) := by decide +kernel
theorem dX7_findYear_131 : decode cX7_findYear 131 = .ok (.invokevirtual 179, 3) := by decide +kernel
theorem dX7_findYear_134 : decode cX7_findYear 134 = .ok (.istore 6, 2) := by decide +kernel
theorem dX7_findYear_136 : decode cX7_findYear 136 = .ok (.iload 6, 2) := by decide +kernel
theorem dX7_findYear_138 : decode cX7_findYear 138 = .ok (.iload_n 3, 1) := by decide +kernel
theorem dX7_findYear_139 : decode cX7_findYear 139 = .ok (.if_icmp .eq 7, 3) := by decide +kernel
theorem dX7_findYear_142 : decode cX7_findYear 142 = .ok (.iconst 1, 1) := by decide +kernel
theorem dX7_findYear_143 : decode cX7_findYear 143 = .ok (.goto 17, 3) := by decide +kernel
theorem dX7_findYear_146 : decode cX7_findYear 146 = .ok (.iload 4, 2) := by decide +kernel
theorem dX7_findYear_148 : decode cX7_findYear 148 = .ok (.iconst 3, 1) := by decide +kernel
theorem dX7_findYear_149 : decode cX7_findYear 149 = .ok (.if_icmp .ge 10, 3) := by decide +kernel
theorem dX7_findYear_152 : decode cX7_findYear 152 = .ok (.iload 4, 2) := by decide +kernel
theorem dX7_findYear_154 : decode cX7_findYear 154 = .ok (.iconst 1, 1) := by decide +kernel
theorem dX7_findYear_155 : decode cX7_findYear 155 = .ok (.iadd, 1) := by decide +kernel
theorem dX7_findYear_156 : decode cX7_findYear 156 = .ok (.goto 4, 3) := by decide +kernel
theorem dX7_findYear_159 : decode cX7_findYear 159 = .ok (.iconst 3, 1) := by decide +kernel
theorem dX7_findYear_160 : decode cX7_findYear 160 = .ok (.istore 4, 2) := by decide +kernel
theorem dX7_findYear_162 : decode cX7_findYear 162 = .ok (.iload 6, 2) := by decide +kernel
theorem dX7_findYear_164 : decode cX7_findYear 164 = .ok (.istore_n 3, 1) := by decide +kernel
theorem dX7_findYear_165 : decode cX7_findYear 165 = .ok (.aload_n 0, 1) := by decide +kernel
theorem dX7_findYear_166 : decode cX7_findYear 166 = .ok (.getfield 48, 3) := by decide +kernel
theorem dX7_findYear_169 : decode cX7_findYear 169 = .ok (.iload 5, 2) := by decide +kernel
theorem dX7_findYear_171 : decode cX7_findYear 171 = .ok (.iload_n 3, 1) := by decide +kernel
theorem dX7_findYear_172 : decode cX7_findYear 172 = .ok (.iastore, 1) := by decide +kernel
theorem dX7_findYear_173 : decode cX7_findYear 173 = .ok (.iinc 5 1, 3) := by decide +kernel
theorem dX7_findYear_176 : decode cX7_findYear 176 = .ok (.goto (-57), 3) := by decide +kernel
theorem dX7_findYear_179 : decode cX7_findYear 179 = .ok (.aload_n 0, 1) := by decide +kernel
theorem dX7_findYear_180 : decode cX7_findYear 180 = .ok (.getfield 45, 3) := by decide +kernel
theorem dX7_findYear_183 : decode cX7_findYear 183 = .ok (.iconst 0, 1) := by decide +kernel
theorem dX7_findYear_184 : decode cX7_findYear 184 = .ok (.aload_n 0, 1) := by decide +kernel
theorem dX7_findYear_185 : decode cX7_findYear 185 = .ok (.getfield 48, 3) := by decide +kernel
theorem dX7_findYear_188 : decode cX7_findYear 188 = .ok (.iconst 0, 1) := by decide +kernel
theorem dX7_findYear_189 : decode cX7_findYear 189 = .ok (.iaload, 1) := by decide +kernel
theorem dX7_findYear_190 : decode cX7_findYear 190 = .ok (.iconst 1, 1) := by decide +kernel
theorem dX7_findYear_191 : decode cX7_findYear 191 = .ok (.invokestatic 168, 3) := by decide +kernel
theorem dX7_findYear_194 : decode cX7_findYear 194 = .ok (.iaload, 1) := by decide +kernel
theorem dX7_findYear_195 : decode cX7_findYear 195 = .ok (.ireturn, 1) := by decide +kernel
theorem dX7_year_0 : decode cX7_year 0 = .ok (.iload_n 1, 1) := by decide +kernel
theorem dX7_year_1 : decode cX7_year 1 = .ok (.i2l, 1) := by decide +kernel
theorem dX7_year_2 : decode cX7_year 2 = .ok (.lconst 0, 1) := by decide +kernel
theorem dX7_year_3 : decode cX7_year 3 = .ok (.ldc2_w 164, 3) := by decide +kernel
theorem dX7_year_6 : decode cX7_year 6 = .ok (.invokestatic 65, 3) := by decide +kernel
theorem dX7_year_9 : decode cX7_year 9 = .ok (.ifCond .eq 30, 3) := by decide +kernel
theorem dX7_year_12 : decode cX7_year 12 = .ok (.iload_n 2, 1) := by decide +kernel
theorem dX7_year_13 : decode cX7_year 13 = .ok (.i2l, 1) := by decide +kernel
theorem dX7_year_14 : decode cX7_year 14 = .ok (.lconst 1, 1) := by decide +kernel
theorem dX7_year_15 : decode cX7_year 15 = .ok (.ldc2_w 185, 3) := by decide +kernel
theorem dX7_year_18 : decode cX7_year 18 = .ok (.invokestatic 65, 3) := by decide +kernel
theorem dX7_year_21 : decode cX7_year 21 = .ok (.ifCond .eq 18, 3) := by decide +kernel
theorem dX7_year_24 : decode cX7_year 24 = .ok (.iload_n 3, 1) := by decide +kernel
theorem dX7_year_25 : decode cX7_year 25 = .ok (.i2l, 1) := by decide +kernel
theorem dX7_year_26 : decode cX7_year 26 = .ok (.ldc2_w 187, 3) := by decide +kernel
theorem dX7_year_29 : decode cX7_year 29 = .ok (.iload_n 2, 1) := by decide +kernel
theorem dX7_year_30 : decode cX7_year 30 = .ok (.iconst 1, 1) := by decide +kernel
theorem dX7_year_31 : decode cX7_year 31 = .ok (.isub, 1) := by decide +kernel
theorem dX7_year_32 : decode cX7_year 32 = .ok (.i2l, 1) := by decide +kernel
theorem dX7_year_33 : decode cX7_year 33 = .ok (.invokestatic 65, 3) := by decide +kernel
theorem dX7_year_36 : decode cX7_year 36 = .ok (.ifCond .ne 10, 3) := by decide +kernel
theorem dX7_year_39 : decode cX7_year 39 = .ok (.aload_n 0, 1) := by decide +kernel
theorem dX7_year_40 : decode cX7_year 40 = .ok (.ldc 54, 2) := by decide +kernel
theorem dX7_year_42 : decode cX7_year 42 = .ok (.invokevirtual 75, 3) := by decide +kernel
theorem dX7_year_45 : decode cX7_year 45 = .ok (.ireturn, 1) := by decide +kernel
theorem dX7_year_46 : decode cX7_year 46 = .ok (.aload_n 0, 1) := by decide +kernel
theorem dX7_year_47 : decode cX7_year 47 = .ok (.getfield 7, 3) := by decide +kernel
theorem dX7_year_50 : decode cX7_year 50 = .ok (.iconst 2, 1) := by decide +kernel
theorem dX7_year_51 : decode cX7_year 51 = .ok (.iaload, 1) := by decide +kernel
theorem dX7_year_52 : decode cX7_year 52 = .ok (.ifCond .ne 10, 3) := by decide +kernel
theorem dX7_year_55 : decode cX7_year 55 = .ok (.aload_n 0, 1) := by decide +kernel
theorem dX7_year_56 : decode cX7_year 56 = .ok (.ldc 138, 2) := by decide +kernel
theorem dX7_year_58 : decode cX7_year 58 = .ok (.invokevirtual 75, 3) := by decide +kernel
theorem dX7_year_61 : decode cX7_year 61 = .ok (.ireturn, 1) := by decide +kernel
theorem dX7_year_62 : decode cX7_year 62 = .ok (.aload_n 0, 1) := by decide +kernel
theorem dX7_year_63 : decode cX7_year 63 = .ok (.iload_n 1, 1) := by decide +kernel
theorem dX7_year_64 : decode cX7_year 64 = .ok (.iload_n 2, 1) := by decide +kernel
theorem dX7_year_65 : decode cX7_year 65 = .ok (.invokevirtual 189, 3) := by decide +kernel
theorem dX7_year_68 : decode cX7_year 68 = .ok (.istore 4, 2) := by decide +kernel
theorem dX7_year_70 : decode cX7_year 70 = .ok (.iload_n 3, 1) := by decide +kernel
theorem dX7_year_71 : decode cX7_year 71 = .ok (.ifCond .ge 8, 3) := by decide +kernel
theorem dX7_year_74 : decode cX7_year 74 = .ok (.iload 4, 2) := by decide +kernel
theorem dX7_year_76 : decode cX7_year 76 = .ok (.goto 9, 3) := by decide +kernel
theorem dX7_year_79 : decode cX7_year 79 = .ok (.aload_n 0, 1) := by decide +kernel
theorem dX7_year_80 : decode cX7_year 80 = .ok (.getfield 48, 3) := by decide +kernel
theorem dX7_year_83 : decode cX7_year 83 = .ok (.iload_n 3, 1) := by decide +kernel
theorem dX7_year_84 : decode cX7_year 84 = .ok (.iaload, 1) := by decide +kernel
theorem dX7_year_85 : decode cX7_year 85 = .ok (.ireturn, 1) := by decide +kernel
theorem dX7_moves_0 : decode cX7_moves 0 = .ok (.iload_n 1, 1) := by decide +kernel
theorem dX7_moves_1 : decode cX7_moves 1 = .ok (.i2l, 1) := by decide +kernel
theorem dX7_moves_2 : decode cX7_moves 2 = .ok (.lconst 0, 1) := by decide +kernel
theorem dX7_moves_3 : decode cX7_moves 3 = .ok (.ldc2_w 164, 3) := by decide +kernel
theorem dX7_moves_6 : decode cX7_moves 6 = .ok (.invokestatic 65, 3) := by decide +kernel
theorem dX7_moves_9 : decode cX7_moves 9 = .ok (.ifCond .eq 15, 3) := by decide +kernel
theorem dX7_moves_12 : decode cX7_moves 12 = .ok (.iload_n 2, 1) := by decide +kernel
theorem dX7_moves_13 : decode cX7_moves 13 = .ok (.i2l, 1) := by decide +kernel
theorem dX7_moves_14 : decode cX7_moves 14 = .ok (.lconst 1, 1) := by decide +kernel
theorem dX7_moves_15 : decode cX7_moves 15 = .ok (.ldc2_w 185, 3) := by decide +kernel
theorem dX7_moves_18 : decode cX7_moves 18 = .ok (.invokestatic 65, 3) := by decide +kernel
theorem dX7_moves_21 : decode cX7_moves 21 = .ok (.ifCond .ne 10, 3) := by decide +kernel
theorem dX7_moves_24 : decode cX7_moves 24 = .ok (.aload_n 0, 1) := by decide +kernel
theorem dX7_moves_25 : decode cX7_moves 25 = .ok (.ldc 54, 2) := by decide +kernel
theorem dX7_moves_27 : decode cX7_moves 27 = .ok (.invokevirtual 75, 3) := by decide +kernel
theorem dX7_moves_30 : decode cX7_moves 30 = .ok (.ireturn, 1) := by decide +kernel
theorem dX7_moves_31 : decode cX7_moves 31 = .ok (.aload_n 0, 1) := by decide +kernel
theorem dX7_moves_32 : decode cX7_moves 32 = .ok (.getfield 7, 3) := by decide +kernel
theorem dX7_moves_35 : decode cX7_moves 35 = .ok (.iconst 2, 1) := by decide +kernel
theorem dX7_moves_36 : decode cX7_moves 36 = .ok (.iaload, 1) := by decide +kernel
theorem dX7_moves_37 : decode cX7_moves 37 = .ok (.ifCond .ne 10, 3) := by decide +kernel
theorem dX7_moves_40 : decode cX7_moves 40 = .ok (.aload_n 0, 1) := by decide +kernel
theorem dX7_moves_41 : decode cX7_moves 41 = .ok (.ldc 138, 2) := by decide +kernel
theorem dX7_moves_43 : decode cX7_moves 43 = .ok (.invokevirtual 75, 3) := by decide +kernel
theorem dX7_moves_46 : decode cX7_moves 46 = .ok (.ireturn, 1) := by decide +kernel
theorem dX7_moves_47 : decode cX7_moves 47 = .ok (.aload_n 0, 1) := by decide +kernel
theorem dX7_moves_48 : decode cX7_moves 48 = .ok (.iload_n 1, 1) := by decide +kernel
theorem dX7_moves_49 : decode cX7_moves 49 = .ok (.iload_n 2, 1) := by decide +kernel
theorem dX7_moves_50 : decode cX7_moves 50 = .ok (.invokevirtual 189, 3) := by decide +kernel
theorem dX7_moves_53 : decode cX7_moves 53 = .ok (.istore_n 3, 1) := by decide +kernel
theorem dX7_moves_54 : decode cX7_moves 54 = .ok (.iconst 0, 1) := by decide +kernel
theorem dX7_moves_55 : decode cX7_moves 55 = .ok (.istore 4, 2) := by decide +kernel
theorem dX7_moves_57 : decode cX7_moves 57 = .ok (.iconst 1, 1) := by decide +kernel
theorem dX7_moves_58 : decode cX7_moves 58 = .ok (.istore 5, 2) := by decide +kernel
theorem dX7_moves_60 : decode cX7_moves 60 = .ok (.iload 5, 2) := by decide +kernel
theorem dX7_moves_62 : decode cX7_moves 62 = .ok (.iload_n 2, 1) := by decide +kernel
theorem dX7_moves_63 : decode cX7_moves 63 = .ok (.if_icmp .ge 38, 3) := by decide +kernel
theorem dX7_moves_66 : decode cX7_moves 66 = .ok (.iload 4, 2) := by decide +kernel
theorem dX7_moves_68 : decode cX7_moves 68 = .ok (.aload_n 0, 1) := by decide +kernel
theorem dX7_moves_69 : decode cX7_moves 69 = .ok (.getfield 48, 3) := by decide +kernel
theorem dX7_moves_72 : decode cX7_moves 72 = .ok (.iload 5, 2) := by decide +kernel
theorem dX7_moves_74 : decode cX7_moves 74 = .ok (.iaload, 1) := by decide +kernel
theorem dX7_moves_75 : decode cX7_moves 75 = .ok (.aload_n 0, 1) := by decide +kernel
theorem dX7_moves_76 : decode cX7_moves 76 = .ok (.getfield 48, 3) := by decide +kernel
theorem dX7_moves_79 : decode cX7_moves 79 = .ok (.iload 5, 2) := by decide +kernel
theorem dX7_moves_81 : decode cX7_moves 81 = .ok (.iconst 1, 1) := by decide +kernel
theorem dX7_moves_82 : decode cX7_moves 82 = .ok (.isub, 1) := by decide +kernel
theorem dX7_moves_83 : decode cX7_moves 83 = .ok (.iaload, 1) := by decide +kernel
theorem dX7_moves_84 : decode cX7_moves 84 = .ok (.if_icmp .eq 7, 3) := by decide +kernel
theorem dX7_moves_87 : decode cX7_moves 87 = .ok (.iconst 1, 1) := by decide +kernel
theorem dX7_moves_88 : decode cX7_moves 88 = .ok (.goto 4, 3) := by decide +kernel
theorem dX7_moves_91 : decode cX7_moves 91 = .ok (.iconst 0, 1) := by decide +kernel
theorem dX7_moves_92 : decode cX7_moves 92 = .ok (.iadd, 1) := by decide +kernel
theorem dX7_moves_93 : decode cX7_moves 93 = .ok (.istore 4, 2) := by decide +kernel
theorem dX7_moves_95 : decode cX7_moves 95 = .ok (.iinc 5 1, 3) := by decide +kernel
theorem dX7_moves_98 : decode cX7_moves 98 = .ok (.goto (-38), 3) := by decide +kernel
theorem dX7_moves_101 : decode cX7_moves 101 = .ok (.iload 4, 2) := by decide +kernel
theorem dX7_moves_103 : decode cX7_moves 103 = .ok (.ireturn, 1) := by decide +kernel
theorem dX7_feed_0 : decode cX7_feed 0 = .ok (.iload_n 2, 1) := by decide +kernel
theorem dX7_feed_1 : decode cX7_feed 1 = .ok (.i2l, 1) := by decide +kernel
theorem dX7_feed_2 : decode cX7_feed 2 = .ok (.lconst 1, 1) := by decide +kernel
theorem dX7_feed_3 : decode cX7_feed 3 = .ok (.ldc2_w 107, 3) := by decide +kernel
theorem dX7_feed_6 : decode cX7_feed 6 = .ok (.invokestatic 65, 3) := by decide +kernel
theorem dX7_feed_9 : decode cX7_feed 9 = .ok (.ifCond .ne 10, 3) := by decide +kernel
theorem dX7_feed_12 : decode cX7_feed 12 = .ok (.aload_n 0, 1) := by decide +kernel
theorem dX7_feed_13 : decode cX7_feed 13 = .ok (.ldc 54, 2) := by decide +kernel
theorem dX7_feed_15 : decode cX7_feed 15 = .ok (.invokevirtual 75, 3) := by decide +kernel
theorem dX7_feed_18 : decode cX7_feed 18 = .ok (.ireturn, 1) := by decide +kernel
theorem dX7_feed_19 : decode cX7_feed 19 = .ok (.aload_n 0, 1) := by decide +kernel
theorem dX7_feed_20 : decode cX7_feed 20 = .ok (.getfield 192, 3) := by decide +kernel
theorem dX7_feed_23 : decode cX7_feed 23 = .ok (.iload_n 2, 1) := by decide +kernel
theorem dX7_feed_24 : decode cX7_feed 24 = .ok (.iadd, 1) := by decide +kernel
theorem dX7_feed_25 : decode cX7_feed 25 = .ok (.bipush 120, 2) := by decide +kernel
theorem dX7_feed_27 : decode cX7_feed 27 = .ok (.if_icmp .le 10, 3) := by decide +kernel
theorem dX7_feed_30 : decode cX7_feed 30 = .ok (.aload_n 0, 1) := by decide +kernel
theorem dX7_feed_31 : decode cX7_feed 31 = .ok (.ldc 79, 2) := by decide +kernel
theorem dX7_feed_33 : decode cX7_feed 33 = .ok (.invokevirtual 75, 3) := by decide +kernel
theorem dX7_feed_36 : decode cX7_feed 36 = .ok (.ireturn, 1) := by decide +kernel
theorem dX7_feed_37 : decode cX7_feed 37 = .ok (.iload_n 2, 1) := by decide +kernel
theorem dX7_feed_38 : decode cX7_feed 38 = .ok (.iconst 1, 1) := by decide +kernel
theorem dX7_feed_39 : decode cX7_feed 39 = .ok (.isub, 1) := by decide +kernel
theorem dX7_feed_40 : decode cX7_feed 40 = .ok (.istore_n 3, 1) := by decide +kernel
theorem dX7_feed_41 : decode cX7_feed 41 = .ok (.iload_n 3, 1) := by decide +kernel
theorem dX7_feed_42 : decode cX7_feed 42 = .ok (.ifCond .lt 38, 3) := by decide +kernel
theorem dX7_feed_45 : decode cX7_feed 45 = .ok (.aload_n 0, 1) := by decide +kernel
theorem dX7_feed_46 : decode cX7_feed 46 = .ok (.getfield 22, 3) := by decide +kernel
theorem dX7_feed_49 : decode cX7_feed 49 = .ok (.aload_n 0, 1) := by decide +kernel
theorem dX7_feed_50 : decode cX7_feed 50 = .ok (.getfield 192, 3) := by decide +kernel
theorem dX7_feed_53 : decode cX7_feed 53 = .ok (.iload_n 1, 1) := by decide +kernel
theorem dX7_feed_54 : decode cX7_feed 54 = .ok (.bipush 8, 2) := by decide +kernel
theorem dX7_feed_56 : decode cX7_feed 56 = .ok (.iload_n 3, 1) := by decide +kernel
theorem dX7_feed_57 : decode cX7_feed 57 = .ok (.imul, 1) := by decide +kernel
theorem dX7_feed_58 : decode cX7_feed 58 = .ok (.ishr, 1) := by decide +kernel
theorem dX7_feed_59 : decode cX7_feed 59 = .ok (.sipush 255, 3) := by decide +kernel
theorem dX7_feed_62 : decode cX7_feed 62 = .ok (.iand, 1) := by decide +kernel
theorem dX7_feed_63 : decode cX7_feed 63 = .ok (.iastore, 1) := by decide +kernel
theorem dX7_feed_64 : decode cX7_feed 64 = .ok (.aload_n 0, 1) := by decide +kernel
theorem dX7_feed_65 : decode cX7_feed 65 = .ok (.dup, 1) := by decide +kernel
theorem dX7_feed_66 : decode cX7_feed 66 = .ok (.getfield 192, 3) := by decide +kernel
theorem dX7_feed_69 : decode cX7_feed 69 = .ok (.iconst 1, 1) := by decide +kernel
theorem dX7_feed_70 : decode cX7_feed 70 = .ok (.iadd, 1) := by decide +kernel
theorem dX7_feed_71 : decode cX7_feed 71 = .ok (.putfield 192, 3) := by decide +kernel
theorem dX7_feed_74 : decode cX7_feed 74 = .ok (.iinc 3 (-1), 3) := by decide +kernel
theorem dX7_feed_77 : decode cX7_feed 77 = .ok (.goto (-36), 3) := by decide +kernel
theorem dX7_feed_80 : decode cX7_feed 80 = .ok (.aload_n 0, 1) := by decide +kernel
theorem dX7_feed_81 : decode cX7_feed 81 = .ok (.getfield 192, 3) := by decide +kernel
theorem dX7_feed_84 : decode cX7_feed 84 = .ok (.ireturn, 1) := by decide +kernel
theorem dX7_wipe_0 : decode cX7_wipe 0 = .ok (.aload_n 0, 1) := by decide +kernel
theorem dX7_wipe_1 : decode cX7_wipe 1 = .ok (.getfield 192, 3) := by decide +kernel
theorem dX7_wipe_4 : decode cX7_wipe 4 = .ok (.istore_n 1, 1) := by decide +kernel
theorem dX7_wipe_5 : decode cX7_wipe 5 = .ok (.aload_n 0, 1) := by decide +kernel
theorem dX7_wipe_6 : decode cX7_wipe 6 = .ok (.iconst 0, 1) := by decide +kernel
theorem dX7_wipe_7 : decode cX7_wipe 7 = .ok (.putfield 192, 3) := by decide +kernel
theorem dX7_wipe_10 : decode cX7_wipe 10 = .ok (.iload_n 1, 1) := by decide +kernel
theorem dX7_wipe_11 : decode cX7_wipe 11 = .ok (.ireturn, 1) := by decide +kernel
theorem dX7_byteAt_0 : decode cX7_byteAt 0 = .ok (.iload_n 1, 1) := by decide +kernel
theorem dX7_byteAt_1 : decode cX7_byteAt 1 = .ok (.aload_n 0, 1) := by decide +kernel
theorem dX7_byteAt_2 : decode cX7_byteAt 2 = .ok (.getfield 192, 3) := by decide +kernel
theorem dX7_byteAt_5 : decode cX7_byteAt 5 = .ok (.if_icmp .ge 12, 3) := by decide +kernel
theorem dX7_byteAt_8 : decode cX7_byteAt 8 = .ok (.aload_n 0, 1) := by decide +kernel
theorem dX7_byteAt_9 : decode cX7_byteAt 9 = .ok (.getfield 22, 3) := by decide +kernel
theorem dX7_byteAt_12 : decode cX7_byteAt 12 = .ok (.iload_n 1, 1) := by decide +kernel
theorem dX7_byteAt_13 : decode cX7_byteAt 13 = .ok (.iaload, 1) := by decide +kernel
theorem dX7_byteAt_14 : decode cX7_byteAt 14 = .ok (.goto 4, 3) := by decide +kernel
theorem dX7_byteAt_17 : decode cX7_byteAt 17 = .ok (.iconst (-1), 1) := by decide +kernel
theorem dX7_byteAt_18 : decode cX7_byteAt 18 = .ok (.ireturn, 1) := by decide +kernel
theorem dX7_wordHere_0 : decode cX7_wordHere 0 = .ok (.iconst 0, 1) := by decide +kernel
theorem dX7_wordHere_1 : decode cX7_wordHere 1 = .ok (.istore_n 1, 1) := by decide +kernel
theorem dX7_wordHere_2 : decode cX7_wordHere 2 = .ok (.aload_n 0, 1) := by decide +kernel
theorem dX7_wordHere_3 : decode cX7_wordHere 3 = .ok (.getfield 195, 3) := by decide +kernel
theorem dX7_wordHere_6 : decode cX7_wordHere 6 = .ok (.istore_n 2, 1) := by decide +kernel
theorem dX7_wordHere_7 : decode cX7_wordHere 7 = .ok (.iconst 1, 1) := by decide +kernel
theorem dX7_wordHere_8 : decode cX7_wordHere 8 = .ok (.istore_n 3, 1) := by decide +kernel
theorem dX7_wordHere_9 : decode cX7_wordHere 9 = .ok (.iconst 0, 1) := by decide +kernel
theorem dX7_wordHere_10 : decode cX7_wordHere 10 = .ok (.istore 4, 2) := by decide +kernel
theorem dX7_wordHere_12 : decode cX7_wordHere 12 = .ok (.iload 4, 2) := by decide +kernel
theorem dX7_wordHere_14 : decode cX7_wordHere 14 = .ok (.bipush 70, 2) := by decide +kernel
theorem dX7_wordHere_16 : decode cX7_wordHere 16 = .ok (.if_icmp .ge 82, 3) := by decide +kernel
theorem dX7_wordHere_19 : decode cX7_wordHere 19 = .ok (.aload_n 0, 1) := by decide +kernel
theorem dX7_wordHere_20 : decode cX7_wordHere 20 = .ok (.getfield 51, 3) := by decide +kernel
theorem dX7_wordHere_23 : decode cX7_wordHere 23 = .ok (.iload 4, 2) := by decide +kernel
theorem dX7_wordHere_25 : decode cX7_wordHere 25 = .ok (.iaload, 1) := by decide +kernel
theorem dX7_wordHere_26 : decode cX7_wordHere 26 = .ok (.ifCond .ne 30, 3) := by decide +kernel
theorem dX7_wordHere_29 : decode cX7_wordHere 29 = .ok (.iload_n 3, 1) := by decide +kernel
theorem dX7_wordHere_30 : decode cX7_wordHere 30 = .ok (.ifCond .eq 13, 3) := by decide +kernel
theorem dX7_wordHere_33 : decode cX7_wordHere 33 = .ok (.iload_n 2, 1) := by decide +kernel
theorem dX7_wordHere_34 : decode cX7_wordHere 34 = .ok (.aload_n 0, 1) := by decide +kernel
theorem dX7_wordHere_35 : decode cX7_wordHere 35 = .ok (.getfield 198, 3) := by decide +kernel
theorem dX7_wordHere_38 : decode cX7_wordHere 38 = .ok (.if_icmp .ne 5, 3) := by decide +kernel
theorem dX7_wordHere_41 : decode cX7_wordHere 41 = .ok (.iload_n 1, 1) := by decide +kernel
theorem dX7_wordHere_42 : decode cX7_wordHere 42 = .ok (.ireturn, 1) := by decide +kernel
theorem dX7_wordHere_43 : decode cX7_wordHere 43 = .ok (.iinc 1 1, 3) := by decide +kernel
theorem dX7_wordHere_46 : decode cX7_wordHere 46 = .ok (.aload_n 0, 1) := by decide +kernel
theorem dX7_wordHere_47 : decode cX7_wordHere 47 = .ok (.getfield 195, 3) := by decide +kernel
theorem dX7_wordHere_50 : decode cX7_wordHere 50 = .ok (.istore_n 2, 1) := by decide +kernel
theorem dX7_wordHere_51 : decode cX7_wordHere 51 = .ok (.iconst 1, 1) := by decide +kernel
theorem dX7_wordHere_52 : decode cX7_wordHere 52 = .ok (.istore_n 3, 1) := by decide +kernel
theorem dX7_wordHere_53 : decode cX7_wordHere 53 = .ok (.goto 39, 3) := by decide +kernel
theorem dX7_wordHere_56 : decode cX7_wordHere 56 = .ok (.iload_n 3, 1) := by decide +kernel
theorem dX7_wordHere_57 : decode cX7_wordHere 57 = .ok (.ifCond .eq 30, 3) := by decide +kernel
theorem dX7_wordHere_60 : decode cX7_wordHere 60 = .ok (.iload_n 2, 1) := by decide +kernel
theorem dX7_wordHere_61 : decode cX7_wordHere 61 = .ok (.aload_n 0, 1) := by decide +kernel
theorem dX7_wordHere_62 : decode cX7_wordHere 62 = .ok (.getfield 198, 3) := by decide +kernel
theorem dX7_wordHere_65 : decode cX7_wordHere 65 = .ok (.if_icmp .ge 22, 3) := by decide +kernel
theorem dX7_wordHere_68 : decode cX7_wordHere 68 = .ok (.aload_n 0, 1) := by decide +kernel
theorem dX7_wordHere_69 : decode cX7_wordHere 69 = .ok (.iload_n 2, 1) := by decide +kernel
theorem dX7_wordHere_70 : decode cX7_wordHere 70 = .ok (.invokevirtual 201, 3) := by decide +kernel
theorem dX7_wordHere_73 : decode cX7_wordHere 73 = .ok (.aload_n 0, 1) := by decide +kernel
theorem dX7_wordHere_74 : decode cX7_wordHere 74 = .ok (.getfield 51, 3) := by decide +kernel
theorem dX7_wordHere_77 : decode cX7_wordHere 77 = .ok (.iload 4, 2) := by decide +kernel
theorem dX7_wordHere_79 : decode cX7_wordHere 79 = .ok (.iaload, 1) := by decide +kernel
theorem dX7_wordHere_80 : decode cX7_wordHere 80 = .ok (.if_icmp .ne 7, 3) := by decide +kernel
theorem dX7_wordHere_83 : decode cX7_wordHere 83 = .ok (.iconst 1, 1) := by decide +kernel
theorem dX7_wordHere_84 : decode cX7_wordHere 84 = .ok (.goto 4, 3) := by decide +kernel
theorem dX7_wordHere_87 : decode cX7_wordHere 87 = .ok (.iconst 0, 1) := by decide +kernel
theorem dX7_wordHere_88 : decode cX7_wordHere 88 = .ok (.istore_n 3, 1) := by decide +kernel
theorem dX7_wordHere_89 : decode cX7_wordHere 89 = .ok (.iinc 2 1, 3) := by decide +kernel
theorem dX7_wordHere_92 : decode cX7_wordHere 92 = .ok (.iinc 4 1, 3) := by decide +kernel
theorem dX7_wordHere_95 : decode cX7_wordHere 95 = .ok (.goto (-83), 3) := by decide +kernel
theorem dX7_wordHere_98 : decode cX7_wordHere 98 = .ok (.iconst (-1), 1) := by decide +kernel
theorem dX7_wordHere_99 : decode cX7_wordHere 99 = .ok (.ireturn, 1) := by decide +kernel
theorem dX7_goesOn_0 : decode cX7_goesOn 0 = .ok (.aload_n 0, 1) := by decide +kernel
theorem dX7_goesOn_1 : decode cX7_goesOn 1 = .ok (.aload_n 0, 1) := by decide +kernel
theorem dX7_goesOn_2 : decode cX7_goesOn 2 = .ok (.getfield 198, 3) := by decide +kernel
theorem dX7_goesOn_5 : decode cX7_goesOn 5 = .ok (.invokevirtual 201, 3) := by decide +kernel
theorem dX7_goesOn_8 : decode cX7_goesOn 8 = .ok (.bipush 32, 2) := by decide +kernel
theorem dX7_goesOn_10 : decode cX7_goesOn 10 = .ok (.if_icmp .ne 16, 3) := by decide +kernel
theorem dX7_goesOn_13 : decode cX7_goesOn 13 = .ok (.aload_n 0, 1) := by decide +kernel
theorem dX7_goesOn_14 : decode cX7_goesOn 14 = .ok (.dup, 1) := by decide +kernel
theorem dX7_goesOn_15 : decode cX7_goesOn 15 = .ok (.getfield 198, 3) := by decide +kernel
theorem dX7_goesOn_18 : decode cX7_goesOn 18 = .ok (.iconst 1, 1) := by decide +kernel
theorem dX7_goesOn_19 : decode cX7_goesOn 19 = .ok (.iadd, 1) := by decide +kernel
theorem dX7_goesOn_20 : decode cX7_goesOn 20 = .ok (.putfield 198, 3) := by decide +kernel
theorem dX7_goesOn_23 : decode cX7_goesOn 23 = .ok (.goto (-23), 3) := by decide +kernel
theorem dX7_goesOn_26 : decode cX7_goesOn 26 = .ok (.aload_n 0, 1) := by decide +kernel
theorem dX7_goesOn_27 : decode cX7_goesOn 27 = .ok (.aload_n 0, 1) := by decide +kernel
theorem dX7_goesOn_28 : decode cX7_goesOn 28 = .ok (.getfield 198, 3) := by decide +kernel
theorem dX7_goesOn_31 : decode cX7_goesOn 31 = .ok (.putfield 195, 3) := by decide +kernel
theorem dX7_goesOn_34 : decode cX7_goesOn 34 = .ok (.aload_n 0, 1) := by decide +kernel
theorem dX7_goesOn_35 : decode cX7_goesOn 35 = .ok (.aload_n 0, 1) := by decide +kernel
theorem dX7_goesOn_36 : decode cX7_goesOn 36 = .ok (.getfield 198, 3) := by decide +kernel
theorem dX7_goesOn_39 : decode cX7_goesOn 39 = .ok (.invokevirtual 201, 3) := by decide +kernel
theorem dX7_goesOn_42 : decode cX7_goesOn 42 = .ok (.istore_n 1, 1) := by decide +kernel
theorem dX7_goesOn_43 : decode cX7_goesOn 43 = .ok (.iload_n 1, 1) := by decide +kernel
theorem dX7_goesOn_44 : decode cX7_goesOn 44 = .ok (.ifCond .ge 11, 3) := by decide +kernel
theorem dX7_goesOn_47 : decode cX7_goesOn 47 = .ok (.aload_n 0, 1) := by decide +kernel
theorem dX7_goesOn_48 : decode cX7_goesOn 48 = .ok (.iconst 0, 1) := by decide +kernel
theorem dX7_goesOn_49 : decode cX7_goesOn 49 = .ok (.putfield 204, 3) := by decide +kernel
theorem dX7_goesOn_52 : decode cX7_goesOn 52 = .ok (.goto 218, 3) := by decide +kernel
theorem dX7_goesOn_55 : decode cX7_goesOn 55 = .ok (.iload_n 1, 1) := by decide +kernel
theorem dX7_goesOn_56 : decode cX7_goesOn 56 = .ok (.i2l, 1) := by decide +kernel
theorem dX7_goesOn_57 : decode cX7_goesOn 57 = .ok (.ldc2_w 207, 3) := by decide +kernel
theorem dX7_goesOn_60 : decode cX7_goesOn 60 = .ok (.ldc2_w 209, 3) := by decide +kernel
theorem dX7_goesOn_63 : decode cX7_goesOn 63 = .ok (.invokestatic 65, 3) := by decide +kernel
theorem dX7_goesOn_66 : decode cX7_goesOn 66 = .ok (.ifCond .eq 64, 3) := by decide +kernel
theorem dX7_goesOn_69 : decode cX7_goesOn 69 = .ok (.aload_n 0, 1) := by decide +kernel
theorem dX7_goesOn_70 : decode cX7_goesOn 70 = .ok (.aload_n 0, 1) := by decide +kernel
theorem dX7_goesOn_71 : decode cX7_goesOn 71 = .ok (.getfield 198, 3) := by decide +kernel
theorem dX7_goesOn_74 : decode cX7_goesOn 74 = .ok (.invokevirtual 201, 3) := by decide +kernel
theorem dX7_goesOn_77 : decode cX7_goesOn 77 = .ok (.i2l, 1) := by decide +kernel
theorem dX7_goesOn_78 : decode cX7_goesOn 78 = .ok (.ldc2_w 207, 3) := by decide +kernel
theorem dX7_goesOn_81 : decode cX7_goesOn 81 = .ok (.ldc2_w 209, 3) := by decide +kernel
theorem dX7_goesOn_84 : decode cX7_goesOn 84 = .ok (.invokestatic 65, 3) := by decide +kernel
theorem dX7_goesOn_87 : decode cX7_goesOn 87 = .ok (.ifCond .eq 16, 3) := by decide +kernel
theorem dX7_goesOn_90 : decode cX7_goesOn 90 = .ok (.aload_n 0, 1) := by decide +kernel
theorem dX7_goesOn_91 : decode cX7_goesOn 91 = .ok (.dup, 1) := by decide +kernel
theorem dX7_goesOn_92 : decode cX7_goesOn 92 = .ok (.getfield 198, 3) := by decide +kernel
theorem dX7_goesOn_95 : decode cX7_goesOn 95 = .ok (.iconst 1, 1) := by decide +kernel
theorem dX7_goesOn_96 : decode cX7_goesOn 96 = .ok (.iadd, 1) := by decide +kernel
theorem dX7_goesOn_97 : decode cX7_goesOn 97 = .ok (.putfield 198, 3) := by decide +kernel
theorem dX7_goesOn_100 : decode cX7_goesOn 100 = .ok (.goto (-31), 3) := by decide +kernel
theorem dX7_goesOn_103 : decode cX7_goesOn 103 = .ok (.aload_n 0, 1) := by decide +kernel
theorem dX7_goesOn_104 : decode cX7_goesOn 104 = .ok (.aload_n 0, 1) := by decide +kernel
theorem dX7_goesOn_105 : decode cX7_goesOn 105 = .ok (.invokevirtual 211, 3) := by decide +kernel
theorem dX7_goesOn_108 : decode cX7_goesOn 108 = .ok (.putfield 214, 3) := by decide +kernel
theorem dX7_goesOn_111 : decode cX7_goesOn 111 = .ok (.aload_n 0, 1) := by decide +kernel
theorem dX7_goesOn_112 : decode cX7_goesOn 112 = .ok (.aload_n 0, 1) := by decide +kernel
theorem dX7_goesOn_113 : decode cX7_goesOn 113 = .ok (.getfield 214, 3) := by decide +kernel
theorem dX7_goesOn_116 : decode cX7_goesOn 116 = .ok (.ifCond .ge 7, 3) := by decide +kernel
theorem dX7_goesOn_119 : decode cX7_goesOn 119 = .ok (.iconst 4, 1) := by decide +kernel
theorem dX7_goesOn_120 : decode cX7_goesOn 120 = .ok (.goto 4, 3) := by decide +kernel
theorem dX7_goesOn_123 : decode cX7_goesOn 123 = .ok (.iconst 1, 1) := by decide +kernel
theorem dX7_goesOn_124 : decode cX7_goesOn 124 = .ok (.putfield 204, 3) := by decide +kernel
theorem dX7_goesOn_127 : decode cX7_goesOn 127 = .ok (.goto 143, 3) := by decide +kernel
theorem dX7_goesOn_130 : decode cX7_goesOn 130 = .ok (.iload_n 1, 1) := by decide +kernel
theorem dX7_goesOn_131 : decode cX7_goesOn 131 = .ok (.i2l, 1) := by decide +kernel
theorem dX7_goesOn_132 : decode cX7_goesOn 132 = .ok (.ldc2_w 217, 3) := by decide +kernel
theorem dX7_goesOn_135 : decode cX7_goesOn 135 = .ok (.ldc2_w 219, 3) := by decide +kernel
theorem dX7_goesOn_138 : decode cX7_goesOn 138 = .ok (.invokestatic 65, 3) := by decide +kernel
theorem dX7_goesOn_141 : decode cX7_goesOn 141 = .ok (.ifCond .eq 104, 3) := by decide +kernel
theorem dX7_goesOn_144 : decode cX7_goesOn 144 = .ok (.aload_n 0, 1) := by decide +kernel
theorem dX7_goesOn_145 : decode cX7_goesOn 145 = .ok (.iconst 0, 1) := by decide +kernel
theorem dX7_goesOn_146 : decode cX7_goesOn 146 = .ok (.putfield 214, 3) := by decide +kernel
theorem dX7_goesOn_149 : decode cX7_goesOn 149 = .ok (.aload_n 0, 1) := by decide +kernel
theorem dX7_goesOn_150 : decode cX7_goesOn 150 = .ok (.aload_n 0, 1) := by decide +kernel
theorem dX7_goesOn_151 : decode cX7_goesOn 151 = .ok (.getfield 198, 3) := by decide +kernel
theorem dX7_goesOn_154 : decode cX7_goesOn 154 = .ok (.invokevirtual 201, 3) := by decide +kernel
theorem dX7_goesOn_157 : decode cX7_goesOn 157 = .ok (.i2l, 1) := by decide +kernel
theorem dX7_goesOn_158 : decode cX7_goesOn 158 = .ok (.ldc2_w 217, 3) := by decide +kernel
theorem dX7_goesOn_161 : decode cX7_goesOn 161 = .ok (.ldc2_w 219, 3) := by decide +kernel
theorem dX7_goesOn_164 : decode cX7_goesOn 164 = .ok (.invokestatic 65, 3) := by decide +kernel
theorem dX7_goesOn_167 : decode cX7_goesOn 167 = .ok (.ifCond .eq 56, 3) := by decide +kernel
theorem dX7_goesOn_170 : decode cX7_goesOn 170 = .ok (.aload_n 0, 1) := by decide +kernel
theorem dX7_goesOn_171 : decode cX7_goesOn 171 = .ok (.aload_n 0, 1) := by decide +kernel
theorem dX7_goesOn_172 : decode cX7_goesOn 172 = .ok (.getfield 214, 3) := by decide +kernel
theorem dX7_goesOn_175 : decode cX7_goesOn 175 = .ok (.sipush 999, 3) := by decide +kernel
theorem dX7_goesOn_178 : decode cX7_goesOn 178 = .ok (.if_icmp .le 10, 3) := by decide +kernel
theorem dX7_goesOn_181 : decode cX7_goesOn 181 = .ok (.aload_n 0, 1) := by decide +kernel
theorem dX7_goesOn_182 : decode cX7_goesOn 182 = .ok (.getfield 214, 3) := by decide +kernel
theorem dX7_goesOn_185 : decode cX7_goesOn 185 = .ok (.goto 22, 3) := by decide +kernel
theorem dX7_goesOn_188 : decode cX7_goesOn 188 = .ok (.bipush 10, 2) := by decide +kernel
theorem dX7_goesOn_190 : decode cX7_goesOn 190 = .ok (.aload_n 0, 1) := by decide +kernel
theorem dX7_goesOn_191 : decode cX7_goesOn 191 = .ok (.getfield 214, 3) := by decide +kernel
theorem dX7_goesOn_194 : decode cX7_goesOn 194 = .ok (.imul, 1) := by decide +kernel
theorem dX7_goesOn_195 : decode cX7_goesOn 195 = .ok (.aload_n 0, 1) := by decide +kernel
theorem dX7_goesOn_196 : decode cX7_goesOn 196 = .ok (.aload_n 0, 1) := by decide +kernel
theorem dX7_goesOn_197 : decode cX7_goesOn 197 = .ok (.getfield 198, 3) := by decide +kernel
theorem dX7_goesOn_200 : decode cX7_goesOn 200 = .ok (.invokevirtual 201, 3) := by decide +kernel
theorem dX7_goesOn_203 : decode cX7_goesOn 203 = .ok (.iadd, 1) := by decide +kernel
theorem dX7_goesOn_204 : decode cX7_goesOn 204 = .ok (.bipush 48, 2) := by decide +kernel
theorem dX7_goesOn_206 : decode cX7_goesOn 206 = .ok (.isub, 1) := by decide +kernel
theorem dX7_goesOn_207 : decode cX7_goesOn 207 = .ok (.putfield 214, 3) := by decide +kernel
theorem dX7_goesOn_210 : decode cX7_goesOn 210 = .ok (.aload_n 0, 1) := by decide +kernel
theorem dX7_goesOn_211 : decode cX7_goesOn 211 = .ok (.dup, 1) := by decide +kernel
theorem dX7_goesOn_212 : decode cX7_goesOn 212 = .ok (.getfield 198, 3) := by decide +kernel
theorem dX7_goesOn_215 : decode cX7_goesOn 215 = .ok (.iconst 1, 1) := by decide +kernel
theorem dX7_goesOn_216 : decode cX7_goesOn 216 = .ok (.iadd, 1) := by decide +kernel
theorem dX7_goesOn_217 : decode cX7_goesOn 217 = .ok (.putfield 198, 3) := by decide +kernel
theorem dX7_goesOn_220 : decode cX7_goesOn 220 = .ok (.goto (-71), 3) := by decide +kernel
theorem dX7_goesOn_223 : decode cX7_goesOn 223 = .ok (.aload_n 0, 1) := by decide +kernel
theorem dX7_goesOn_224 : decode cX7_goesOn 224 = .ok (.aload_n 0, 1) := by decide +kernel
theorem dX7_goesOn_225 : decode cX7_goesOn 225 = .ok (.getfield 214, 3) := by decide +kernel
theorem dX7_goesOn_228 : decode cX7_goesOn 228 = .ok (.sipush 999, 3) := by decide +kernel
theorem dX7_goesOn_231 : decode cX7_goesOn 231 = .ok (.if_icmp .le 7, 3) := by decide +kernel
theorem dX7_goesOn_234 : decode cX7_goesOn 234 = .ok (.iconst 4, 1) := by decide +kernel
theorem dX7_goesOn_235 : decode cX7_goesOn 235 = .ok (.goto 4, 3) := by decide +kernel
theorem dX7_goesOn_238 : decode cX7_goesOn 238 = .ok (.iconst 2, 1) := by decide +kernel
theorem dX7_goesOn_239 : decode cX7_goesOn 239 = .ok (.putfield 204, 3) := by decide +kernel
theorem dX7_goesOn_242 : decode cX7_goesOn 242 = .ok (.goto 28, 3) := by decide +kernel
theorem dX7_goesOn_245 : decode cX7_goesOn 245 = .ok (.aload_n 0, 1) := by decide +kernel
theorem dX7_goesOn_246 : decode cX7_goesOn 246 = .ok (.dup, 1) := by decide +kernel
theorem dX7_goesOn_247 : decode cX7_goesOn 247 = .ok (.getfield 198, 3) := by decide +kernel
theorem dX7_goesOn_250 : decode cX7_goesOn 250 = .ok (.iconst 1, 1) := by decide +kernel
theorem dX7_goesOn_251 : decode cX7_goesOn 251 = .ok (.iadd, 1) := by decide +kernel
theorem dX7_goesOn_252 : decode cX7_goesOn 252 = .ok (.putfield 198, 3) := by decide +kernel
theorem dX7_goesOn_255 : decode cX7_goesOn 255 = .ok (.aload_n 0, 1) := by decide +kernel
theorem dX7_goesOn_256 : decode cX7_goesOn 256 = .ok (.iload_n 1, 1) := by decide +kernel
theorem dX7_goesOn_257 : decode cX7_goesOn 257 = .ok (.bipush 44, 2) := by decide +kernel
theorem dX7_goesOn_259 : decode cX7_goesOn 259 = .ok (.if_icmp .ne 7, 3) := by decide +kernel
theorem dX7_goesOn_262 : decode cX7_goesOn 262 = .ok (.iconst 3, 1) := by decide +kernel
theorem dX7_goesOn_263 : decode cX7_goesOn 263 = .ok (.goto 4, 3) := by decide +kernel
theorem dX7_goesOn_266 : decode cX7_goesOn 266 = .ok (.iconst 4, 1) := by decide +kernel
theorem dX7_goesOn_267 : decode cX7_goesOn 267 = .ok (.putfield 204, 3) := by decide +kernel
theorem dX7_goesOn_270 : decode cX7_goesOn 270 = .ok (.return_, 1) := by decide +kernel
theorem dX7_takes_0 : decode cX7_takes 0 = .ok (.aload_n 0, 1) := by decide +kernel
theorem dX7_takes_1 : decode cX7_takes 1 = .ok (.getfield 221, 3) := by decide +kernel
theorem dX7_takes_4 : decode cX7_takes 4 = .ok (.ifCond .ne 23, 3) := by decide +kernel
theorem dX7_takes_7 : decode cX7_takes 7 = .ok (.aload_n 0, 1) := by decide +kernel
theorem dX7_takes_8 : decode cX7_takes 8 = .ok (.getfield 204, 3) := by decide +kernel
theorem dX7_takes_11 : decode cX7_takes 11 = .ok (.iconst 1, 1) := by decide +kernel
theorem dX7_takes_12 : decode cX7_takes 12 = .ok (.if_icmp .ne 15, 3) := by decide +kernel
theorem dX7_takes_15 : decode cX7_takes 15 = .ok (.aload_n 0, 1) := by decide +kernel
theorem dX7_takes_16 : decode cX7_takes 16 = .ok (.getfield 214, 3) := by decide +kernel
theorem dX7_takes_19 : decode cX7_takes 19 = .ok (.iload_n 1, 1) := by decide +kernel
theorem dX7_takes_20 : decode cX7_takes 20 = .ok (.if_icmp .ne 7, 3) := by decide +kernel
theorem dX7_takes_23 : decode cX7_takes 23 = .ok (.iconst 1, 1) := by decide +kernel
theorem dX7_takes_24 : decode cX7_takes 24 = .ok (.goto 4, 3) := by decide +kernel
theorem dX7_takes_27 : decode cX7_takes 27 = .ok (.iconst 0, 1) := by decide +kernel
theorem dX7_takes_28 : decode cX7_takes 28 = .ok (.istore_n 2, 1) := by decide +kernel
theorem dX7_takes_29 : decode cX7_takes 29 = .ok (.iload_n 2, 1) := by decide +kernel
theorem dX7_takes_30 : decode cX7_takes 30 = .ok (.ifCond .eq 7, 3) := by decide +kernel
theorem dX7_takes_33 : decode cX7_takes 33 = .ok (.aload_n 0, 1) := by decide +kernel
theorem dX7_takes_34 : decode cX7_takes 34 = .ok (.invokevirtual 225, 3) := by decide +kernel
theorem dX7_takes_37 : decode cX7_takes 37 = .ok (.iload_n 2, 1) := by decide +kernel
theorem dX7_takes_38 : decode cX7_takes 38 = .ok (.ireturn, 1) := by decide +kernel
theorem dX7_number_0 : decode cX7_number 0 = .ok (.aload_n 0, 1) := by decide +kernel
theorem dX7_number_1 : decode cX7_number 1 = .ok (.getfield 221, 3) := by decide +kernel
theorem dX7_number_4 : decode cX7_number 4 = .ok (.ifCond .ne 26, 3) := by decide +kernel
theorem dX7_number_7 : decode cX7_number 7 = .ok (.aload_n 0, 1) := by decide +kernel
theorem dX7_number_8 : decode cX7_number 8 = .ok (.getfield 204, 3) := by decide +kernel
theorem dX7_number_11 : decode cX7_number 11 = .ok (.iconst 2, 1) := by decide +kernel
theorem dX7_number_12 : decode cX7_number 12 = .ok (.if_icmp .ne 18, 3) := by decide +kernel
theorem dX7_number_15 : decode cX7_number 15 = .ok (.aload_n 0, 1) := by decide +kernel
theorem dX7_number_16 : decode cX7_number 16 = .ok (.getfield 214, 3) := by decide +kernel
theorem dX7_number_19 : decode cX7_number 19 = .ok (.i2l, 1) := by decide +kernel
theorem dX7_number_20 : decode cX7_number 20 = .ok (.iload_n 1, 1) := by decide +kernel
theorem dX7_number_21 : decode cX7_number 21 = .ok (.i2l, 1) := by decide +kernel
theorem dX7_number_22 : decode cX7_number 22 = .ok (.iload_n 2, 1) := by decide +kernel
theorem dX7_number_23 : decode cX7_number 23 = .ok (.i2l, 1) := by decide +kernel
theorem dX7_number_24 : decode cX7_number 24 = .ok (.invokestatic 65, 3) := by decide +kernel
theorem dX7_number_27 : decode cX7_number 27 = .ok (.ifCond .ne 10, 3) := by decide +kernel
theorem dX7_number_30 : decode cX7_number 30 = .ok (.aload_n 0, 1) := by decide +kernel
theorem dX7_number_31 : decode cX7_number 31 = .ok (.iconst 1, 1) := by decide +kernel
theorem dX7_number_32 : decode cX7_number 32 = .ok (.putfield 221, 3) := by decide +kernel
theorem dX7_number_35 : decode cX7_number 35 = .ok (.iconst 0, 1) := by decide +kernel
theorem dX7_number_36 : decode cX7_number 36 = .ok (.ireturn, 1) := by decide +kernel
theorem dX7_number_37 : decode cX7_number 37 = .ok (.aload_n 0, 1) := by decide +kernel
theorem dX7_number_38 : decode cX7_number 38 = .ok (.getfield 214, 3) := by decide +kernel
theorem dX7_number_41 : decode cX7_number 41 = .ok (.istore_n 3, 1) := by decide +kernel
theorem dX7_number_42 : decode cX7_number 42 = .ok (.aload_n 0, 1) := by decide +kernel
theorem dX7_number_43 : decode cX7_number 43 = .ok (.invokevirtual 225, 3) := by decide +kernel
theorem dX7_number_46 : decode cX7_number 46 = .ok (.iload_n 3, 1) := by decide +kernel
theorem dX7_number_47 : decode cX7_number 47 = .ok (.ireturn, 1) := by decide +kernel
theorem dX7_partItem_0 : decode cX7_partItem 0 = .ok (.aload_n 0, 1) := by decide +kernel
theorem dX7_partItem_1 : decode cX7_partItem 1 = .ok (.aload_n 0, 1) := by decide +kernel
theorem dX7_partItem_2 : decode cX7_partItem 2 = .ok (.getfield 7, 3) := by decide +kernel
theorem dX7_partItem_5 : decode cX7_partItem 5 = .ok (.iconst 0, 1) := by decide +kernel
theorem dX7_partItem_6 : decode cX7_partItem 6 = .ok (.iaload, 1) := by decide +kernel
theorem dX7_partItem_7 : decode cX7_partItem 7 = .ok (.bipush 20, 2) := by decide +kernel
theorem dX7_partItem_9 : decode cX7_partItem 9 = .ok (.if_icmp .ne 7, 3) := by decide +kernel
theorem dX7_partItem_12 : decode cX7_partItem 12 = .ok (.iconst 1, 1) := by decide +kernel
theorem dX7_partItem_13 : decode cX7_partItem 13 = .ok (.goto 4, 3) := by decide +kernel
theorem dX7_partItem_16 : decode cX7_partItem 16 = .ok (.iconst 0, 1) := by decide +kernel
theorem dX7_partItem_17 : decode cX7_partItem 17 = .ok (.putfield 221, 3) := by decide +kernel
theorem dX7_partItem_20 : decode cX7_partItem 20 = .ok (.aload_n 0, 1) := by decide +kernel
theorem dX7_partItem_21 : decode cX7_partItem 21 = .ok (.getfield 221, 3) := by decide +kernel
theorem dX7_partItem_24 : decode cX7_partItem 24 = .ok (.ifCond .ne 86, 3) := by decide +kernel
theorem dX7_partItem_27 : decode cX7_partItem 27 = .ok (.aload_n 0, 1) := by decide +kernel
theorem dX7_partItem_28 : decode cX7_partItem 28 = .ok (.invokevirtual 225, 3) := by decide +kernel
theorem dX7_partItem_31 : decode cX7_partItem 31 = .ok (.aload_n 0, 1) := by decide +kernel
theorem dX7_partItem_32 : decode cX7_partItem 32 = .ok (.iconst 0, 1) := by decide +kernel
theorem dX7_partItem_33 : decode cX7_partItem 33 = .ok (.bipush 7, 2) := by decide +kernel
theorem dX7_partItem_35 : decode cX7_partItem 35 = .ok (.invokevirtual 228, 3) := by decide +kernel
theorem dX7_partItem_38 : decode cX7_partItem 38 = .ok (.istore_n 2, 1) := by decide +kernel
theorem dX7_partItem_39 : decode cX7_partItem 39 = .ok (.aload_n 0, 1) := by decide +kernel
theorem dX7_partItem_40 : decode cX7_partItem 40 = .ok (.iconst 1, 1) := by decide +kernel
theorem dX7_partItem_41 : decode cX7_partItem 41 = .ok (.sipush 999, 3) := by decide +kernel
theorem dX7_partItem_44 : decode cX7_partItem 44 = .ok (.invokevirtual 228, 3) := by decide +kernel
theorem dX7_partItem_47 : decode cX7_partItem 47 = .ok (.istore_n 3, 1) := by decide +kernel
theorem dX7_partItem_48 : decode cX7_partItem 48 = .ok (.aload_n 0, 1) := by decide +kernel
theorem dX7_partItem_49 : decode cX7_partItem 49 = .ok (.bipush 10, 2) := by decide +kernel
theorem dX7_partItem_51 : decode cX7_partItem 51 = .ok (.invokevirtual 231, 3) := by decide +kernel
theorem dX7_partItem_54 : decode cX7_partItem 54 = .ok (.ifCond .eq 13, 3) := by decide +kernel
theorem dX7_partItem_57 : decode cX7_partItem 57 = .ok (.aload_n 0, 1) := by decide +kernel
theorem dX7_partItem_58 : decode cX7_partItem 58 = .ok (.iconst 0, 1) := by decide +kernel
theorem dX7_partItem_59 : decode cX7_partItem 59 = .ok (.bipush 99, 2) := by decide +kernel
theorem dX7_partItem_61 : decode cX7_partItem 61 = .ok (.invokevirtual 228, 3) := by decide +kernel
theorem dX7_partItem_64 : decode cX7_partItem 64 = .ok (.goto 4, 3) := by decide +kernel
theorem dX7_partItem_67 : decode cX7_partItem 67 = .ok (.iconst 0, 1) := by decide +kernel
theorem dX7_partItem_68 : decode cX7_partItem 68 = .ok (.istore 4, 2) := by decide +kernel
theorem dX7_partItem_70 : decode cX7_partItem 70 = .ok (.aload_n 0, 1) := by decide +kernel
theorem dX7_partItem_71 : decode cX7_partItem 71 = .ok (.bipush 11, 2) := by decide +kernel
theorem dX7_partItem_73 : decode cX7_partItem 73 = .ok (.invokevirtual 231, 3) := by decide +kernel
theorem dX7_partItem_76 : decode cX7_partItem 76 = .ok (.ifCond .eq 13, 3) := by decide +kernel
theorem dX7_partItem_79 : decode cX7_partItem 79 = .ok (.aload_n 0, 1) := by decide +kernel
theorem dX7_partItem_80 : decode cX7_partItem 80 = .ok (.iconst 0, 1) := by decide +kernel
theorem dX7_partItem_81 : decode cX7_partItem 81 = .ok (.bipush 99, 2) := by decide +kernel
theorem dX7_partItem_83 : decode cX7_partItem 83 = .ok (.invokevirtual 228, 3) := by decide +kernel
theorem dX7_partItem_86 : decode cX7_partItem 86 = .ok (.goto 4, 3) := by decide +kernel
theorem dX7_partItem_89 : decode cX7_partItem 89 = .ok (.iconst 0, 1) := by decide +kernel
theorem dX7_partItem_90 : decode cX7_partItem 90 = .ok (.istore 5, 2) := by decide +kernel
theorem dX7_partItem_92 : decode cX7_partItem 92 = .ok (.aload_n 0, 1) := by decide +kernel
theorem dX7_partItem_93 : decode cX7_partItem 93 = .ok (.getfield 221, 3) := by decide +kernel
theorem dX7_partItem_96 : decode cX7_partItem 96 = .ok (.ifCond .ne 14, 3) := by decide +kernel
theorem dX7_partItem_99 : decode cX7_partItem 99 = .ok (.aload_n 0, 1) := by decide +kernel
theorem dX7_partItem_100 : decode cX7_partItem 100 = .ok (.iload_n 1, 1) := by decide +kernel
theorem dX7_partItem_101 : decode cX7_partItem 101 = .ok (.iload_n 2, 1) := by decide +kernel
theorem dX7_partItem_102 : decode cX7_partItem 102 = .ok (.iload_n 3, 1) := by decide +kernel
theorem dX7_partItem_103 : decode cX7_partItem 103 = .ok (.iload 4, 2) := by decide +kernel
theorem dX7_partItem_105 : decode cX7_partItem 105 = .ok (.iload 5, 2) := by decide +kernel
theorem dX7_partItem_107 : decode cX7_partItem 107 = .ok (.invokevirtual 80, 3) := by decide +kernel
theorem dX7_partItem_110 : decode cX7_partItem 110 = .ok (.return_, 1) := by decide +kernel
theorem dX7_campItem_0 : decode cX7_campItem 0 = .ok (.aload_n 0, 1) := by decide +kernel
theorem dX7_campItem_1 : decode cX7_campItem 1 = .ok (.aload_n 0, 1) := by decide +kernel
theorem dX7_campItem_2 : decode cX7_campItem 2 = .ok (.getfield 7, 3) := by decide +kernel
theorem dX7_campItem_5 : decode cX7_campItem 5 = .ok (.iconst 2, 1) := by decide +kernel
theorem dX7_campItem_6 : decode cX7_campItem 6 = .ok (.iaload, 1) := by decide +kernel
theorem dX7_campItem_7 : decode cX7_campItem 7 = .ok (.bipush 6, 2) := by decide +kernel
theorem dX7_campItem_9 : decode cX7_campItem 9 = .ok (.if_icmp .ne 7, 3) := by decide +kernel
theorem dX7_campItem_12 : decode cX7_campItem 12 = .ok (.iconst 1, 1) := by decide +kernel
theorem dX7_campItem_13 : decode cX7_campItem 13 = .ok (.goto 4, 3) := by decide +kernel
theorem dX7_campItem_16 : decode cX7_campItem 16 = .ok (.iconst 0, 1) := by decide +kernel
theorem dX7_campItem_17 : decode cX7_campItem 17 = .ok (.putfield 221, 3) := by decide +kernel
theorem dX7_campItem_20 : decode cX7_campItem 20 = .ok (.aload_n 0, 1) := by decide +kernel
theorem dX7_campItem_21 : decode cX7_campItem 21 = .ok (.getfield 221, 3) := by decide +kernel
theorem dX7_campItem_24 : decode cX7_campItem 24 = .ok (.ifCond .ne 103, 3) := by decide +kernel
theorem dX7_campItem_27 : decode cX7_campItem 27 = .ok (.aload_n 0, 1) := by decide +kernel
theorem dX7_campItem_28 : decode cX7_campItem 28 = .ok (.invokevirtual 225, 3) := by decide +kernel
theorem dX7_campItem_31 : decode cX7_campItem 31 = .ok (.aload_n 0, 1) := by decide +kernel
theorem dX7_campItem_32 : decode cX7_campItem 32 = .ok (.iconst 0, 1) := by decide +kernel
theorem dX7_campItem_33 : decode cX7_campItem 33 = .ok (.bipush 99, 2) := by decide +kernel
theorem dX7_campItem_35 : decode cX7_campItem 35 = .ok (.invokevirtual 228, 3) := by decide +kernel
theorem dX7_campItem_38 : decode cX7_campItem 38 = .ok (.istore_n 1, 1) := by decide +kernel
theorem dX7_campItem_39 : decode cX7_campItem 39 = .ok (.aload_n 0, 1) := by decide +kernel
theorem dX7_campItem_40 : decode cX7_campItem 40 = .ok (.getfield 221, 3) := by decide +kernel
theorem dX7_campItem_43 : decode cX7_campItem 43 = .ok (.ifCond .ne 84, 3) := by decide +kernel
theorem dX7_campItem_46 : decode cX7_campItem 46 = .ok (.aload_n 0, 1) := by decide +kernel
theorem dX7_campItem_47 : decode cX7_campItem 47 = .ok (.iload_n 1, 1) := by decide +kernel
theorem dX7_campItem_48 : decode cX7_campItem 48 = .ok (.invokevirtual 156, 3) := by decide +kernel
theorem dX7_campItem_51 : decode cX7_campItem 51 = .ok (.aload_n 0, 1) := by decide +kernel
theorem dX7_campItem_52 : decode cX7_campItem 52 = .ok (.bipush 12, 2) := by decide +kernel
theorem dX7_campItem_54 : decode cX7_campItem 54 = .ok (.invokevirtual 231, 3) := by decide +kernel
theorem dX7_campItem_57 : decode cX7_campItem 57 = .ok (.istore_n 2, 1) := by decide +kernel
theorem dX7_campItem_58 : decode cX7_campItem 58 = .ok (.iconst 0, 1) := by decide +kernel
theorem dX7_campItem_59 : decode cX7_campItem 59 = .ok (.istore_n 3, 1) := by decide +kernel
theorem dX7_campItem_60 : decode cX7_campItem 60 = .ok (.iload_n 3, 1) := by decide +kernel
theorem dX7_campItem_61 : decode cX7_campItem 61 = .ok (.bipush 12, 2) := by decide +kernel
theorem dX7_campItem_63 : decode cX7_campItem 63 = .ok (.if_icmp .ge 64, 3) := by decide +kernel
theorem dX7_campItem_66 : decode cX7_campItem 66 = .ok (.iload_n 2, 1) := by decide +kernel
theorem dX7_campItem_67 : decode cX7_campItem 67 = .ok (.ifCond .eq 60, 3) := by decide +kernel
theorem dX7_campItem_70 : decode cX7_campItem 70 = .ok (.aload_n 0, 1) := by decide +kernel
theorem dX7_campItem_71 : decode cX7_campItem 71 = .ok (.getfield 7, 3) := by decide +kernel
theorem dX7_campItem_74 : decode cX7_campItem 74 = .ok (.sipush 138, 3) := by decide +kernel
theorem dX7_campItem_77 : decode cX7_campItem 77 = .ok (.bipush 13, 2) := by decide +kernel
theorem dX7_campItem_79 : decode cX7_campItem 79 = .ok (.aload_n 0, 1) := by decide +kernel
theorem dX7_campItem_80 : decode cX7_campItem 80 = .ok (.getfield 7, 3) := by decide +kernel
theorem dX7_campItem_83 : decode cX7_campItem 83 = .ok (.iconst 2, 1) := by decide +kernel
theorem dX7_campItem_84 : decode cX7_campItem 84 = .ok (.iaload, 1) := by decide +kernel
theorem dX7_campItem_85 : decode cX7_campItem 85 = .ok (.iconst 1, 1) := by decide +kernel
theorem dX7_campItem_86 : decode cX7_campItem 86 = .ok (.isub, 1) := by decide +kernel
theorem dX7_campItem_87 : decode cX7_campItem 87 = .ok (.imul, 1) := by decide +kernel
theorem dX7_campItem_88 : decode cX7_campItem 88 = .ok (.iadd, 1) := by decide +kernel
theorem dX7_campItem_89 : decode cX7_campItem 89 = .ok (.iload_n 3, 1) := by decide +kernel
theorem dX7_campItem_90 : decode cX7_campItem 90 = .ok (.iadd, 1) := by decide +kernel
theorem dX7_campItem_91 : decode cX7_campItem 91 = .ok (.aload_n 0, 1) := by decide +kernel
theorem dX7_campItem_92 : decode cX7_campItem 92 = .ok (.iconst 0, 1) := by decide +kernel
theorem dX7_campItem_93 : decode cX7_campItem 93 = .ok (.sipush 999, 3) := by decide +kernel
theorem dX7_campItem_96 : decode cX7_campItem 96 = .ok (.invokevirtual 228, 3) := by decide +kernel
theorem dX7_campItem_99 : decode cX7_campItem 99 = .ok (.iastore, 1) := by decide +kernel
theorem dX7_campItem_100 : decode cX7_campItem 100 = .ok (.aload_n 0, 1) := by decide +kernel
theorem dX7_campItem_101 : decode cX7_campItem 101 = .ok (.getfield 221, 3) := by decide +kernel
theorem dX7_campItem_104 : decode cX7_campItem 104 = .ok (.ifCond .ne 15, 3) := by decide +kernel
theorem dX7_campItem_107 : decode cX7_campItem 107 = .ok (.aload_n 0, 1) := by decide +kernel
theorem dX7_campItem_108 : decode cX7_campItem 108 = .ok (.getfield 204, 3) := by decide +kernel
theorem dX7_campItem_111 : decode cX7_campItem 111 = .ok (.iconst 2, 1) := by decide +kernel
theorem dX7_campItem_112 : decode cX7_campItem 112 = .ok (.if_icmp .ne 7, 3) := by decide +kernel
theorem dX7_campItem_115 : decode cX7_campItem 115 = .ok (.iconst 1, 1) := by decide +kernel
theorem dX7_campItem_116 : decode cX7_campItem 116 = .ok (.goto 4, 3) := by decide +kernel
theorem dX7_campItem_119 : decode cX7_campItem 119 = .ok (.iconst 0, 1) := by decide +kernel
theorem dX7_campItem_120 : decode cX7_campItem 120 = .ok (.istore_n 2, 1) := by decide +kernel
theorem dX7_campItem_121 : decode cX7_campItem 121 = .ok (.iinc 3 1, 3) := by decide +kernel
theorem dX7_campItem_124 : decode cX7_campItem 124 = .ok (.goto (-64), 3) := by decide +kernel
theorem dX7_campItem_127 : decode cX7_campItem 127 = .ok (.return_, 1) := by decide +kernel
theorem dX7_beastItem_0 : decode cX7_beastItem 0 = .ok (.aload_n 0, 1) := by decide +kernel
theorem dX7_beastItem_1 : decode cX7_beastItem 1 = .ok (.aload_n 0, 1) := by decide +kernel
theorem dX7_beastItem_2 : decode cX7_beastItem 2 = .ok (.getfield 7, 3) := by decide +kernel
theorem dX7_beastItem_5 : decode cX7_beastItem 5 = .ok (.iconst 1, 1) := by decide +kernel
theorem dX7_beastItem_6 : decode cX7_beastItem 6 = .ok (.iaload, 1) := by decide +kernel
theorem dX7_beastItem_7 : decode cX7_beastItem 7 = .ok (.bipush 6, 2) := by decide +kernel
theorem dX7_beastItem_9 : decode cX7_beastItem 9 = .ok (.if_icmp .ne 7, 3) := by decide +kernel
theorem dX7_beastItem_12 : decode cX7_beastItem 12 = .ok (.iconst 1, 1) := by decide +kernel
theorem dX7_beastItem_13 : decode cX7_beastItem 13 = .ok (.goto 4, 3) := by decide +kernel
theorem dX7_beastItem_16 : decode cX7_beastItem 16 = .ok (.iconst 0, 1) := by decide +kernel
theorem dX7_beastItem_17 : decode cX7_beastItem 17 = .ok (.putfield 221, 3) := by decide +kernel
theorem dX7_beastItem_20 : decode cX7_beastItem 20 = .ok (.aload_n 0, 1) := by decide +kernel
theorem dX7_beastItem_21 : decode cX7_beastItem 21 = .ok (.getfield 221, 3) := by decide +kernel
theorem dX7_beastItem_24 : decode cX7_beastItem 24 = .ok (.ifCond .ne 40, 3) := by decide +kernel
theorem dX7_beastItem_27 : decode cX7_beastItem 27 = .ok (.aload_n 0, 1) := by decide +kernel
theorem dX7_beastItem_28 : decode cX7_beastItem 28 = .ok (.invokevirtual 225, 3) := by decide +kernel
theorem dX7_beastItem_31 : decode cX7_beastItem 31 = .ok (.aload_n 0, 1) := by decide +kernel
theorem dX7_beastItem_32 : decode cX7_beastItem 32 = .ok (.getfield 7, 3) := by decide +kernel
theorem dX7_beastItem_35 : decode cX7_beastItem 35 = .ok (.sipush 132, 3) := by decide +kernel
theorem dX7_beastItem_38 : decode cX7_beastItem 38 = .ok (.aload_n 0, 1) := by decide +kernel
theorem dX7_beastItem_39 : decode cX7_beastItem 39 = .ok (.getfield 7, 3) := by decide +kernel
theorem dX7_beastItem_42 : decode cX7_beastItem 42 = .ok (.iconst 1, 1) := by decide +kernel
theorem dX7_beastItem_43 : decode cX7_beastItem 43 = .ok (.iaload, 1) := by decide +kernel
theorem dX7_beastItem_44 : decode cX7_beastItem 44 = .ok (.iadd, 1) := by decide +kernel
theorem dX7_beastItem_45 : decode cX7_beastItem 45 = .ok (.aload_n 0, 1) := by decide +kernel
theorem dX7_beastItem_46 : decode cX7_beastItem 46 = .ok (.iconst 1, 1) := by decide +kernel
theorem dX7_beastItem_47 : decode cX7_beastItem 47 = .ok (.sipush 999, 3) := by decide +kernel
theorem dX7_beastItem_50 : decode cX7_beastItem 50 = .ok (.invokevirtual 228, 3) := by decide +kernel
theorem dX7_beastItem_53 : decode cX7_beastItem 53 = .ok (.iastore, 1) := by decide +kernel
theorem dX7_beastItem_54 : decode cX7_beastItem 54 = .ok (.aload_n 0, 1) := by decide +kernel
theorem dX7_beastItem_55 : decode cX7_beastItem 55 = .ok (.getfield 7, 3) := by decide +kernel
theorem dX7_beastItem_58 : decode cX7_beastItem 58 = .ok (.iconst 1, 1) := by decide +kernel
theorem dX7_beastItem_59 : decode cX7_beastItem 59 = .ok (.dup2, 1) := by decide +kernel
theorem dX7_beastItem_60 : decode cX7_beastItem 60 = .ok (.iaload, 1) := by decide +kernel
theorem dX7_beastItem_61 : decode cX7_beastItem 61 = .ok (.iconst 1, 1) := by decide +kernel
theorem dX7_beastItem_62 : decode cX7_beastItem 62 = .ok (.iadd, 1) := by decide +kernel
theorem dX7_beastItem_63 : decode cX7_beastItem 63 = .ok (.iastore, 1) := by decide +kernel
theorem dX7_beastItem_64 : decode cX7_beastItem 64 = .ok (.return_, 1) := by decide +kernel
theorem dX7_item_0 : decode cX7_item 0 = .ok (.aload_n 0, 1) := by decide +kernel
theorem dX7_item_1 : decode cX7_item 1 = .ok (.getfield 204, 3) := by decide +kernel
theorem dX7_item_4 : decode cX7_item 4 = .ok (.iconst 1, 1) := by decide +kernel
theorem dX7_item_5 : decode cX7_item 5 = .ok (.if_icmp .ne 10, 3) := by decide +kernel
theorem dX7_item_8 : decode cX7_item 8 = .ok (.aload_n 0, 1) := by decide +kernel
theorem dX7_item_9 : decode cX7_item 9 = .ok (.getfield 214, 3) := by decide +kernel
theorem dX7_item_12 : decode cX7_item 12 = .ok (.goto 4, 3) := by decide +kernel
theorem dX7_item_15 : decode cX7_item 15 = .ok (.iconst (-1), 1) := by decide +kernel
theorem dX7_item_16 : decode cX7_item 16 = .ok (.istore_n 1, 1) := by decide +kernel
theorem dX7_item_17 : decode cX7_item 17 = .ok (.iload_n 1, 1) := by decide +kernel
theorem dX7_item_18 : decode cX7_item 18 = .ok (.ifCond .lt 9, 3) := by decide +kernel
theorem dX7_item_21 : decode cX7_item 21 = .ok (.iload_n 1, 1) := by decide +kernel
theorem dX7_item_22 : decode cX7_item 22 = .ok (.bipush 9, 2) := by decide +kernel
theorem dX7_item_24 : decode cX7_item 24 = .ok (.if_icmp .le 11, 3) := by decide +kernel
theorem dX7_item_27 : decode cX7_item 27 = .ok (.aload_n 0, 1) := by decide +kernel
theorem dX7_item_28 : decode cX7_item 28 = .ok (.iconst 1, 1) := by decide +kernel
theorem dX7_item_29 : decode cX7_item 29 = .ok (.putfield 221, 3) := by decide +kernel
theorem dX7_item_32 : decode cX7_item 32 = .ok (.goto 61, 3) := by decide +kernel
theorem dX7_item_35 : decode cX7_item 35 = .ok (.iload_n 1, 1) := by decide +kernel
theorem dX7_item_36 : decode cX7_item 36 = .ok (.bipush 7, 2) := by decide +kernel
theorem dX7_item_38 : decode cX7_item 38 = .ok (.if_icmp .ge 11, 3) := by decide +kernel
theorem dX7_item_41 : decode cX7_item 41 = .ok (.aload_n 0, 1) := by decide +kernel
theorem dX7_item_42 : decode cX7_item 42 = .ok (.iload_n 1, 1) := by decide +kernel
theorem dX7_item_43 : decode cX7_item 43 = .ok (.invokevirtual 234, 3) := by decide +kernel
theorem dX7_item_46 : decode cX7_item 46 = .ok (.goto 47, 3) := by decide +kernel
theorem dX7_item_49 : decode cX7_item 49 = .ok (.iload_n 1, 1) := by decide +kernel
theorem dX7_item_50 : decode cX7_item 50 = .ok (.bipush 7, 2) := by decide +kernel
theorem dX7_item_52 : decode cX7_item 52 = .ok (.if_icmp .ne 10, 3) := by decide +kernel
theorem dX7_item_55 : decode cX7_item 55 = .ok (.aload_n 0, 1) := by decide +kernel
theorem dX7_item_56 : decode cX7_item 56 = .ok (.invokevirtual 237, 3) := by decide +kernel
theorem dX7_item_59 : decode cX7_item 59 = .ok (.goto 34, 3) := by decide +kernel
theorem dX7_item_62 : decode cX7_item 62 = .ok (.iload_n 1, 1) := by decide +kernel
theorem dX7_item_63 : decode cX7_item 63 = .ok (.bipush 8, 2) := by decide +kernel
theorem dX7_item_65 : decode cX7_item 65 = .ok (.if_icmp .ne 10, 3) := by decide +kernel
theorem dX7_item_68 : decode cX7_item 68 = .ok (.aload_n 0, 1) := by decide +kernel
theorem dX7_item_69 : decode cX7_item 69 = .ok (.invokevirtual 240, 3) := by decide +kernel
theorem dX7_item_72 : decode cX7_item 72 = .ok (.goto 21, 3) := by decide +kernel
theorem dX7_item_75 : decode cX7_item 75 = .ok (.aload_n 0, 1) := by decide +kernel
theorem dX7_item_76 : decode cX7_item 76 = .ok (.invokevirtual 225, 3) := by decide +kernel
theorem dX7_item_79 : decode cX7_item 79 = .ok (.aload_n 0, 1) := by decide +kernel
theorem dX7_item_80 : decode cX7_item 80 = .ok (.getfield 7, 3) := by decide +kernel
theorem dX7_item_83 : decode cX7_item 83 = .ok (.bipush 8, 2) := by decide +kernel
theorem dX7_item_85 : decode cX7_item 85 = .ok (.aload_n 0, 1) := by decide +kernel
theorem dX7_item_86 : decode cX7_item 86 = .ok (.iconst 0, 1) := by decide +kernel
theorem dX7_item_87 : decode cX7_item 87 = .ok (.bipush 99, 2) := by decide +kernel
theorem dX7_item_89 : decode cX7_item 89 = .ok (.invokevirtual 228, 3) := by decide +kernel
theorem dX7_item_92 : decode cX7_item 92 = .ok (.iastore, 1) := by decide +kernel
theorem dX7_item_93 : decode cX7_item 93 = .ok (.return_, 1) := by decide +kernel
theorem dX7_house_0 : decode cX7_house 0 = .ok (.iconst 0, 1) := by decide +kernel
theorem dX7_house_1 : decode cX7_house 1 = .ok (.istore_n 1, 1) := by decide +kernel
theorem dX7_house_2 : decode cX7_house 2 = .ok (.iload_n 1, 1) := by decide +kernel
theorem dX7_house_3 : decode cX7_house 3 = .ok (.sipush 216, 3) := by decide +kernel
theorem dX7_house_6 : decode cX7_house 6 = .ok (.if_icmp .ge 21, 3) := by decide +kernel
theorem dX7_house_9 : decode cX7_house 9 = .ok (.aload_n 0, 1) := by decide +kernel
theorem dX7_house_10 : decode cX7_house 10 = .ok (.getfield 16, 3) := by decide +kernel
theorem dX7_house_13 : decode cX7_house 13 = .ok (.iload_n 1, 1) := by decide +kernel
theorem dX7_house_14 : decode cX7_house 14 = .ok (.aload_n 0, 1) := by decide +kernel
theorem dX7_house_15 : decode cX7_house 15 = .ok (.getfield 7, 3) := by decide +kernel
theorem dX7_house_18 : decode cX7_house 18 = .ok (.iload_n 1, 1) := by decide +kernel
theorem dX7_house_19 : decode cX7_house 19 = .ok (.iaload, 1) := by decide +kernel
theorem dX7_house_20 : decode cX7_house 20 = .ok (.iastore, 1) := by decide +kernel
theorem dX7_house_21 : decode cX7_house 21 = .ok (.iinc 1 1, 3) := by decide +kernel
theorem dX7_house_24 : decode cX7_house 24 = .ok (.goto (-22), 3) := by decide +kernel
theorem dX7_house_27 : decode cX7_house 27 = .ok (.aload_n 0, 1) := by decide +kernel
theorem dX7_house_28 : decode cX7_house 28 = .ok (.iconst 0, 1) := by decide +kernel
theorem dX7_house_29 : decode cX7_house 29 = .ok (.putfield 198, 3) := by decide +kernel
theorem dX7_house_32 : decode cX7_house 32 = .ok (.aload_n 0, 1) := by decide +kernel
theorem dX7_house_33 : decode cX7_house 33 = .ok (.iconst 0, 1) := by decide +kernel
theorem dX7_house_34 : decode cX7_house 34 = .ok (.putfield 221, 3) := by decide +kernel
theorem dX7_house_37 : decode cX7_house 37 = .ok (.aload_n 0, 1) := by decide +kernel
theorem dX7_house_38 : decode cX7_house 38 = .ok (.invokevirtual 225, 3) := by decide +kernel
theorem dX7_house_41 : decode cX7_house 41 = .ok (.aload_n 0, 1) := by decide +kernel
theorem dX7_house_42 : decode cX7_house 42 = .ok (.invokevirtual 243, 3) := by decide +kernel
theorem dX7_house_45 : decode cX7_house 45 = .ok (.iconst 1, 1) := by decide +kernel
theorem dX7_house_46 : decode cX7_house 46 = .ok (.istore_n 1, 1) := by decide +kernel
theorem dX7_house_47 : decode cX7_house 47 = .ok (.aload_n 0, 1) := by decide +kernel
theorem dX7_house_48 : decode cX7_house 48 = .ok (.getfield 221, 3) := by decide +kernel
theorem dX7_house_51 : decode cX7_house 51 = .ok (.ifCond .ne 25, 3) := by decide +kernel
theorem dX7_house_54 : decode cX7_house 54 = .ok (.aload_n 0, 1) := by decide +kernel
theorem dX7_house_55 : decode cX7_house 55 = .ok (.getfield 204, 3) := by decide +kernel
theorem dX7_house_58 : decode cX7_house 58 = .ok (.iconst 3, 1) := by decide +kernel
theorem dX7_house_59 : decode cX7_house 59 = .ok (.if_icmp .ne 17, 3) := by decide +kernel
theorem dX7_house_62 : decode cX7_house 62 = .ok (.aload_n 0, 1) := by decide +kernel
theorem dX7_house_63 : decode cX7_house 63 = .ok (.invokevirtual 225, 3) := by decide +kernel
theorem dX7_house_66 : decode cX7_house 66 = .ok (.aload_n 0, 1) := by decide +kernel
theorem dX7_house_67 : decode cX7_house 67 = .ok (.invokevirtual 243, 3) := by decide +kernel
theorem dX7_house_70 : decode cX7_house 70 = .ok (.iinc 1 1, 3) := by decide +kernel
theorem dX7_house_73 : decode cX7_house 73 = .ok (.goto (-26), 3) := by decide +kernel
theorem dX7_house_76 : decode cX7_house 76 = .ok (.aload_n 0, 1) := by decide +kernel
theorem dX7_house_77 : decode cX7_house 77 = .ok (.aload_n 0, 1) := by decide +kernel
theorem dX7_house_78 : decode cX7_house 78 = .ok (.getfield 221, 3) := by decide +kernel
theorem dX7_house_81 : decode cX7_house 81 = .ok (.ifCond .ne 10, 3) := by decide +kernel
theorem dX7_house_84 : decode cX7_house 84 = .ok (.aload_n 0, 1) := by decide +kernel
theorem dX7_house_85 : decode cX7_house 85 = .ok (.getfield 204, 3) := by decide +kernel
theorem dX7_house_88 : decode cX7_house 88 = .ok (.ifCond .eq 7, 3) := by decide +kernel
theorem dX7_house_91 : decode cX7_house 91 = .ok (.iconst 1, 1) := by decide +kernel
theorem dX7_house_92 : decode cX7_house 92 = .ok (.goto 4, 3) := by decide +kernel
theorem dX7_house_95 : decode cX7_house 95 = .ok (.iconst 0, 1) := by decide +kernel
theorem dX7_house_96 : decode cX7_house 96 = .ok (.putfield 221, 3) := by decide +kernel
theorem dX7_house_99 : decode cX7_house 99 = .ok (.aload_n 0, 1) := by decide +kernel
theorem dX7_house_100 : decode cX7_house 100 = .ok (.iconst 0, 1) := by decide +kernel
theorem dX7_house_101 : decode cX7_house 101 = .ok (.putfield 192, 3) := by decide +kernel
theorem dX7_house_104 : decode cX7_house 104 = .ok (.aload_n 0, 1) := by decide +kernel
theorem dX7_house_105 : decode cX7_house 105 = .ok (.getfield 221, 3) := by decide +kernel
theorem dX7_house_108 : decode cX7_house 108 = .ok (.ifCond .ne 5, 3) := by decide +kernel
theorem dX7_house_111 : decode cX7_house 111 = .ok (.iload_n 1, 1) := by decide +kernel
theorem dX7_house_112 : decode cX7_house 112 = .ok (.ireturn, 1) := by decide +kernel
theorem dX7_house_113 : decode cX7_house 113 = .ok (.iconst 0, 1) := by decide +kernel
theorem dX7_house_114 : decode cX7_house 114 = .ok (.istore_n 2, 1) := by decide +kernel
theorem dX7_house_115 : decode cX7_house 115 = .ok (.iload_n 2, 1) := by decide +kernel
theorem dX7_house_116 : decode cX7_house 116 = .ok (.sipush 216, 3) := by decide +kernel
theorem dX7_house_119 : decode cX7_house 119 = .ok (.if_icmp .ge 21, 3) := by decide +kernel
theorem dX7_house_122 : decode cX7_house 122 = .ok (.aload_n 0, 1) := by decide +kernel
theorem dX7_house_123 : decode cX7_house 123 = .ok (.getfield 7, 3) := by decide +kernel
theorem dX7_house_126 : decode cX7_house 126 = .ok (.iload_n 2, 1) := by decide +kernel
theorem dX7_house_127 : decode cX7_house 127 = .ok (.aload_n 0, 1) := by decide +kernel
theorem dX7_house_128 : decode cX7_house 128 = .ok (.getfield 16, 3) := by decide +kernel
theorem dX7_house_131 : decode cX7_house 131 = .ok (.iload_n 2, 1) := by decide +kernel
theorem dX7_house_132 : decode cX7_house 132 = .ok (.iaload, 1) := by decide +kernel
theorem dX7_house_133 : decode cX7_house 133 = .ok (.iastore, 1) := by decide +kernel
theorem dX7_house_134 : decode cX7_house 134 = .ok (.iinc 2 1, 3) := by decide +kernel
theorem dX7_house_137 : decode cX7_house 137 = .ok (.goto (-22), 3) := by decide +kernel
theorem dX7_house_140 : decode cX7_house 140 = .ok (.iconst (-1), 1) := by decide +kernel
theorem dX7_house_141 : decode cX7_house 141 = .ok (.aload_n 0, 1) := by decide +kernel
theorem dX7_house_142 : decode cX7_house 142 = .ok (.getfield 195, 3) := by decide +kernel
theorem dX7_house_145 : decode cX7_house 145 = .ok (.isub, 1) := by decide +kernel
theorem dX7_house_146 : decode cX7_house 146 = .ok (.ireturn, 1) := by decide +kernel
theorem dX7_isSheet_0 : decode cX7_isSheet 0 = .ok (.iload_n 0, 1) := by decide +kernel
theorem dX7_isSheet_1 : decode cX7_isSheet 1 = .ok (.ifCond .lt 12, 3) := by decide +kernel
theorem dX7_isSheet_4 : decode cX7_isSheet 4 = .ok (.iload_n 0, 1) := by decide +kernel
theorem dX7_isSheet_5 : decode cX7_isSheet 5 = .ok (.iconst 4, 1) := by decide +kernel
theorem dX7_isSheet_6 : decode cX7_isSheet 6 = .ok (.if_icmp .ge 7, 3) := by decide +kernel
theorem dX7_isSheet_9 : decode cX7_isSheet 9 = .ok (.iconst 1, 1) := by decide +kernel
theorem dX7_isSheet_10 : decode cX7_isSheet 10 = .ok (.goto 4, 3) := by decide +kernel
theorem dX7_isSheet_13 : decode cX7_isSheet 13 = .ok (.iconst 0, 1) := by decide +kernel
theorem dX7_isSheet_14 : decode cX7_isSheet 14 = .ok (.ireturn, 1) := by decide +kernel
theorem dX7_narrow_0 : decode cX7_narrow 0 = .ok (.iload_n 0, 1) := by decide +kernel
theorem dX7_narrow_1 : decode cX7_narrow 1 = .ok (.bipush 8, 2) := by decide +kernel
theorem dX7_narrow_3 : decode cX7_narrow 3 = .ok (.if_icmp .ne 10, 3) := by decide +kernel
theorem dX7_narrow_6 : decode cX7_narrow 6 = .ok (.lload_n 1, 1) := by decide +kernel
theorem dX7_narrow_7 : decode cX7_narrow 7 = .ok (.l2i, 1) := by decide +kernel
theorem dX7_narrow_8 : decode cX7_narrow 8 = .ok (.i2b, 1) := by decide +kernel
theorem dX7_narrow_9 : decode cX7_narrow 9 = .ok (.i2l, 1) := by decide +kernel
theorem dX7_narrow_10 : decode cX7_narrow 10 = .ok (.goto 17, 3) := by decide +kernel
theorem dX7_narrow_13 : decode cX7_narrow 13 = .ok (.iload_n 0, 1) := by decide +kernel
theorem dX7_narrow_14 : decode cX7_narrow 14 = .ok (.bipush 16, 2) := by decide +kernel
theorem dX7_narrow_16 : decode cX7_narrow 16 = .ok (.if_icmp .ne 10, 3) := by decide +kernel
theorem dX7_narrow_19 : decode cX7_narrow 19 = .ok (.lload_n 1, 1) := by decide +kernel
theorem dX7_narrow_20 : decode cX7_narrow 20 = .ok (.l2i, 1) := by decide +kernel
theorem dX7_narrow_21 : decode cX7_narrow 21 = .ok (.i2s, 1) := by decide +kernel
theorem dX7_narrow_22 : decode cX7_narrow 22 = .ok (.i2l, 1) := by decide +kernel
theorem dX7_narrow_23 : decode cX7_narrow 23 = .ok (.goto 4, 3) := by decide +kernel
theorem dX7_narrow_26 : decode cX7_narrow 26 = .ok (.lload_n 1, 1) := by decide +kernel
theorem dX7_narrow_27 : decode cX7_narrow 27 = .ok (.lreturn, 1) := by decide +kernel
theorem dX7_sheet_0 : decode cX7_sheet 0 = .ok (.iload_n 1, 1) := by decide +kernel
theorem dX7_sheet_1 : decode cX7_sheet 1 = .ok (.invokestatic 246, 3) := by decide +kernel
theorem dX7_sheet_4 : decode cX7_sheet 4 = .ok (.ifCond .eq 25, 3) := by decide +kernel
theorem dX7_sheet_7 : decode cX7_sheet 7 = .ok (.iload_n 2, 1) := by decide +kernel
theorem dX7_sheet_8 : decode cX7_sheet 8 = .ok (.ifCond .eq 28, 3) := by decide +kernel
theorem dX7_sheet_11 : decode cX7_sheet 11 = .ok (.iload_n 2, 1) := by decide +kernel
theorem dX7_sheet_12 : decode cX7_sheet 12 = .ok (.bipush 8, 2) := by decide +kernel
theorem dX7_sheet_14 : decode cX7_sheet 14 = .ok (.if_icmp .eq 22, 3) := by decide +kernel
theorem dX7_sheet_17 : decode cX7_sheet 17 = .ok (.iload_n 2, 1) := by decide +kernel
theorem dX7_sheet_18 : decode cX7_sheet 18 = .ok (.bipush 16, 2) := by decide +kernel
theorem dX7_sheet_20 : decode cX7_sheet 20 = .ok (.if_icmp .eq 16, 3) := by decide +kernel
theorem dX7_sheet_23 : decode cX7_sheet 23 = .ok (.iload_n 2, 1) := by decide +kernel
theorem dX7_sheet_24 : decode cX7_sheet 24 = .ok (.bipush 64, 2) := by decide +kernel
theorem dX7_sheet_26 : decode cX7_sheet 26 = .ok (.if_icmp .eq 10, 3) := by decide +kernel
theorem dX7_sheet_29 : decode cX7_sheet 29 = .ok (.aload_n 0, 1) := by decide +kernel
theorem dX7_sheet_30 : decode cX7_sheet 30 = .ok (.ldc 54, 2) := by decide +kernel
theorem dX7_sheet_32 : decode cX7_sheet 32 = .ok (.invokevirtual 75, 3) := by decide +kernel
theorem dX7_sheet_35 : decode cX7_sheet 35 = .ok (.ireturn, 1) := by decide +kernel
theorem dX7_sheet_36 : decode cX7_sheet 36 = .ok (.iload_n 3, 1) := by decide +kernel
theorem dX7_sheet_37 : decode cX7_sheet 37 = .ok (.ifCond .ge 10, 3) := by decide +kernel
theorem dX7_sheet_40 : decode cX7_sheet 40 = .ok (.aload_n 0, 1) := by decide +kernel
theorem dX7_sheet_41 : decode cX7_sheet 41 = .ok (.ldc 155, 2) := by decide +kernel
theorem dX7_sheet_43 : decode cX7_sheet 43 = .ok (.invokevirtual 75, 3) := by decide +kernel
theorem dX7_sheet_46 : decode cX7_sheet 46 = .ok (.ireturn, 1) := by decide +kernel
theorem dX7_sheet_47 : decode cX7_sheet 47 = .ok (.iload_n 3, 1) := by decide +kernel
theorem dX7_sheet_48 : decode cX7_sheet 48 = .ok (.bipush 40, 2) := by decide +kernel
theorem dX7_sheet_50 : decode cX7_sheet 50 = .ok (.if_icmp .le 10, 3) := by decide +kernel
theorem dX7_sheet_53 : decode cX7_sheet 53 = .ok (.aload_n 0, 1) := by decide +kernel
theorem dX7_sheet_54 : decode cX7_sheet 54 = .ok (.ldc 54, 2) := by decide +kernel
theorem dX7_sheet_56 : decode cX7_sheet 56 = .ok (.invokevirtual 75, 3) := by decide +kernel
theorem dX7_sheet_59 : decode cX7_sheet 59 = .ok (.ireturn, 1) := by decide +kernel
theorem dX7_sheet_60 : decode cX7_sheet 60 = .ok (.aload_n 0, 1) := by decide +kernel
theorem dX7_sheet_61 : decode cX7_sheet 61 = .ok (.getfield 25, 3) := by decide +kernel
theorem dX7_sheet_64 : decode cX7_sheet 64 = .ok (.iload_n 1, 1) := by decide +kernel
theorem dX7_sheet_65 : decode cX7_sheet 65 = .ok (.iload_n 2, 1) := by decide +kernel
theorem dX7_sheet_66 : decode cX7_sheet 66 = .ok (.ifCond .ne 7, 3) := by decide +kernel
theorem dX7_sheet_69 : decode cX7_sheet 69 = .ok (.iconst (-1), 1) := by decide +kernel
theorem dX7_sheet_70 : decode cX7_sheet 70 = .ok (.goto 4, 3) := by decide +kernel
theorem dX7_sheet_73 : decode cX7_sheet 73 = .ok (.iload_n 2, 1) := by decide +kernel
theorem dX7_sheet_74 : decode cX7_sheet 74 = .ok (.iastore, 1) := by decide +kernel
theorem dX7_sheet_75 : decode cX7_sheet 75 = .ok (.aload_n 0, 1) := by decide +kernel
theorem dX7_sheet_76 : decode cX7_sheet 76 = .ok (.getfield 28, 3) := by decide +kernel
theorem dX7_sheet_79 : decode cX7_sheet 79 = .ok (.iload_n 1, 1) := by decide +kernel
theorem dX7_sheet_80 : decode cX7_sheet 80 = .ok (.iload_n 2, 1) := by decide +kernel
theorem dX7_sheet_81 : decode cX7_sheet 81 = .ok (.ifCond .ne 7, 3) := by decide +kernel
theorem dX7_sheet_84 : decode cX7_sheet 84 = .ok (.iconst 0, 1) := by decide +kernel
theorem dX7_sheet_85 : decode cX7_sheet 85 = .ok (.goto 4, 3) := by decide +kernel
theorem dX7_sheet_88 : decode cX7_sheet 88 = .ok (.iload_n 3, 1) := by decide +kernel
theorem dX7_sheet_89 : decode cX7_sheet 89 = .ok (.iastore, 1) := by decide +kernel
theorem dX7_sheet_90 : decode cX7_sheet 90 = .ok (.iconst 0, 1) := by decide +kernel
theorem dX7_sheet_91 : decode cX7_sheet 91 = .ok (.istore 4, 2) := by decide +kernel
theorem dX7_sheet_93 : decode cX7_sheet 93 = .ok (.iload 4, 2) := by decide +kernel
theorem dX7_sheet_95 : decode cX7_sheet 95 = .ok (.bipush 40, 2) := by decide +kernel
theorem dX7_sheet_97 : decode cX7_sheet 97 = .ok (.if_icmp .ge 22, 3) := by decide +kernel
theorem dX7_sheet_100 : decode cX7_sheet 100 = .ok (.aload_n 0, 1) := by decide +kernel
theorem dX7_sheet_101 : decode cX7_sheet 101 = .ok (.getfield 31, 3) := by decide +kernel
theorem dX7_sheet_104 : decode cX7_sheet 104 = .ok (.bipush 40, 2) := by decide +kernel
theorem dX7_sheet_106 : decode cX7_sheet 106 = .ok (.iload_n 1, 1) := by decide +kernel
theorem dX7_sheet_107 : decode cX7_sheet 107 = .ok (.imul, 1) := by decide +kernel
theorem dX7_sheet_108 : decode cX7_sheet 108 = .ok (.iload 4, 2) := by decide +kernel
theorem dX7_sheet_110 : decode cX7_sheet 110 = .ok (.iadd, 1) := by decide +kernel
theorem dX7_sheet_111 : decode cX7_sheet 111 = .ok (.lconst 0, 1) := by decide +kernel
theorem dX7_sheet_112 : decode cX7_sheet 112 = .ok (.lastore, 1) := by decide +kernel
theorem dX7_sheet_113 : decode cX7_sheet 113 = .ok (.iinc 4 1, 3) := by decide +kernel
theorem dX7_sheet_116 : decode cX7_sheet 116 = .ok (.goto (-23), 3) := by decide +kernel
theorem dX7_sheet_119 : decode cX7_sheet 119 = .ok (.aload_n 0, 1) := by decide +kernel
theorem dX7_sheet_120 : decode cX7_sheet 120 = .ok (.getfield 28, 3) := by decide +kernel
theorem dX7_sheet_123 : decode cX7_sheet 123 = .ok (.iload_n 1, 1) := by decide +kernel
theorem dX7_sheet_124 : decode cX7_sheet 124 = .ok (.iaload, 1) := by decide +kernel
theorem dX7_sheet_125 : decode cX7_sheet 125 = .ok (.ireturn, 1) := by decide +kernel
theorem dX7_write_0 : decode cX7_write 0 = .ok (.iload_n 1, 1) := by decide +kernel
theorem dX7_write_1 : decode cX7_write 1 = .ok (.invokestatic 246, 3) := by decide +kernel
theorem dX7_write_4 : decode cX7_write 4 = .ok (.ifCond .ne 11, 3) := by decide +kernel
theorem dX7_write_7 : decode cX7_write 7 = .ok (.aload_n 0, 1) := by decide +kernel
theorem dX7_write_8 : decode cX7_write 8 = .ok (.ldc 54, 2) := by decide +kernel
theorem dX7_write_10 : decode cX7_write 10 = .ok (.invokevirtual 75, 3) := by decide +kernel
theorem dX7_write_13 : decode cX7_write 13 = .ok (.i2l, 1) := by decide +kernel
theorem dX7_write_14 : decode cX7_write 14 = .ok (.lreturn, 1) := by decide +kernel
theorem dX7_write_15 : decode cX7_write 15 = .ok (.aload_n 0, 1) := by decide +kernel
theorem dX7_write_16 : decode cX7_write 16 = .ok (.getfield 25, 3) := by decide +kernel
theorem dX7_write_19 : decode cX7_write 19 = .ok (.iload_n 1, 1) := by decide +kernel
theorem dX7_write_20 : decode cX7_write 20 = .ok (.iaload, 1) := by decide +kernel
theorem dX7_write_21 : decode cX7_write 21 = .ok (.ifCond .ge 11, 3) := by decide +kernel
theorem dX7_write_24 : decode cX7_write 24 = .ok (.aload_n 0, 1) := by decide +kernel
theorem dX7_write_25 : decode cX7_write 25 = .ok (.ldc 249, 2) := by decide +kernel
theorem dX7_write_27 : decode cX7_write 27 = .ok (.invokevirtual 75, 3) := by decide +kernel
theorem dX7_write_30 : decode cX7_write 30 = .ok (.i2l, 1) := by decide +kernel
theorem dX7_write_31 : decode cX7_write 31 = .ok (.lreturn, 1) := by decide +kernel
theorem dX7_write_32 : decode cX7_write 32 = .ok (.iload_n 2, 1) := by decide +kernel
theorem dX7_write_33 : decode cX7_write 33 = .ok (.i2l, 1) := by decide +kernel
theorem dX7_write_34 : decode cX7_write 34 = .ok (.lconst 0, 1) := by decide +kernel
theorem dX7_write_35 : decode cX7_write 35 = .ok (.aload_n 0, 1) := by decide +kernel
theorem dX7_write_36 : decode cX7_write 36 = .ok (.getfield 28, 3) := by decide +kernel
theorem dX7_write_39 : decode cX7_write 39 = .ok (.iload_n 1, 1) := by decide +kernel
theorem dX7_write_40 : decode cX7_write 40 = .ok (.iaload, 1) := by decide +kernel
theorem dX7_write_41 : decode cX7_write 41 = .ok (.iconst 1, 1) := by decide +kernel
theorem dX7_write_42 : decode cX7_write 42 = .ok (.isub, 1) := by decide +kernel
theorem dX7_write_43 : decode cX7_write 43 = .ok (.i2l, 1) := by decide +kernel
theorem dX7_write_44 : decode cX7_write 44 = .ok (.invokestatic 65, 3) := by decide +kernel
theorem dX7_write_47 : decode cX7_write 47 = .ok (.ifCond .ne 11, 3) := by decide +kernel
theorem dX7_write_50 : decode cX7_write 50 = .ok (.aload_n 0, 1) := by decide +kernel
theorem dX7_write_51 : decode cX7_write 51 = .ok (.ldc 54, 2) := by decide +kernel
theorem dX7_write_53 : decode cX7_write 53 = .ok (.invokevirtual 75, 3) := by decide +kernel
theorem dX7_write_56 : decode cX7_write 56 = .ok (.i2l, 1) := by decide +kernel
theorem dX7_write_57 : decode cX7_write 57 = .ok (.lreturn, 1) := by decide +kernel
theorem dX7_write_58 : decode cX7_write 58 = .ok (.aload_n 0, 1) := by decide +kernel
theorem dX7_write_59 : decode cX7_write 59 = .ok (.getfield 31, 3) := by decide +kernel
theorem dX7_write_62 : decode cX7_write 62 = .ok (.bipush 40, 2) := by decide +kernel
theorem dX7_write_64 : decode cX7_write 64 = .ok (.iload_n 1, 1) := by decide +kernel
theorem dX7_write_65 : decode cX7_write 65 = .ok (.imul, 1) := by decide +kernel
theorem dX7_write_66 : decode cX7_write 66 = .ok (.iload_n 2, 1) := by decide +kernel
theorem dX7_write_67 : decode cX7_write 67 = .ok (.iadd, 1) := by decide +kernel
theorem dX7_write_68 : decode cX7_write 68 = .ok (.laload, 1) := by decide +kernel
theorem dX7_write_69 : decode cX7_write 69 = .ok (.lstore 5, 2) := by decide +kernel
theorem dX7_write_71 : decode cX7_write 71 = .ok (.aload_n 0, 1) := by decide +kernel
theorem dX7_write_72 : decode cX7_write 72 = .ok (.getfield 31, 3) := by decide +kernel
theorem dX7_write_75 : decode cX7_write 75 = .ok (.bipush 40, 2) := by decide +kernel
theorem dX7_write_77 : decode cX7_write 77 = .ok (.iload_n 1, 1) := by decide +kernel
theorem dX7_write_78 : decode cX7_write 78 = .ok (.imul, 1) := by decide +kernel
theorem dX7_write_79 : decode cX7_write 79 = .ok (.iload_n 2, 1) := by decide +kernel
theorem dX7_write_80 : decode cX7_write 80 = .ok (.iadd, 1) := by decide +kernel
theorem dX7_write_81 : decode cX7_write 81 = .ok (.aload_n 0, 1) := by decide +kernel
theorem dX7_write_82 : decode cX7_write 82 = .ok (.getfield 25, 3) := by decide +kernel
theorem dX7_write_85 : decode cX7_write 85 = .ok (.iload_n 1, 1) := by decide +kernel
theorem dX7_write_86 : decode cX7_write 86 = .ok (.iaload, 1) := by decide +kernel
theorem dX7_write_87 : decode cX7_write 87 = .ok (.lload_n 3, 1) := by decide +kernel
theorem dX7_write_88 : decode cX7_write 88 = .ok (.invokestatic 250, 3) := by decide +kernel
theorem dX7_write_91 : decode cX7_write 91 = .ok (.lastore, 1) := by decide +kernel
theorem dX7_write_92 : decode cX7_write 92 = .ok (.lload 5, 2) := by decide +kernel
theorem dX7_write_94 : decode cX7_write 94 = .ok (.lreturn, 1) := by decide +kernel
theorem dX7_copy_0 : decode cX7_copy 0 = .ok (.iload_n 1, 1) := by decide +kernel
theorem dX7_copy_1 : decode cX7_copy 1 = .ok (.invokestatic 246, 3) := by decide +kernel
theorem dX7_copy_4 : decode cX7_copy 4 = .ok (.ifCond .eq 10, 3) := by decide +kernel
theorem dX7_copy_7 : decode cX7_copy 7 = .ok (.iload_n 3, 1) := by decide +kernel
theorem dX7_copy_8 : decode cX7_copy 8 = .ok (.invokestatic 246, 3) := by decide +kernel
theorem dX7_copy_11 : decode cX7_copy 11 = .ok (.ifCond .ne 10, 3) := by decide +kernel
theorem dX7_copy_14 : decode cX7_copy 14 = .ok (.aload_n 0, 1) := by decide +kernel
theorem dX7_copy_15 : decode cX7_copy 15 = .ok (.ldc 54, 2) := by decide +kernel
theorem dX7_copy_17 : decode cX7_copy 17 = .ok (.invokevirtual 75, 3) := by decide +kernel
theorem dX7_copy_20 : decode cX7_copy 20 = .ok (.ireturn, 1) := by decide +kernel
theorem dX7_copy_21 : decode cX7_copy 21 = .ok (.aload_n 0, 1) := by decide +kernel
theorem dX7_copy_22 : decode cX7_copy 22 = .ok (.getfield 25, 3) := by decide +kernel
theorem dX7_copy_25 : decode cX7_copy 25 = .ok (.iload_n 1, 1) := by decide +kernel
theorem dX7_copy_26 : decode cX7_copy 26 = .ok (.iaload, 1) := by decide +kernel
theorem dX7_copy_27 : decode cX7_copy 27 = .ok (.ifCond .lt 12, 3) := by decide +kernel
theorem dX7_copy_30 : decode cX7_copy 30 = .ok (.aload_n 0, 1) := by decide +kernel
theorem dX7_copy_31 : decode cX7_copy 31 = .ok (.getfield 25, 3) := by decide +kernel
theorem dX7_copy_34 : decode cX7_copy 34 = .ok (.iload_n 3, 1) := by decide +kernel
theorem dX7_copy_35 : decode cX7_copy 35 = .ok (.iaload, 1) := by decide +kernel
theorem dX7_copy_36 : decode cX7_copy 36 = .ok (.ifCond .ge 10, 3) := by decide +kernel
theorem dX7_copy_39 : decode cX7_copy 39 = .ok (.aload_n 0, 1) := by decide +kernel
theorem dX7_copy_40 : decode cX7_copy 40 = .ok (.ldc 249, 2) := by decide +kernel
theorem dX7_copy_42 : decode cX7_copy 42 = .ok (.invokevirtual 75, 3) := by decide +kernel
theorem dX7_copy_45 : decode cX7_copy 45 = .ok (.ireturn, 1) := by decide +kernel
theorem dX7_copy_46 : decode cX7_copy 46 = .ok (.aload_n 0, 1) := by decide +kernel
theorem dX7_copy_47 : decode cX7_copy 47 = .ok (.getfield 25, 3) := by decide +kernel
theorem dX7_copy_50 : decode cX7_copy 50 = .ok (.iload_n 1, 1) := by decide +kernel
theorem dX7_copy_51 : decode cX7_copy 51 = .ok (.iaload, 1) := by decide +kernel
theorem dX7_copy_52 : decode cX7_copy 52 = .ok (.aload_n 0, 1) := by decide +kernel
theorem dX7_copy_53 : decode cX7_copy 53 = .ok (.getfield 25, 3) := by decide +kernel
theorem dX7_copy_56 : decode cX7_copy 56 = .ok (.iload_n 3, 1) := by decide +kernel
theorem dX7_copy_57 : decode cX7_copy 57 = .ok (.iaload, 1) := by decide +kernel
theorem dX7_copy_58 : decode cX7_copy 58 = .ok (.if_icmp .eq 10, 3) := by decide +kernel
theorem dX7_copy_61 : decode cX7_copy 61 = .ok (.aload_n 0, 1) := by decide +kernel
theorem dX7_copy_62 : decode cX7_copy 62 = .ok (.ldc 112, 2) := by decide +kernel
theorem dX7_copy_64 : decode cX7_copy 64 = .ok (.invokevirtual 75, 3) := by decide +kernel
theorem dX7_copy_67 : decode cX7_copy 67 = .ok (.ireturn, 1) := by decide +kernel
theorem dX7_copy_68 : decode cX7_copy 68 = .ok (.iload_n 2, 1) := by decide +kernel
theorem dX7_copy_69 : decode cX7_copy 69 = .ok (.ifCond .lt 40, 3) := by decide +kernel
theorem dX7_copy_72 : decode cX7_copy 72 = .ok (.iload 4, 2) := by decide +kernel
theorem dX7_copy_74 : decode cX7_copy 74 = .ok (.ifCond .lt 35, 3) := by decide +kernel
theorem dX7_copy_77 : decode cX7_copy 77 = .ok (.iload 5, 2) := by decide +kernel
theorem dX7_copy_79 : decode cX7_copy 79 = .ok (.ifCond .lt 30, 3) := by decide +kernel
theorem dX7_copy_82 : decode cX7_copy 82 = .ok (.iload 5, 2) := by decide +kernel
theorem dX7_copy_84 : decode cX7_copy 84 = .ok (.aload_n 0, 1) := by decide +kernel
theorem dX7_copy_85 : decode cX7_copy 85 = .ok (.getfield 28, 3) := by decide +kernel
theorem dX7_copy_88 : decode cX7_copy 88 = .ok (.iload_n 1, 1) := by decide +kernel
theorem dX7_copy_89 : decode cX7_copy 89 = .ok (.iaload, 1) := by decide +kernel
theorem dX7_copy_90 : decode cX7_copy 90 = .ok (.iload_n 2, 1) := by decide +kernel
theorem dX7_copy_91 : decode cX7_copy 91 = .ok (.isub, 1) := by decide +kernel
theorem dX7_copy_92 : decode cX7_copy 92 = .ok (.if_icmp .gt 17, 3) := by decide +kernel
theorem dX7_copy_95 : decode cX7_copy 95 = .ok (.iload 5, 2) := by decide +kernel
theorem dX7_copy_97 : decode cX7_copy 97 = .ok (.aload_n 0, 1) := by decide +kernel
theorem dX7_copy_98 : decode cX7_copy 98 = .ok (.getfield 28, 3) := by decide +kernel
theorem dX7_copy_101 : decode cX7_copy 101 = .ok (.iload_n 3, 1) := by decide +kernel
theorem dX7_copy_102 : decode cX7_copy 102 = .ok (.iaload, 1) := by decide +kernel
theorem dX7_copy_103 : decode cX7_copy 103 = .ok (.iload 4, 2) := by decide +kernel
theorem dX7_copy_105 : decode cX7_copy 105 = .ok (.isub, 1) := by decide +kernel
theorem dX7_copy_106 : decode cX7_copy 106 = .ok (.if_icmp .le 10, 3) := by decide +kernel
theorem dX7_copy_109 : decode cX7_copy 109 = .ok (.aload_n 0, 1) := by decide +kernel
theorem dX7_copy_110 : decode cX7_copy 110 = .ok (.ldc 54, 2) := by decide +kernel
theorem dX7_copy_112 : decode cX7_copy 112 = .ok (.invokevirtual 75, 3) := by decide +kernel
theorem dX7_copy_115 : decode cX7_copy 115 = .ok (.ireturn, 1) := by decide +kernel
theorem dX7_copy_116 : decode cX7_copy 116 = .ok (.bipush 40, 2) := by decide +kernel
theorem dX7_copy_118 : decode cX7_copy 118 = .ok (.iload_n 1, 1) := by decide +kernel
theorem dX7_copy_119 : decode cX7_copy 119 = .ok (.imul, 1) := by decide +kernel
theorem dX7_copy_120 : decode cX7_copy 120 = .ok (.iload_n 2, 1) := by decide +kernel
theorem dX7_copy_121 : decode cX7_copy 121 = .ok (.iadd, 1) := by decide +kernel
theorem dX7_copy_122 : decode cX7_copy 122 = .ok (.istore 6, 2) := by decide +kernel
theorem dX7_copy_124 : decode cX7_copy 124 = .ok (.bipush 40, 2) := by decide +kernel
theorem dX7_copy_126 : decode cX7_copy 126 = .ok (.iload_n 3, 1) := by decide +kernel
theorem dX7_copy_127 : decode cX7_copy 127 = .ok (.imul, 1) := by decide +kernel
theorem dX7_copy_128 : decode cX7_copy 128 = .ok (.iload 4, 2) := by decide +kernel
theorem dX7_copy_130 : decode cX7_copy 130 = .ok (.iadd, 1) := by decide +kernel
theorem dX7_copy_131 : decode cX7_copy 131 = .ok (.istore 7, 2) := by decide +kernel
theorem dX7_copy_133 : decode cX7_copy 133 = .ok (.iconst 0, 1) := by decide +kernel
theorem dX7_copy_134 : decode cX7_copy 134 = .ok (.istore 8, 2) := by decide +kernel
theorem dX7_copy_136 : decode cX7_copy 136 = .ok (.iload 8, 2) := by decide +kernel
theorem dX7_copy_138 : decode cX7_copy 138 = .ok (.iload 5, 2) := by decide +kernel
theorem dX7_copy_140 : decode cX7_copy 140 = .ok (.if_icmp .ge 50, 3) := by decide +kernel
theorem dX7_copy_143 : decode cX7_copy 143 = .ok (.iload 6, 2) := by decide +kernel
theorem dX7_copy_145 : decode cX7_copy 145 = .ok (.iload 7, 2) := by decide +kernel
theorem dX7_copy_147 : decode cX7_copy 147 = .ok (.if_icmp .ge 13, 3) := by decide +kernel
theorem dX7_copy_150 : decode cX7_copy 150 = .ok (.iload 5, 2) := by decide +kernel
theorem dX7_copy_152 : decode cX7_copy 152 = .ok (.iconst 1, 1) := by decide +kernel
theorem dX7_copy_153 : decode cX7_copy 153 = .ok (.isub, 1) := by decide +kernel
theorem dX7_copy_154 : decode cX7_copy 154 = .ok (.iload 8, 2) := by decide +kernel
theorem dX7_copy_156 : decode cX7_copy 156 = .ok (.isub, 1) := by decide +kernel
theorem dX7_copy_157 : decode cX7_copy 157 = .ok (.goto 5, 3) := by decide +kernel
theorem dX7_copy_160 : decode cX7_copy 160 = .ok (.iload 8, 2) := by decide +kernel
theorem dX7_copy_162 : decode cX7_copy 162 = .ok (.istore 9, 2) := by decide +kernel
theorem dX7_copy_164 : decode cX7_copy 164 = .ok (.aload_n 0, 1) := by decide +kernel
theorem dX7_copy_165 : decode cX7_copy 165 = .ok (.getfield 31, 3) := by decide +kernel
theorem dX7_copy_168 : decode cX7_copy 168 = .ok (.iload 7, 2) := by decide +kernel
theorem dX7_copy_170 : decode cX7_copy 170 = .ok (.iload 9, 2) := by decide +kernel
theorem dX7_copy_172 : decode cX7_copy 172 = .ok (.iadd, 1) := by decide +kernel
theorem dX7_copy_173 : decode cX7_copy 173 = .ok (.aload_n 0, 1) := by decide +kernel
theorem dX7_copy_174 : decode cX7_copy 174 = .ok (.getfield 31, 3) := by decide +kernel
theorem dX7_copy_177 : decode cX7_copy 177 = .ok (.iload 6, 2) := by decide +kernel
theorem dX7_copy_179 : decode cX7_copy 179 = .ok (.iload 9, 2) := by decide +kernel
theorem dX7_copy_181 : decode cX7_copy 181 = .ok (.iadd, 1) := by decide +kernel
theorem dX7_copy_182 : decode cX7_copy 182 = .ok (.laload, 1) := by decide +kernel
theorem dX7_copy_183 : decode cX7_copy 183 = .ok (.lastore, 1) := by decide +kernel
theorem dX7_copy_184 : decode cX7_copy 184 = .ok (.iinc 8 1, 3) := by decide +kernel
theorem dX7_copy_187 : decode cX7_copy 187 = .ok (.goto (-51), 3) := by decide +kernel
theorem dX7_copy_190 : decode cX7_copy 190 = .ok (.iload 5, 2) := by decide +kernel
theorem dX7_copy_192 : decode cX7_copy 192 = .ok (.ireturn, 1) := by decide +kernel
theorem dX7_lays_0 : decode cX7_lays 0 = .ok (.iload_n 1, 1) := by decide +kernel
theorem dX7_lays_1 : decode cX7_lays 1 = .ok (.invokestatic 246, 3) := by decide +kernel
theorem dX7_lays_4 : decode cX7_lays 4 = .ok (.ifCond .ne 10, 3) := by decide +kernel
theorem dX7_lays_7 : decode cX7_lays 7 = .ok (.aload_n 0, 1) := by decide +kernel
theorem dX7_lays_8 : decode cX7_lays 8 = .ok (.ldc 54, 2) := by decide +kernel
theorem dX7_lays_10 : decode cX7_lays 10 = .ok (.invokevirtual 75, 3) := by decide +kernel
theorem dX7_lays_13 : decode cX7_lays 13 = .ok (.ireturn, 1) := by decide +kernel
theorem dX7_lays_14 : decode cX7_lays 14 = .ok (.aload_n 0, 1) := by decide +kernel
theorem dX7_lays_15 : decode cX7_lays 15 = .ok (.getfield 25, 3) := by decide +kernel
theorem dX7_lays_18 : decode cX7_lays 18 = .ok (.iload_n 1, 1) := by decide +kernel
theorem dX7_lays_19 : decode cX7_lays 19 = .ok (.iaload, 1) := by decide +kernel
theorem dX7_lays_20 : decode cX7_lays 20 = .ok (.ifCond .ge 10, 3) := by decide +kernel
theorem dX7_lays_23 : decode cX7_lays 23 = .ok (.aload_n 0, 1) := by decide +kernel
theorem dX7_lays_24 : decode cX7_lays 24 = .ok (.ldc 249, 2) := by decide +kernel
theorem dX7_lays_26 : decode cX7_lays 26 = .ok (.invokevirtual 75, 3) := by decide +kernel
theorem dX7_lays_29 : decode cX7_lays 29 = .ok (.ireturn, 1) := by decide +kernel
theorem dX7_lays_30 : decode cX7_lays 30 = .ok (.aload_n 0, 1) := by decide +kernel
theorem dX7_lays_31 : decode cX7_lays 31 = .ok (.iload_n 2, 1) := by decide +kernel
theorem dX7_lays_32 : decode cX7_lays 32 = .ok (.i2l, 1) := by decide +kernel
theorem dX7_lays_33 : decode cX7_lays 33 = .ok (.invokevirtual 160, 3) := by decide +kernel
theorem dX7_lays_36 : decode cX7_lays 36 = .ok (.ifCond .ne 10, 3) := by decide +kernel
theorem dX7_lays_39 : decode cX7_lays 39 = .ok (.aload_n 0, 1) := by decide +kernel
theorem dX7_lays_40 : decode cX7_lays 40 = .ok (.ldc 54, 2) := by decide +kernel
theorem dX7_lays_42 : decode cX7_lays 42 = .ok (.invokevirtual 75, 3) := by decide +kernel
theorem dX7_lays_45 : decode cX7_lays 45 = .ok (.ireturn, 1) := by decide +kernel
theorem dX7_lays_46 : decode cX7_lays 46 = .ok (.iconst 0, 1) := by decide +kernel
theorem dX7_lays_47 : decode cX7_lays 47 = .ok (.istore_n 3, 1) := by decide +kernel
theorem dX7_lays_48 : decode cX7_lays 48 = .ok (.iconst 0, 1) := by decide +kernel
theorem dX7_lays_49 : decode cX7_lays 49 = .ok (.istore 4, 2) := by decide +kernel
theorem dX7_lays_51 : decode cX7_lays 51 = .ok (.iload 4, 2) := by decide +kernel
theorem dX7_lays_53 : decode cX7_lays 53 = .ok (.aload_n 0, 1) := by decide +kernel
theorem dX7_lays_54 : decode cX7_lays 54 = .ok (.getfield 28, 3) := by decide +kernel
theorem dX7_lays_57 : decode cX7_lays 57 = .ok (.iload_n 1, 1) := by decide +kernel
theorem dX7_lays_58 : decode cX7_lays 58 = .ok (.iaload, 1) := by decide +kernel
theorem dX7_lays_59 : decode cX7_lays 59 = .ok (.if_icmp .ge 64, 3) := by decide +kernel
theorem dX7_lays_62 : decode cX7_lays 62 = .ok (.iload 4, 2) := by decide +kernel
theorem dX7_lays_64 : decode cX7_lays 64 = .ok (.bipush 12, 2) := by decide +kernel
theorem dX7_lays_66 : decode cX7_lays 66 = .ok (.if_icmp .ge 57, 3) := by decide +kernel
theorem dX7_lays_69 : decode cX7_lays 69 = .ok (.aload_n 0, 1) := by decide +kernel
theorem dX7_lays_70 : decode cX7_lays 70 = .ok (.getfield 31, 3) := by decide +kernel
theorem dX7_lays_73 : decode cX7_lays 73 = .ok (.bipush 40, 2) := by decide +kernel
theorem dX7_lays_75 : decode cX7_lays 75 = .ok (.iload_n 1, 1) := by decide +kernel
theorem dX7_lays_76 : decode cX7_lays 76 = .ok (.imul, 1) := by decide +kernel
theorem dX7_lays_77 : decode cX7_lays 77 = .ok (.iload 4, 2) := by decide +kernel
theorem dX7_lays_79 : decode cX7_lays 79 = .ok (.iadd, 1) := by decide +kernel
theorem dX7_lays_80 : decode cX7_lays 80 = .ok (.laload, 1) := by decide +kernel
theorem dX7_lays_81 : decode cX7_lays 81 = .ok (.lstore 5, 2) := by decide +kernel
theorem dX7_lays_83 : decode cX7_lays 83 = .ok (.lload 5, 2) := by decide +kernel
theorem dX7_lays_85 : decode cX7_lays 85 = .ok (.lconst 0, 1) := by decide +kernel
theorem dX7_lays_86 : decode cX7_lays 86 = .ok (.ldc2_w 71, 3) := by decide +kernel
theorem dX7_lays_89 : decode cX7_lays 89 = .ok (.invokestatic 65, 3) := by decide +kernel
theorem dX7_lays_92 : decode cX7_lays 92 = .ok (.ifCond .eq 25, 3) := by decide +kernel
theorem dX7_lays_95 : decode cX7_lays 95 = .ok (.aload_n 0, 1) := by decide +kernel
theorem dX7_lays_96 : decode cX7_lays 96 = .ok (.getfield 7, 3) := by decide +kernel
theorem dX7_lays_99 : decode cX7_lays 99 = .ok (.sipush 138, 3) := by decide +kernel
theorem dX7_lays_102 : decode cX7_lays 102 = .ok (.bipush 13, 2) := by decide +kernel
theorem dX7_lays_104 : decode cX7_lays 104 = .ok (.iload_n 2, 1) := by decide +kernel
theorem dX7_lays_105 : decode cX7_lays 105 = .ok (.imul, 1) := by decide +kernel
theorem dX7_lays_106 : decode cX7_lays 106 = .ok (.iadd, 1) := by decide +kernel
theorem dX7_lays_107 : decode cX7_lays 107 = .ok (.iload 4, 2) := by decide +kernel
theorem dX7_lays_109 : decode cX7_lays 109 = .ok (.iadd, 1) := by decide +kernel
theorem dX7_lays_110 : decode cX7_lays 110 = .ok (.lload 5, 2) := by decide +kernel
theorem dX7_lays_112 : decode cX7_lays 112 = .ok (.l2i, 1) := by decide +kernel
theorem dX7_lays_113 : decode cX7_lays 113 = .ok (.iastore, 1) := by decide +kernel
theorem dX7_lays_114 : decode cX7_lays 114 = .ok (.iinc 3 1, 3) := by decide +kernel
theorem dX7_lays_117 : decode cX7_lays 117 = .ok (.iinc 4 1, 3) := by decide +kernel
theorem dX7_lays_120 : decode cX7_lays 120 = .ok (.goto (-69), 3) := by decide +kernel
theorem dX7_lays_123 : decode cX7_lays 123 = .ok (.iload_n 3, 1) := by decide +kernel
theorem dX7_lays_124 : decode cX7_lays 124 = .ok (.ireturn, 1) := by decide +kernel
theorem dX7_costs_0 : decode cX7_costs 0 = .ok (.iload_n 1, 1) := by decide +kernel
theorem dX7_costs_1 : decode cX7_costs 1 = .ok (.invokestatic 246, 3) := by decide +kernel
theorem dX7_costs_4 : decode cX7_costs 4 = .ok (.ifCond .ne 10, 3) := by decide +kernel
theorem dX7_costs_7 : decode cX7_costs 7 = .ok (.aload_n 0, 1) := by decide +kernel
theorem dX7_costs_8 : decode cX7_costs 8 = .ok (.ldc 54, 2) := by decide +kernel
theorem dX7_costs_10 : decode cX7_costs 10 = .ok (.invokevirtual 75, 3) := by decide +kernel
theorem dX7_costs_13 : decode cX7_costs 13 = .ok (.ireturn, 1) := by decide +kernel
theorem dX7_costs_14 : decode cX7_costs 14 = .ok (.aload_n 0, 1) := by decide +kernel
theorem dX7_costs_15 : decode cX7_costs 15 = .ok (.getfield 25, 3) := by decide +kernel
theorem dX7_costs_18 : decode cX7_costs 18 = .ok (.iload_n 1, 1) := by decide +kernel
theorem dX7_costs_19 : decode cX7_costs 19 = .ok (.iaload, 1) := by decide +kernel
theorem dX7_costs_20 : decode cX7_costs 20 = .ok (.ifCond .ge 10, 3) := by decide +kernel
theorem dX7_costs_23 : decode cX7_costs 23 = .ok (.aload_n 0, 1) := by decide +kernel
theorem dX7_costs_24 : decode cX7_costs 24 = .ok (.ldc 249, 2) := by decide +kernel
theorem dX7_costs_26 : decode cX7_costs 26 = .ok (.invokevirtual 75, 3) := by decide +kernel
theorem dX7_costs_29 : decode cX7_costs 29 = .ok (.ireturn, 1) := by decide +kernel
theorem dX7_costs_30 : decode cX7_costs 30 = .ok (.iload_n 2, 1) := by decide +kernel
theorem dX7_costs_31 : decode cX7_costs 31 = .ok (.i2l, 1) := by decide +kernel
theorem dX7_costs_32 : decode cX7_costs 32 = .ok (.lconst 0, 1) := by decide +kernel
theorem dX7_costs_33 : decode cX7_costs 33 = .ok (.ldc2_w 164, 3) := by decide +kernel
theorem dX7_costs_36 : decode cX7_costs 36 = .ok (.invokestatic 65, 3) := by decide +kernel
theorem dX7_costs_39 : decode cX7_costs 39 = .ok (.ifCond .ne 10, 3) := by decide +kernel
theorem dX7_costs_42 : decode cX7_costs 42 = .ok (.aload_n 0, 1) := by decide +kernel
theorem dX7_costs_43 : decode cX7_costs 43 = .ok (.ldc 54, 2) := by decide +kernel
theorem dX7_costs_45 : decode cX7_costs 45 = .ok (.invokevirtual 75, 3) := by decide +kernel
theorem dX7_costs_48 : decode cX7_costs 48 = .ok (.ireturn, 1) := by decide +kernel
theorem dX7_costs_49 : decode cX7_costs 49 = .ok (.iconst 0, 1) := by decide +kernel
theorem dX7_costs_50 : decode cX7_costs 50 = .ok (.istore_n 3, 1) := by decide +kernel
theorem dX7_costs_51 : decode cX7_costs 51 = .ok (.iconst (-1), 1) := by decide +kernel
theorem dX7_costs_52 : decode cX7_costs 52 = .ok (.istore 4, 2) := by decide +kernel
theorem dX7_costs_54 : decode cX7_costs 54 = .ok (.iconst 0, 1) := by decide +kernel
theorem dX7_costs_55 : decode cX7_costs 55 = .ok (.istore 5, 2) := by decide +kernel
theorem dX7_costs_57 : decode cX7_costs 57 = .ok (.iconst 0, 1) := by decide +kernel
theorem dX7_costs_58 : decode cX7_costs 58 = .ok (.istore 6, 2) := by decide +kernel
theorem dX7_costs_60 : decode cX7_costs 60 = .ok (.iload 6, 2) := by decide +kernel
theorem dX7_costs_62 : decode cX7_costs 62 = .ok (.aload_n 0, 1) := by decide +kernel
theorem dX7_costs_63 : decode cX7_costs 63 = .ok (.getfield 28, 3) := by decide +kernel
theorem dX7_costs_66 : decode cX7_costs 66 = .ok (.iload_n 1, 1) := by decide +kernel
theorem dX7_costs_67 : decode cX7_costs 67 = .ok (.iaload, 1) := by decide +kernel
theorem dX7_costs_68 : decode cX7_costs 68 = .ok (.if_icmp .ge 117, 3) := by decide +kernel
theorem dX7_costs_71 : decode cX7_costs 71 = .ok (.aload_n 0, 1) := by decide +kernel
theorem dX7_costs_72 : decode cX7_costs 72 = .ok (.getfield 31, 3) := by decide +kernel
theorem dX7_costs_75 : decode cX7_costs 75 = .ok (.bipush 40, 2) := by decide +kernel
theorem dX7_costs_77 : decode cX7_costs 77 = .ok (.iload_n 1, 1) := by decide +kernel
theorem dX7_costs_78 : decode cX7_costs 78 = .ok (.imul, 1) := by decide +kernel
theorem dX7_costs_79 : decode cX7_costs 79 = .ok (.iload 6, 2) := by decide +kernel
theorem dX7_costs_81 : decode cX7_costs 81 = .ok (.iadd, 1) := by decide +kernel
theorem dX7_costs_82 : decode cX7_costs 82 = .ok (.laload, 1) := by decide +kernel
theorem dX7_costs_83 : decode cX7_costs 83 = .ok (.lstore 7, 2) := by decide +kernel
theorem dX7_costs_85 : decode cX7_costs 85 = .ok (.aload_n 0, 1) := by decide +kernel
theorem dX7_costs_86 : decode cX7_costs 86 = .ok (.lload 7, 2) := by decide +kernel
theorem dX7_costs_88 : decode cX7_costs 88 = .ok (.invokevirtual 160, 3) := by decide +kernel
theorem dX7_costs_91 : decode cX7_costs 91 = .ok (.ifCond .ne 10, 3) := by decide +kernel
theorem dX7_costs_94 : decode cX7_costs 94 = .ok (.aload_n 0, 1) := by decide +kernel
theorem dX7_costs_95 : decode cX7_costs 95 = .ok (.ldc 112, 2) := by decide +kernel
theorem dX7_costs_97 : decode cX7_costs 97 = .ok (.invokevirtual 75, 3) := by decide +kernel
theorem dX7_costs_100 : decode cX7_costs 100 = .ok (.ireturn, 1) := by decide +kernel
theorem dX7_costs_101 : decode cX7_costs 101 = .ok (.lload 7, 2) := by decide +kernel
theorem dX7_costs_103 : decode cX7_costs 103 = .ok (.l2i, 1) := by decide +kernel
theorem dX7_costs_104 : decode cX7_costs 104 = .ok (.istore 9, 2) := by decide +kernel
theorem dX7_costs_106 : decode cX7_costs 106 = .ok (.iload_n 3, 1) := by decide +kernel
theorem dX7_costs_107 : decode cX7_costs 107 = .ok (.iload 4, 2) := by decide +kernel
theorem dX7_costs_109 : decode cX7_costs 109 = .ok (.ifCond .lt 21, 3) := by decide +kernel
theorem dX7_costs_112 : decode cX7_costs 112 = .ok (.iload 9, 2) := by decide +kernel
theorem dX7_costs_114 : decode cX7_costs 114 = .ok (.iload 4, 2) := by decide +kernel
theorem dX7_costs_116 : decode cX7_costs 116 = .ok (.if_icmp .eq 14, 3) := by decide +kernel
theorem dX7_costs_119 : decode cX7_costs 119 = .ok (.aload_n 0, 1) := by decide +kernel
theorem dX7_costs_120 : decode cX7_costs 120 = .ok (.iload 4, 2) := by decide +kernel
theorem dX7_costs_122 : decode cX7_costs 122 = .ok (.iload 9, 2) := by decide +kernel
theorem dX7_costs_124 : decode cX7_costs 124 = .ok (.invokevirtual 172, 3) := by decide +kernel
theorem dX7_costs_127 : decode cX7_costs 127 = .ok (.goto 4, 3) := by decide +kernel
theorem dX7_costs_130 : decode cX7_costs 130 = .ok (.iconst 0, 1) := by decide +kernel
theorem dX7_costs_131 : decode cX7_costs 131 = .ok (.iadd, 1) := by decide +kernel
theorem dX7_costs_132 : decode cX7_costs 132 = .ok (.istore_n 3, 1) := by decide +kernel
theorem dX7_costs_133 : decode cX7_costs 133 = .ok (.iload 9, 2) := by decide +kernel
theorem dX7_costs_135 : decode cX7_costs 135 = .ok (.iload 4, 2) := by decide +kernel
theorem dX7_costs_137 : decode cX7_costs 137 = .ok (.if_icmp .eq 7, 3) := by decide +kernel
theorem dX7_costs_140 : decode cX7_costs 140 = .ok (.iconst 1, 1) := by decide +kernel
theorem dX7_costs_141 : decode cX7_costs 141 = .ok (.goto 17, 3) := by decide +kernel
theorem dX7_costs_144 : decode cX7_costs 144 = .ok (.iload 5, 2) := by decide +kernel
theorem dX7_costs_146 : decode cX7_costs 146 = .ok (.iconst 3, 1) := by decide +kernel
theorem dX7_costs_147 : decode cX7_costs 147 = .ok (.if_icmp .ge 10, 3) := by decide +kernel
theorem dX7_costs_150 : decode cX7_costs 150 = .ok (.iload 5, 2) := by decide +kernel
theorem dX7_costs_152 : decode cX7_costs 152 = .ok (.iconst 1, 1) := by decide +kernel
theorem dX7_costs_153 : decode cX7_costs 153 = .ok (.iadd, 1) := by decide +kernel
theorem dX7_costs_154 : decode cX7_costs 154 = .ok (.goto 4, 3) := by decide +kernel
theorem dX7_costs_157 : decode cX7_costs 157 = .ok (.iconst 3, 1) := by decide +kernel
theorem dX7_costs_158 : decode cX7_costs 158 = .ok (.istore 5, 2) := by decide +kernel
theorem dX7_costs_160 : decode cX7_costs 160 = .ok (.iload 9, 2) := by decide +kernel
theorem dX7_costs_162 : decode cX7_costs 162 = .ok (.istore 4, 2) := by decide +kernel
theorem dX7_costs_164 : decode cX7_costs 164 = .ok (.iload_n 3, 1) := by decide +kernel
theorem dX7_costs_165 : decode cX7_costs 165 = .ok (.aload_n 0, 1) := by decide +kernel
theorem dX7_costs_166 : decode cX7_costs 166 = .ok (.iload 9, 2) := by decide +kernel
theorem dX7_costs_168 : decode cX7_costs 168 = .ok (.iload_n 2, 1) := by decide +kernel
theorem dX7_costs_169 : decode cX7_costs 169 = .ok (.iload 6, 2) := by decide +kernel
theorem dX7_costs_171 : decode cX7_costs 171 = .ok (.iadd, 1) := by decide +kernel
theorem dX7_costs_172 : decode cX7_costs 172 = .ok (.iload 5, 2) := by decide +kernel
theorem dX7_costs_174 : decode cX7_costs 174 = .ok (.invokevirtual 182, 3) := by decide +kernel
theorem dX7_costs_177 : decode cX7_costs 177 = .ok (.iadd, 1) := by decide +kernel
theorem dX7_costs_178 : decode cX7_costs 178 = .ok (.istore_n 3, 1) := by decide +kernel
theorem dX7_costs_179 : decode cX7_costs 179 = .ok (.iinc 6 1, 3) := by decide +kernel
theorem dX7_costs_182 : decode cX7_costs 182 = .ok (.goto (-122), 3) := by decide +kernel
theorem dX7_costs_185 : decode cX7_costs 185 = .ok (.iload_n 3, 1) := by decide +kernel
theorem dX7_costs_186 : decode cX7_costs 186 = .ok (.ireturn, 1) := by decide +kernel
theorem dX7_read_0 : decode cX7_read 0 = .ok (.iload_n 1, 1) := by decide +kernel
theorem dX7_read_1 : decode cX7_read 1 = .ok (.invokestatic 246, 3) := by decide +kernel
theorem dX7_read_4 : decode cX7_read 4 = .ok (.ifCond .ne 10, 3) := by decide +kernel
theorem dX7_read_7 : decode cX7_read 7 = .ok (.aload_n 0, 1) := by decide +kernel
theorem dX7_read_8 : decode cX7_read 8 = .ok (.ldc 54, 2) := by decide +kernel
theorem dX7_read_10 : decode cX7_read 10 = .ok (.invokevirtual 75, 3) := by decide +kernel
theorem dX7_read_13 : decode cX7_read 13 = .ok (.ireturn, 1) := by decide +kernel
theorem dX7_read_14 : decode cX7_read 14 = .ok (.aload_n 0, 1) := by decide +kernel
theorem dX7_read_15 : decode cX7_read 15 = .ok (.getfield 25, 3) := by decide +kernel
theorem dX7_read_18 : decode cX7_read 18 = .ok (.iload_n 1, 1) := by decide +kernel
theorem dX7_read_19 : decode cX7_read 19 = .ok (.iaload, 1) := by decide +kernel
theorem dX7_read_20 : decode cX7_read 20 = .ok (.ifCond .ge 10, 3) := by decide +kernel
theorem dX7_read_23 : decode cX7_read 23 = .ok (.aload_n 0, 1) := by decide +kernel
theorem dX7_read_24 : decode cX7_read 24 = .ok (.ldc 249, 2) := by decide +kernel
theorem dX7_read_26 : decode cX7_read 26 = .ok (.invokevirtual 75, 3) := by decide +kernel
theorem dX7_read_29 : decode cX7_read 29 = .ok (.ireturn, 1) := by decide +kernel
theorem dX7_read_30 : decode cX7_read 30 = .ok (.iconst 0, 1) := by decide +kernel
theorem dX7_read_31 : decode cX7_read 31 = .ok (.istore_n 2, 1) := by decide +kernel
theorem dX7_read_32 : decode cX7_read 32 = .ok (.iload_n 2, 1) := by decide +kernel
theorem dX7_read_33 : decode cX7_read 33 = .ok (.aload_n 0, 1) := by decide +kernel
theorem dX7_read_34 : decode cX7_read 34 = .ok (.getfield 28, 3) := by decide +kernel
theorem dX7_read_37 : decode cX7_read 37 = .ok (.iload_n 1, 1) := by decide +kernel
theorem dX7_read_38 : decode cX7_read 38 = .ok (.iaload, 1) := by decide +kernel
theorem dX7_read_39 : decode cX7_read 39 = .ok (.if_icmp .ge 40, 3) := by decide +kernel
theorem dX7_read_42 : decode cX7_read 42 = .ok (.iload_n 2, 1) := by decide +kernel
theorem dX7_read_43 : decode cX7_read 43 = .ok (.bipush 8, 2) := by decide +kernel
theorem dX7_read_45 : decode cX7_read 45 = .ok (.if_icmp .ge 24, 3) := by decide +kernel
theorem dX7_read_48 : decode cX7_read 48 = .ok (.aload_n 0, 1) := by decide +kernel
theorem dX7_read_49 : decode cX7_read 49 = .ok (.getfield 31, 3) := by decide +kernel
theorem dX7_read_52 : decode cX7_read 52 = .ok (.bipush 40, 2) := by decide +kernel
theorem dX7_read_54 : decode cX7_read 54 = .ok (.iload_n 1, 1) := by decide +kernel
theorem dX7_read_55 : decode cX7_read 55 = .ok (.imul, 1) := by decide +kernel
theorem dX7_read_56 : decode cX7_read 56 = .ok (.iload_n 2, 1) := by decide +kernel
theorem dX7_read_57 : decode cX7_read 57 = .ok (.iadd, 1) := by decide +kernel
theorem dX7_read_58 : decode cX7_read 58 = .ok (.laload, 1) := by decide +kernel
theorem dX7_read_59 : decode cX7_read 59 = .ok (.aload_n 0, 1) := by decide +kernel
theorem dX7_read_60 : decode cX7_read 60 = .ok (.iload_n 2, 1) := by decide +kernel
theorem dX7_read_61 : decode cX7_read 61 = .ok (.invokevirtual 127, 3) := by decide +kernel
theorem dX7_read_64 : decode cX7_read 64 = .ok (.i2l, 1) := by decide +kernel
theorem dX7_read_65 : decode cX7_read 65 = .ok (.lcmp, 1) := by decide +kernel
theorem dX7_read_66 : decode cX7_read 66 = .ok (.ifCond .eq 7, 3) := by decide +kernel
theorem dX7_read_69 : decode cX7_read 69 = .ok (.iload_n 2, 1) := by decide +kernel
theorem dX7_read_70 : decode cX7_read 70 = .ok (.iconst 1, 1) := by decide +kernel
theorem dX7_read_71 : decode cX7_read 71 = .ok (.iadd, 1) := by decide +kernel
theorem dX7_read_72 : decode cX7_read 72 = .ok (.ireturn, 1) := by decide +kernel
theorem dX7_read_73 : decode cX7_read 73 = .ok (.iinc 2 1, 3) := by decide +kernel
theorem dX7_read_76 : decode cX7_read 76 = .ok (.goto (-44), 3) := by decide +kernel
theorem dX7_read_79 : decode cX7_read 79 = .ok (.iconst 0, 1) := by decide +kernel
theorem dX7_read_80 : decode cX7_read 80 = .ok (.ireturn, 1) := by decide +kernel
theorem dX7_image_0 : decode cX7_image 0 = .ok (.iconst 0, 1) := by decide +kernel
theorem dX7_image_1 : decode cX7_image 1 = .ok (.istore_n 1, 1) := by decide +kernel
theorem dX7_image_2 : decode cX7_image 2 = .ok (.iload_n 1, 1) := by decide +kernel
theorem dX7_image_3 : decode cX7_image 3 = .ok (.sipush 216, 3) := by decide +kernel
theorem dX7_image_6 : decode cX7_image 6 = .ok (.if_icmp .ge 21, 3) := by decide +kernel
theorem dX7_image_9 : decode cX7_image 9 = .ok (.aload_n 0, 1) := by decide +kernel
theorem dX7_image_10 : decode cX7_image 10 = .ok (.getfield 13, 3) := by decide +kernel
theorem dX7_image_13 : decode cX7_image 13 = .ok (.iload_n 1, 1) := by decide +kernel
theorem dX7_image_14 : decode cX7_image 14 = .ok (.aload_n 0, 1) := by decide +kernel
theorem dX7_image_15 : decode cX7_image 15 = .ok (.getfield 7, 3) := by decide +kernel
theorem dX7_image_18 : decode cX7_image 18 = .ok (.iload_n 1, 1) := by decide +kernel
theorem dX7_image_19 : decode cX7_image 19 = .ok (.iaload, 1) := by decide +kernel
theorem dX7_image_20 : decode cX7_image 20 = .ok (.iastore, 1) := by decide +kernel
theorem dX7_image_21 : decode cX7_image 21 = .ok (.iinc 1 1, 3) := by decide +kernel
theorem dX7_image_24 : decode cX7_image 24 = .ok (.goto (-22), 3) := by decide +kernel
theorem dX7_image_27 : decode cX7_image 27 = .ok (.aload_n 0, 1) := by decide +kernel
theorem dX7_image_28 : decode cX7_image 28 = .ok (.iconst 1, 1) := by decide +kernel
theorem dX7_image_29 : decode cX7_image 29 = .ok (.putfield 254, 3) := by decide +kernel
theorem dX7_image_32 : decode cX7_image 32 = .ok (.iconst 1, 1) := by decide +kernel
theorem dX7_image_33 : decode cX7_image 33 = .ok (.ireturn, 1) := by decide +kernel
theorem dX7_undo_0 : decode cX7_undo 0 = .ok (.aload_n 0, 1) := by decide +kernel
theorem dX7_undo_1 : decode cX7_undo 1 = .ok (.getfield 254, 3) := by decide +kernel
theorem dX7_undo_4 : decode cX7_undo 4 = .ok (.ifCond .ne 10, 3) := by decide +kernel
theorem dX7_undo_7 : decode cX7_undo 7 = .ok (.aload_n 0, 1) := by decide +kernel
theorem dX7_undo_8 : decode cX7_undo 8 = .ok (.ldc 138, 2) := by decide +kernel
theorem dX7_undo_10 : decode cX7_undo 10 = .ok (.invokevirtual 75, 3) := by decide +kernel
theorem dX7_undo_13 : decode cX7_undo 13 = .ok (.ireturn, 1) := by decide +kernel
theorem dX7_undo_14 : decode cX7_undo 14 = .ok (.iconst 0, 1) := by decide +kernel
theorem dX7_undo_15 : decode cX7_undo 15 = .ok (.istore_n 1, 1) := by decide +kernel
theorem dX7_undo_16 : decode cX7_undo 16 = .ok (.iload_n 1, 1) := by decide +kernel
theorem dX7_undo_17 : decode cX7_undo 17 = .ok (.sipush 216, 3) := by decide +kernel
theorem dX7_undo_20 : decode cX7_undo 20 = .ok (.if_icmp .ge 21, 3) := by decide +kernel
theorem dX7_undo_23 : decode cX7_undo 23 = .ok (.aload_n 0, 1) := by decide +kernel
theorem dX7_undo_24 : decode cX7_undo 24 = .ok (.getfield 7, 3) := by decide +kernel
theorem dX7_undo_27 : decode cX7_undo 27 = .ok (.iload_n 1, 1) := by decide +kernel
theorem dX7_undo_28 : decode cX7_undo 28 = .ok (.aload_n 0, 1) := by decide +kernel
theorem dX7_undo_29 : decode cX7_undo 29 = .ok (.getfield 13, 3) := by decide +kernel
theorem dX7_undo_32 : decode cX7_undo 32 = .ok (.iload_n 1, 1) := by decide +kernel
theorem dX7_undo_33 : decode cX7_undo 33 = .ok (.iaload, 1) := by decide +kernel
theorem dX7_undo_34 : decode cX7_undo 34 = .ok (.iastore, 1) := by decide +kernel
theorem dX7_undo_35 : decode cX7_undo 35 = .ok (.iinc 1 1, 3) := by decide +kernel
theorem dX7_undo_38 : decode cX7_undo 38 = .ok (.goto (-22), 3) := by decide +kernel
theorem dX7_undo_41 : decode cX7_undo 41 = .ok (.aload_n 0, 1) := by decide +kernel
theorem dX7_undo_42 : decode cX7_undo 42 = .ok (.getfield 7, 3) := by decide +kernel
theorem dX7_undo_45 : decode cX7_undo 45 = .ok (.iconst 0, 1) := by decide +kernel
theorem dX7_undo_46 : decode cX7_undo 46 = .ok (.iaload, 1) := by decide +kernel
theorem dX7_undo_47 : decode cX7_undo 47 = .ok (.ireturn, 1) := by decide +kernel
theorem dX7_tear_0 : decode cX7_tear 0 = .ok (.aload_n 0, 1) := by decide +kernel
theorem dX7_tear_1 : decode cX7_tear 1 = .ok (.getfield 254, 3) := by decide +kernel
theorem dX7_tear_4 : decode cX7_tear 4 = .ok (.istore_n 1, 1) := by decide +kernel
theorem dX7_tear_5 : decode cX7_tear 5 = .ok (.aload_n 0, 1) := by decide +kernel
theorem dX7_tear_6 : decode cX7_tear 6 = .ok (.iconst 0, 1) := by decide +kernel
theorem dX7_tear_7 : decode cX7_tear 7 = .ok (.putfield 254, 3) := by decide +kernel
theorem dX7_tear_10 : decode cX7_tear 10 = .ok (.iload_n 1, 1) := by decide +kernel
theorem dX7_tear_11 : decode cX7_tear 11 = .ok (.ifCond .eq 7, 3) := by decide +kernel
theorem dX7_tear_14 : decode cX7_tear 14 = .ok (.iconst 1, 1) := by decide +kernel
theorem dX7_tear_15 : decode cX7_tear 15 = .ok (.goto 4, 3) := by decide +kernel
theorem dX7_tear_18 : decode cX7_tear 18 = .ok (.iconst 0, 1) := by decide +kernel
theorem dX7_tear_19 : decode cX7_tear 19 = .ok (.ireturn, 1) := by decide +kernel
theorem dX7_ofThere_0 : decode cX7_ofThere 0 = .ok (.iconst 0, 1) := by decide +kernel
theorem dX7_ofThere_1 : decode cX7_ofThere 1 = .ok (.istore_n 2, 1) := by decide +kernel
theorem dX7_ofThere_2 : decode cX7_ofThere 2 = .ok (.iconst 0, 1) := by decide +kernel
theorem dX7_ofThere_3 : decode cX7_ofThere 3 = .ok (.istore_n 3, 1) := by decide +kernel
theorem dX7_ofThere_4 : decode cX7_ofThere 4 = .ok (.iload_n 3, 1) := by decide +kernel
theorem dX7_ofThere_5 : decode cX7_ofThere 5 = .ok (.aload_n 0, 1) := by decide +kernel
theorem dX7_ofThere_6 : decode cX7_ofThere 6 = .ok (.getfield 7, 3) := by decide +kernel
theorem dX7_ofThere_9 : decode cX7_ofThere 9 = .ok (.iconst 0, 1) := by decide +kernel
theorem dX7_ofThere_10 : decode cX7_ofThere 10 = .ok (.iaload, 1) := by decide +kernel
theorem dX7_ofThere_11 : decode cX7_ofThere 11 = .ok (.if_icmp .ge 38, 3) := by decide +kernel
theorem dX7_ofThere_14 : decode cX7_ofThere 14 = .ok (.iload_n 2, 1) := by decide +kernel
theorem dX7_ofThere_15 : decode cX7_ofThere 15 = .ok (.aload_n 0, 1) := by decide +kernel
theorem dX7_ofThere_16 : decode cX7_ofThere 16 = .ok (.iload_n 3, 1) := by decide +kernel
theorem dX7_ofThere_17 : decode cX7_ofThere 17 = .ok (.invokevirtual 84, 3) := by decide +kernel
theorem dX7_ofThere_20 : decode cX7_ofThere 20 = .ok (.ifCond .ne 7, 3) := by decide +kernel
theorem dX7_ofThere_23 : decode cX7_ofThere 23 = .ok (.iconst 0, 1) := by decide +kernel
theorem dX7_ofThere_24 : decode cX7_ofThere 24 = .ok (.goto 17, 3) := by decide +kernel
theorem dX7_ofThere_27 : decode cX7_ofThere 27 = .ok (.iload_n 1, 1) := by decide +kernel
theorem dX7_ofThere_28 : decode cX7_ofThere 28 = .ok (.ifCond .eq 12, 3) := by decide +kernel
theorem dX7_ofThere_31 : decode cX7_ofThere 31 = .ok (.aload_n 0, 1) := by decide +kernel
theorem dX7_ofThere_32 : decode cX7_ofThere 32 = .ok (.iload_n 3, 1) := by decide +kernel
theorem dX7_ofThere_33 : decode cX7_ofThere 33 = .ok (.iconst 3, 1) := by decide +kernel
theorem dX7_ofThere_34 : decode cX7_ofThere 34 = .ok (.invokevirtual 55, 3) := by decide +kernel
theorem dX7_ofThere_37 : decode cX7_ofThere 37 = .ok (.goto 4, 3) := by decide +kernel
theorem dX7_ofThere_40 : decode cX7_ofThere 40 = .ok (.iconst 1, 1) := by decide +kernel
theorem dX7_ofThere_41 : decode cX7_ofThere 41 = .ok (.iadd, 1) := by decide +kernel
theorem dX7_ofThere_42 : decode cX7_ofThere 42 = .ok (.istore_n 2, 1) := by decide +kernel
theorem dX7_ofThere_43 : decode cX7_ofThere 43 = .ok (.iinc 3 1, 3) := by decide +kernel
theorem dX7_ofThere_46 : decode cX7_ofThere 46 = .ok (.goto (-42), 3) := by decide +kernel
theorem dX7_ofThere_49 : decode cX7_ofThere 49 = .ok (.iload_n 2, 1) := by decide +kernel
theorem dX7_ofThere_50 : decode cX7_ofThere 50 = .ok (.ireturn, 1) := by decide +kernel
theorem dX7_count_0 : decode cX7_count 0 = .ok (.iload_n 1, 1) := by decide +kernel
theorem dX7_count_1 : decode cX7_count 1 = .ok (.tableswitch 89 0 6 #[43, 50, 56, 63, 70, 75, 81], 43) := by decide +kernel
theorem dX7_count_44 : decode cX7_count 44 = .ok (.aload_n 0, 1) := by decide +kernel
theorem dX7_count_45 : decode cX7_count 45 = .ok (.getfield 7, 3) := by decide +kernel
theorem dX7_count_48 : decode cX7_count 48 = .ok (.iconst 0, 1) := by decide +kernel
theorem dX7_count_49 : decode cX7_count 49 = .ok (.iaload, 1) := by decide +kernel
theorem dX7_count_50 : decode cX7_count 50 = .ok (.ireturn, 1) := by decide +kernel
theorem dX7_count_51 : decode cX7_count 51 = .ok (.aload_n 0, 1) := by decide +kernel
theorem dX7_count_52 : decode cX7_count 52 = .ok (.iconst 0, 1) := by decide +kernel
theorem dX7_count_53 : decode cX7_count 53 = .ok (.invokevirtual 257, 3) := by decide +kernel
theorem dX7_count_56 : decode cX7_count 56 = .ok (.ireturn, 1) := by decide +kernel
theorem dX7_count_57 : decode cX7_count 57 = .ok (.aload_n 0, 1) := by decide +kernel
theorem dX7_count_58 : decode cX7_count 58 = .ok (.getfield 7, 3) := by decide +kernel
theorem dX7_count_61 : decode cX7_count 61 = .ok (.iconst 1, 1) := by decide +kernel
theorem dX7_count_62 : decode cX7_count 62 = .ok (.iaload, 1) := by decide +kernel
theorem dX7_count_63 : decode cX7_count 63 = .ok (.ireturn, 1) := by decide +kernel
theorem dX7_count_64 : decode cX7_count 64 = .ok (.aload_n 0, 1) := by decide +kernel
theorem dX7_count_65 : decode cX7_count 65 = .ok (.getfield 7, 3) := by decide +kernel
theorem dX7_count_68 : decode cX7_count 68 = .ok (.iconst 2, 1) := by decide +kernel
theorem dX7_count_69 : decode cX7_count 69 = .ok (.iaload, 1) := by decide +kernel
theorem dX7_count_70 : decode cX7_count 70 = .ok (.ireturn, 1) := by decide +kernel
theorem dX7_count_71 : decode cX7_count 71 = .ok (.aload_n 0, 1) := by decide +kernel
theorem dX7_count_72 : decode cX7_count 72 = .ok (.getfield 192, 3) := by decide +kernel
theorem dX7_count_75 : decode cX7_count 75 = .ok (.ireturn, 1) := by decide +kernel
theorem dX7_count_76 : decode cX7_count 76 = .ok (.aload_n 0, 1) := by decide +kernel
theorem dX7_count_77 : decode cX7_count 77 = .ok (.iconst 1, 1) := by decide +kernel
theorem dX7_count_78 : decode cX7_count 78 = .ok (.invokevirtual 257, 3) := by decide +kernel
theorem dX7_count_81 : decode cX7_count 81 = .ok (.ireturn, 1) := by decide +kernel
theorem dX7_count_82 : decode cX7_count 82 = .ok (.aload_n 0, 1) := by decide +kernel
theorem dX7_count_83 : decode cX7_count 83 = .ok (.getfield 7, 3) := by decide +kernel
theorem dX7_count_86 : decode cX7_count 86 = .ok (.bipush 8, 2) := by decide +kernel
theorem dX7_count_88 : decode cX7_count 88 = .ok (.iaload, 1) := by decide +kernel
theorem dX7_count_89 : decode cX7_count 89 = .ok (.ireturn, 1) := by decide +kernel
theorem dX7_count_90 : decode cX7_count 90 = .ok (.aload_n 0, 1) := by decide +kernel
theorem dX7_count_91 : decode cX7_count 91 = .ok (.ldc 54, 2) := by decide +kernel
theorem dX7_count_93 : decode cX7_count 93 = .ok (.invokevirtual 75, 3) := by decide +kernel
theorem dX7_count_96 : decode cX7_count 96 = .ok (.ireturn, 1) := by decide +kernel
theorem dX7_status_0 : decode cX7_status 0 = .ok (.iload_n 1, 1) := by decide +kernel
theorem dX7_status_1 : decode cX7_status 1 = .ok (.i2l, 1) := by decide +kernel
theorem dX7_status_2 : decode cX7_status 2 = .ok (.ldc2_w 187, 3) := by decide +kernel
theorem dX7_status_5 : decode cX7_status 5 = .ok (.ldc2_w 63, 3) := by decide +kernel
theorem dX7_status_8 : decode cX7_status 8 = .ok (.invokestatic 65, 3) := by decide +kernel
theorem dX7_status_11 : decode cX7_status 11 = .ok (.ifCond .eq 14, 3) := by decide +kernel
theorem dX7_status_14 : decode cX7_status 14 = .ok (.aload_n 0, 1) := by decide +kernel
theorem dX7_status_15 : decode cX7_status 15 = .ok (.getfield 19, 3) := by decide +kernel
theorem dX7_status_18 : decode cX7_status 18 = .ok (.iload_n 1, 1) := by decide +kernel
theorem dX7_status_19 : decode cX7_status 19 = .ok (.iconst 1, 1) := by decide +kernel
theorem dX7_status_20 : decode cX7_status 20 = .ok (.iadd, 1) := by decide +kernel
theorem dX7_status_21 : decode cX7_status 21 = .ok (.iaload, 1) := by decide +kernel
theorem dX7_status_22 : decode cX7_status 22 = .ok (.goto 9, 3) := by decide +kernel
theorem dX7_status_25 : decode cX7_status 25 = .ok (.aload_n 0, 1) := by decide +kernel
theorem dX7_status_26 : decode cX7_status 26 = .ok (.ldc 54, 2) := by decide +kernel
theorem dX7_status_28 : decode cX7_status 28 = .ok (.invokevirtual 75, 3) := by decide +kernel
theorem dX7_status_31 : decode cX7_status 31 = .ok (.ireturn, 1) := by decide +kernel
end
section
theorem dJ6_numberOfTrailingZeros_0f7a4_0 : decode cJ6_numberOfTrailingZeros_0f7a4 0 = .ok (.iload_n 0, 1) := by decide +kernel
theorem dJ6_numberOfTrailingZeros_0f7a4_1 : decode cJ6_numberOfTrailingZeros_0f7a4 1 = .ok (.iconst (-1), 1) := by decide +kernel
theorem dJ6_numberOfTrailingZeros_0f7a4_2 : decode cJ6_numberOfTrailingZeros_0f7a4 2 = .ok (.ixor, 1) := by decide +kernel
theorem dJ6_numberOfTrailingZeros_0f7a4_3 : decode cJ6_numberOfTrailingZeros_0f7a4 3 = .ok (.iload_n 0, 1) := by decide +kernel
theorem dJ6_numberOfTrailingZeros_0f7a4_4 : decode cJ6_numberOfTrailingZeros_0f7a4 4 = .ok (.iconst 1, 1) := by decide +kernel
theorem dJ6_numberOfTrailingZeros_0f7a4_5 : decode cJ6_numberOfTrailingZeros_0f7a4 5 = .ok (.isub, 1) := by decide +kernel
theorem dJ6_numberOfTrailingZeros_0f7a4_6 : decode cJ6_numberOfTrailingZeros_0f7a4 6 = .ok (.iand, 1) := by decide +kernel
theorem dJ6_numberOfTrailingZeros_0f7a4_7 : decode cJ6_numberOfTrailingZeros_0f7a4 7 = .ok (.istore_n 0, 1) := by decide +kernel
theorem dJ6_numberOfTrailingZeros_0f7a4_8 : decode cJ6_numberOfTrailingZeros_0f7a4 8 = .ok (.iload_n 0, 1) := by decide +kernel
theorem dJ6_numberOfTrailingZeros_0f7a4_9 : decode cJ6_numberOfTrailingZeros_0f7a4 9 = .ok (.ifCond .gt 8, 3) := by decide +kernel
theorem dJ6_numberOfTrailingZeros_0f7a4_12 : decode cJ6_numberOfTrailingZeros_0f7a4 12 = .ok (.iload_n 0, 1) := by decide +kernel
theorem dJ6_numberOfTrailingZeros_0f7a4_13 : decode cJ6_numberOfTrailingZeros_0f7a4 13 = .ok (.bipush 32, 2) := by decide +kernel
theorem dJ6_numberOfTrailingZeros_0f7a4_15 : decode cJ6_numberOfTrailingZeros_0f7a4 15 = .ok (.iand, 1) := by decide +kernel
theorem dJ6_numberOfTrailingZeros_0f7a4_16 : decode cJ6_numberOfTrailingZeros_0f7a4 16 = .ok (.ireturn, 1) := by decide +kernel
theorem dJ6_numberOfTrailingZeros_0f7a4_17 : decode cJ6_numberOfTrailingZeros_0f7a4 17 = .ok (.iconst 1, 1) := by decide +kernel
theorem dJ6_numberOfTrailingZeros_0f7a4_18 : decode cJ6_numberOfTrailingZeros_0f7a4 18 = .ok (.istore_n 1, 1) := by decide +kernel
theorem dJ6_numberOfTrailingZeros_0f7a4_19 : decode cJ6_numberOfTrailingZeros_0f7a4 19 = .ok (.iload_n 0, 1) := by decide +kernel
theorem dJ6_numberOfTrailingZeros_0f7a4_20 : decode cJ6_numberOfTrailingZeros_0f7a4 20 = .ok (.ldc_w 264, 3) := by decide +kernel
theorem dJ6_numberOfTrailingZeros_0f7a4_23 : decode cJ6_numberOfTrailingZeros_0f7a4 23 = .ok (.if_icmp .le 11, 3) := by decide +kernel
theorem dJ6_numberOfTrailingZeros_0f7a4_26 : decode cJ6_numberOfTrailingZeros_0f7a4 26 = .ok (.iinc 1 16, 3) := by decide +kernel
theorem dJ6_numberOfTrailingZeros_0f7a4_29 : decode cJ6_numberOfTrailingZeros_0f7a4 29 = .ok (.iload_n 0, 1) := by decide +kernel
theorem dJ6_numberOfTrailingZeros_0f7a4_30 : decode cJ6_numberOfTrailingZeros_0f7a4 30 = .ok (.bipush 16, 2) := by decide +kernel
theorem dJ6_numberOfTrailingZeros_0f7a4_32 : decode cJ6_numberOfTrailingZeros_0f7a4 32 = .ok (.iushr, 1) := by decide +kernel
theorem dJ6_numberOfTrailingZeros_0f7a4_33 : decode cJ6_numberOfTrailingZeros_0f7a4 33 = .ok (.istore_n 0, 1) := by decide +kernel
theorem dJ6_numberOfTrailingZeros_0f7a4_34 : decode cJ6_numberOfTrailingZeros_0f7a4 34 = .ok (.iload_n 0, 1) := by decide +kernel
theorem dJ6_numberOfTrailingZeros_0f7a4_35 : decode cJ6_numberOfTrailingZeros_0f7a4 35 = .ok (.sipush 256, 3) := by decide +kernel
theorem dJ6_numberOfTrailingZeros_0f7a4_38 : decode cJ6_numberOfTrailingZeros_0f7a4 38 = .ok (.if_icmp .le 11, 3) := by decide +kernel
theorem dJ6_numberOfTrailingZeros_0f7a4_41 : decode cJ6_numberOfTrailingZeros_0f7a4 41 = .ok (.iinc 1 8, 3) := by decide +kernel
theorem dJ6_numberOfTrailingZeros_0f7a4_44 : decode cJ6_numberOfTrailingZeros_0f7a4 44 = .ok (.iload_n 0, 1) := by decide +kernel
theorem dJ6_numberOfTrailingZeros_0f7a4_45 : decode cJ6_numberOfTrailingZeros_0f7a4 45 = .ok (.bipush 8, 2) := by decide +kernel
theorem dJ6_numberOfTrailingZeros_0f7a4_47 : decode cJ6_numberOfTrailingZeros_0f7a4 47 = .ok (.iushr, 1) := by decide +kernel
theorem dJ6_numberOfTrailingZeros_0f7a4_48 : decode cJ6_numberOfTrailingZeros_0f7a4 48 = .ok (.istore_n 0, 1) := by decide +kernel
theorem dJ6_numberOfTrailingZeros_0f7a4_49 : decode cJ6_numberOfTrailingZeros_0f7a4 49 = .ok (.iload_n 0, 1) := by decide +kernel
theorem dJ6_numberOfTrailingZeros_0f7a4_50 : decode cJ6_numberOfTrailingZeros_0f7a4 50 = .ok (.bipush 16, 2) := by decide +kernel
theorem dJ6_numberOfTrailingZeros_0f7a4_52 : decode cJ6_numberOfTrailingZeros_0f7a4 52 = .ok (.if_icmp .le 10, 3) := by decide +kernel
theorem dJ6_numberOfTrailingZeros_0f7a4_55 : decode cJ6_numberOfTrailingZeros_0f7a4 55 = .ok (.iinc 1 4, 3) := by decide +kernel
theorem dJ6_numberOfTrailingZeros_0f7a4_58 : decode cJ6_numberOfTrailingZeros_0f7a4 58 = .ok (.iload_n 0, 1) := by decide +kernel
theorem dJ6_numberOfTrailingZeros_0f7a4_59 : decode cJ6_numberOfTrailingZeros_0f7a4 59 = .ok (.iconst 4, 1) := by decide +kernel
theorem dJ6_numberOfTrailingZeros_0f7a4_60 : decode cJ6_numberOfTrailingZeros_0f7a4 60 = .ok (.iushr, 1) := by decide +kernel
theorem dJ6_numberOfTrailingZeros_0f7a4_61 : decode cJ6_numberOfTrailingZeros_0f7a4 61 = .ok (.istore_n 0, 1) := by decide +kernel
theorem dJ6_numberOfTrailingZeros_0f7a4_62 : decode cJ6_numberOfTrailingZeros_0f7a4 62 = .ok (.iload_n 0, 1) := by decide +kernel
theorem dJ6_numberOfTrailingZeros_0f7a4_63 : decode cJ6_numberOfTrailingZeros_0f7a4 63 = .ok (.iconst 4, 1) := by decide +kernel
theorem dJ6_numberOfTrailingZeros_0f7a4_64 : decode cJ6_numberOfTrailingZeros_0f7a4 64 = .ok (.if_icmp .le 10, 3) := by decide +kernel
theorem dJ6_numberOfTrailingZeros_0f7a4_67 : decode cJ6_numberOfTrailingZeros_0f7a4 67 = .ok (.iinc 1 2, 3) := by decide +kernel
theorem dJ6_numberOfTrailingZeros_0f7a4_70 : decode cJ6_numberOfTrailingZeros_0f7a4 70 = .ok (.iload_n 0, 1) := by decide +kernel
theorem dJ6_numberOfTrailingZeros_0f7a4_71 : decode cJ6_numberOfTrailingZeros_0f7a4 71 = .ok (.iconst 2, 1) := by decide +kernel
theorem dJ6_numberOfTrailingZeros_0f7a4_72 : decode cJ6_numberOfTrailingZeros_0f7a4 72 = .ok (.iushr, 1) := by decide +kernel
theorem dJ6_numberOfTrailingZeros_0f7a4_73 : decode cJ6_numberOfTrailingZeros_0f7a4 73 = .ok (.istore_n 0, 1) := by decide +kernel
theorem dJ6_numberOfTrailingZeros_0f7a4_74 : decode cJ6_numberOfTrailingZeros_0f7a4 74 = .ok (.iload_n 1, 1) := by decide +kernel
theorem dJ6_numberOfTrailingZeros_0f7a4_75 : decode cJ6_numberOfTrailingZeros_0f7a4 75 = .ok (.iload_n 0, 1) := by decide +kernel
theorem dJ6_numberOfTrailingZeros_0f7a4_76 : decode cJ6_numberOfTrailingZeros_0f7a4 76 = .ok (.iconst 1, 1) := by decide +kernel
theorem dJ6_numberOfTrailingZeros_0f7a4_77 : decode cJ6_numberOfTrailingZeros_0f7a4 77 = .ok (.iushr, 1) := by decide +kernel
theorem dJ6_numberOfTrailingZeros_0f7a4_78 : decode cJ6_numberOfTrailingZeros_0f7a4 78 = .ok (.iadd, 1) := by decide +kernel
theorem dJ6_numberOfTrailingZeros_0f7a4_79 : decode cJ6_numberOfTrailingZeros_0f7a4 79 = .ok (.ireturn, 1) := by decide +kernel
theorem dJ6_bitCount_0f7a4_0 : decode cJ6_bitCount_0f7a4 0 = .ok (.iload_n 0, 1) := by decide +kernel
theorem dJ6_bitCount_0f7a4_1 : decode cJ6_bitCount_0f7a4 1 = .ok (.iload_n 0, 1) := by decide +kernel
theorem dJ6_bitCount_0f7a4_2 : decode cJ6_bitCount_0f7a4 2 = .ok (.iconst 1, 1) := by decide +kernel
theorem dJ6_bitCount_0f7a4_3 : decode cJ6_bitCount_0f7a4 3 = .ok (.iushr, 1) := by decide +kernel
theorem dJ6_bitCount_0f7a4_4 : decode cJ6_bitCount_0f7a4 4 = .ok (.ldc_w 265, 3) := by decide +kernel
theorem dJ6_bitCount_0f7a4_7 : decode cJ6_bitCount_0f7a4 7 = .ok (.iand, 1) := by decide +kernel
theorem dJ6_bitCount_0f7a4_8 : decode cJ6_bitCount_0f7a4 8 = .ok (.isub, 1) := by decide +kernel
theorem dJ6_bitCount_0f7a4_9 : decode cJ6_bitCount_0f7a4 9 = .ok (.istore_n 0, 1) := by decide +kernel
theorem dJ6_bitCount_0f7a4_10 : decode cJ6_bitCount_0f7a4 10 = .ok (.iload_n 0, 1) := by decide +kernel
theorem dJ6_bitCount_0f7a4_11 : decode cJ6_bitCount_0f7a4 11 = .ok (.ldc_w 266, 3) := by decide +kernel
theorem dJ6_bitCount_0f7a4_14 : decode cJ6_bitCount_0f7a4 14 = .ok (.iand, 1) := by decide +kernel
theorem dJ6_bitCount_0f7a4_15 : decode cJ6_bitCount_0f7a4 15 = .ok (.iload_n 0, 1) := by decide +kernel
theorem dJ6_bitCount_0f7a4_16 : decode cJ6_bitCount_0f7a4 16 = .ok (.iconst 2, 1) := by decide +kernel
theorem dJ6_bitCount_0f7a4_17 : decode cJ6_bitCount_0f7a4 17 = .ok (.iushr, 1) := by decide +kernel
theorem dJ6_bitCount_0f7a4_18 : decode cJ6_bitCount_0f7a4 18 = .ok (.ldc_w 266, 3) := by decide +kernel
theorem dJ6_bitCount_0f7a4_21 : decode cJ6_bitCount_0f7a4 21 = .ok (.iand, 1) := by decide +kernel
theorem dJ6_bitCount_0f7a4_22 : decode cJ6_bitCount_0f7a4 22 = .ok (.iadd, 1) := by decide +kernel
theorem dJ6_bitCount_0f7a4_23 : decode cJ6_bitCount_0f7a4 23 = .ok (.istore_n 0, 1) := by decide +kernel
theorem dJ6_bitCount_0f7a4_24 : decode cJ6_bitCount_0f7a4 24 = .ok (.iload_n 0, 1) := by decide +kernel
theorem dJ6_bitCount_0f7a4_25 : decode cJ6_bitCount_0f7a4 25 = .ok (.iload_n 0, 1) := by decide +kernel
theorem dJ6_bitCount_0f7a4_26 : decode cJ6_bitCount_0f7a4 26 = .ok (.iconst 4, 1) := by decide +kernel
theorem dJ6_bitCount_0f7a4_27 : decode cJ6_bitCount_0f7a4 27 = .ok (.iushr, 1) := by decide +kernel
theorem dJ6_bitCount_0f7a4_28 : decode cJ6_bitCount_0f7a4 28 = .ok (.iadd, 1) := by decide +kernel
theorem dJ6_bitCount_0f7a4_29 : decode cJ6_bitCount_0f7a4 29 = .ok (.ldc_w 267, 3) := by decide +kernel
theorem dJ6_bitCount_0f7a4_32 : decode cJ6_bitCount_0f7a4 32 = .ok (.iand, 1) := by decide +kernel
theorem dJ6_bitCount_0f7a4_33 : decode cJ6_bitCount_0f7a4 33 = .ok (.istore_n 0, 1) := by decide +kernel
theorem dJ6_bitCount_0f7a4_34 : decode cJ6_bitCount_0f7a4 34 = .ok (.iload_n 0, 1) := by decide +kernel
theorem dJ6_bitCount_0f7a4_35 : decode cJ6_bitCount_0f7a4 35 = .ok (.iload_n 0, 1) := by decide +kernel
theorem dJ6_bitCount_0f7a4_36 : decode cJ6_bitCount_0f7a4 36 = .ok (.bipush 8, 2) := by decide +kernel
theorem dJ6_bitCount_0f7a4_38 : decode cJ6_bitCount_0f7a4 38 = .ok (.iushr, 1) := by decide +kernel
theorem dJ6_bitCount_0f7a4_39 : decode cJ6_bitCount_0f7a4 39 = .ok (.iadd, 1) := by decide +kernel
theorem dJ6_bitCount_0f7a4_40 : decode cJ6_bitCount_0f7a4 40 = .ok (.istore_n 0, 1) := by decide +kernel
theorem dJ6_bitCount_0f7a4_41 : decode cJ6_bitCount_0f7a4 41 = .ok (.iload_n 0, 1) := by decide +kernel
theorem dJ6_bitCount_0f7a4_42 : decode cJ6_bitCount_0f7a4 42 = .ok (.iload_n 0, 1) := by decide +kernel
theorem dJ6_bitCount_0f7a4_43 : decode cJ6_bitCount_0f7a4 43 = .ok (.bipush 16, 2) := by decide +kernel
theorem dJ6_bitCount_0f7a4_45 : decode cJ6_bitCount_0f7a4 45 = .ok (.iushr, 1) := by decide +kernel
theorem dJ6_bitCount_0f7a4_46 : decode cJ6_bitCount_0f7a4 46 = .ok (.iadd, 1) := by decide +kernel
theorem dJ6_bitCount_0f7a4_47 : decode cJ6_bitCount_0f7a4 47 = .ok (.istore_n 0, 1) := by decide +kernel
theorem dJ6_bitCount_0f7a4_48 : decode cJ6_bitCount_0f7a4 48 = .ok (.iload_n 0, 1) := by decide +kernel
theorem dJ6_bitCount_0f7a4_49 : decode cJ6_bitCount_0f7a4 49 = .ok (.bipush 63, 2) := by decide +kernel
theorem dJ6_bitCount_0f7a4_51 : decode cJ6_bitCount_0f7a4 51 = .ok (.iand, 1) := by decide +kernel
theorem dJ6_bitCount_0f7a4_52 : decode cJ6_bitCount_0f7a4 52 = .ok (.ireturn, 1) := by decide +kernel
theorem dJ9_abs_0f7a4_0 : decode cJ9_abs_0f7a4 0 = .ok (.iload_n 0, 1) := by decide +kernel
theorem dJ9_abs_0f7a4_1 : decode cJ9_abs_0f7a4 1 = .ok (.ifCond .ge 8, 3) := by decide +kernel
theorem dJ9_abs_0f7a4_4 : decode cJ9_abs_0f7a4 4 = .ok (.iload_n 0, 1) := by decide +kernel
theorem dJ9_abs_0f7a4_5 : decode cJ9_abs_0f7a4 5 = .ok (.ineg, 1) := by decide +kernel
theorem dJ9_abs_0f7a4_6 : decode cJ9_abs_0f7a4 6 = .ok (.goto 4, 3) := by decide +kernel
theorem dJ9_abs_0f7a4_9 : decode cJ9_abs_0f7a4 9 = .ok (.iload_n 0, 1) := by decide +kernel
theorem dJ9_abs_0f7a4_10 : decode cJ9_abs_0f7a4 10 = .ok (.ireturn, 1) := by decide +kernel
theorem dJ9_max_7cf53_0 : decode cJ9_max_7cf53 0 = .ok (.iload_n 0, 1) := by decide +kernel
theorem dJ9_max_7cf53_1 : decode cJ9_max_7cf53 1 = .ok (.iload_n 1, 1) := by decide +kernel
theorem dJ9_max_7cf53_2 : decode cJ9_max_7cf53 2 = .ok (.if_icmp .lt 7, 3) := by decide +kernel
theorem dJ9_max_7cf53_5 : decode cJ9_max_7cf53 5 = .ok (.iload_n 0, 1) := by decide +kernel
theorem dJ9_max_7cf53_6 : decode cJ9_max_7cf53 6 = .ok (.goto 4, 3) := by decide +kernel
theorem dJ9_max_7cf53_9 : decode cJ9_max_7cf53 9 = .ok (.iload_n 1, 1) := by decide +kernel
theorem dJ9_max_7cf53_10 : decode cJ9_max_7cf53 10 = .ok (.ireturn, 1) := by decide +kernel
theorem dJ9_min_7cf53_0 : decode cJ9_min_7cf53 0 = .ok (.iload_n 0, 1) := by decide +kernel
theorem dJ9_min_7cf53_1 : decode cJ9_min_7cf53 1 = .ok (.iload_n 1, 1) := by decide +kernel
theorem dJ9_min_7cf53_2 : decode cJ9_min_7cf53 2 = .ok (.if_icmp .gt 7, 3) := by decide +kernel
theorem dJ9_min_7cf53_5 : decode cJ9_min_7cf53 5 = .ok (.iload_n 0, 1) := by decide +kernel
theorem dJ9_min_7cf53_6 : decode cJ9_min_7cf53 6 = .ok (.goto 4, 3) := by decide +kernel
theorem dJ9_min_7cf53_9 : decode cJ9_min_7cf53 9 = .ok (.iload_n 1, 1) := by decide +kernel
theorem dJ9_min_7cf53_10 : decode cJ9_min_7cf53 10 = .ok (.ireturn, 1) := by decide +kernel
theorem dJ0_length_8abf5_0 : decode cJ0_length_8abf5 0 = .ok (.aload_n 0, 1) := by decide +kernel
theorem dJ0_length_8abf5_1 : decode cJ0_length_8abf5 1 = .ok (.getfield 9, 3) := by decide +kernel
theorem dJ0_length_8abf5_4 : decode cJ0_length_8abf5 4 = .ok (.arraylength, 1) := by decide +kernel
theorem dJ0_length_8abf5_5 : decode cJ0_length_8abf5 5 = .ok (.aload_n 0, 1) := by decide +kernel
theorem dJ0_length_8abf5_6 : decode cJ0_length_8abf5 6 = .ok (.invokevirtual 335, 3) := by decide +kernel
theorem dJ0_length_8abf5_9 : decode cJ0_length_8abf5 9 = .ok (.ishr, 1) := by decide +kernel
theorem dJ0_length_8abf5_10 : decode cJ0_length_8abf5 10 = .ok (.ireturn, 1) := by decide +kernel
theorem dJ0_charAt_5068e_0 : decode cJ0_charAt_5068e 0 = .ok (.aload_n 0, 1) := by decide +kernel
theorem dJ0_charAt_5068e_1 : decode cJ0_charAt_5068e 1 = .ok (.invokevirtual 492, 3) := by decide +kernel
theorem dJ0_charAt_5068e_4 : decode cJ0_charAt_5068e 4 = .ok (.ifCond .eq 12, 3) := by decide +kernel
theorem dJ0_charAt_5068e_7 : decode cJ0_charAt_5068e 7 = .ok (.aload_n 0, 1) := by decide +kernel
theorem dJ0_charAt_5068e_8 : decode cJ0_charAt_5068e 8 = .ok (.getfield 9, 3) := by decide +kernel
theorem dJ0_charAt_5068e_11 : decode cJ0_charAt_5068e 11 = .ok (.iload_n 1, 1) := by decide +kernel
theorem dJ0_charAt_5068e_12 : decode cJ0_charAt_5068e 12 = .ok (.invokestatic 495, 3) := by decide +kernel
theorem dJ0_charAt_5068e_15 : decode cJ0_charAt_5068e 15 = .ok (.ireturn, 1) := by decide +kernel
theorem dJ0_charAt_5068e_16 : decode cJ0_charAt_5068e 16 = .ok (.aload_n 0, 1) := by decide +kernel
theorem dJ0_charAt_5068e_17 : decode cJ0_charAt_5068e 17 = .ok (.getfield 9, 3) := by decide +kernel
theorem dJ0_charAt_5068e_20 : decode cJ0_charAt_5068e 20 = .ok (.iload_n 1, 1) := by decide +kernel
theorem dJ0_charAt_5068e_21 : decode cJ0_charAt_5068e 21 = .ok (.invokestatic 498, 3) := by decide +kernel
theorem dJ0_charAt_5068e_24 : decode cJ0_charAt_5068e 24 = .ok (.ireturn, 1) := by decide +kernel
theorem dJ0_coder_7d493_0 : decode cJ0_coder_7d493 0 = .ok (.getstatic 38, 3) := by decide +kernel
theorem dJ0_coder_7d493_3 : decode cJ0_coder_7d493 3 = .ok (.ifCond .eq 10, 3) := by decide +kernel
theorem dJ0_coder_7d493_6 : decode cJ0_coder_7d493 6 = .ok (.aload_n 0, 1) := by decide +kernel
theorem dJ0_coder_7d493_7 : decode cJ0_coder_7d493 7 = .ok (.getfield 15, 3) := by decide +kernel
theorem dJ0_coder_7d493_10 : decode cJ0_coder_7d493 10 = .ok (.goto 4, 3) := by decide +kernel
theorem dJ0_coder_7d493_13 : decode cJ0_coder_7d493 13 = .ok (.iconst 1, 1) := by decide +kernel
theorem dJ0_coder_7d493_14 : decode cJ0_coder_7d493 14 = .ok (.ireturn, 1) := by decide +kernel
theorem dJ0_isLatin1_aae02_0 : decode cJ0_isLatin1_aae02 0 = .ok (.getstatic 38, 3) := by decide +kernel
theorem dJ0_isLatin1_aae02_3 : decode cJ0_isLatin1_aae02 3 = .ok (.ifCond .eq 14, 3) := by decide +kernel
theorem dJ0_isLatin1_aae02_6 : decode cJ0_isLatin1_aae02 6 = .ok (.aload_n 0, 1) := by decide +kernel
theorem dJ0_isLatin1_aae02_7 : decode cJ0_isLatin1_aae02 7 = .ok (.getfield 15, 3) := by decide +kernel
theorem dJ0_isLatin1_aae02_10 : decode cJ0_isLatin1_aae02 10 = .ok (.ifCond .ne 7, 3) := by decide +kernel
theorem dJ0_isLatin1_aae02_13 : decode cJ0_isLatin1_aae02 13 = .ok (.iconst 1, 1) := by decide +kernel
theorem dJ0_isLatin1_aae02_14 : decode cJ0_isLatin1_aae02 14 = .ok (.goto 4, 3) := by decide +kernel
theorem dJ0_isLatin1_aae02_17 : decode cJ0_isLatin1_aae02 17 = .ok (.iconst 0, 1) := by decide +kernel
theorem dJ0_isLatin1_aae02_18 : decode cJ0_isLatin1_aae02 18 = .ok (.ireturn, 1) := by decide +kernel
theorem dJ0_checkIndex_df160_0 : decode cJ0_checkIndex_df160 0 = .ok (.iload_n 0, 1) := by decide +kernel
theorem dJ0_checkIndex_df160_1 : decode cJ0_checkIndex_df160 1 = .ok (.iload_n 1, 1) := by decide +kernel
theorem dJ0_checkIndex_df160_2 : decode cJ0_checkIndex_df160 2 = .ok (.getstatic 1053, 3) := by decide +kernel
theorem dJ0_checkIndex_df160_5 : decode cJ0_checkIndex_df160 5 = .ok (.invokestatic 1059, 3) := by decide +kernel
theorem dJ0_checkIndex_df160_8 : decode cJ0_checkIndex_df160 8 = .ok (.pop, 1) := by decide +kernel
theorem dJ0_checkIndex_df160_9 : decode cJ0_checkIndex_df160 9 = .ok (.return_, 1) := by decide +kernel
theorem dJ1_charAt_3b067_0 : decode cJ1_charAt_3b067 0 = .ok (.iload_n 1, 1) := by decide +kernel
theorem dJ1_charAt_3b067_1 : decode cJ1_charAt_3b067 1 = .ok (.aload_n 0, 1) := by decide +kernel
theorem dJ1_charAt_3b067_2 : decode cJ1_charAt_3b067 2 = .ok (.arraylength, 1) := by decide +kernel
theorem dJ1_charAt_3b067_3 : decode cJ1_charAt_3b067 3 = .ok (.invokestatic 9, 3) := by decide +kernel
theorem dJ1_charAt_3b067_6 : decode cJ1_charAt_3b067 6 = .ok (.aload_n 0, 1) := by decide +kernel
theorem dJ1_charAt_3b067_7 : decode cJ1_charAt_3b067 7 = .ok (.iload_n 1, 1) := by decide +kernel
theorem dJ1_charAt_3b067_8 : decode cJ1_charAt_3b067 8 = .ok (.baload, 1) := by decide +kernel
theorem dJ1_charAt_3b067_9 : decode cJ1_charAt_3b067 9 = .ok (.sipush 255, 3) := by decide +kernel
theorem dJ1_charAt_3b067_12 : decode cJ1_charAt_3b067 12 = .ok (.iand, 1) := by decide +kernel
theorem dJ1_charAt_3b067_13 : decode cJ1_charAt_3b067 13 = .ok (.i2c, 1) := by decide +kernel
theorem dJ1_charAt_3b067_14 : decode cJ1_charAt_3b067 14 = .ok (.ireturn, 1) := by decide +kernel
theorem dJ2_getChar_3b067_0 : decode cJ2_getChar_3b067 0 = .ok (.getstatic 44, 3) := by decide +kernel
theorem dJ2_getChar_3b067_3 : decode cJ2_getChar_3b067 3 = .ok (.ifCond .ne 25, 3) := by decide +kernel
theorem dJ2_getChar_3b067_6 : decode cJ2_getChar_3b067 6 = .ok (.iload_n 1, 1) := by decide +kernel
theorem dJ2_getChar_3b067_7 : decode cJ2_getChar_3b067 7 = .ok (.ifCond .lt 11, 3) := by decide +kernel
theorem dJ2_getChar_3b067_10 : decode cJ2_getChar_3b067 10 = .ok (.iload_n 1, 1) := by decide +kernel
theorem dJ2_getChar_3b067_11 : decode cJ2_getChar_3b067 11 = .ok (.aload_n 0, 1) := by decide +kernel
theorem dJ2_getChar_3b067_12 : decode cJ2_getChar_3b067 12 = .ok (.invokestatic 48, 3) := by decide +kernel
theorem dJ2_getChar_3b067_15 : decode cJ2_getChar_3b067 15 = .ok (.if_icmp .lt 13, 3) := by decide +kernel
theorem dJ2_getChar_3b067_18 : decode cJ2_getChar_3b067 18 = .ok (.new 52, 3) := by decide +kernel
theorem dJ2_getChar_3b067_21 : decode cJ2_getChar_3b067 21 = .ok (.dup, 1) := by decide +kernel
theorem dJ2_getChar_3b067_22 : decode cJ2_getChar_3b067 22 = .ok (.ldc 54, 2) := by decide +kernel
theorem dJ2_getChar_3b067_24 : decode cJ2_getChar_3b067 24 = .ok (.invokespecial 56, 3) := by decide +kernel
theorem dJ2_getChar_3b067_27 : decode cJ2_getChar_3b067 27 = .ok (.athrow, 1) := by decide +kernel
theorem dJ2_getChar_3b067_28 : decode cJ2_getChar_3b067 28 = .ok (.iload_n 1, 1) := by decide +kernel
theorem dJ2_getChar_3b067_29 : decode cJ2_getChar_3b067 29 = .ok (.iconst 1, 1) := by decide +kernel
theorem dJ2_getChar_3b067_30 : decode cJ2_getChar_3b067 30 = .ok (.ishl, 1) := by decide +kernel
theorem dJ2_getChar_3b067_31 : decode cJ2_getChar_3b067 31 = .ok (.istore_n 1, 1) := by decide +kernel
theorem dJ2_getChar_3b067_32 : decode cJ2_getChar_3b067 32 = .ok (.aload_n 0, 1) := by decide +kernel
theorem dJ2_getChar_3b067_33 : decode cJ2_getChar_3b067 33 = .ok (.iload_n 1, 1) := by decide +kernel
theorem dJ2_getChar_3b067_34 : decode cJ2_getChar_3b067 34 = .ok (.iinc 1 1, 3) := by decide +kernel
theorem dJ2_getChar_3b067_37 : decode cJ2_getChar_3b067 37 = .ok (.baload, 1) := by decide +kernel
theorem dJ2_getChar_3b067_38 : decode cJ2_getChar_3b067 38 = .ok (.sipush 255, 3) := by decide +kernel
theorem dJ2_getChar_3b067_41 : decode cJ2_getChar_3b067 41 = .ok (.iand, 1) := by decide +kernel
theorem dJ2_getChar_3b067_42 : decode cJ2_getChar_3b067 42 = .ok (.getstatic 59, 3) := by decide +kernel
theorem dJ2_getChar_3b067_45 : decode cJ2_getChar_3b067 45 = .ok (.ishl, 1) := by decide +kernel
theorem dJ2_getChar_3b067_46 : decode cJ2_getChar_3b067 46 = .ok (.aload_n 0, 1) := by decide +kernel
theorem dJ2_getChar_3b067_47 : decode cJ2_getChar_3b067 47 = .ok (.iload_n 1, 1) := by decide +kernel
theorem dJ2_getChar_3b067_48 : decode cJ2_getChar_3b067 48 = .ok (.baload, 1) := by decide +kernel
theorem dJ2_getChar_3b067_49 : decode cJ2_getChar_3b067 49 = .ok (.sipush 255, 3) := by decide +kernel
theorem dJ2_getChar_3b067_52 : decode cJ2_getChar_3b067 52 = .ok (.iand, 1) := by decide +kernel
theorem dJ2_getChar_3b067_53 : decode cJ2_getChar_3b067 53 = .ok (.getstatic 63, 3) := by decide +kernel
theorem dJ2_getChar_3b067_56 : decode cJ2_getChar_3b067 56 = .ok (.ishl, 1) := by decide +kernel
theorem dJ2_getChar_3b067_57 : decode cJ2_getChar_3b067 57 = .ok (.ior, 1) := by decide +kernel
theorem dJ2_getChar_3b067_58 : decode cJ2_getChar_3b067 58 = .ok (.i2c, 1) := by decide +kernel
theorem dJ2_getChar_3b067_59 : decode cJ2_getChar_3b067 59 = .ok (.ireturn, 1) := by decide +kernel
theorem dJ2_length_9d52b_0 : decode cJ2_length_9d52b 0 = .ok (.aload_n 0, 1) := by decide +kernel
theorem dJ2_length_9d52b_1 : decode cJ2_length_9d52b 1 = .ok (.arraylength, 1) := by decide +kernel
theorem dJ2_length_9d52b_2 : decode cJ2_length_9d52b 2 = .ok (.iconst 1, 1) := by decide +kernel
theorem dJ2_length_9d52b_3 : decode cJ2_length_9d52b 3 = .ok (.ishr, 1) := by decide +kernel
theorem dJ2_length_9d52b_4 : decode cJ2_length_9d52b 4 = .ok (.ireturn, 1) := by decide +kernel
theorem dJ2_charAt_3b067_0 : decode cJ2_charAt_3b067 0 = .ok (.iload_n 1, 1) := by decide +kernel
theorem dJ2_charAt_3b067_1 : decode cJ2_charAt_3b067 1 = .ok (.aload_n 0, 1) := by decide +kernel
theorem dJ2_charAt_3b067_2 : decode cJ2_charAt_3b067 2 = .ok (.invokestatic 67, 3) := by decide +kernel
theorem dJ2_charAt_3b067_5 : decode cJ2_charAt_3b067 5 = .ok (.aload_n 0, 1) := by decide +kernel
theorem dJ2_charAt_3b067_6 : decode cJ2_charAt_3b067 6 = .ok (.iload_n 1, 1) := by decide +kernel
theorem dJ2_charAt_3b067_7 : decode cJ2_charAt_3b067 7 = .ok (.invokestatic 71, 3) := by decide +kernel
theorem dJ2_charAt_3b067_10 : decode cJ2_charAt_3b067 10 = .ok (.ireturn, 1) := by decide +kernel
theorem dJ2_checkIndex_2214a_0 : decode cJ2_checkIndex_2214a 0 = .ok (.iload_n 0, 1) := by decide +kernel
theorem dJ2_checkIndex_2214a_1 : decode cJ2_checkIndex_2214a 1 = .ok (.aload_n 1, 1) := by decide +kernel
theorem dJ2_checkIndex_2214a_2 : decode cJ2_checkIndex_2214a 2 = .ok (.invokestatic 48, 3) := by decide +kernel
theorem dJ2_checkIndex_2214a_5 : decode cJ2_checkIndex_2214a 5 = .ok (.invokestatic 414, 3) := by decide +kernel
theorem dJ2_checkIndex_2214a_8 : decode cJ2_checkIndex_2214a 8 = .ok (.return_, 1) := by decide +kernel
theorem dJ7_fill_d0a16_0 : decode cJ7_fill_d0a16 0 = .ok (.iconst 0, 1) := by decide +kernel
theorem dJ7_fill_d0a16_1 : decode cJ7_fill_d0a16 1 = .ok (.istore_n 3, 1) := by decide +kernel
theorem dJ7_fill_d0a16_2 : decode cJ7_fill_d0a16 2 = .ok (.aload_n 0, 1) := by decide +kernel
theorem dJ7_fill_d0a16_3 : decode cJ7_fill_d0a16 3 = .ok (.arraylength, 1) := by decide +kernel
theorem dJ7_fill_d0a16_4 : decode cJ7_fill_d0a16 4 = .ok (.istore 4, 2) := by decide +kernel
theorem dJ7_fill_d0a16_6 : decode cJ7_fill_d0a16 6 = .ok (.iload_n 3, 1) := by decide +kernel
theorem dJ7_fill_d0a16_7 : decode cJ7_fill_d0a16 7 = .ok (.iload 4, 2) := by decide +kernel
theorem dJ7_fill_d0a16_9 : decode cJ7_fill_d0a16 9 = .ok (.if_icmp .ge 13, 3) := by decide +kernel
theorem dJ7_fill_d0a16_12 : decode cJ7_fill_d0a16 12 = .ok (.aload_n 0, 1) := by decide +kernel
theorem dJ7_fill_d0a16_13 : decode cJ7_fill_d0a16 13 = .ok (.iload_n 3, 1) := by decide +kernel
theorem dJ7_fill_d0a16_14 : decode cJ7_fill_d0a16 14 = .ok (.lload_n 1, 1) := by decide +kernel
theorem dJ7_fill_d0a16_15 : decode cJ7_fill_d0a16 15 = .ok (.lastore, 1) := by decide +kernel
theorem dJ7_fill_d0a16_16 : decode cJ7_fill_d0a16 16 = .ok (.iinc 3 1, 3) := by decide +kernel
theorem dJ7_fill_d0a16_19 : decode cJ7_fill_d0a16 19 = .ok (.goto (-13), 3) := by decide +kernel
theorem dJ7_fill_d0a16_22 : decode cJ7_fill_d0a16 22 = .ok (.return_, 1) := by decide +kernel
theorem dJ7_fill_53178_0 : decode cJ7_fill_53178 0 = .ok (.iconst 0, 1) := by decide +kernel
theorem dJ7_fill_53178_1 : decode cJ7_fill_53178 1 = .ok (.istore_n 2, 1) := by decide +kernel
theorem dJ7_fill_53178_2 : decode cJ7_fill_53178 2 = .ok (.aload_n 0, 1) := by decide +kernel
theorem dJ7_fill_53178_3 : decode cJ7_fill_53178 3 = .ok (.arraylength, 1) := by decide +kernel
theorem dJ7_fill_53178_4 : decode cJ7_fill_53178 4 = .ok (.istore_n 3, 1) := by decide +kernel
theorem dJ7_fill_53178_5 : decode cJ7_fill_53178 5 = .ok (.iload_n 2, 1) := by decide +kernel
theorem dJ7_fill_53178_6 : decode cJ7_fill_53178 6 = .ok (.iload_n 3, 1) := by decide +kernel
theorem dJ7_fill_53178_7 : decode cJ7_fill_53178 7 = .ok (.if_icmp .ge 13, 3) := by decide +kernel
theorem dJ7_fill_53178_10 : decode cJ7_fill_53178 10 = .ok (.aload_n 0, 1) := by decide +kernel
theorem dJ7_fill_53178_11 : decode cJ7_fill_53178 11 = .ok (.iload_n 2, 1) := by decide +kernel
theorem dJ7_fill_53178_12 : decode cJ7_fill_53178 12 = .ok (.iload_n 1, 1) := by decide +kernel
theorem dJ7_fill_53178_13 : decode cJ7_fill_53178 13 = .ok (.iastore, 1) := by decide +kernel
theorem dJ7_fill_53178_14 : decode cJ7_fill_53178 14 = .ok (.iinc 2 1, 3) := by decide +kernel
theorem dJ7_fill_53178_17 : decode cJ7_fill_53178 17 = .ok (.goto (-12), 3) := by decide +kernel
theorem dJ7_fill_53178_20 : decode cJ7_fill_53178 20 = .ok (.return_, 1) := by decide +kernel
theorem dJ3_checkIndex_8e157_0 : decode cJ3_checkIndex_8e157 0 = .ok (.iload_n 0, 1) := by decide +kernel
theorem dJ3_checkIndex_8e157_1 : decode cJ3_checkIndex_8e157 1 = .ok (.ifCond .lt 8, 3) := by decide +kernel
theorem dJ3_checkIndex_8e157_4 : decode cJ3_checkIndex_8e157 4 = .ok (.iload_n 0, 1) := by decide +kernel
theorem dJ3_checkIndex_8e157_5 : decode cJ3_checkIndex_8e157 5 = .ok (.iload_n 1, 1) := by decide +kernel
theorem dJ3_checkIndex_8e157_6 : decode cJ3_checkIndex_8e157 6 = .ok (.if_icmp .lt 10, 3) := by decide +kernel
theorem dJ3_checkIndex_8e157_9 : decode cJ3_checkIndex_8e157 9 = .ok (.aload_n 2, 1) := by decide +kernel
theorem dJ3_checkIndex_8e157_10 : decode cJ3_checkIndex_8e157 10 = .ok (.iload_n 0, 1) := by decide +kernel
theorem dJ3_checkIndex_8e157_11 : decode cJ3_checkIndex_8e157 11 = .ok (.iload_n 1, 1) := by decide +kernel
theorem dJ3_checkIndex_8e157_12 : decode cJ3_checkIndex_8e157 12 = .ok (.invokestatic 95, 3) := by decide +kernel
theorem dJ3_checkIndex_8e157_15 : decode cJ3_checkIndex_8e157 15 = .ok (.athrow, 1) := by decide +kernel
theorem dJ3_checkIndex_8e157_16 : decode cJ3_checkIndex_8e157 16 = .ok (.iload_n 0, 1) := by decide +kernel
theorem dJ3_checkIndex_8e157_17 : decode cJ3_checkIndex_8e157 17 = .ok (.ireturn, 1) := by decide +kernel
theorem dL_law_0 : decode cL_law 0 = .ok (.new 7, 3) := by decide +kernel
theorem dL_law_3 : decode cL_law 3 = .ok (.dup, 1) := by decide +kernel
theorem dL_law_4 : decode cL_law 4 = .ok (.invokespecial 9, 3) := by decide +kernel
theorem dL_law_7 : decode cL_law 7 = .ok (.astore_n 1, 1) := by decide +kernel
theorem dL_law_8 : decode cL_law 8 = .ok (.new 10, 3) := by decide +kernel
theorem dL_law_11 : decode cL_law 11 = .ok (.dup, 1) := by decide +kernel
theorem dL_law_12 : decode cL_law 12 = .ok (.invokespecial 12, 3) := by decide +kernel
theorem dL_law_15 : decode cL_law 15 = .ok (.astore_n 2, 1) := by decide +kernel
theorem dL_law_16 : decode cL_law 16 = .ok (.iconst 0, 1) := by decide +kernel
theorem dL_law_17 : decode cL_law 17 = .ok (.istore_n 3, 1) := by decide +kernel
theorem dL_law_18 : decode cL_law 18 = .ok (.iload_n 3, 1) := by decide +kernel
theorem dL_law_19 : decode cL_law 19 = .ok (.aload_n 0, 1) := by decide +kernel
theorem dL_law_20 : decode cL_law 20 = .ok (.arraylength, 1) := by decide +kernel
theorem dL_law_21 : decode cL_law 21 = .ok (.bipush 6, 2) := by decide +kernel
theorem dL_law_23 : decode cL_law 23 = .ok (.isub, 1) := by decide +kernel
theorem dL_law_24 : decode cL_law 24 = .ok (.if_icmp .gt 1364, 3) := by decide +kernel
theorem dL_law_27 : decode cL_law 27 = .ok (.aload_n 0, 1) := by decide +kernel
theorem dL_law_28 : decode cL_law 28 = .ok (.iload_n 3, 1) := by decide +kernel
theorem dL_law_29 : decode cL_law 29 = .ok (.iaload, 1) := by decide +kernel
theorem dL_law_30 : decode cL_law 30 = .ok (.bipush 63, 2) := by decide +kernel
theorem dL_law_32 : decode cL_law 32 = .ok (.iand, 1) := by decide +kernel
theorem dL_law_33 : decode cL_law 33 = .ok (.tableswitch 1349 0 40 #[179, 232, 265, 308, 357, 390, 423, 446, 469, 502, 515, 528, 541, 554, 577, 590, 613, 626, 649, 672, 695, 728, 751, 794, 827, 860, 903, 936, 969, 982, 995, 1038, 1112, 1175, 1208, 1241, 1264, 1277, 1290, 1303, 1326], 179) := by decide +kernel
theorem dL_law_212 : decode cL_law 212 = .ok (.aload_n 1, 1) := by decide +kernel
theorem dL_law_213 : decode cL_law 213 = .ok (.aload_n 0, 1) := by decide +kernel
theorem dL_law_214 : decode cL_law 214 = .ok (.iload_n 3, 1) := by decide +kernel
theorem dL_law_215 : decode cL_law 215 = .ok (.iconst 1, 1) := by decide +kernel
theorem dL_law_216 : decode cL_law 216 = .ok (.iadd, 1) := by decide +kernel
theorem dL_law_217 : decode cL_law 217 = .ok (.iaload, 1) := by decide +kernel
theorem dL_law_218 : decode cL_law 218 = .ok (.aload_n 0, 1) := by decide +kernel
theorem dL_law_219 : decode cL_law 219 = .ok (.iload_n 3, 1) := by decide +kernel
theorem dL_law_220 : decode cL_law 220 = .ok (.iconst 2, 1) := by decide +kernel
theorem dL_law_221 : decode cL_law 221 = .ok (.iadd, 1) := by decide +kernel
theorem dL_law_222 : decode cL_law 222 = .ok (.iaload, 1) := by decide +kernel
theorem dL_law_223 : decode cL_law 223 = .ok (.aload_n 0, 1) := by decide +kernel
theorem dL_law_224 : decode cL_law 224 = .ok (.iload_n 3, 1) := by decide +kernel
theorem dL_law_225 : decode cL_law 225 = .ok (.iconst 3, 1) := by decide +kernel
theorem dL_law_226 : decode cL_law 226 = .ok (.iadd, 1) := by decide +kernel
theorem dL_law_227 : decode cL_law 227 = .ok (.iaload, 1) := by decide +kernel
theorem dL_law_228 : decode cL_law 228 = .ok (.aload_n 0, 1) := by decide +kernel
theorem dL_law_229 : decode cL_law 229 = .ok (.iload_n 3, 1) := by decide +kernel
theorem dL_law_230 : decode cL_law 230 = .ok (.iconst 4, 1) := by decide +kernel
theorem dL_law_231 : decode cL_law 231 = .ok (.iadd, 1) := by decide +kernel
theorem dL_law_232 : decode cL_law 232 = .ok (.iaload, 1) := by decide +kernel
theorem dL_law_233 : decode cL_law 233 = .ok (.invokevirtual 13, 3) := by decide +kernel
theorem dL_law_236 : decode cL_law 236 = .ok (.aload_n 2, 1) := by decide +kernel
theorem dL_law_237 : decode cL_law 237 = .ok (.aload_n 0, 1) := by decide +kernel
theorem dL_law_238 : decode cL_law 238 = .ok (.iload_n 3, 1) := by decide +kernel
theorem dL_law_239 : decode cL_law 239 = .ok (.iconst 1, 1) := by decide +kernel
theorem dL_law_240 : decode cL_law 240 = .ok (.iadd, 1) := by decide +kernel
theorem dL_law_241 : decode cL_law 241 = .ok (.iaload, 1) := by decide +kernel
theorem dL_law_242 : decode cL_law 242 = .ok (.aload_n 0, 1) := by decide +kernel
theorem dL_law_243 : decode cL_law 243 = .ok (.iload_n 3, 1) := by decide +kernel
theorem dL_law_244 : decode cL_law 244 = .ok (.iconst 2, 1) := by decide +kernel
theorem dL_law_245 : decode cL_law 245 = .ok (.iadd, 1) := by decide +kernel
theorem dL_law_246 : decode cL_law 246 = .ok (.iaload, 1) := by decide +kernel
theorem dL_law_247 : decode cL_law 247 = .ok (.aload_n 0, 1) := by decide +kernel
theorem dL_law_248 : decode cL_law 248 = .ok (.iload_n 3, 1) := by decide +kernel
theorem dL_law_249 : decode cL_law 249 = .ok (.iconst 3, 1) := by decide +kernel
theorem dL_law_250 : decode cL_law 250 = .ok (.iadd, 1) := by decide +kernel
theorem dL_law_251 : decode cL_law 251 = .ok (.iaload, 1) := by decide +kernel
theorem dL_law_252 : decode cL_law 252 = .ok (.aload_n 0, 1) := by decide +kernel
theorem dL_law_253 : decode cL_law 253 = .ok (.iload_n 3, 1) := by decide +kernel
theorem dL_law_254 : decode cL_law 254 = .ok (.iconst 4, 1) := by decide +kernel
theorem dL_law_255 : decode cL_law 255 = .ok (.iadd, 1) := by decide +kernel
theorem dL_law_256 : decode cL_law 256 = .ok (.iaload, 1) := by decide +kernel
theorem dL_law_257 : decode cL_law 257 = .ok (.invokevirtual 17, 3) := by decide +kernel
theorem dL_law_260 : decode cL_law 260 = .ok (.if_icmp .eq 1122, 3) := by decide +kernel
theorem dL_law_263 : decode cL_law 263 = .ok (.iconst 0, 1) := by decide +kernel
theorem dL_law_264 : decode cL_law 264 = .ok (.ireturn, 1) := by decide +kernel
theorem dL_law_265 : decode cL_law 265 = .ok (.aload_n 1, 1) := by decide +kernel
theorem dL_law_266 : decode cL_law 266 = .ok (.aload_n 0, 1) := by decide +kernel
theorem dL_law_267 : decode cL_law 267 = .ok (.iload_n 3, 1) := by decide +kernel
theorem dL_law_268 : decode cL_law 268 = .ok (.iconst 1, 1) := by decide +kernel
theorem dL_law_269 : decode cL_law 269 = .ok (.iadd, 1) := by decide +kernel
theorem dL_law_270 : decode cL_law 270 = .ok (.iaload, 1) := by decide +kernel
theorem dL_law_271 : decode cL_law 271 = .ok (.aload_n 0, 1) := by decide +kernel
theorem dL_law_272 : decode cL_law 272 = .ok (.iload_n 3, 1) := by decide +kernel
theorem dL_law_273 : decode cL_law 273 = .ok (.iconst 2, 1) := by decide +kernel
theorem dL_law_274 : decode cL_law 274 = .ok (.iadd, 1) := by decide +kernel
theorem dL_law_275 : decode cL_law 275 = .ok (.iaload, 1) := by decide +kernel
theorem dL_law_276 : decode cL_law 276 = .ok (.invokevirtual 18, 3) := by decide +kernel
theorem dL_law_279 : decode cL_law 279 = .ok (.aload_n 2, 1) := by decide +kernel
theorem dL_law_280 : decode cL_law 280 = .ok (.aload_n 0, 1) := by decide +kernel
theorem dL_law_281 : decode cL_law 281 = .ok (.iload_n 3, 1) := by decide +kernel
theorem dL_law_282 : decode cL_law 282 = .ok (.iconst 1, 1) := by decide +kernel
theorem dL_law_283 : decode cL_law 283 = .ok (.iadd, 1) := by decide +kernel
theorem dL_law_284 : decode cL_law 284 = .ok (.iaload, 1) := by decide +kernel
theorem dL_law_285 : decode cL_law 285 = .ok (.aload_n 0, 1) := by decide +kernel
theorem dL_law_286 : decode cL_law 286 = .ok (.iload_n 3, 1) := by decide +kernel
theorem dL_law_287 : decode cL_law 287 = .ok (.iconst 2, 1) := by decide +kernel
theorem dL_law_288 : decode cL_law 288 = .ok (.iadd, 1) := by decide +kernel
theorem dL_law_289 : decode cL_law 289 = .ok (.iaload, 1) := by decide +kernel
theorem dL_law_290 : decode cL_law 290 = .ok (.invokevirtual 22, 3) := by decide +kernel
theorem dL_law_293 : decode cL_law 293 = .ok (.if_icmp .eq 1089, 3) := by decide +kernel
theorem dL_law_296 : decode cL_law 296 = .ok (.iconst 0, 1) := by decide +kernel
theorem dL_law_297 : decode cL_law 297 = .ok (.ireturn, 1) := by decide +kernel
theorem dL_law_298 : decode cL_law 298 = .ok (.aload_n 1, 1) := by decide +kernel
theorem dL_law_299 : decode cL_law 299 = .ok (.aload_n 0, 1) := by decide +kernel
theorem dL_law_300 : decode cL_law 300 = .ok (.iload_n 3, 1) := by decide +kernel
theorem dL_law_301 : decode cL_law 301 = .ok (.iconst 1, 1) := by decide +kernel
theorem dL_law_302 : decode cL_law 302 = .ok (.iadd, 1) := by decide +kernel
theorem dL_law_303 : decode cL_law 303 = .ok (.iaload, 1) := by decide +kernel
theorem dL_law_304 : decode cL_law 304 = .ok (.aload_n 0, 1) := by decide +kernel
theorem dL_law_305 : decode cL_law 305 = .ok (.iload_n 3, 1) := by decide +kernel
theorem dL_law_306 : decode cL_law 306 = .ok (.iconst 2, 1) := by decide +kernel
theorem dL_law_307 : decode cL_law 307 = .ok (.iadd, 1) := by decide +kernel
theorem dL_law_308 : decode cL_law 308 = .ok (.iaload, 1) := by decide +kernel
theorem dL_law_309 : decode cL_law 309 = .ok (.aload_n 0, 1) := by decide +kernel
theorem dL_law_310 : decode cL_law 310 = .ok (.iload_n 3, 1) := by decide +kernel
theorem dL_law_311 : decode cL_law 311 = .ok (.iconst 3, 1) := by decide +kernel
theorem dL_law_312 : decode cL_law 312 = .ok (.iadd, 1) := by decide +kernel
theorem dL_law_313 : decode cL_law 313 = .ok (.iaload, 1) := by decide +kernel
theorem dL_law_314 : decode cL_law 314 = .ok (.invokevirtual 23, 3) := by decide +kernel
theorem dL_law_317 : decode cL_law 317 = .ok (.aload_n 2, 1) := by decide +kernel
theorem dL_law_318 : decode cL_law 318 = .ok (.aload_n 0, 1) := by decide +kernel
theorem dL_law_319 : decode cL_law 319 = .ok (.iload_n 3, 1) := by decide +kernel
theorem dL_law_320 : decode cL_law 320 = .ok (.iconst 1, 1) := by decide +kernel
theorem dL_law_321 : decode cL_law 321 = .ok (.iadd, 1) := by decide +kernel
theorem dL_law_322 : decode cL_law 322 = .ok (.iaload, 1) := by decide +kernel
theorem dL_law_323 : decode cL_law 323 = .ok (.aload_n 0, 1) := by decide +kernel
theorem dL_law_324 : decode cL_law 324 = .ok (.iload_n 3, 1) := by decide +kernel
theorem dL_law_325 : decode cL_law 325 = .ok (.iconst 2, 1) := by decide +kernel
theorem dL_law_326 : decode cL_law 326 = .ok (.iadd, 1) := by decide +kernel
theorem dL_law_327 : decode cL_law 327 = .ok (.iaload, 1) := by decide +kernel
theorem dL_law_328 : decode cL_law 328 = .ok (.aload_n 0, 1) := by decide +kernel
theorem dL_law_329 : decode cL_law 329 = .ok (.iload_n 3, 1) := by decide +kernel
theorem dL_law_330 : decode cL_law 330 = .ok (.iconst 3, 1) := by decide +kernel
theorem dL_law_331 : decode cL_law 331 = .ok (.iadd, 1) := by decide +kernel
theorem dL_law_332 : decode cL_law 332 = .ok (.iaload, 1) := by decide +kernel
theorem dL_law_333 : decode cL_law 333 = .ok (.invokevirtual 27, 3) := by decide +kernel
theorem dL_law_336 : decode cL_law 336 = .ok (.if_icmp .eq 1046, 3) := by decide +kernel
theorem dL_law_339 : decode cL_law 339 = .ok (.iconst 0, 1) := by decide +kernel
theorem dL_law_340 : decode cL_law 340 = .ok (.ireturn, 1) := by decide +kernel
theorem dL_law_341 : decode cL_law 341 = .ok (.aload_n 1, 1) := by decide +kernel
theorem dL_law_342 : decode cL_law 342 = .ok (.aload_n 0, 1) := by decide +kernel
theorem dL_law_343 : decode cL_law 343 = .ok (.iload_n 3, 1) := by decide +kernel
theorem dL_law_344 : decode cL_law 344 = .ok (.iconst 1, 1) := by decide +kernel
theorem dL_law_345 : decode cL_law 345 = .ok (.iadd, 1) := by decide +kernel
theorem dL_law_346 : decode cL_law 346 = .ok (.iaload, 1) := by decide +kernel
theorem dL_law_347 : decode cL_law 347 = .ok (.aload_n 0, 1) := by decide +kernel
theorem dL_law_348 : decode cL_law 348 = .ok (.iload_n 3, 1) := by decide +kernel
theorem dL_law_349 : decode cL_law 349 = .ok (.iconst 2, 1) := by decide +kernel
theorem dL_law_350 : decode cL_law 350 = .ok (.iadd, 1) := by decide +kernel
theorem dL_law_351 : decode cL_law 351 = .ok (.iaload, 1) := by decide +kernel
theorem dL_law_352 : decode cL_law 352 = .ok (.ifCond .eq 7, 3) := by decide +kernel
theorem dL_law_355 : decode cL_law 355 = .ok (.iconst 1, 1) := by decide +kernel
theorem dL_law_356 : decode cL_law 356 = .ok (.goto 4, 3) := by decide +kernel
theorem dL_law_359 : decode cL_law 359 = .ok (.iconst 0, 1) := by decide +kernel
theorem dL_law_360 : decode cL_law 360 = .ok (.invokevirtual 28, 3) := by decide +kernel
theorem dL_law_363 : decode cL_law 363 = .ok (.aload_n 2, 1) := by decide +kernel
theorem dL_law_364 : decode cL_law 364 = .ok (.aload_n 0, 1) := by decide +kernel
theorem dL_law_365 : decode cL_law 365 = .ok (.iload_n 3, 1) := by decide +kernel
theorem dL_law_366 : decode cL_law 366 = .ok (.iconst 1, 1) := by decide +kernel
theorem dL_law_367 : decode cL_law 367 = .ok (.iadd, 1) := by decide +kernel
theorem dL_law_368 : decode cL_law 368 = .ok (.iaload, 1) := by decide +kernel
theorem dL_law_369 : decode cL_law 369 = .ok (.aload_n 0, 1) := by decide +kernel
theorem dL_law_370 : decode cL_law 370 = .ok (.iload_n 3, 1) := by decide +kernel
theorem dL_law_371 : decode cL_law 371 = .ok (.iconst 2, 1) := by decide +kernel
theorem dL_law_372 : decode cL_law 372 = .ok (.iadd, 1) := by decide +kernel
theorem dL_law_373 : decode cL_law 373 = .ok (.iaload, 1) := by decide +kernel
theorem dL_law_374 : decode cL_law 374 = .ok (.ifCond .eq 7, 3) := by decide +kernel
theorem dL_law_377 : decode cL_law 377 = .ok (.iconst 1, 1) := by decide +kernel
theorem dL_law_378 : decode cL_law 378 = .ok (.goto 4, 3) := by decide +kernel
theorem dL_law_381 : decode cL_law 381 = .ok (.iconst 0, 1) := by decide +kernel
theorem dL_law_382 : decode cL_law 382 = .ok (.invokevirtual 32, 3) := by decide +kernel
theorem dL_law_385 : decode cL_law 385 = .ok (.if_icmp .eq 997, 3) := by decide +kernel
theorem dL_law_388 : decode cL_law 388 = .ok (.iconst 0, 1) := by decide +kernel
theorem dL_law_389 : decode cL_law 389 = .ok (.ireturn, 1) := by decide +kernel
theorem dL_law_390 : decode cL_law 390 = .ok (.aload_n 1, 1) := by decide +kernel
theorem dL_law_391 : decode cL_law 391 = .ok (.aload_n 0, 1) := by decide +kernel
theorem dL_law_392 : decode cL_law 392 = .ok (.iload_n 3, 1) := by decide +kernel
theorem dL_law_393 : decode cL_law 393 = .ok (.iconst 1, 1) := by decide +kernel
theorem dL_law_394 : decode cL_law 394 = .ok (.iadd, 1) := by decide +kernel
theorem dL_law_395 : decode cL_law 395 = .ok (.iaload, 1) := by decide +kernel
theorem dL_law_396 : decode cL_law 396 = .ok (.aload_n 0, 1) := by decide +kernel
theorem dL_law_397 : decode cL_law 397 = .ok (.iload_n 3, 1) := by decide +kernel
theorem dL_law_398 : decode cL_law 398 = .ok (.iconst 2, 1) := by decide +kernel
theorem dL_law_399 : decode cL_law 399 = .ok (.iadd, 1) := by decide +kernel
theorem dL_law_400 : decode cL_law 400 = .ok (.iaload, 1) := by decide +kernel
theorem dL_law_401 : decode cL_law 401 = .ok (.invokevirtual 33, 3) := by decide +kernel
theorem dL_law_404 : decode cL_law 404 = .ok (.aload_n 2, 1) := by decide +kernel
theorem dL_law_405 : decode cL_law 405 = .ok (.aload_n 0, 1) := by decide +kernel
theorem dL_law_406 : decode cL_law 406 = .ok (.iload_n 3, 1) := by decide +kernel
theorem dL_law_407 : decode cL_law 407 = .ok (.iconst 1, 1) := by decide +kernel
theorem dL_law_408 : decode cL_law 408 = .ok (.iadd, 1) := by decide +kernel
theorem dL_law_409 : decode cL_law 409 = .ok (.iaload, 1) := by decide +kernel
theorem dL_law_410 : decode cL_law 410 = .ok (.aload_n 0, 1) := by decide +kernel
theorem dL_law_411 : decode cL_law 411 = .ok (.iload_n 3, 1) := by decide +kernel
theorem dL_law_412 : decode cL_law 412 = .ok (.iconst 2, 1) := by decide +kernel
theorem dL_law_413 : decode cL_law 413 = .ok (.iadd, 1) := by decide +kernel
theorem dL_law_414 : decode cL_law 414 = .ok (.iaload, 1) := by decide +kernel
theorem dL_law_415 : decode cL_law 415 = .ok (.invokevirtual 36, 3) := by decide +kernel
theorem dL_law_418 : decode cL_law 418 = .ok (.if_icmp .eq 964, 3) := by decide +kernel
theorem dL_law_421 : decode cL_law 421 = .ok (.iconst 0, 1) := by decide +kernel
theorem dL_law_422 : decode cL_law 422 = .ok (.ireturn, 1) := by decide +kernel
theorem dL_law_423 : decode cL_law 423 = .ok (.aload_n 1, 1) := by decide +kernel
theorem dL_law_424 : decode cL_law 424 = .ok (.aload_n 0, 1) := by decide +kernel
theorem dL_law_425 : decode cL_law 425 = .ok (.iload_n 3, 1) := by decide +kernel
theorem dL_law_426 : decode cL_law 426 = .ok (.iconst 1, 1) := by decide +kernel
theorem dL_law_427 : decode cL_law 427 = .ok (.iadd, 1) := by decide +kernel
theorem dL_law_428 : decode cL_law 428 = .ok (.iaload, 1) := by decide +kernel
theorem dL_law_429 : decode cL_law 429 = .ok (.aload_n 0, 1) := by decide +kernel
theorem dL_law_430 : decode cL_law 430 = .ok (.iload_n 3, 1) := by decide +kernel
theorem dL_law_431 : decode cL_law 431 = .ok (.iconst 2, 1) := by decide +kernel
theorem dL_law_432 : decode cL_law 432 = .ok (.iadd, 1) := by decide +kernel
theorem dL_law_433 : decode cL_law 433 = .ok (.iaload, 1) := by decide +kernel
theorem dL_law_434 : decode cL_law 434 = .ok (.invokevirtual 37, 3) := by decide +kernel
theorem dL_law_437 : decode cL_law 437 = .ok (.aload_n 2, 1) := by decide +kernel
theorem dL_law_438 : decode cL_law 438 = .ok (.aload_n 0, 1) := by decide +kernel
theorem dL_law_439 : decode cL_law 439 = .ok (.iload_n 3, 1) := by decide +kernel
theorem dL_law_440 : decode cL_law 440 = .ok (.iconst 1, 1) := by decide +kernel
theorem dL_law_441 : decode cL_law 441 = .ok (.iadd, 1) := by decide +kernel
theorem dL_law_442 : decode cL_law 442 = .ok (.iaload, 1) := by decide +kernel
theorem dL_law_443 : decode cL_law 443 = .ok (.aload_n 0, 1) := by decide +kernel
theorem dL_law_444 : decode cL_law 444 = .ok (.iload_n 3, 1) := by decide +kernel
theorem dL_law_445 : decode cL_law 445 = .ok (.iconst 2, 1) := by decide +kernel
theorem dL_law_446 : decode cL_law 446 = .ok (.iadd, 1) := by decide +kernel
theorem dL_law_447 : decode cL_law 447 = .ok (.iaload, 1) := by decide +kernel
theorem dL_law_448 : decode cL_law 448 = .ok (.invokevirtual 40, 3) := by decide +kernel
theorem dL_law_451 : decode cL_law 451 = .ok (.if_icmp .eq 931, 3) := by decide +kernel
theorem dL_law_454 : decode cL_law 454 = .ok (.iconst 0, 1) := by decide +kernel
theorem dL_law_455 : decode cL_law 455 = .ok (.ireturn, 1) := by decide +kernel
theorem dL_law_456 : decode cL_law 456 = .ok (.aload_n 1, 1) := by decide +kernel
theorem dL_law_457 : decode cL_law 457 = .ok (.aload_n 0, 1) := by decide +kernel
theorem dL_law_458 : decode cL_law 458 = .ok (.iload_n 3, 1) := by decide +kernel
theorem dL_law_459 : decode cL_law 459 = .ok (.iconst 1, 1) := by decide +kernel
theorem dL_law_460 : decode cL_law 460 = .ok (.iadd, 1) := by decide +kernel
theorem dL_law_461 : decode cL_law 461 = .ok (.iaload, 1) := by decide +kernel
theorem dL_law_462 : decode cL_law 462 = .ok (.invokevirtual 41, 3) := by decide +kernel
theorem dL_law_465 : decode cL_law 465 = .ok (.aload_n 2, 1) := by decide +kernel
theorem dL_law_466 : decode cL_law 466 = .ok (.aload_n 0, 1) := by decide +kernel
theorem dL_law_467 : decode cL_law 467 = .ok (.iload_n 3, 1) := by decide +kernel
theorem dL_law_468 : decode cL_law 468 = .ok (.iconst 1, 1) := by decide +kernel
theorem dL_law_469 : decode cL_law 469 = .ok (.iadd, 1) := by decide +kernel
theorem dL_law_470 : decode cL_law 470 = .ok (.iaload, 1) := by decide +kernel
theorem dL_law_471 : decode cL_law 471 = .ok (.invokevirtual 45, 3) := by decide +kernel
theorem dL_law_474 : decode cL_law 474 = .ok (.if_icmp .eq 908, 3) := by decide +kernel
theorem dL_law_477 : decode cL_law 477 = .ok (.iconst 0, 1) := by decide +kernel
theorem dL_law_478 : decode cL_law 478 = .ok (.ireturn, 1) := by decide +kernel
theorem dL_law_479 : decode cL_law 479 = .ok (.aload_n 1, 1) := by decide +kernel
theorem dL_law_480 : decode cL_law 480 = .ok (.aload_n 0, 1) := by decide +kernel
theorem dL_law_481 : decode cL_law 481 = .ok (.iload_n 3, 1) := by decide +kernel
theorem dL_law_482 : decode cL_law 482 = .ok (.iconst 1, 1) := by decide +kernel
theorem dL_law_483 : decode cL_law 483 = .ok (.iadd, 1) := by decide +kernel
theorem dL_law_484 : decode cL_law 484 = .ok (.iaload, 1) := by decide +kernel
theorem dL_law_485 : decode cL_law 485 = .ok (.invokevirtual 46, 3) := by decide +kernel
theorem dL_law_488 : decode cL_law 488 = .ok (.aload_n 2, 1) := by decide +kernel
theorem dL_law_489 : decode cL_law 489 = .ok (.aload_n 0, 1) := by decide +kernel
theorem dL_law_490 : decode cL_law 490 = .ok (.iload_n 3, 1) := by decide +kernel
theorem dL_law_491 : decode cL_law 491 = .ok (.iconst 1, 1) := by decide +kernel
theorem dL_law_492 : decode cL_law 492 = .ok (.iadd, 1) := by decide +kernel
theorem dL_law_493 : decode cL_law 493 = .ok (.iaload, 1) := by decide +kernel
theorem dL_law_494 : decode cL_law 494 = .ok (.invokevirtual 49, 3) := by decide +kernel
theorem dL_law_497 : decode cL_law 497 = .ok (.if_icmp .eq 885, 3) := by decide +kernel
theorem dL_law_500 : decode cL_law 500 = .ok (.iconst 0, 1) := by decide +kernel
theorem dL_law_501 : decode cL_law 501 = .ok (.ireturn, 1) := by decide +kernel
theorem dL_law_502 : decode cL_law 502 = .ok (.aload_n 1, 1) := by decide +kernel
theorem dL_law_503 : decode cL_law 503 = .ok (.aload_n 0, 1) := by decide +kernel
theorem dL_law_504 : decode cL_law 504 = .ok (.iload_n 3, 1) := by decide +kernel
theorem dL_law_505 : decode cL_law 505 = .ok (.iconst 1, 1) := by decide +kernel
theorem dL_law_506 : decode cL_law 506 = .ok (.iadd, 1) := by decide +kernel
theorem dL_law_507 : decode cL_law 507 = .ok (.iaload, 1) := by decide +kernel
theorem dL_law_508 : decode cL_law 508 = .ok (.aload_n 0, 1) := by decide +kernel
theorem dL_law_509 : decode cL_law 509 = .ok (.iload_n 3, 1) := by decide +kernel
theorem dL_law_510 : decode cL_law 510 = .ok (.iconst 2, 1) := by decide +kernel
theorem dL_law_511 : decode cL_law 511 = .ok (.iadd, 1) := by decide +kernel
theorem dL_law_512 : decode cL_law 512 = .ok (.iaload, 1) := by decide +kernel
theorem dL_law_513 : decode cL_law 513 = .ok (.invokevirtual 50, 3) := by decide +kernel
theorem dL_law_516 : decode cL_law 516 = .ok (.aload_n 2, 1) := by decide +kernel
theorem dL_law_517 : decode cL_law 517 = .ok (.aload_n 0, 1) := by decide +kernel
theorem dL_law_518 : decode cL_law 518 = .ok (.iload_n 3, 1) := by decide +kernel
theorem dL_law_519 : decode cL_law 519 = .ok (.iconst 1, 1) := by decide +kernel
theorem dL_law_520 : decode cL_law 520 = .ok (.iadd, 1) := by decide +kernel
theorem dL_law_521 : decode cL_law 521 = .ok (.iaload, 1) := by decide +kernel
theorem dL_law_522 : decode cL_law 522 = .ok (.aload_n 0, 1) := by decide +kernel
theorem dL_law_523 : decode cL_law 523 = .ok (.iload_n 3, 1) := by decide +kernel
theorem dL_law_524 : decode cL_law 524 = .ok (.iconst 2, 1) := by decide +kernel
theorem dL_law_525 : decode cL_law 525 = .ok (.iadd, 1) := by decide +kernel
theorem dL_law_526 : decode cL_law 526 = .ok (.iaload, 1) := by decide +kernel
theorem dL_law_527 : decode cL_law 527 = .ok (.invokevirtual 53, 3) := by decide +kernel
theorem dL_law_530 : decode cL_law 530 = .ok (.if_icmp .eq 852, 3) := by decide +kernel
theorem dL_law_533 : decode cL_law 533 = .ok (.iconst 0, 1) := by decide +kernel
theorem dL_law_534 : decode cL_law 534 = .ok (.ireturn, 1) := by decide +kernel
theorem dL_law_535 : decode cL_law 535 = .ok (.aload_n 1, 1) := by decide +kernel
theorem dL_law_536 : decode cL_law 536 = .ok (.invokevirtual 54, 3) := by decide +kernel
theorem dL_law_539 : decode cL_law 539 = .ok (.aload_n 2, 1) := by decide +kernel
theorem dL_law_540 : decode cL_law 540 = .ok (.invokevirtual 58, 3) := by decide +kernel
theorem dL_law_543 : decode cL_law 543 = .ok (.if_icmp .eq 839, 3) := by decide +kernel
theorem dL_law_546 : decode cL_law 546 = .ok (.iconst 0, 1) := by decide +kernel
theorem dL_law_547 : decode cL_law 547 = .ok (.ireturn, 1) := by decide +kernel
theorem dL_law_548 : decode cL_law 548 = .ok (.aload_n 1, 1) := by decide +kernel
theorem dL_law_549 : decode cL_law 549 = .ok (.invokevirtual 59, 3) := by decide +kernel
theorem dL_law_552 : decode cL_law 552 = .ok (.aload_n 2, 1) := by decide +kernel
theorem dL_law_553 : decode cL_law 553 = .ok (.invokevirtual 62, 3) := by decide +kernel
theorem dL_law_556 : decode cL_law 556 = .ok (.if_icmp .eq 826, 3) := by decide +kernel
theorem dL_law_559 : decode cL_law 559 = .ok (.iconst 0, 1) := by decide +kernel
theorem dL_law_560 : decode cL_law 560 = .ok (.ireturn, 1) := by decide +kernel
theorem dL_law_561 : decode cL_law 561 = .ok (.aload_n 1, 1) := by decide +kernel
theorem dL_law_562 : decode cL_law 562 = .ok (.invokevirtual 63, 3) := by decide +kernel
theorem dL_law_565 : decode cL_law 565 = .ok (.aload_n 2, 1) := by decide +kernel
theorem dL_law_566 : decode cL_law 566 = .ok (.invokevirtual 66, 3) := by decide +kernel
theorem dL_law_569 : decode cL_law 569 = .ok (.if_icmp .eq 813, 3) := by decide +kernel
theorem dL_law_572 : decode cL_law 572 = .ok (.iconst 0, 1) := by decide +kernel
theorem dL_law_573 : decode cL_law 573 = .ok (.ireturn, 1) := by decide +kernel
theorem dL_law_574 : decode cL_law 574 = .ok (.aload_n 1, 1) := by decide +kernel
theorem dL_law_575 : decode cL_law 575 = .ok (.invokevirtual 67, 3) := by decide +kernel
theorem dL_law_578 : decode cL_law 578 = .ok (.aload_n 2, 1) := by decide +kernel
theorem dL_law_579 : decode cL_law 579 = .ok (.invokevirtual 70, 3) := by decide +kernel
theorem dL_law_582 : decode cL_law 582 = .ok (.if_icmp .eq 800, 3) := by decide +kernel
theorem dL_law_585 : decode cL_law 585 = .ok (.iconst 0, 1) := by decide +kernel
theorem dL_law_586 : decode cL_law 586 = .ok (.ireturn, 1) := by decide +kernel
theorem dL_law_587 : decode cL_law 587 = .ok (.aload_n 1, 1) := by decide +kernel
theorem dL_law_588 : decode cL_law 588 = .ok (.aload_n 0, 1) := by decide +kernel
theorem dL_law_589 : decode cL_law 589 = .ok (.iload_n 3, 1) := by decide +kernel
theorem dL_law_590 : decode cL_law 590 = .ok (.iconst 1, 1) := by decide +kernel
theorem dL_law_591 : decode cL_law 591 = .ok (.iadd, 1) := by decide +kernel
theorem dL_law_592 : decode cL_law 592 = .ok (.iaload, 1) := by decide +kernel
theorem dL_law_593 : decode cL_law 593 = .ok (.invokevirtual 71, 3) := by decide +kernel
theorem dL_law_596 : decode cL_law 596 = .ok (.aload_n 2, 1) := by decide +kernel
theorem dL_law_597 : decode cL_law 597 = .ok (.aload_n 0, 1) := by decide +kernel
theorem dL_law_598 : decode cL_law 598 = .ok (.iload_n 3, 1) := by decide +kernel
theorem dL_law_599 : decode cL_law 599 = .ok (.iconst 1, 1) := by decide +kernel
theorem dL_law_600 : decode cL_law 600 = .ok (.iadd, 1) := by decide +kernel
theorem dL_law_601 : decode cL_law 601 = .ok (.iaload, 1) := by decide +kernel
theorem dL_law_602 : decode cL_law 602 = .ok (.invokevirtual 74, 3) := by decide +kernel
theorem dL_law_605 : decode cL_law 605 = .ok (.if_icmp .eq 777, 3) := by decide +kernel
theorem dL_law_608 : decode cL_law 608 = .ok (.iconst 0, 1) := by decide +kernel
theorem dL_law_609 : decode cL_law 609 = .ok (.ireturn, 1) := by decide +kernel
theorem dL_law_610 : decode cL_law 610 = .ok (.aload_n 1, 1) := by decide +kernel
theorem dL_law_611 : decode cL_law 611 = .ok (.invokevirtual 75, 3) := by decide +kernel
theorem dL_law_614 : decode cL_law 614 = .ok (.aload_n 2, 1) := by decide +kernel
theorem dL_law_615 : decode cL_law 615 = .ok (.invokevirtual 78, 3) := by decide +kernel
theorem dL_law_618 : decode cL_law 618 = .ok (.if_icmp .eq 764, 3) := by decide +kernel
theorem dL_law_621 : decode cL_law 621 = .ok (.iconst 0, 1) := by decide +kernel
theorem dL_law_622 : decode cL_law 622 = .ok (.ireturn, 1) := by decide +kernel
theorem dL_law_623 : decode cL_law 623 = .ok (.aload_n 1, 1) := by decide +kernel
theorem dL_law_624 : decode cL_law 624 = .ok (.aload_n 0, 1) := by decide +kernel
theorem dL_law_625 : decode cL_law 625 = .ok (.iload_n 3, 1) := by decide +kernel
theorem dL_law_626 : decode cL_law 626 = .ok (.iconst 1, 1) := by decide +kernel
theorem dL_law_627 : decode cL_law 627 = .ok (.iadd, 1) := by decide +kernel
theorem dL_law_628 : decode cL_law 628 = .ok (.iaload, 1) := by decide +kernel
theorem dL_law_629 : decode cL_law 629 = .ok (.invokevirtual 79, 3) := by decide +kernel
theorem dL_law_632 : decode cL_law 632 = .ok (.aload_n 2, 1) := by decide +kernel
theorem dL_law_633 : decode cL_law 633 = .ok (.aload_n 0, 1) := by decide +kernel
theorem dL_law_634 : decode cL_law 634 = .ok (.iload_n 3, 1) := by decide +kernel
theorem dL_law_635 : decode cL_law 635 = .ok (.iconst 1, 1) := by decide +kernel
theorem dL_law_636 : decode cL_law 636 = .ok (.iadd, 1) := by decide +kernel
theorem dL_law_637 : decode cL_law 637 = .ok (.iaload, 1) := by decide +kernel
theorem dL_law_638 : decode cL_law 638 = .ok (.invokevirtual 82, 3) := by decide +kernel
theorem dL_law_641 : decode cL_law 641 = .ok (.if_icmp .eq 741, 3) := by decide +kernel
theorem dL_law_644 : decode cL_law 644 = .ok (.iconst 0, 1) := by decide +kernel
theorem dL_law_645 : decode cL_law 645 = .ok (.ireturn, 1) := by decide +kernel
theorem dL_law_646 : decode cL_law 646 = .ok (.aload_n 1, 1) := by decide +kernel
theorem dL_law_647 : decode cL_law 647 = .ok (.invokevirtual 83, 3) := by decide +kernel
theorem dL_law_650 : decode cL_law 650 = .ok (.aload_n 2, 1) := by decide +kernel
theorem dL_law_651 : decode cL_law 651 = .ok (.invokevirtual 86, 3) := by decide +kernel
theorem dL_law_654 : decode cL_law 654 = .ok (.if_icmp .eq 728, 3) := by decide +kernel
theorem dL_law_657 : decode cL_law 657 = .ok (.iconst 0, 1) := by decide +kernel
theorem dL_law_658 : decode cL_law 658 = .ok (.ireturn, 1) := by decide +kernel
theorem dL_law_659 : decode cL_law 659 = .ok (.aload_n 1, 1) := by decide +kernel
theorem dL_law_660 : decode cL_law 660 = .ok (.aload_n 0, 1) := by decide +kernel
theorem dL_law_661 : decode cL_law 661 = .ok (.iload_n 3, 1) := by decide +kernel
theorem dL_law_662 : decode cL_law 662 = .ok (.iconst 1, 1) := by decide +kernel
theorem dL_law_663 : decode cL_law 663 = .ok (.iadd, 1) := by decide +kernel
theorem dL_law_664 : decode cL_law 664 = .ok (.iaload, 1) := by decide +kernel
theorem dL_law_665 : decode cL_law 665 = .ok (.invokevirtual 87, 3) := by decide +kernel
theorem dL_law_668 : decode cL_law 668 = .ok (.aload_n 2, 1) := by decide +kernel
theorem dL_law_669 : decode cL_law 669 = .ok (.aload_n 0, 1) := by decide +kernel
theorem dL_law_670 : decode cL_law 670 = .ok (.iload_n 3, 1) := by decide +kernel
theorem dL_law_671 : decode cL_law 671 = .ok (.iconst 1, 1) := by decide +kernel
theorem dL_law_672 : decode cL_law 672 = .ok (.iadd, 1) := by decide +kernel
theorem dL_law_673 : decode cL_law 673 = .ok (.iaload, 1) := by decide +kernel
theorem dL_law_674 : decode cL_law 674 = .ok (.invokevirtual 90, 3) := by decide +kernel
theorem dL_law_677 : decode cL_law 677 = .ok (.if_icmp .eq 705, 3) := by decide +kernel
theorem dL_law_680 : decode cL_law 680 = .ok (.iconst 0, 1) := by decide +kernel
theorem dL_law_681 : decode cL_law 681 = .ok (.ireturn, 1) := by decide +kernel
theorem dL_law_682 : decode cL_law 682 = .ok (.aload_n 1, 1) := by decide +kernel
theorem dL_law_683 : decode cL_law 683 = .ok (.aload_n 0, 1) := by decide +kernel
theorem dL_law_684 : decode cL_law 684 = .ok (.iload_n 3, 1) := by decide +kernel
theorem dL_law_685 : decode cL_law 685 = .ok (.iconst 1, 1) := by decide +kernel
theorem dL_law_686 : decode cL_law 686 = .ok (.iadd, 1) := by decide +kernel
theorem dL_law_687 : decode cL_law 687 = .ok (.iaload, 1) := by decide +kernel
theorem dL_law_688 : decode cL_law 688 = .ok (.invokevirtual 91, 3) := by decide +kernel
theorem dL_law_691 : decode cL_law 691 = .ok (.aload_n 2, 1) := by decide +kernel
theorem dL_law_692 : decode cL_law 692 = .ok (.aload_n 0, 1) := by decide +kernel
theorem dL_law_693 : decode cL_law 693 = .ok (.iload_n 3, 1) := by decide +kernel
theorem dL_law_694 : decode cL_law 694 = .ok (.iconst 1, 1) := by decide +kernel
theorem dL_law_695 : decode cL_law 695 = .ok (.iadd, 1) := by decide +kernel
theorem dL_law_696 : decode cL_law 696 = .ok (.iaload, 1) := by decide +kernel
theorem dL_law_697 : decode cL_law 697 = .ok (.invokevirtual 94, 3) := by decide +kernel
theorem dL_law_700 : decode cL_law 700 = .ok (.if_icmp .eq 682, 3) := by decide +kernel
theorem dL_law_703 : decode cL_law 703 = .ok (.iconst 0, 1) := by decide +kernel
theorem dL_law_704 : decode cL_law 704 = .ok (.ireturn, 1) := by decide +kernel
theorem dL_law_705 : decode cL_law 705 = .ok (.aload_n 1, 1) := by decide +kernel
theorem dL_law_706 : decode cL_law 706 = .ok (.aload_n 0, 1) := by decide +kernel
theorem dL_law_707 : decode cL_law 707 = .ok (.iload_n 3, 1) := by decide +kernel
theorem dL_law_708 : decode cL_law 708 = .ok (.iconst 1, 1) := by decide +kernel
theorem dL_law_709 : decode cL_law 709 = .ok (.iadd, 1) := by decide +kernel
theorem dL_law_710 : decode cL_law 710 = .ok (.iaload, 1) := by decide +kernel
theorem dL_law_711 : decode cL_law 711 = .ok (.invokevirtual 95, 3) := by decide +kernel
theorem dL_law_714 : decode cL_law 714 = .ok (.aload_n 2, 1) := by decide +kernel
theorem dL_law_715 : decode cL_law 715 = .ok (.aload_n 0, 1) := by decide +kernel
theorem dL_law_716 : decode cL_law 716 = .ok (.iload_n 3, 1) := by decide +kernel
theorem dL_law_717 : decode cL_law 717 = .ok (.iconst 1, 1) := by decide +kernel
theorem dL_law_718 : decode cL_law 718 = .ok (.iadd, 1) := by decide +kernel
theorem dL_law_719 : decode cL_law 719 = .ok (.iaload, 1) := by decide +kernel
theorem dL_law_720 : decode cL_law 720 = .ok (.invokevirtual 98, 3) := by decide +kernel
theorem dL_law_723 : decode cL_law 723 = .ok (.if_icmp .eq 659, 3) := by decide +kernel
theorem dL_law_726 : decode cL_law 726 = .ok (.iconst 0, 1) := by decide +kernel
theorem dL_law_727 : decode cL_law 727 = .ok (.ireturn, 1) := by decide +kernel
theorem dL_law_728 : decode cL_law 728 = .ok (.aload_n 1, 1) := by decide +kernel
theorem dL_law_729 : decode cL_law 729 = .ok (.aload_n 0, 1) := by decide +kernel
theorem dL_law_730 : decode cL_law 730 = .ok (.iload_n 3, 1) := by decide +kernel
theorem dL_law_731 : decode cL_law 731 = .ok (.iconst 1, 1) := by decide +kernel
theorem dL_law_732 : decode cL_law 732 = .ok (.iadd, 1) := by decide +kernel
theorem dL_law_733 : decode cL_law 733 = .ok (.iaload, 1) := by decide +kernel
theorem dL_law_734 : decode cL_law 734 = .ok (.aload_n 0, 1) := by decide +kernel
theorem dL_law_735 : decode cL_law 735 = .ok (.iload_n 3, 1) := by decide +kernel
theorem dL_law_736 : decode cL_law 736 = .ok (.iconst 2, 1) := by decide +kernel
theorem dL_law_737 : decode cL_law 737 = .ok (.iadd, 1) := by decide +kernel
theorem dL_law_738 : decode cL_law 738 = .ok (.iaload, 1) := by decide +kernel
theorem dL_law_739 : decode cL_law 739 = .ok (.invokevirtual 99, 3) := by decide +kernel
theorem dL_law_742 : decode cL_law 742 = .ok (.aload_n 2, 1) := by decide +kernel
theorem dL_law_743 : decode cL_law 743 = .ok (.aload_n 0, 1) := by decide +kernel
theorem dL_law_744 : decode cL_law 744 = .ok (.iload_n 3, 1) := by decide +kernel
theorem dL_law_745 : decode cL_law 745 = .ok (.iconst 1, 1) := by decide +kernel
theorem dL_law_746 : decode cL_law 746 = .ok (.iadd, 1) := by decide +kernel
theorem dL_law_747 : decode cL_law 747 = .ok (.iaload, 1) := by decide +kernel
theorem dL_law_748 : decode cL_law 748 = .ok (.aload_n 0, 1) := by decide +kernel
theorem dL_law_749 : decode cL_law 749 = .ok (.iload_n 3, 1) := by decide +kernel
theorem dL_law_750 : decode cL_law 750 = .ok (.iconst 2, 1) := by decide +kernel
theorem dL_law_751 : decode cL_law 751 = .ok (.iadd, 1) := by decide +kernel
theorem dL_law_752 : decode cL_law 752 = .ok (.iaload, 1) := by decide +kernel
theorem dL_law_753 : decode cL_law 753 = .ok (.invokevirtual 102, 3) := by decide +kernel
theorem dL_law_756 : decode cL_law 756 = .ok (.if_icmp .eq 626, 3) := by decide +kernel
theorem dL_law_759 : decode cL_law 759 = .ok (.iconst 0, 1) := by decide +kernel
theorem dL_law_760 : decode cL_law 760 = .ok (.ireturn, 1) := by decide +kernel
theorem dL_law_761 : decode cL_law 761 = .ok (.aload_n 1, 1) := by decide +kernel
theorem dL_law_762 : decode cL_law 762 = .ok (.aload_n 0, 1) := by decide +kernel
theorem dL_law_763 : decode cL_law 763 = .ok (.iload_n 3, 1) := by decide +kernel
theorem dL_law_764 : decode cL_law 764 = .ok (.iconst 1, 1) := by decide +kernel
theorem dL_law_765 : decode cL_law 765 = .ok (.iadd, 1) := by decide +kernel
theorem dL_law_766 : decode cL_law 766 = .ok (.iaload, 1) := by decide +kernel
theorem dL_law_767 : decode cL_law 767 = .ok (.invokevirtual 103, 3) := by decide +kernel
theorem dL_law_770 : decode cL_law 770 = .ok (.aload_n 2, 1) := by decide +kernel
theorem dL_law_771 : decode cL_law 771 = .ok (.aload_n 0, 1) := by decide +kernel
theorem dL_law_772 : decode cL_law 772 = .ok (.iload_n 3, 1) := by decide +kernel
theorem dL_law_773 : decode cL_law 773 = .ok (.iconst 1, 1) := by decide +kernel
theorem dL_law_774 : decode cL_law 774 = .ok (.iadd, 1) := by decide +kernel
theorem dL_law_775 : decode cL_law 775 = .ok (.iaload, 1) := by decide +kernel
theorem dL_law_776 : decode cL_law 776 = .ok (.invokevirtual 106, 3) := by decide +kernel
theorem dL_law_779 : decode cL_law 779 = .ok (.if_icmp .eq 603, 3) := by decide +kernel
theorem dL_law_782 : decode cL_law 782 = .ok (.iconst 0, 1) := by decide +kernel
theorem dL_law_783 : decode cL_law 783 = .ok (.ireturn, 1) := by decide +kernel
theorem dL_law_784 : decode cL_law 784 = .ok (.aload_n 1, 1) := by decide +kernel
theorem dL_law_785 : decode cL_law 785 = .ok (.aload_n 0, 1) := by decide +kernel
theorem dL_law_786 : decode cL_law 786 = .ok (.iload_n 3, 1) := by decide +kernel
theorem dL_law_787 : decode cL_law 787 = .ok (.iconst 1, 1) := by decide +kernel
theorem dL_law_788 : decode cL_law 788 = .ok (.iadd, 1) := by decide +kernel
theorem dL_law_789 : decode cL_law 789 = .ok (.iaload, 1) := by decide +kernel
theorem dL_law_790 : decode cL_law 790 = .ok (.aload_n 0, 1) := by decide +kernel
theorem dL_law_791 : decode cL_law 791 = .ok (.iload_n 3, 1) := by decide +kernel
theorem dL_law_792 : decode cL_law 792 = .ok (.iconst 2, 1) := by decide +kernel
theorem dL_law_793 : decode cL_law 793 = .ok (.iadd, 1) := by decide +kernel
theorem dL_law_794 : decode cL_law 794 = .ok (.iaload, 1) := by decide +kernel
theorem dL_law_795 : decode cL_law 795 = .ok (.aload_n 0, 1) := by decide +kernel
theorem dL_law_796 : decode cL_law 796 = .ok (.iload_n 3, 1) := by decide +kernel
theorem dL_law_797 : decode cL_law 797 = .ok (.iconst 3, 1) := by decide +kernel
theorem dL_law_798 : decode cL_law 798 = .ok (.iadd, 1) := by decide +kernel
theorem dL_law_799 : decode cL_law 799 = .ok (.iaload, 1) := by decide +kernel
theorem dL_law_800 : decode cL_law 800 = .ok (.invokevirtual 107, 3) := by decide +kernel
theorem dL_law_803 : decode cL_law 803 = .ok (.aload_n 2, 1) := by decide +kernel
theorem dL_law_804 : decode cL_law 804 = .ok (.aload_n 0, 1) := by decide +kernel
theorem dL_law_805 : decode cL_law 805 = .ok (.iload_n 3, 1) := by decide +kernel
theorem dL_law_806 : decode cL_law 806 = .ok (.iconst 1, 1) := by decide +kernel
theorem dL_law_807 : decode cL_law 807 = .ok (.iadd, 1) := by decide +kernel
theorem dL_law_808 : decode cL_law 808 = .ok (.iaload, 1) := by decide +kernel
theorem dL_law_809 : decode cL_law 809 = .ok (.aload_n 0, 1) := by decide +kernel
theorem dL_law_810 : decode cL_law 810 = .ok (.iload_n 3, 1) := by decide +kernel
theorem dL_law_811 : decode cL_law 811 = .ok (.iconst 2, 1) := by decide +kernel
theorem dL_law_812 : decode cL_law 812 = .ok (.iadd, 1) := by decide +kernel
theorem dL_law_813 : decode cL_law 813 = .ok (.iaload, 1) := by decide +kernel
theorem dL_law_814 : decode cL_law 814 = .ok (.aload_n 0, 1) := by decide +kernel
theorem dL_law_815 : decode cL_law 815 = .ok (.iload_n 3, 1) := by decide +kernel
theorem dL_law_816 : decode cL_law 816 = .ok (.iconst 3, 1) := by decide +kernel
theorem dL_law_817 : decode cL_law 817 = .ok (.iadd, 1) := by decide +kernel
theorem dL_law_818 : decode cL_law 818 = .ok (.iaload, 1) := by decide +kernel
theorem dL_law_819 : decode cL_law 819 = .ok (.invokevirtual 110, 3) := by decide +kernel
theorem dL_law_822 : decode cL_law 822 = .ok (.if_icmp .eq 560, 3) := by decide +kernel
theorem dL_law_825 : decode cL_law 825 = .ok (.iconst 0, 1) := by decide +kernel
theorem dL_law_826 : decode cL_law 826 = .ok (.ireturn, 1) := by decide +kernel
theorem dL_law_827 : decode cL_law 827 = .ok (.aload_n 1, 1) := by decide +kernel
theorem dL_law_828 : decode cL_law 828 = .ok (.aload_n 0, 1) := by decide +kernel
theorem dL_law_829 : decode cL_law 829 = .ok (.iload_n 3, 1) := by decide +kernel
theorem dL_law_830 : decode cL_law 830 = .ok (.iconst 1, 1) := by decide +kernel
theorem dL_law_831 : decode cL_law 831 = .ok (.iadd, 1) := by decide +kernel
theorem dL_law_832 : decode cL_law 832 = .ok (.iaload, 1) := by decide +kernel
theorem dL_law_833 : decode cL_law 833 = .ok (.aload_n 0, 1) := by decide +kernel
theorem dL_law_834 : decode cL_law 834 = .ok (.iload_n 3, 1) := by decide +kernel
theorem dL_law_835 : decode cL_law 835 = .ok (.iconst 2, 1) := by decide +kernel
theorem dL_law_836 : decode cL_law 836 = .ok (.iadd, 1) := by decide +kernel
theorem dL_law_837 : decode cL_law 837 = .ok (.iaload, 1) := by decide +kernel
theorem dL_law_838 : decode cL_law 838 = .ok (.invokevirtual 111, 3) := by decide +kernel
theorem dL_law_841 : decode cL_law 841 = .ok (.aload_n 2, 1) := by decide +kernel
theorem dL_law_842 : decode cL_law 842 = .ok (.aload_n 0, 1) := by decide +kernel
theorem dL_law_843 : decode cL_law 843 = .ok (.iload_n 3, 1) := by decide +kernel
theorem dL_law_844 : decode cL_law 844 = .ok (.iconst 1, 1) := by decide +kernel
theorem dL_law_845 : decode cL_law 845 = .ok (.iadd, 1) := by decide +kernel
theorem dL_law_846 : decode cL_law 846 = .ok (.iaload, 1) := by decide +kernel
theorem dL_law_847 : decode cL_law 847 = .ok (.aload_n 0, 1) := by decide +kernel
theorem dL_law_848 : decode cL_law 848 = .ok (.iload_n 3, 1) := by decide +kernel
theorem dL_law_849 : decode cL_law 849 = .ok (.iconst 2, 1) := by decide +kernel
theorem dL_law_850 : decode cL_law 850 = .ok (.iadd, 1) := by decide +kernel
theorem dL_law_851 : decode cL_law 851 = .ok (.iaload, 1) := by decide +kernel
theorem dL_law_852 : decode cL_law 852 = .ok (.invokevirtual 114, 3) := by decide +kernel
theorem dL_law_855 : decode cL_law 855 = .ok (.if_icmp .eq 527, 3) := by decide +kernel
theorem dL_law_858 : decode cL_law 858 = .ok (.iconst 0, 1) := by decide +kernel
theorem dL_law_859 : decode cL_law 859 = .ok (.ireturn, 1) := by decide +kernel
theorem dL_law_860 : decode cL_law 860 = .ok (.aload_n 1, 1) := by decide +kernel
theorem dL_law_861 : decode cL_law 861 = .ok (.aload_n 0, 1) := by decide +kernel
theorem dL_law_862 : decode cL_law 862 = .ok (.iload_n 3, 1) := by decide +kernel
theorem dL_law_863 : decode cL_law 863 = .ok (.iconst 1, 1) := by decide +kernel
theorem dL_law_864 : decode cL_law 864 = .ok (.iadd, 1) := by decide +kernel
theorem dL_law_865 : decode cL_law 865 = .ok (.iaload, 1) := by decide +kernel
theorem dL_law_866 : decode cL_law 866 = .ok (.aload_n 0, 1) := by decide +kernel
theorem dL_law_867 : decode cL_law 867 = .ok (.iload_n 3, 1) := by decide +kernel
theorem dL_law_868 : decode cL_law 868 = .ok (.iconst 2, 1) := by decide +kernel
theorem dL_law_869 : decode cL_law 869 = .ok (.iadd, 1) := by decide +kernel
theorem dL_law_870 : decode cL_law 870 = .ok (.iaload, 1) := by decide +kernel
theorem dL_law_871 : decode cL_law 871 = .ok (.invokevirtual 115, 3) := by decide +kernel
theorem dL_law_874 : decode cL_law 874 = .ok (.aload_n 2, 1) := by decide +kernel
theorem dL_law_875 : decode cL_law 875 = .ok (.aload_n 0, 1) := by decide +kernel
theorem dL_law_876 : decode cL_law 876 = .ok (.iload_n 3, 1) := by decide +kernel
theorem dL_law_877 : decode cL_law 877 = .ok (.iconst 1, 1) := by decide +kernel
theorem dL_law_878 : decode cL_law 878 = .ok (.iadd, 1) := by decide +kernel
theorem dL_law_879 : decode cL_law 879 = .ok (.iaload, 1) := by decide +kernel
theorem dL_law_880 : decode cL_law 880 = .ok (.aload_n 0, 1) := by decide +kernel
theorem dL_law_881 : decode cL_law 881 = .ok (.iload_n 3, 1) := by decide +kernel
theorem dL_law_882 : decode cL_law 882 = .ok (.iconst 2, 1) := by decide +kernel
theorem dL_law_883 : decode cL_law 883 = .ok (.iadd, 1) := by decide +kernel
theorem dL_law_884 : decode cL_law 884 = .ok (.iaload, 1) := by decide +kernel
theorem dL_law_885 : decode cL_law 885 = .ok (.invokevirtual 118, 3) := by decide +kernel
theorem dL_law_888 : decode cL_law 888 = .ok (.if_icmp .eq 494, 3) := by decide +kernel
theorem dL_law_891 : decode cL_law 891 = .ok (.iconst 0, 1) := by decide +kernel
theorem dL_law_892 : decode cL_law 892 = .ok (.ireturn, 1) := by decide +kernel
theorem dL_law_893 : decode cL_law 893 = .ok (.aload_n 1, 1) := by decide +kernel
theorem dL_law_894 : decode cL_law 894 = .ok (.aload_n 0, 1) := by decide +kernel
theorem dL_law_895 : decode cL_law 895 = .ok (.iload_n 3, 1) := by decide +kernel
theorem dL_law_896 : decode cL_law 896 = .ok (.iconst 1, 1) := by decide +kernel
theorem dL_law_897 : decode cL_law 897 = .ok (.iadd, 1) := by decide +kernel
theorem dL_law_898 : decode cL_law 898 = .ok (.iaload, 1) := by decide +kernel
theorem dL_law_899 : decode cL_law 899 = .ok (.aload_n 0, 1) := by decide +kernel
theorem dL_law_900 : decode cL_law 900 = .ok (.iload_n 3, 1) := by decide +kernel
theorem dL_law_901 : decode cL_law 901 = .ok (.iconst 2, 1) := by decide +kernel
theorem dL_law_902 : decode cL_law 902 = .ok (.iadd, 1) := by decide +kernel
theorem dL_law_903 : decode cL_law 903 = .ok (.iaload, 1) := by decide +kernel
theorem dL_law_904 : decode cL_law 904 = .ok (.aload_n 0, 1) := by decide +kernel
theorem dL_law_905 : decode cL_law 905 = .ok (.iload_n 3, 1) := by decide +kernel
theorem dL_law_906 : decode cL_law 906 = .ok (.iconst 3, 1) := by decide +kernel
theorem dL_law_907 : decode cL_law 907 = .ok (.iadd, 1) := by decide +kernel
theorem dL_law_908 : decode cL_law 908 = .ok (.iaload, 1) := by decide +kernel
theorem dL_law_909 : decode cL_law 909 = .ok (.invokevirtual 119, 3) := by decide +kernel
theorem dL_law_912 : decode cL_law 912 = .ok (.aload_n 2, 1) := by decide +kernel
theorem dL_law_913 : decode cL_law 913 = .ok (.aload_n 0, 1) := by decide +kernel
theorem dL_law_914 : decode cL_law 914 = .ok (.iload_n 3, 1) := by decide +kernel
theorem dL_law_915 : decode cL_law 915 = .ok (.iconst 1, 1) := by decide +kernel
theorem dL_law_916 : decode cL_law 916 = .ok (.iadd, 1) := by decide +kernel
theorem dL_law_917 : decode cL_law 917 = .ok (.iaload, 1) := by decide +kernel
theorem dL_law_918 : decode cL_law 918 = .ok (.aload_n 0, 1) := by decide +kernel
theorem dL_law_919 : decode cL_law 919 = .ok (.iload_n 3, 1) := by decide +kernel
theorem dL_law_920 : decode cL_law 920 = .ok (.iconst 2, 1) := by decide +kernel
theorem dL_law_921 : decode cL_law 921 = .ok (.iadd, 1) := by decide +kernel
theorem dL_law_922 : decode cL_law 922 = .ok (.iaload, 1) := by decide +kernel
theorem dL_law_923 : decode cL_law 923 = .ok (.aload_n 0, 1) := by decide +kernel
theorem dL_law_924 : decode cL_law 924 = .ok (.iload_n 3, 1) := by decide +kernel
theorem dL_law_925 : decode cL_law 925 = .ok (.iconst 3, 1) := by decide +kernel
theorem dL_law_926 : decode cL_law 926 = .ok (.iadd, 1) := by decide +kernel
theorem dL_law_927 : decode cL_law 927 = .ok (.iaload, 1) := by decide +kernel
theorem dL_law_928 : decode cL_law 928 = .ok (.invokevirtual 122, 3) := by decide +kernel
theorem dL_law_931 : decode cL_law 931 = .ok (.if_icmp .eq 451, 3) := by decide +kernel
theorem dL_law_934 : decode cL_law 934 = .ok (.iconst 0, 1) := by decide +kernel
theorem dL_law_935 : decode cL_law 935 = .ok (.ireturn, 1) := by decide +kernel
theorem dL_law_936 : decode cL_law 936 = .ok (.aload_n 1, 1) := by decide +kernel
theorem dL_law_937 : decode cL_law 937 = .ok (.aload_n 0, 1) := by decide +kernel
theorem dL_law_938 : decode cL_law 938 = .ok (.iload_n 3, 1) := by decide +kernel
theorem dL_law_939 : decode cL_law 939 = .ok (.iconst 1, 1) := by decide +kernel
theorem dL_law_940 : decode cL_law 940 = .ok (.iadd, 1) := by decide +kernel
theorem dL_law_941 : decode cL_law 941 = .ok (.iaload, 1) := by decide +kernel
theorem dL_law_942 : decode cL_law 942 = .ok (.aload_n 0, 1) := by decide +kernel
theorem dL_law_943 : decode cL_law 943 = .ok (.iload_n 3, 1) := by decide +kernel
theorem dL_law_944 : decode cL_law 944 = .ok (.iconst 2, 1) := by decide +kernel
theorem dL_law_945 : decode cL_law 945 = .ok (.iadd, 1) := by decide +kernel
theorem dL_law_946 : decode cL_law 946 = .ok (.iaload, 1) := by decide +kernel
theorem dL_law_947 : decode cL_law 947 = .ok (.invokevirtual 123, 3) := by decide +kernel
theorem dL_law_950 : decode cL_law 950 = .ok (.aload_n 2, 1) := by decide +kernel
theorem dL_law_951 : decode cL_law 951 = .ok (.aload_n 0, 1) := by decide +kernel
theorem dL_law_952 : decode cL_law 952 = .ok (.iload_n 3, 1) := by decide +kernel
theorem dL_law_953 : decode cL_law 953 = .ok (.iconst 1, 1) := by decide +kernel
theorem dL_law_954 : decode cL_law 954 = .ok (.iadd, 1) := by decide +kernel
theorem dL_law_955 : decode cL_law 955 = .ok (.iaload, 1) := by decide +kernel
theorem dL_law_956 : decode cL_law 956 = .ok (.aload_n 0, 1) := by decide +kernel
theorem dL_law_957 : decode cL_law 957 = .ok (.iload_n 3, 1) := by decide +kernel
theorem dL_law_958 : decode cL_law 958 = .ok (.iconst 2, 1) := by decide +kernel
theorem dL_law_959 : decode cL_law 959 = .ok (.iadd, 1) := by decide +kernel
theorem dL_law_960 : decode cL_law 960 = .ok (.iaload, 1) := by decide +kernel
theorem dL_law_961 : decode cL_law 961 = .ok (.invokevirtual 126, 3) := by decide +kernel
theorem dL_law_964 : decode cL_law 964 = .ok (.if_icmp .eq 418, 3) := by decide +kernel
theorem dL_law_967 : decode cL_law 967 = .ok (.iconst 0, 1) := by decide +kernel
theorem dL_law_968 : decode cL_law 968 = .ok (.ireturn, 1) := by decide +kernel
theorem dL_law_969 : decode cL_law 969 = .ok (.aload_n 1, 1) := by decide +kernel
theorem dL_law_970 : decode cL_law 970 = .ok (.aload_n 0, 1) := by decide +kernel
theorem dL_law_971 : decode cL_law 971 = .ok (.iload_n 3, 1) := by decide +kernel
theorem dL_law_972 : decode cL_law 972 = .ok (.iconst 1, 1) := by decide +kernel
theorem dL_law_973 : decode cL_law 973 = .ok (.iadd, 1) := by decide +kernel
theorem dL_law_974 : decode cL_law 974 = .ok (.iaload, 1) := by decide +kernel
theorem dL_law_975 : decode cL_law 975 = .ok (.aload_n 0, 1) := by decide +kernel
theorem dL_law_976 : decode cL_law 976 = .ok (.iload_n 3, 1) := by decide +kernel
theorem dL_law_977 : decode cL_law 977 = .ok (.iconst 2, 1) := by decide +kernel
theorem dL_law_978 : decode cL_law 978 = .ok (.iadd, 1) := by decide +kernel
theorem dL_law_979 : decode cL_law 979 = .ok (.iaload, 1) := by decide +kernel
theorem dL_law_980 : decode cL_law 980 = .ok (.invokevirtual 127, 3) := by decide +kernel
theorem dL_law_983 : decode cL_law 983 = .ok (.aload_n 2, 1) := by decide +kernel
theorem dL_law_984 : decode cL_law 984 = .ok (.aload_n 0, 1) := by decide +kernel
theorem dL_law_985 : decode cL_law 985 = .ok (.iload_n 3, 1) := by decide +kernel
theorem dL_law_986 : decode cL_law 986 = .ok (.iconst 1, 1) := by decide +kernel
theorem dL_law_987 : decode cL_law 987 = .ok (.iadd, 1) := by decide +kernel
theorem dL_law_988 : decode cL_law 988 = .ok (.iaload, 1) := by decide +kernel
theorem dL_law_989 : decode cL_law 989 = .ok (.aload_n 0, 1) := by decide +kernel
theorem dL_law_990 : decode cL_law 990 = .ok (.iload_n 3, 1) := by decide +kernel
theorem dL_law_991 : decode cL_law 991 = .ok (.iconst 2, 1) := by decide +kernel
theorem dL_law_992 : decode cL_law 992 = .ok (.iadd, 1) := by decide +kernel
theorem dL_law_993 : decode cL_law 993 = .ok (.iaload, 1) := by decide +kernel
theorem dL_law_994 : decode cL_law 994 = .ok (.invokevirtual 130, 3) := by decide +kernel
theorem dL_law_997 : decode cL_law 997 = .ok (.if_icmp .eq 385, 3) := by decide +kernel
theorem dL_law_1000 : decode cL_law 1000 = .ok (.iconst 0, 1) := by decide +kernel
theorem dL_law_1001 : decode cL_law 1001 = .ok (.ireturn, 1) := by decide +kernel
theorem dL_law_1002 : decode cL_law 1002 = .ok (.aload_n 1, 1) := by decide +kernel
theorem dL_law_1003 : decode cL_law 1003 = .ok (.invokevirtual 131, 3) := by decide +kernel
theorem dL_law_1006 : decode cL_law 1006 = .ok (.aload_n 2, 1) := by decide +kernel
theorem dL_law_1007 : decode cL_law 1007 = .ok (.invokevirtual 134, 3) := by decide +kernel
theorem dL_law_1010 : decode cL_law 1010 = .ok (.if_icmp .eq 372, 3) := by decide +kernel
theorem dL_law_1013 : decode cL_law 1013 = .ok (.iconst 0, 1) := by decide +kernel
theorem dL_law_1014 : decode cL_law 1014 = .ok (.ireturn, 1) := by decide +kernel
theorem dL_law_1015 : decode cL_law 1015 = .ok (.aload_n 1, 1) := by decide +kernel
theorem dL_law_1016 : decode cL_law 1016 = .ok (.invokevirtual 135, 3) := by decide +kernel
theorem dL_law_1019 : decode cL_law 1019 = .ok (.aload_n 2, 1) := by decide +kernel
theorem dL_law_1020 : decode cL_law 1020 = .ok (.invokevirtual 138, 3) := by decide +kernel
theorem dL_law_1023 : decode cL_law 1023 = .ok (.if_icmp .eq 359, 3) := by decide +kernel
theorem dL_law_1026 : decode cL_law 1026 = .ok (.iconst 0, 1) := by decide +kernel
theorem dL_law_1027 : decode cL_law 1027 = .ok (.ireturn, 1) := by decide +kernel
theorem dL_law_1028 : decode cL_law 1028 = .ok (.aload_n 1, 1) := by decide +kernel
theorem dL_law_1029 : decode cL_law 1029 = .ok (.aload_n 0, 1) := by decide +kernel
theorem dL_law_1030 : decode cL_law 1030 = .ok (.iload_n 3, 1) := by decide +kernel
theorem dL_law_1031 : decode cL_law 1031 = .ok (.iconst 1, 1) := by decide +kernel
theorem dL_law_1032 : decode cL_law 1032 = .ok (.iadd, 1) := by decide +kernel
theorem dL_law_1033 : decode cL_law 1033 = .ok (.iaload, 1) := by decide +kernel
theorem dL_law_1034 : decode cL_law 1034 = .ok (.aload_n 0, 1) := by decide +kernel
theorem dL_law_1035 : decode cL_law 1035 = .ok (.iload_n 3, 1) := by decide +kernel
theorem dL_law_1036 : decode cL_law 1036 = .ok (.iconst 2, 1) := by decide +kernel
theorem dL_law_1037 : decode cL_law 1037 = .ok (.iadd, 1) := by decide +kernel
theorem dL_law_1038 : decode cL_law 1038 = .ok (.iaload, 1) := by decide +kernel
theorem dL_law_1039 : decode cL_law 1039 = .ok (.aload_n 0, 1) := by decide +kernel
theorem dL_law_1040 : decode cL_law 1040 = .ok (.iload_n 3, 1) := by decide +kernel
theorem dL_law_1041 : decode cL_law 1041 = .ok (.iconst 3, 1) := by decide +kernel
theorem dL_law_1042 : decode cL_law 1042 = .ok (.iadd, 1) := by decide +kernel
theorem dL_law_1043 : decode cL_law 1043 = .ok (.iaload, 1) := by decide +kernel
theorem dL_law_1044 : decode cL_law 1044 = .ok (.invokevirtual 139, 3) := by decide +kernel
theorem dL_law_1047 : decode cL_law 1047 = .ok (.aload_n 2, 1) := by decide +kernel
theorem dL_law_1048 : decode cL_law 1048 = .ok (.aload_n 0, 1) := by decide +kernel
theorem dL_law_1049 : decode cL_law 1049 = .ok (.iload_n 3, 1) := by decide +kernel
theorem dL_law_1050 : decode cL_law 1050 = .ok (.iconst 1, 1) := by decide +kernel
theorem dL_law_1051 : decode cL_law 1051 = .ok (.iadd, 1) := by decide +kernel
theorem dL_law_1052 : decode cL_law 1052 = .ok (.iaload, 1) := by decide +kernel
theorem dL_law_1053 : decode cL_law 1053 = .ok (.aload_n 0, 1) := by decide +kernel
theorem dL_law_1054 : decode cL_law 1054 = .ok (.iload_n 3, 1) := by decide +kernel
theorem dL_law_1055 : decode cL_law 1055 = .ok (.iconst 2, 1) := by decide +kernel
theorem dL_law_1056 : decode cL_law 1056 = .ok (.iadd, 1) := by decide +kernel
theorem dL_law_1057 : decode cL_law 1057 = .ok (.iaload, 1) := by decide +kernel
theorem dL_law_1058 : decode cL_law 1058 = .ok (.aload_n 0, 1) := by decide +kernel
theorem dL_law_1059 : decode cL_law 1059 = .ok (.iload_n 3, 1) := by decide +kernel
theorem dL_law_1060 : decode cL_law 1060 = .ok (.iconst 3, 1) := by decide +kernel
theorem dL_law_1061 : decode cL_law 1061 = .ok (.iadd, 1) := by decide +kernel
theorem dL_law_1062 : decode cL_law 1062 = .ok (.iaload, 1) := by decide +kernel
theorem dL_law_1063 : decode cL_law 1063 = .ok (.invokevirtual 142, 3) := by decide +kernel
theorem dL_law_1066 : decode cL_law 1066 = .ok (.if_icmp .eq 316, 3) := by decide +kernel
theorem dL_law_1069 : decode cL_law 1069 = .ok (.iconst 0, 1) := by decide +kernel
theorem dL_law_1070 : decode cL_law 1070 = .ok (.ireturn, 1) := by decide +kernel
theorem dL_law_1071 : decode cL_law 1071 = .ok (.aload_n 1, 1) := by decide +kernel
theorem dL_law_1072 : decode cL_law 1072 = .ok (.aload_n 0, 1) := by decide +kernel
theorem dL_law_1073 : decode cL_law 1073 = .ok (.iload_n 3, 1) := by decide +kernel
theorem dL_law_1074 : decode cL_law 1074 = .ok (.iconst 1, 1) := by decide +kernel
theorem dL_law_1075 : decode cL_law 1075 = .ok (.iadd, 1) := by decide +kernel
theorem dL_law_1076 : decode cL_law 1076 = .ok (.iaload, 1) := by decide +kernel
theorem dL_law_1077 : decode cL_law 1077 = .ok (.aload_n 0, 1) := by decide +kernel
theorem dL_law_1078 : decode cL_law 1078 = .ok (.iload_n 3, 1) := by decide +kernel
theorem dL_law_1079 : decode cL_law 1079 = .ok (.iconst 2, 1) := by decide +kernel
theorem dL_law_1080 : decode cL_law 1080 = .ok (.iadd, 1) := by decide +kernel
theorem dL_law_1081 : decode cL_law 1081 = .ok (.iaload, 1) := by decide +kernel
theorem dL_law_1082 : decode cL_law 1082 = .ok (.aload_n 0, 1) := by decide +kernel
theorem dL_law_1083 : decode cL_law 1083 = .ok (.iload_n 3, 1) := by decide +kernel
theorem dL_law_1084 : decode cL_law 1084 = .ok (.iconst 3, 1) := by decide +kernel
theorem dL_law_1085 : decode cL_law 1085 = .ok (.iadd, 1) := by decide +kernel
theorem dL_law_1086 : decode cL_law 1086 = .ok (.iaload, 1) := by decide +kernel
theorem dL_law_1087 : decode cL_law 1087 = .ok (.i2l, 1) := by decide +kernel
theorem dL_law_1088 : decode cL_law 1088 = .ok (.bipush 32, 2) := by decide +kernel
theorem dL_law_1090 : decode cL_law 1090 = .ok (.lshl, 1) := by decide +kernel
theorem dL_law_1091 : decode cL_law 1091 = .ok (.aload_n 0, 1) := by decide +kernel
theorem dL_law_1092 : decode cL_law 1092 = .ok (.iload_n 3, 1) := by decide +kernel
theorem dL_law_1093 : decode cL_law 1093 = .ok (.iconst 4, 1) := by decide +kernel
theorem dL_law_1094 : decode cL_law 1094 = .ok (.iadd, 1) := by decide +kernel
theorem dL_law_1095 : decode cL_law 1095 = .ok (.iaload, 1) := by decide +kernel
theorem dL_law_1096 : decode cL_law 1096 = .ok (.i2l, 1) := by decide +kernel
theorem dL_law_1097 : decode cL_law 1097 = .ok (.ldc2_w 143, 3) := by decide +kernel
theorem dL_law_1100 : decode cL_law 1100 = .ok (.land, 1) := by decide +kernel
theorem dL_law_1101 : decode cL_law 1101 = .ok (.lor, 1) := by decide +kernel
theorem dL_law_1102 : decode cL_law 1102 = .ok (.invokevirtual 145, 3) := by decide +kernel
theorem dL_law_1105 : decode cL_law 1105 = .ok (.aload_n 2, 1) := by decide +kernel
theorem dL_law_1106 : decode cL_law 1106 = .ok (.aload_n 0, 1) := by decide +kernel
theorem dL_law_1107 : decode cL_law 1107 = .ok (.iload_n 3, 1) := by decide +kernel
theorem dL_law_1108 : decode cL_law 1108 = .ok (.iconst 1, 1) := by decide +kernel
theorem dL_law_1109 : decode cL_law 1109 = .ok (.iadd, 1) := by decide +kernel
theorem dL_law_1110 : decode cL_law 1110 = .ok (.iaload, 1) := by decide +kernel
theorem dL_law_1111 : decode cL_law 1111 = .ok (.aload_n 0, 1) := by decide +kernel
theorem dL_law_1112 : decode cL_law 1112 = .ok (.iload_n 3, 1) := by decide +kernel
theorem dL_law_1113 : decode cL_law 1113 = .ok (.iconst 2, 1) := by decide +kernel
theorem dL_law_1114 : decode cL_law 1114 = .ok (.iadd, 1) := by decide +kernel
theorem dL_law_1115 : decode cL_law 1115 = .ok (.iaload, 1) := by decide +kernel
theorem dL_law_1116 : decode cL_law 1116 = .ok (.aload_n 0, 1) := by decide +kernel
theorem dL_law_1117 : decode cL_law 1117 = .ok (.iload_n 3, 1) := by decide +kernel
theorem dL_law_1118 : decode cL_law 1118 = .ok (.iconst 3, 1) := by decide +kernel
theorem dL_law_1119 : decode cL_law 1119 = .ok (.iadd, 1) := by decide +kernel
theorem dL_law_1120 : decode cL_law 1120 = .ok (.iaload, 1) := by decide +kernel
theorem dL_law_1121 : decode cL_law 1121 = .ok (.i2l, 1) := by decide +kernel
theorem dL_law_1122 : decode cL_law 1122 = .ok (.bipush 32, 2) := by decide +kernel
theorem dL_law_1124 : decode cL_law 1124 = .ok (.lshl, 1) := by decide +kernel
theorem dL_law_1125 : decode cL_law 1125 = .ok (.aload_n 0, 1) := by decide +kernel
theorem dL_law_1126 : decode cL_law 1126 = .ok (.iload_n 3, 1) := by decide +kernel
theorem dL_law_1127 : decode cL_law 1127 = .ok (.iconst 4, 1) := by decide +kernel
theorem dL_law_1128 : decode cL_law 1128 = .ok (.iadd, 1) := by decide +kernel
theorem dL_law_1129 : decode cL_law 1129 = .ok (.iaload, 1) := by decide +kernel
theorem dL_law_1130 : decode cL_law 1130 = .ok (.i2l, 1) := by decide +kernel
theorem dL_law_1131 : decode cL_law 1131 = .ok (.ldc2_w 143, 3) := by decide +kernel
theorem dL_law_1134 : decode cL_law 1134 = .ok (.land, 1) := by decide +kernel
theorem dL_law_1135 : decode cL_law 1135 = .ok (.lor, 1) := by decide +kernel
theorem dL_law_1136 : decode cL_law 1136 = .ok (.invokevirtual 149, 3) := by decide +kernel
theorem dL_law_1139 : decode cL_law 1139 = .ok (.lcmp, 1) := by decide +kernel
theorem dL_law_1140 : decode cL_law 1140 = .ok (.ifCond .eq 242, 3) := by decide +kernel
theorem dL_law_1143 : decode cL_law 1143 = .ok (.iconst 0, 1) := by decide +kernel
theorem dL_law_1144 : decode cL_law 1144 = .ok (.ireturn, 1) := by decide +kernel
theorem dL_law_1145 : decode cL_law 1145 = .ok (.aload_n 1, 1) := by decide +kernel
theorem dL_law_1146 : decode cL_law 1146 = .ok (.aload_n 0, 1) := by decide +kernel
theorem dL_law_1147 : decode cL_law 1147 = .ok (.iload_n 3, 1) := by decide +kernel
theorem dL_law_1148 : decode cL_law 1148 = .ok (.iconst 1, 1) := by decide +kernel
theorem dL_law_1149 : decode cL_law 1149 = .ok (.iadd, 1) := by decide +kernel
theorem dL_law_1150 : decode cL_law 1150 = .ok (.iaload, 1) := by decide +kernel
theorem dL_law_1151 : decode cL_law 1151 = .ok (.aload_n 0, 1) := by decide +kernel
theorem dL_law_1152 : decode cL_law 1152 = .ok (.iload_n 3, 1) := by decide +kernel
theorem dL_law_1153 : decode cL_law 1153 = .ok (.iconst 2, 1) := by decide +kernel
theorem dL_law_1154 : decode cL_law 1154 = .ok (.iadd, 1) := by decide +kernel
theorem dL_law_1155 : decode cL_law 1155 = .ok (.iaload, 1) := by decide +kernel
theorem dL_law_1156 : decode cL_law 1156 = .ok (.aload_n 0, 1) := by decide +kernel
theorem dL_law_1157 : decode cL_law 1157 = .ok (.iload_n 3, 1) := by decide +kernel
theorem dL_law_1158 : decode cL_law 1158 = .ok (.iconst 3, 1) := by decide +kernel
theorem dL_law_1159 : decode cL_law 1159 = .ok (.iadd, 1) := by decide +kernel
theorem dL_law_1160 : decode cL_law 1160 = .ok (.iaload, 1) := by decide +kernel
theorem dL_law_1161 : decode cL_law 1161 = .ok (.aload_n 0, 1) := by decide +kernel
theorem dL_law_1162 : decode cL_law 1162 = .ok (.iload_n 3, 1) := by decide +kernel
theorem dL_law_1163 : decode cL_law 1163 = .ok (.iconst 4, 1) := by decide +kernel
theorem dL_law_1164 : decode cL_law 1164 = .ok (.iadd, 1) := by decide +kernel
theorem dL_law_1165 : decode cL_law 1165 = .ok (.iaload, 1) := by decide +kernel
theorem dL_law_1166 : decode cL_law 1166 = .ok (.aload_n 0, 1) := by decide +kernel
theorem dL_law_1167 : decode cL_law 1167 = .ok (.iload_n 3, 1) := by decide +kernel
theorem dL_law_1168 : decode cL_law 1168 = .ok (.iconst 5, 1) := by decide +kernel
theorem dL_law_1169 : decode cL_law 1169 = .ok (.iadd, 1) := by decide +kernel
theorem dL_law_1170 : decode cL_law 1170 = .ok (.iaload, 1) := by decide +kernel
theorem dL_law_1171 : decode cL_law 1171 = .ok (.invokevirtual 150, 3) := by decide +kernel
theorem dL_law_1174 : decode cL_law 1174 = .ok (.aload_n 2, 1) := by decide +kernel
theorem dL_law_1175 : decode cL_law 1175 = .ok (.aload_n 0, 1) := by decide +kernel
theorem dL_law_1176 : decode cL_law 1176 = .ok (.iload_n 3, 1) := by decide +kernel
theorem dL_law_1177 : decode cL_law 1177 = .ok (.iconst 1, 1) := by decide +kernel
theorem dL_law_1178 : decode cL_law 1178 = .ok (.iadd, 1) := by decide +kernel
theorem dL_law_1179 : decode cL_law 1179 = .ok (.iaload, 1) := by decide +kernel
theorem dL_law_1180 : decode cL_law 1180 = .ok (.aload_n 0, 1) := by decide +kernel
theorem dL_law_1181 : decode cL_law 1181 = .ok (.iload_n 3, 1) := by decide +kernel
theorem dL_law_1182 : decode cL_law 1182 = .ok (.iconst 2, 1) := by decide +kernel
theorem dL_law_1183 : decode cL_law 1183 = .ok (.iadd, 1) := by decide +kernel
theorem dL_law_1184 : decode cL_law 1184 = .ok (.iaload, 1) := by decide +kernel
theorem dL_law_1185 : decode cL_law 1185 = .ok (.aload_n 0, 1) := by decide +kernel
theorem dL_law_1186 : decode cL_law 1186 = .ok (.iload_n 3, 1) := by decide +kernel
theorem dL_law_1187 : decode cL_law 1187 = .ok (.iconst 3, 1) := by decide +kernel
theorem dL_law_1188 : decode cL_law 1188 = .ok (.iadd, 1) := by decide +kernel
theorem dL_law_1189 : decode cL_law 1189 = .ok (.iaload, 1) := by decide +kernel
theorem dL_law_1190 : decode cL_law 1190 = .ok (.aload_n 0, 1) := by decide +kernel
theorem dL_law_1191 : decode cL_law 1191 = .ok (.iload_n 3, 1) := by decide +kernel
theorem dL_law_1192 : decode cL_law 1192 = .ok (.iconst 4, 1) := by decide +kernel
theorem dL_law_1193 : decode cL_law 1193 = .ok (.iadd, 1) := by decide +kernel
theorem dL_law_1194 : decode cL_law 1194 = .ok (.iaload, 1) := by decide +kernel
theorem dL_law_1195 : decode cL_law 1195 = .ok (.aload_n 0, 1) := by decide +kernel
theorem dL_law_1196 : decode cL_law 1196 = .ok (.iload_n 3, 1) := by decide +kernel
theorem dL_law_1197 : decode cL_law 1197 = .ok (.iconst 5, 1) := by decide +kernel
theorem dL_law_1198 : decode cL_law 1198 = .ok (.iadd, 1) := by decide +kernel
theorem dL_law_1199 : decode cL_law 1199 = .ok (.iaload, 1) := by decide +kernel
theorem dL_law_1200 : decode cL_law 1200 = .ok (.invokevirtual 154, 3) := by decide +kernel
theorem dL_law_1203 : decode cL_law 1203 = .ok (.if_icmp .eq 179, 3) := by decide +kernel
theorem dL_law_1206 : decode cL_law 1206 = .ok (.iconst 0, 1) := by decide +kernel
theorem dL_law_1207 : decode cL_law 1207 = .ok (.ireturn, 1) := by decide +kernel
theorem dL_law_1208 : decode cL_law 1208 = .ok (.aload_n 1, 1) := by decide +kernel
theorem dL_law_1209 : decode cL_law 1209 = .ok (.aload_n 0, 1) := by decide +kernel
theorem dL_law_1210 : decode cL_law 1210 = .ok (.iload_n 3, 1) := by decide +kernel
theorem dL_law_1211 : decode cL_law 1211 = .ok (.iconst 1, 1) := by decide +kernel
theorem dL_law_1212 : decode cL_law 1212 = .ok (.iadd, 1) := by decide +kernel
theorem dL_law_1213 : decode cL_law 1213 = .ok (.iaload, 1) := by decide +kernel
theorem dL_law_1214 : decode cL_law 1214 = .ok (.aload_n 0, 1) := by decide +kernel
theorem dL_law_1215 : decode cL_law 1215 = .ok (.iload_n 3, 1) := by decide +kernel
theorem dL_law_1216 : decode cL_law 1216 = .ok (.iconst 2, 1) := by decide +kernel
theorem dL_law_1217 : decode cL_law 1217 = .ok (.iadd, 1) := by decide +kernel
theorem dL_law_1218 : decode cL_law 1218 = .ok (.iaload, 1) := by decide +kernel
theorem dL_law_1219 : decode cL_law 1219 = .ok (.invokevirtual 155, 3) := by decide +kernel
theorem dL_law_1222 : decode cL_law 1222 = .ok (.aload_n 2, 1) := by decide +kernel
theorem dL_law_1223 : decode cL_law 1223 = .ok (.aload_n 0, 1) := by decide +kernel
theorem dL_law_1224 : decode cL_law 1224 = .ok (.iload_n 3, 1) := by decide +kernel
theorem dL_law_1225 : decode cL_law 1225 = .ok (.iconst 1, 1) := by decide +kernel
theorem dL_law_1226 : decode cL_law 1226 = .ok (.iadd, 1) := by decide +kernel
theorem dL_law_1227 : decode cL_law 1227 = .ok (.iaload, 1) := by decide +kernel
theorem dL_law_1228 : decode cL_law 1228 = .ok (.aload_n 0, 1) := by decide +kernel
theorem dL_law_1229 : decode cL_law 1229 = .ok (.iload_n 3, 1) := by decide +kernel
theorem dL_law_1230 : decode cL_law 1230 = .ok (.iconst 2, 1) := by decide +kernel
theorem dL_law_1231 : decode cL_law 1231 = .ok (.iadd, 1) := by decide +kernel
theorem dL_law_1232 : decode cL_law 1232 = .ok (.iaload, 1) := by decide +kernel
theorem dL_law_1233 : decode cL_law 1233 = .ok (.invokevirtual 158, 3) := by decide +kernel
theorem dL_law_1236 : decode cL_law 1236 = .ok (.if_icmp .eq 146, 3) := by decide +kernel
theorem dL_law_1239 : decode cL_law 1239 = .ok (.iconst 0, 1) := by decide +kernel
theorem dL_law_1240 : decode cL_law 1240 = .ok (.ireturn, 1) := by decide +kernel
theorem dL_law_1241 : decode cL_law 1241 = .ok (.aload_n 1, 1) := by decide +kernel
theorem dL_law_1242 : decode cL_law 1242 = .ok (.aload_n 0, 1) := by decide +kernel
theorem dL_law_1243 : decode cL_law 1243 = .ok (.iload_n 3, 1) := by decide +kernel
theorem dL_law_1244 : decode cL_law 1244 = .ok (.iconst 1, 1) := by decide +kernel
theorem dL_law_1245 : decode cL_law 1245 = .ok (.iadd, 1) := by decide +kernel
theorem dL_law_1246 : decode cL_law 1246 = .ok (.iaload, 1) := by decide +kernel
theorem dL_law_1247 : decode cL_law 1247 = .ok (.aload_n 0, 1) := by decide +kernel
theorem dL_law_1248 : decode cL_law 1248 = .ok (.iload_n 3, 1) := by decide +kernel
theorem dL_law_1249 : decode cL_law 1249 = .ok (.iconst 2, 1) := by decide +kernel
theorem dL_law_1250 : decode cL_law 1250 = .ok (.iadd, 1) := by decide +kernel
theorem dL_law_1251 : decode cL_law 1251 = .ok (.iaload, 1) := by decide +kernel
theorem dL_law_1252 : decode cL_law 1252 = .ok (.invokevirtual 159, 3) := by decide +kernel
theorem dL_law_1255 : decode cL_law 1255 = .ok (.aload_n 2, 1) := by decide +kernel
theorem dL_law_1256 : decode cL_law 1256 = .ok (.aload_n 0, 1) := by decide +kernel
theorem dL_law_1257 : decode cL_law 1257 = .ok (.iload_n 3, 1) := by decide +kernel
theorem dL_law_1258 : decode cL_law 1258 = .ok (.iconst 1, 1) := by decide +kernel
theorem dL_law_1259 : decode cL_law 1259 = .ok (.iadd, 1) := by decide +kernel
theorem dL_law_1260 : decode cL_law 1260 = .ok (.iaload, 1) := by decide +kernel
theorem dL_law_1261 : decode cL_law 1261 = .ok (.aload_n 0, 1) := by decide +kernel
theorem dL_law_1262 : decode cL_law 1262 = .ok (.iload_n 3, 1) := by decide +kernel
theorem dL_law_1263 : decode cL_law 1263 = .ok (.iconst 2, 1) := by decide +kernel
theorem dL_law_1264 : decode cL_law 1264 = .ok (.iadd, 1) := by decide +kernel
theorem dL_law_1265 : decode cL_law 1265 = .ok (.iaload, 1) := by decide +kernel
theorem dL_law_1266 : decode cL_law 1266 = .ok (.invokevirtual 162, 3) := by decide +kernel
theorem dL_law_1269 : decode cL_law 1269 = .ok (.if_icmp .eq 113, 3) := by decide +kernel
theorem dL_law_1272 : decode cL_law 1272 = .ok (.iconst 0, 1) := by decide +kernel
theorem dL_law_1273 : decode cL_law 1273 = .ok (.ireturn, 1) := by decide +kernel
theorem dL_law_1274 : decode cL_law 1274 = .ok (.aload_n 1, 1) := by decide +kernel
theorem dL_law_1275 : decode cL_law 1275 = .ok (.aload_n 0, 1) := by decide +kernel
theorem dL_law_1276 : decode cL_law 1276 = .ok (.iload_n 3, 1) := by decide +kernel
theorem dL_law_1277 : decode cL_law 1277 = .ok (.iconst 1, 1) := by decide +kernel
theorem dL_law_1278 : decode cL_law 1278 = .ok (.iadd, 1) := by decide +kernel
theorem dL_law_1279 : decode cL_law 1279 = .ok (.iaload, 1) := by decide +kernel
theorem dL_law_1280 : decode cL_law 1280 = .ok (.invokevirtual 163, 3) := by decide +kernel
theorem dL_law_1283 : decode cL_law 1283 = .ok (.aload_n 2, 1) := by decide +kernel
theorem dL_law_1284 : decode cL_law 1284 = .ok (.aload_n 0, 1) := by decide +kernel
theorem dL_law_1285 : decode cL_law 1285 = .ok (.iload_n 3, 1) := by decide +kernel
theorem dL_law_1286 : decode cL_law 1286 = .ok (.iconst 1, 1) := by decide +kernel
theorem dL_law_1287 : decode cL_law 1287 = .ok (.iadd, 1) := by decide +kernel
theorem dL_law_1288 : decode cL_law 1288 = .ok (.iaload, 1) := by decide +kernel
theorem dL_law_1289 : decode cL_law 1289 = .ok (.invokevirtual 166, 3) := by decide +kernel
theorem dL_law_1292 : decode cL_law 1292 = .ok (.if_icmp .eq 90, 3) := by decide +kernel
theorem dL_law_1295 : decode cL_law 1295 = .ok (.iconst 0, 1) := by decide +kernel
theorem dL_law_1296 : decode cL_law 1296 = .ok (.ireturn, 1) := by decide +kernel
theorem dL_law_1297 : decode cL_law 1297 = .ok (.aload_n 1, 1) := by decide +kernel
theorem dL_law_1298 : decode cL_law 1298 = .ok (.invokevirtual 167, 3) := by decide +kernel
theorem dL_law_1301 : decode cL_law 1301 = .ok (.aload_n 2, 1) := by decide +kernel
theorem dL_law_1302 : decode cL_law 1302 = .ok (.invokevirtual 170, 3) := by decide +kernel
theorem dL_law_1305 : decode cL_law 1305 = .ok (.if_icmp .eq 77, 3) := by decide +kernel
theorem dL_law_1308 : decode cL_law 1308 = .ok (.iconst 0, 1) := by decide +kernel
theorem dL_law_1309 : decode cL_law 1309 = .ok (.ireturn, 1) := by decide +kernel
theorem dL_law_1310 : decode cL_law 1310 = .ok (.aload_n 1, 1) := by decide +kernel
theorem dL_law_1311 : decode cL_law 1311 = .ok (.invokevirtual 171, 3) := by decide +kernel
theorem dL_law_1314 : decode cL_law 1314 = .ok (.aload_n 2, 1) := by decide +kernel
theorem dL_law_1315 : decode cL_law 1315 = .ok (.invokevirtual 174, 3) := by decide +kernel
theorem dL_law_1318 : decode cL_law 1318 = .ok (.if_icmp .eq 64, 3) := by decide +kernel
theorem dL_law_1321 : decode cL_law 1321 = .ok (.iconst 0, 1) := by decide +kernel
theorem dL_law_1322 : decode cL_law 1322 = .ok (.ireturn, 1) := by decide +kernel
theorem dL_law_1323 : decode cL_law 1323 = .ok (.aload_n 1, 1) := by decide +kernel
theorem dL_law_1324 : decode cL_law 1324 = .ok (.invokevirtual 175, 3) := by decide +kernel
theorem dL_law_1327 : decode cL_law 1327 = .ok (.aload_n 2, 1) := by decide +kernel
theorem dL_law_1328 : decode cL_law 1328 = .ok (.invokevirtual 178, 3) := by decide +kernel
theorem dL_law_1331 : decode cL_law 1331 = .ok (.if_icmp .eq 51, 3) := by decide +kernel
theorem dL_law_1334 : decode cL_law 1334 = .ok (.iconst 0, 1) := by decide +kernel
theorem dL_law_1335 : decode cL_law 1335 = .ok (.ireturn, 1) := by decide +kernel
theorem dL_law_1336 : decode cL_law 1336 = .ok (.aload_n 1, 1) := by decide +kernel
theorem dL_law_1337 : decode cL_law 1337 = .ok (.aload_n 0, 1) := by decide +kernel
theorem dL_law_1338 : decode cL_law 1338 = .ok (.iload_n 3, 1) := by decide +kernel
theorem dL_law_1339 : decode cL_law 1339 = .ok (.iconst 1, 1) := by decide +kernel
theorem dL_law_1340 : decode cL_law 1340 = .ok (.iadd, 1) := by decide +kernel
theorem dL_law_1341 : decode cL_law 1341 = .ok (.iaload, 1) := by decide +kernel
theorem dL_law_1342 : decode cL_law 1342 = .ok (.invokevirtual 179, 3) := by decide +kernel
theorem dL_law_1345 : decode cL_law 1345 = .ok (.aload_n 2, 1) := by decide +kernel
theorem dL_law_1346 : decode cL_law 1346 = .ok (.aload_n 0, 1) := by decide +kernel
theorem dL_law_1347 : decode cL_law 1347 = .ok (.iload_n 3, 1) := by decide +kernel
theorem dL_law_1348 : decode cL_law 1348 = .ok (.iconst 1, 1) := by decide +kernel
theorem dL_law_1349 : decode cL_law 1349 = .ok (.iadd, 1) := by decide +kernel
theorem dL_law_1350 : decode cL_law 1350 = .ok (.iaload, 1) := by decide +kernel
theorem dL_law_1351 : decode cL_law 1351 = .ok (.invokevirtual 182, 3) := by decide +kernel
theorem dL_law_1354 : decode cL_law 1354 = .ok (.if_icmp .eq 28, 3) := by decide +kernel
theorem dL_law_1357 : decode cL_law 1357 = .ok (.iconst 0, 1) := by decide +kernel
theorem dL_law_1358 : decode cL_law 1358 = .ok (.ireturn, 1) := by decide +kernel
theorem dL_law_1359 : decode cL_law 1359 = .ok (.aload_n 1, 1) := by decide +kernel
theorem dL_law_1360 : decode cL_law 1360 = .ok (.aload_n 0, 1) := by decide +kernel
theorem dL_law_1361 : decode cL_law 1361 = .ok (.iload_n 3, 1) := by decide +kernel
theorem dL_law_1362 : decode cL_law 1362 = .ok (.iconst 1, 1) := by decide +kernel
theorem dL_law_1363 : decode cL_law 1363 = .ok (.iadd, 1) := by decide +kernel
theorem dL_law_1364 : decode cL_law 1364 = .ok (.iaload, 1) := by decide +kernel
theorem dL_law_1365 : decode cL_law 1365 = .ok (.invokevirtual 183, 3) := by decide +kernel
theorem dL_law_1368 : decode cL_law 1368 = .ok (.aload_n 2, 1) := by decide +kernel
theorem dL_law_1369 : decode cL_law 1369 = .ok (.aload_n 0, 1) := by decide +kernel
theorem dL_law_1370 : decode cL_law 1370 = .ok (.iload_n 3, 1) := by decide +kernel
theorem dL_law_1371 : decode cL_law 1371 = .ok (.iconst 1, 1) := by decide +kernel
theorem dL_law_1372 : decode cL_law 1372 = .ok (.iadd, 1) := by decide +kernel
theorem dL_law_1373 : decode cL_law 1373 = .ok (.iaload, 1) := by decide +kernel
theorem dL_law_1374 : decode cL_law 1374 = .ok (.invokevirtual 186, 3) := by decide +kernel
theorem dL_law_1377 : decode cL_law 1377 = .ok (.if_icmp .eq 5, 3) := by decide +kernel
theorem dL_law_1380 : decode cL_law 1380 = .ok (.iconst 0, 1) := by decide +kernel
theorem dL_law_1381 : decode cL_law 1381 = .ok (.ireturn, 1) := by decide +kernel
theorem dL_law_1382 : decode cL_law 1382 = .ok (.iinc 3 6, 3) := by decide +kernel
theorem dL_law_1385 : decode cL_law 1385 = .ok (.goto (-1367), 3) := by decide +kernel
theorem dL_law_1388 : decode cL_law 1388 = .ok (.iconst 1, 1) := by decide +kernel
theorem dL_law_1389 : decode cL_law 1389 = .ok (.ireturn, 1) := by decide +kernel
end
section
-- THE WORLD: cells by number; a state is what each int cell and each long cell holds
abbrev St : Type := (Nat → Nat → Int32) × (Nat → Nat → Int64)
def si (S : St) (c k : Nat) (v : Int32) : St := (fun d => if d = c then upd (S.1 c) k v else S.1 d, S.2)
def sj (S : St) (c k : Nat) (v : Int64) : St := (S.1, fun d => if d = c then vp_updL (S.2 c) k v else S.2 d)
def sr (S : St) (c : Nat) (f : Nat → Int32) : St := (fun d => if d = c then f else S.1 d, S.2)
def sl (S : St) (c : Nat) (f : Nat → Int64) : St := (S.1, fun d => if d = c then f else S.2 d)
/-- a named value -/
def pl {α β : Type} (a : α) (k : α → β) : β := k a
theorem pl_at {α β : Type} {a x : α} {k : α → β} {r : β} (e : x = a) (h : pl a k = r) : k x = r := by subst e; exact h
/-- a place in a row of n -/
def ld {β : Type} (i : Int32) (n : Nat) (k : Nat → Option β) : Option β := if i < 0 ∨ n ≤ i.toNatClampNeg then none else k i.toNatClampNeg
theorem ld_some {β : Type} {i : Int32} {n : Nat} {k : Nat → Option β} {r : β} (h : ld i n k = some r) : vp_in i n ∧ k i.toNatClampNeg = some r := by
  unfold ld at h
  by_cases c : i < 0 ∨ n ≤ i.toNatClampNeg
  · rw [if_pos c] at h; cases h
  · rw [if_neg c] at h; exact ⟨c, h⟩
/-- a condition that must hold -/
def ok {β : Type} (c : Prop) [Decidable c] (k : Option β) : Option β := if c then k else none
theorem ok_some {β : Type} {c : Prop} [Decidable c] {k : Option β} {r : β} (h : ok c k = some r) : c ∧ k = some r := by
  unfold ok at h
  by_cases q : c
  · rw [if_pos q] at h; exact ⟨q, h⟩
  · rw [if_neg q] at h; cases h
/-- an answer of a call: a state and a value -/
def bq {σ α β : Type} (x : Option (σ × α)) (k : σ → α → Option β) : Option β := match x with
  | none => none
  | some p => k p.1 p.2
theorem bq_some {σ α β : Type} {x : Option (σ × α)} {k : σ → α → Option β} {r : β} (h : bq x k = some r) : ∃ p, x = some p ∧ k p.1 p.2 = some r := by
  cases x with
  | none => cases h
  | some p => exact ⟨p, rfl, h⟩
/-- a state alone -/
def bv {σ β : Type} (x : Option σ) (k : σ → Option β) : Option β := match x with
  | none => none
  | some p => k p
theorem bv_some {σ β : Type} {x : Option σ} {k : σ → Option β} {r : β} (h : bv x k = some r) : ∃ p, x = some p ∧ k p = some r := by
  cases x with
  | none => cases h
  | some p => exact ⟨p, rfl, h⟩
theorem ite_t {α : Type} {c : Prop} [Decidable c] {a b r : α} (hc : c) (h : (if c then a else b) = r) : a = r := by rw [if_pos hc] at h; exact h
theorem ite_f {α : Type} {c : Prop} [Decidable c] {a b r : α} (hc : ¬ c) (h : (if c then a else b) = r) : b = r := by rw [if_neg hc] at h; exact h
abbrev CE : Type := Nat → (Nat → Int32) → (Nat → Int64) → va_E
def wS (q : Nat → Nat) (N : Nat) (cx : CE) (S : St) : va_W := (List.range N).map (fun k => (q k, cx k (S.1 k) (S.2 k)))
theorem wS_get {q : Nat → Nat} {N : Nat} {cx : CE} {S : St} {k : Nat} {e : va_E} (hk : k < N) (he : cx k (S.1 k) (S.2 k) = e) : (wS q N cx S)[k]? = some (q k, e) := by
  subst he
  simp [wS, hk]
theorem wS_set {q : Nat → Nat} {N : Nat} {cx : CE} {S S' : St} {k : Nat} {e : va_E} (he : cx k (S'.1 k) (S'.2 k) = e) (h1 : ∀ j, j ≠ k → S'.1 j = S.1 j) (h2 : ∀ j, j ≠ k → S'.2 j = S.2 j) : (wS q N cx S).set k (q k, e) = wS q N cx S' := by
  subst he
  apply List.ext_getElem?
  intro j
  by_cases hj : j = k
  · subst hj
    by_cases hN : j < N
    · simp [wS, hN]
    · simp [wS, hN]
  · rw [List.getElem?_set_ne (fun e => hj e.symm)]
    by_cases hN : j < N
    · simp [wS, hN, h1 j hj, h2 j hj]
    · simp [wS, hN]
def aS (q : Nat → Nat) (N : Nat) : Nat → Prop := fun a => ∃ k, k < N ∧ a = q k
def inj (q : Nat → Nat) (N : Nat) : Prop := ∀ i j, i < N → j < N → q i = q j → i = j
theorem wS_at {q : Nat → Nat} {N : Nat} {cx : CE} {S : St} {i : Nat} {x : Nat × va_E} (h : (wS q N cx S)[i]? = some x) : i < N ∧ x.1 = q i := by
  by_cases hN : i < N
  · simp [wS, hN] at h
    exact ⟨hN, by rw [← h]⟩
  · simp [wS, hN] at h
theorem wS_D {q : Nat → Nat} {N : Nat} {cx : CE} {S : St} (hq : inj q N) : va_D (aS q N) (wS q N cx S) := by
  refine ⟨fun i j x y hx hy hxy => ?_, fun k x hx => ?_⟩
  · obtain ⟨h1, h2⟩ := wS_at hx
    obtain ⟨h3, h4⟩ := wS_at hy
    exact hq i j h1 h3 (by rw [← h2, ← h4, hxy])
  · obtain ⟨h1, h2⟩ := wS_at hx
    exact ⟨k, h1, h2⟩
theorem si_k {S : St} {c k : Nat} {v : Int32} : (si S c k v).1 c = upd (S.1 c) k v := if_pos rfl
theorem si_n {S : St} {c k : Nat} {v : Int32} (j : Nat) (h : j ≠ c) : (si S c k v).1 j = S.1 j := if_neg h
theorem sj_k {S : St} {c k : Nat} {v : Int64} : (sj S c k v).2 c = vp_updL (S.2 c) k v := if_pos rfl
theorem sj_n {S : St} {c k : Nat} {v : Int64} (j : Nat) (h : j ≠ c) : (sj S c k v).2 j = S.2 j := if_neg h
theorem sr_k {S : St} {c : Nat} {f : Nat → Int32} : (sr S c f).1 c = f := if_pos rfl
theorem sr_n {S : St} {c : Nat} {f : Nat → Int32} (j : Nat) (h : j ≠ c) : (sr S c f).1 j = S.1 j := if_neg h
theorem sl_k {S : St} {c : Nat} {f : Nat → Int64} : (sl S c f).2 c = f := if_pos rfl
theorem sl_n {S : St} {c : Nat} {f : Nat → Int64} (j : Nat) (h : j ≠ c) : (sl S c f).2 j = S.2 j := if_neg h
-- THE WORDS: all good words of the tables
def WL : List Cond := lw_tbl.filter goodWord
theorem wl_of {w : Cond} (h : w ∈ lw_tbl) (hg : goodWord w = true) : w ∈ WL := List.mem_filter.mpr ⟨h, hg⟩
theorem wl_t {w : Cond} (i : Nat) (h : tables_1[i]? = some w) (hg : goodWord w = true) : w ∈ WL := wl_of (List.mem_append_right _ (List.mem_of_getElem? h)) hg
theorem wl_s {w : Cond} (i : Nat) (h : (k2_sels lw_privs)[i]? = some w) (hg : goodWord w = true) : w ∈ WL := wl_of (List.mem_append_left _ (List.mem_of_getElem? h)) hg
theorem wl_r {ws : List Cond} (ps : List Nat) (hp : ws = ps.filterMap (fun i => tables_1[i]?)) (hg : ws.all goodWord = true) : ∀ w ∈ ws, w ∈ WL := by
  intro w hw
  have h1 := List.all_eq_true.mp hg w hw
  rw [hp] at hw
  obtain ⟨i, -, hi⟩ := List.mem_filterMap.mp hw
  exact wl_t i hi h1
theorem wl_good : GoodIn WL WL := fun w h => ⟨h, good_of_word (List.mem_filter.mp h).2⟩
theorem wl_sub {ws : List Cond} (h : ∀ w ∈ ws, w ∈ WL) : GoodIn WL ws := fun w hw => wl_good w (h w hw)
/-- what a callee is, by its words -/
def isV (y : MethodName) (bs : ByteArray) (n : Nat) (r : Option FieldType) : Prop := Cond.instanceMethod y ∈ WL ∧ Cond.selects y.cls y y ∈ WL ∧ Cond.initialized y.cls ∈ WL ∧ Cond.code y bs n r ∈ WL
def isS (y : MethodName) (bs : ByteArray) (n : Nat) (r : Option FieldType) : Prop := Cond.static y ∈ WL ∧ Cond.initialized y.cls ∈ WL ∧ Cond.code y bs n r ∈ WL
theorem wl_V {own : String} {idx : Nat} {y : MethodName} {bs : ByteArray} {n : Nat} {r : Option FieldType} (h1 : Cond.methodLink own idx y ∈ WL) (h : isV y bs n r) : GoodIn WL (wsV own idx y.cls y (Cond.code y bs n r :: WL)) := by
  refine wl_sub (fun w hw => ?_)
  simp only [wsV, List.cons_append, List.nil_append, List.mem_cons] at hw
  rcases hw with rfl | rfl | rfl | rfl | rfl | hw
  · exact h1
  · exact h.1
  · exact h.2.1
  · exact h.2.2.1
  · exact h.2.2.2
  · exact hw
theorem wl_S {own : String} {idx : Nat} {y : MethodName} {bs : ByteArray} {n : Nat} {r : Option FieldType} (h1 : Cond.methodLink own idx y ∈ WL) (h : isS y bs n r) : GoodIn WL (va_wsS own idx y (Cond.code y bs n r :: WL)) := by
  refine wl_sub (fun w hw => ?_)
  simp only [va_wsS, List.cons_append, List.nil_append, List.mem_cons] at hw
  rcases hw with rfl | rfl | rfl | rfl | hw
  · exact h1
  · exact h.1
  · exact h.2.1
  · exact h.2.2
  · exact hw
theorem wl_C {c : Cond} (h : c ∈ WL) : GoodIn WL (c :: WL) := wl_sub (fun w hw => by
  rcases List.mem_cons.mp hw with rfl | hw
  · exact h
  · exact hw)
-- THE SURROUNDINGS: classes, static rows, string constants
def tyL (g : Nat → ClassId) : List (ClassId × FieldType) := [(g 0, .int), (g 1, .long), (g 2, .boolean), (g 3, .object "FeltHouse$Sheet")]
def tbK (i : Nat) : Int32 := ([0, 0, 0, 0, 0, 4, 2] : List Int32).getD i 0
def tbS (i : Nat) : Int32 := ([99, 7, 9, 99, 60] : List Int32).getD i 0
def tbH (i : Nat) : Int32 := ([999, 99, 999] : List Int32).getD i 0
/-- the literals: part pole band stone felt flap rope camp beast draw weight wear grass -/
def sIx : List Nat := [140, 128, 130, 132, 134, 136, 138, 47, 52, 57, 78, 87, 99]
def sTx : List String := ["part", "pole", "band", "stone", "felt", "flap", "rope", "camp", "beast", "draw", "weight", "wear", "grass"]
def sLen : List Nat := [4, 4, 4, 5, 4, 4, 4, 4, 5, 4, 6, 4, 5]
def sByt : List (List Int32) := [[112, 97, 114, 116], [112, 111, 108, 101], [98, 97, 110, 100], [115, 116, 111, 110, 101], [102, 101, 108, 116], [102, 108, 97, 112], [114, 111, 112, 101], [99, 97, 109, 112], [98, 101, 97, 115, 116], [100, 114, 97, 119], [119, 101, 105, 103, 104, 116], [119, 101, 97, 114], [103, 114, 97, 115, 115]]
def Ev (D : va_G) (g : Nat → ClassId) (Z : Nat → Nat) (A : Nat → Prop) (s : State) (H : Heap) : Prop :=
  va_K D vwCl (tyL g) s ∧
  (va_Nw (.methodLinkNest RX6 51 yX5_init "FeltHouse") s ∧ va_Nw (.methodLinkNest RX6 62 yX3_init "FeltHouse") s ∧ va_Nw (.methodLinkNest RX0 118 yX6_isOfKind "FeltHouse") s ∧ va_Nw (.methodLinkNest RX5 114 yX6_within "FeltHouse") s) ∧
  (va_Z "FeltHouse" "KIND_ABOVE" "[I" (.ref (Z 0)) A s H ∧ va_T .int (Z 0) 7 (fun i => .int (tbK i)) A s H) ∧
  (va_Z "FeltHouse" "SKY_MOST" "[I" (.ref (Z 1)) A s H ∧ va_T .int (Z 1) 5 (fun i => .int (tbS i)) A s H) ∧
  (va_Z "FeltHouse" "HERDING_MOST" "[I" (.ref (Z 2)) A s H ∧ va_T .int (Z 2) 3 (fun i => .int (tbH i)) A s H) ∧
  vk_S 13 sLen sByt (fun i => Z (10 + i)) (fun i => Z (30 + i)) A s H ∧
  (∀ i, i < 13 → vk_R RX5 (sIx.getD i 0) (sTx.getD i "") (Z (10 + i)) s) ∧
  va_Z "java/lang/String" "COMPACT_STRINGS" "Z" (.int 1) A s H ∧
  va_Zq "jdk/internal/util/Preconditions" "SIOOBE_FORMATTER" "Ljava/util/function/BiFunction;" A s H
theorem Ev.moved {D : va_G} {g : Nat → ClassId} {Z : Nat → Nat} {A : Nat → Prop} {s U : State} {H H1 : Heap} (hW : s.WarmedH U.vm) (hq : ∀ a : Nat, a < H.size → ¬ A a → H1[a]? = H[a]?) (h : Ev D g Z A s H) : Ev D g Z A U H1 := by
  obtain ⟨h1, ⟨n1, n2, n3, n4⟩, ⟨k1, k2⟩, ⟨k3, k4⟩, ⟨k5, k6⟩, s1, s2, s3, s4⟩ := h
  exact ⟨va_K.moved hW.alike h1, ⟨va_Nw.warmM hW n1, va_Nw.warmM hW n2, va_Nw.warmM hW n3, va_Nw.warmM hW n4⟩, ⟨(va_Z.moved hW.alike k1).kept hq, (va_T.moved hW.alike k2).kept hq⟩, ⟨(va_Z.moved hW.alike k3).kept hq, (va_T.moved hW.alike k4).kept hq⟩, ⟨(va_Z.moved hW.alike k5).kept hq, (va_T.moved hW.alike k6).kept hq⟩, (vk_S.moved hW.alike s1).kept hq, fun i hi => vk_R.warm hW (s2 i hi), (va_Z.moved hW.alike s3).kept hq, (va_Zq.moved hW.alike s4).kept hq⟩
theorem Ev.same {D : va_G} {g : Nat → ClassId} {Z : Nat → Nat} {A : Nat → Prop} {u U : State} {H : Heap} (hv : u.vm = U.vm) (h : Ev D g Z A u H) : Ev D g Z A U H := by
  have hvm : u.vm.Alike U.vm := by rw [← hv]; exact Vm.Alike.refl u.vm
  obtain ⟨h1, ⟨n1, n2, n3, n4⟩, ⟨k1, k2⟩, ⟨k3, k4⟩, ⟨k5, k6⟩, s1, s2, s3, s4⟩ := h
  exact ⟨va_K.moved hvm h1, ⟨va_Nw.same rfl hv n1, va_Nw.same rfl hv n2, va_Nw.same rfl hv n3, va_Nw.same rfl hv n4⟩, ⟨va_Z.moved hvm k1, va_T.moved hvm k2⟩, ⟨va_Z.moved hvm k3, va_T.moved hvm k4⟩, ⟨va_Z.moved hvm k5, va_T.moved hvm k6⟩, vk_S.moved hvm s1, fun i hi => vk_R.same hv.symm (s2 i hi), va_Z.moved hvm s3, va_Zq.moved hvm s4⟩
-- CONTRACTS
abbrev VT : Type := Nat × ((Nat → Nat) → (Nat → ClassId) → CE)
/-- the launch, the classes' numbers, the array classes, the fixed cells, the world's cells -/
abbrev YT : Type := Launch × va_G × (Nat → ClassId) × (Nat → Nat) × (Nat → Nat)
abbrev XT : Type := Program × Env × State × MethodId × Array Value × List Frame × Method × Code
abbrev rf (Y : YT) (k : Nat) : Value := .ref (Y.2.2.2.2 k)
abbrev rz (Y : YT) (k : Nat) : Value := .ref (Y.2.2.2.1 k)
abbrev wV (V : VT) (Y : YT) (S : St) : va_W := wS Y.2.2.2.2 V.1 (V.2 Y.2.2.2.2 Y.2.2.1) S
abbrev aV (V : VT) (Y : YT) : Nat → Prop := aS Y.2.2.2.2 V.1
def PX (V : VT) (Y : YT) (S : St) (av : List Value) : Array Value → State → Prop := fun v U => v = av.toArray ∧ inj Y.2.2.2.2 V.1 ∧ Ev Y.2.1 Y.2.2.1 Y.2.2.2.1 (aV V Y) U U.heap ∧ va_P Y.2.1 vwCl (wV V Y S) U.heap
def QX (V : VT) (Y : YT) (R : Option Value × St) : Array Value → State → Outcome → State → Prop := fun _ st o t => o = .returned R.1 ∧ va_P Y.2.1 vwCl (wV V Y R.2) t.heap ∧ va_F (aV V Y) st t
theorem PX_blind {V : VT} {Y : YT} {S : St} {av : List Value} : FrameBlind (PX V Y S av) := fun a U f mk h => ⟨h.1, h.2.1, Ev.same (U := U.calling f mk a) rfl h.2.2.1, h.2.2.2⟩
abbrev Rm (fr lo : Nat) : Room := { frames := fr, cells := 0, slots := 0, locals := lo }
def Mc (V : VT) (Y : YT) (y : MethodName) (cc : ByteArray) (n : Nat) (r : Option FieldType) (fr lo : Nat) (av : List Value) (S : St) (R : Option Value × St) : Prop :=
  Met Y.1 y (Cond.code y cc n r :: WL) (Rm fr lo) (PX V Y S av) (QX V Y R) 0 0 (aV V Y)
/-- what holds all through a method -/
def Ok (V : VT) (Y : YT) (X : XT) (own : String) (cc : ByteArray) (n : Nat) (r : Option FieldType) : Prop :=
  X.1.tables.exec = Jvm.exec ∧ X.2.2.2.2.2.2.2.code = cc ∧ X.2.2.2.2.2.2.1.sig.returnType = r ∧ X.2.2.2.2.2.2.2.maxLocals = n ∧ X.2.2.1.vm.findClass own = some X.2.2.2.1.cls ∧ (∀ w ∈ WL, w.before X.2.2.2.2.1 X.2.2.1 = true) ∧ X.2.2.2.2.2.2.1.locks = false ∧ Ev Y.2.1 Y.2.2.1 Y.2.2.2.1 (aV V Y) X.2.2.1 X.2.2.1.heap ∧ inj Y.2.2.2.2 V.1
/-- the machine at pc in a state S comes to the answer R -/
def WS (V : VT) (Y : YT) (X : XT) (n fr lo : Nat) (R : Option Value × St) (S : St) (pc : Nat) (lv : List (Nat × Value)) (st : List Value) : Prop :=
  ∀ (H : Heap) (locs : List Loc) (ls : Array Slot), va_P Y.2.1 vwCl (wV V Y S) H → va_S (aV V Y) X.2.2.1.heap H locs → lv_has ls n lv →
    W X.1 Y.1 X.2.1 (Rm fr lo) X.2.2.1 X.2.2.2.1 X.2.2.2.2.1 X.2.2.2.2.2.1 X.2.2.2.2.2.2.1 X.2.2.2.2.2.2.2 H locs 0 0 (MQ X.2.2.2.2.2.1 (QX V Y R) X.2.2.2.2.1 X.2.2.1 0 0 (aV V Y)) (F0 X.2.2.2.1 pc ls st)
theorem Mc.start {V : VT} {Y : YT} {y : MethodName} {cc : ByteArray} {n : Nat} {r : Option FieldType} {fr lo : Nat} {av : List Value} {S : St} {R : Option Value × St} (lv : List (Nat × Value)) (hlv : lv_args 0 av = lv) (hy : plainName y.cls = true) (hlen : (lg_sl av).length ≤ n)
    (body : ∀ X : XT, Ok V Y X y.cls cc n r → WS V Y X n fr lo R S 0 lv []) : Mc V Y y cc n r fr lo av S R := by
  refine Met.ofW (cc := cc) (maxL := n) (ret := r) hy rfl ?_
  intro p e s m args below meth c s₁ B hml hv
  obtain ⟨rfl, hi, hE, hP⟩ := hv
  have hts := atoms_spec (ws := Cond.code y cc n r :: WL) B.pre
  have hl := lv_entry av (n := n) hlen
  rw [lg_entry_eq]
  subst hlv
  exact body (p, e, s, m, av.toArray, below, meth, c) ⟨B.exec, B.bytes, B.returns, hml, findClass_of_methodNamed B.named, fun w h => hts w (List.mem_cons_of_mem _ h), B.notSynchronized, hE, hi⟩ s.heap [] _ hP va_S.rf hl
end
section
section
variable {V : VT} {Y : YT} {X : XT} {own : String} {cc : ByteArray} {n fr lo : Nat} {r : Option FieldType} {R : Option Value × St} {S : St} {pc : Nat} {lv : List (Nat × Value)} {st : List Value}
theorem w_sub {lv' : List (Nat × Value)} (ks : List Nat) (hl : lv_pick lv ks = lv') (K : WS V Y X n fr lo R S pc lv' st) : WS V Y X n fr lo R S pc lv st := fun H locs ls hP hS h => K H locs ls hP hS (lv_sub h ks hl)
theorem w_iconst (C : Ok V Y X own cc n r) {k : Int} {v : Int32} (d : decode cc pc = .ok (.iconst k, 1)) (hv : Int32.ofInt k = v) (K : WS V Y X n fr lo R S (pc + 1) lv (.int v :: st)) : WS V Y X n fr lo R S pc lv st := fun H locs ls hP hS hl => lv_iconst C.1 C.2.1 d hv (K H locs ls hP hS hl)
theorem w_bipush (C : Ok V Y X own cc n r) {k : Int} {v : Int32} (d : decode cc pc = .ok (.bipush k, 2)) (hv : (Int8.ofInt k).toInt32 = v) (K : WS V Y X n fr lo R S (pc + 2) lv (.int v :: st)) : WS V Y X n fr lo R S pc lv st := fun H locs ls hP hS hl => lv_bipush C.1 C.2.1 d hv (K H locs ls hP hS hl)
theorem w_sipush (C : Ok V Y X own cc n r) {k : Int} {v : Int32} (d : decode cc pc = .ok (.sipush k, 3)) (hv : (Int16.ofInt k).toInt32 = v) (K : WS V Y X n fr lo R S (pc + 3) lv (.int v :: st)) : WS V Y X n fr lo R S pc lv st := fun H locs ls hP hS hl => lv_sipush C.1 C.2.1 d hv (K H locs ls hP hS hl)
theorem w_lconst (C : Ok V Y X own cc n r) {k : Fin 2} {v : Int64} (d : decode cc pc = .ok (.lconst k, 1)) (hv : Int64.ofNat (k : Nat) = v) (K : WS V Y X n fr lo R S (pc + 1) lv (.long v :: st)) : WS V Y X n fr lo R S pc lv st := fun H locs ls hP hS hl => lv_lconst C.1 C.2.1 d hv (K H locs ls hP hS hl)
theorem w_ldc (C : Ok V Y X own cc n r) {k : Nat} {v : Int32} (d : decode cc pc = .ok (.ldc k, 2)) (hc : Cond.constant own k v ∈ WL) (K : WS V Y X n fr lo R S (pc + 2) lv (.int v :: st)) : WS V Y X n fr lo R S pc lv st := fun H locs ls hP hS hl => lv_ldc C.1 C.2.1 C.2.2.2.2.1 (C.2.2.2.2.2.1 _ hc) d (K H locs ls hP hS hl)
theorem w_ldcw (C : Ok V Y X own cc n r) {k : Nat} {v : Int32} (d : decode cc pc = .ok (.ldc_w k, 3)) (hc : Cond.constant own k v ∈ WL) (K : WS V Y X n fr lo R S (pc + 3) lv (.int v :: st)) : WS V Y X n fr lo R S pc lv st := fun H locs ls hP hS hl => lv_ldcw C.1 C.2.1 C.2.2.2.2.1 (C.2.2.2.2.2.1 _ hc) d (K H locs ls hP hS hl)
theorem w_ldc2 (C : Ok V Y X own cc n r) {k : Nat} {v : Int64} (d : decode cc pc = .ok (.ldc2_w k, 3)) (hc : Cond.constantLong own k v ∈ WL) (K : WS V Y X n fr lo R S (pc + 3) lv (.long v :: st)) : WS V Y X n fr lo R S pc lv st := fun H locs ls hP hS hl => lv_ldc2 C.1 C.2.1 C.2.2.2.2.1 (C.2.2.2.2.2.1 _ hc) d (K H locs ls hP hS hl)
theorem w_iload_n (C : Ok V Y X own cc n r) {k : Fin 4} {i : Nat} {x : Int32} (d : decode cc pc = .ok (.iload_n k, 1)) (hi : (k : Nat) = i) (j : Nat) (h : lv[j]? = some (i, .int x)) (K : WS V Y X n fr lo R S (pc + 1) lv (.int x :: st)) : WS V Y X n fr lo R S pc lv st := fun H locs ls hP hS hl => lv_iload_n C.1 C.2.1 d hi (lv_at hl j h) (K H locs ls hP hS hl)
theorem w_iload (C : Ok V Y X own cc n r) {i : Nat} {x : Int32} (d : decode cc pc = .ok (.iload i, 2)) (j : Nat) (h : lv[j]? = some (i, .int x)) (K : WS V Y X n fr lo R S (pc + 2) lv (.int x :: st)) : WS V Y X n fr lo R S pc lv st := fun H locs ls hP hS hl => lv_iload C.1 C.2.1 d (lv_at hl j h) (K H locs ls hP hS hl)
theorem w_lload_n (C : Ok V Y X own cc n r) {k : Fin 4} {i : Nat} {x : Int64} (d : decode cc pc = .ok (.lload_n k, 1)) (hi : (k : Nat) = i) (j : Nat) (h : lv[j]? = some (i, .long x)) (K : WS V Y X n fr lo R S (pc + 1) lv (.long x :: st)) : WS V Y X n fr lo R S pc lv st := fun H locs ls hP hS hl => lv_lload_n C.1 C.2.1 d hi (lv_at hl j h) (K H locs ls hP hS hl)
theorem w_lload (C : Ok V Y X own cc n r) {i : Nat} {x : Int64} (d : decode cc pc = .ok (.lload i, 2)) (j : Nat) (h : lv[j]? = some (i, .long x)) (K : WS V Y X n fr lo R S (pc + 2) lv (.long x :: st)) : WS V Y X n fr lo R S pc lv st := fun H locs ls hP hS hl => lv_lload C.1 C.2.1 d (lv_at hl j h) (K H locs ls hP hS hl)
theorem w_aload_n (C : Ok V Y X own cc n r) {k : Fin 4} {i : Nat} {x : Nat} (d : decode cc pc = .ok (.aload_n k, 1)) (hi : (k : Nat) = i) (j : Nat) (h : lv[j]? = some (i, .ref x)) (K : WS V Y X n fr lo R S (pc + 1) lv (.ref x :: st)) : WS V Y X n fr lo R S pc lv st := fun H locs ls hP hS hl => lv_aload_n C.1 C.2.1 d hi (lv_at hl j h) (K H locs ls hP hS hl)
theorem w_aload (C : Ok V Y X own cc n r) {i : Nat} {x : Nat} (d : decode cc pc = .ok (.aload i, 2)) (j : Nat) (h : lv[j]? = some (i, .ref x)) (K : WS V Y X n fr lo R S (pc + 2) lv (.ref x :: st)) : WS V Y X n fr lo R S pc lv st := fun H locs ls hP hS hl => lv_aload C.1 C.2.1 d (lv_at hl j h) (K H locs ls hP hS hl)
theorem w_istore_n (C : Ok V Y X own cc n r) {k : Fin 4} {i : Nat} {x : Int32} (d : decode cc pc = .ok (.istore_n k, 1)) (hi : (k : Nat) = i) (hn : i < n) (lv' : List (Nat × Value)) (h : (i, Value.int x) :: lv.filter (fun q => !(q.1 == i) && !(q.1 + 1 == i && q.2.category == 2)) = lv') (K : WS V Y X n fr lo R S (pc + 1) lv' st) : WS V Y X n fr lo R S pc lv (.int x :: st) := fun H locs ls hP hS hl => lv_istore_n C.1 C.2.1 d hi hl hn h (fun ls' hl' => K H locs ls' hP hS hl')
theorem w_istore (C : Ok V Y X own cc n r) {i : Nat} {x : Int32} (d : decode cc pc = .ok (.istore i, 2)) (hn : i < n) (lv' : List (Nat × Value)) (h : (i, Value.int x) :: lv.filter (fun q => !(q.1 == i) && !(q.1 + 1 == i && q.2.category == 2)) = lv') (K : WS V Y X n fr lo R S (pc + 2) lv' st) : WS V Y X n fr lo R S pc lv (.int x :: st) := fun H locs ls hP hS hl => lv_istore C.1 C.2.1 d hl hn h (fun ls' hl' => K H locs ls' hP hS hl')
theorem w_lstore (C : Ok V Y X own cc n r) {i : Nat} {x : Int64} (d : decode cc pc = .ok (.lstore i, 2)) (hn : i + 1 < n) (lv' : List (Nat × Value)) (h : (i, Value.long x) :: lv.filter (fun q => !(q.1 == i) && (!(q.1 == i + 1) && !(q.1 + 1 == i && q.2.category == 2))) = lv') (K : WS V Y X n fr lo R S (pc + 2) lv' st) : WS V Y X n fr lo R S pc lv (.long x :: st) := fun H locs ls hP hS hl => lv_lstore C.1 C.2.1 d hl hn h (fun ls' hl' => K H locs ls' hP hS hl')
theorem w_astore_n (C : Ok V Y X own cc n r) {k : Fin 4} {i : Nat} {x : Nat} (d : decode cc pc = .ok (.astore_n k, 1)) (hi : (k : Nat) = i) (hn : i < n) (lv' : List (Nat × Value)) (h : (i, Value.ref x) :: lv.filter (fun q => !(q.1 == i) && !(q.1 + 1 == i && q.2.category == 2)) = lv') (K : WS V Y X n fr lo R S (pc + 1) lv' st) : WS V Y X n fr lo R S pc lv (.ref x :: st) := fun H locs ls hP hS hl => lv_astore_n C.1 C.2.1 d hi hl hn h (fun ls' hl' => K H locs ls' hP hS hl')
theorem w_astore (C : Ok V Y X own cc n r) {i : Nat} {x : Nat} (d : decode cc pc = .ok (.astore i, 2)) (hn : i < n) (lv' : List (Nat × Value)) (h : (i, Value.ref x) :: lv.filter (fun q => !(q.1 == i) && !(q.1 + 1 == i && q.2.category == 2)) = lv') (K : WS V Y X n fr lo R S (pc + 2) lv' st) : WS V Y X n fr lo R S pc lv (.ref x :: st) := fun H locs ls hP hS hl => lv_astore C.1 C.2.1 d hl hn h (fun ls' hl' => K H locs ls' hP hS hl')
theorem w_iinc (C : Ok V Y X own cc n r) {i : Nat} {k : Int} {x v : Int32} (d : decode cc pc = .ok (.iinc i k, 3)) (j : Nat) (hk : lv[j]? = some (i, .int x)) (w : Int32) (hw : Int32.ofInt k = w) (hv : x + w = v) (hn : i < n) (lv' : List (Nat × Value)) (h : (i, Value.int v) :: lv.filter (fun q => !(q.1 == i) && !(q.1 + 1 == i && q.2.category == 2)) = lv') (K : WS V Y X n fr lo R S (pc + 3) lv' st) : WS V Y X n fr lo R S pc lv st := fun H locs ls hP hS hl => lv_iinc (k := j) C.1 C.2.1 d hl hk (by rw [hw]; exact hv) hn h (fun ls' hl' => K H locs ls' hP hS hl')
theorem w_iadd (C : Ok V Y X own cc n r) {x y : Int32} (d : decode cc pc = .ok (.iadd, 1)) (K : WS V Y X n fr lo R S (pc + 1) lv (.int (x + y) :: st)) : WS V Y X n fr lo R S pc lv (.int y :: .int x :: st) := fun H locs ls hP hS hl => lv_iadd C.1 C.2.1 d (K H locs ls hP hS hl)
theorem w_isub (C : Ok V Y X own cc n r) {x y : Int32} (d : decode cc pc = .ok (.isub, 1)) (K : WS V Y X n fr lo R S (pc + 1) lv (.int (x - y) :: st)) : WS V Y X n fr lo R S pc lv (.int y :: .int x :: st) := fun H locs ls hP hS hl => lv_isub C.1 C.2.1 d (K H locs ls hP hS hl)
theorem w_imul (C : Ok V Y X own cc n r) {x y : Int32} (d : decode cc pc = .ok (.imul, 1)) (K : WS V Y X n fr lo R S (pc + 1) lv (.int (x * y) :: st)) : WS V Y X n fr lo R S pc lv (.int y :: .int x :: st) := fun H locs ls hP hS hl => lv_imul C.1 C.2.1 d (K H locs ls hP hS hl)
theorem w_iand (C : Ok V Y X own cc n r) {x y : Int32} (d : decode cc pc = .ok (.iand, 1)) (K : WS V Y X n fr lo R S (pc + 1) lv (.int (x &&& y) :: st)) : WS V Y X n fr lo R S pc lv (.int y :: .int x :: st) := fun H locs ls hP hS hl => lv_iand C.1 C.2.1 d (K H locs ls hP hS hl)
theorem w_ior (C : Ok V Y X own cc n r) {x y : Int32} (d : decode cc pc = .ok (.ior, 1)) (K : WS V Y X n fr lo R S (pc + 1) lv (.int (x ||| y) :: st)) : WS V Y X n fr lo R S pc lv (.int y :: .int x :: st) := fun H locs ls hP hS hl => lv_ior C.1 C.2.1 d (K H locs ls hP hS hl)
theorem w_ixor (C : Ok V Y X own cc n r) {x y : Int32} (d : decode cc pc = .ok (.ixor, 1)) (K : WS V Y X n fr lo R S (pc + 1) lv (.int (x ^^^ y) :: st)) : WS V Y X n fr lo R S pc lv (.int y :: .int x :: st) := fun H locs ls hP hS hl => lv_ixor C.1 C.2.1 d (K H locs ls hP hS hl)
theorem w_idiv (C : Ok V Y X own cc n r) {x y : Int32} (d : decode cc pc = .ok (.idiv, 1)) (hne : ¬ y = 0) (K : WS V Y X n fr lo R S (pc + 1) lv (.int (x / y) :: st)) : WS V Y X n fr lo R S pc lv (.int y :: .int x :: st) := fun H locs ls hP hS hl => lv_idiv C.1 C.2.1 d hne (K H locs ls hP hS hl)
theorem w_irem (C : Ok V Y X own cc n r) {x y : Int32} (d : decode cc pc = .ok (.irem, 1)) (hne : ¬ y = 0) (K : WS V Y X n fr lo R S (pc + 1) lv (.int (x - x / y * y) :: st)) : WS V Y X n fr lo R S pc lv (.int y :: .int x :: st) := fun H locs ls hP hS hl => lv_irem C.1 C.2.1 d hne (K H locs ls hP hS hl)
theorem w_ineg (C : Ok V Y X own cc n r) {x : Int32} (d : decode cc pc = .ok (.ineg, 1)) (K : WS V Y X n fr lo R S (pc + 1) lv (.int (-x) :: st)) : WS V Y X n fr lo R S pc lv (.int x :: st) := fun H locs ls hP hS hl => lv_ineg C.1 C.2.1 d (K H locs ls hP hS hl)
theorem w_ishl (C : Ok V Y X own cc n r) {x y : Int32} (d : decode cc pc = .ok (.ishl, 1)) (K : WS V Y X n fr lo R S (pc + 1) lv (.int (x <<< (y &&& 31)) :: st)) : WS V Y X n fr lo R S pc lv (.int y :: .int x :: st) := fun H locs ls hP hS hl => lv_ishl C.1 C.2.1 d (K H locs ls hP hS hl)
theorem w_ishr (C : Ok V Y X own cc n r) {x y : Int32} (d : decode cc pc = .ok (.ishr, 1)) (K : WS V Y X n fr lo R S (pc + 1) lv (.int (x >>> (y &&& 31)) :: st)) : WS V Y X n fr lo R S pc lv (.int y :: .int x :: st) := fun H locs ls hP hS hl => lv_ishr C.1 C.2.1 d (K H locs ls hP hS hl)
def ushr (x y : Int32) : Int32 := (x.toUInt32 >>> (y.toUInt32 &&& Int32.toUInt32 31)).toInt32
theorem w_iushr (C : Ok V Y X own cc n r) {x y : Int32} (d : decode cc pc = .ok (.iushr, 1)) (K : WS V Y X n fr lo R S (pc + 1) lv (.int (ushr x y) :: st)) : WS V Y X n fr lo R S pc lv (.int y :: .int x :: st) := fun H locs ls hP hS hl => lv_iushr C.1 C.2.1 d rfl (K H locs ls hP hS hl)
theorem w_i2l (C : Ok V Y X own cc n r) {x : Int32} (d : decode cc pc = .ok (.i2l, 1)) (K : WS V Y X n fr lo R S (pc + 1) lv (.long x.toInt64 :: st)) : WS V Y X n fr lo R S pc lv (.int x :: st) := fun H locs ls hP hS hl => lv_i2l C.1 C.2.1 d rfl (K H locs ls hP hS hl)
theorem w_l2i (C : Ok V Y X own cc n r) {x : Int64} (d : decode cc pc = .ok (.l2i, 1)) (K : WS V Y X n fr lo R S (pc + 1) lv (.int x.toInt32 :: st)) : WS V Y X n fr lo R S pc lv (.long x :: st) := fun H locs ls hP hS hl => lv_l2i C.1 C.2.1 d rfl (K H locs ls hP hS hl)
theorem w_i2b (C : Ok V Y X own cc n r) {x : Int32} (d : decode cc pc = .ok (.i2b, 1)) (K : WS V Y X n fr lo R S (pc + 1) lv (.int x.toInt8.toInt32 :: st)) : WS V Y X n fr lo R S pc lv (.int x :: st) := fun H locs ls hP hS hl => lv_i2b C.1 C.2.1 d rfl (K H locs ls hP hS hl)
theorem w_i2s (C : Ok V Y X own cc n r) {x : Int32} (d : decode cc pc = .ok (.i2s, 1)) (K : WS V Y X n fr lo R S (pc + 1) lv (.int x.toInt16.toInt32 :: st)) : WS V Y X n fr lo R S pc lv (.int x :: st) := fun H locs ls hP hS hl => lv_i2s C.1 C.2.1 d rfl (K H locs ls hP hS hl)
theorem w_i2c (C : Ok V Y X own cc n r) {x : Int32} (d : decode cc pc = .ok (.i2c, 1)) (K : WS V Y X n fr lo R S (pc + 1) lv (.int (x.toUInt32 % 65536).toInt32 :: st)) : WS V Y X n fr lo R S pc lv (.int x :: st) := fun H locs ls hP hS hl => lv_i2c C.1 C.2.1 d rfl (K H locs ls hP hS hl)
theorem w_lcmp (C : Ok V Y X own cc n r) {x y : Int64} (d : decode cc pc = .ok (.lcmp, 1)) (K : WS V Y X n fr lo R S (pc + 1) lv (.int (lg_cmp x y) :: st)) : WS V Y X n fr lo R S pc lv (.long y :: .long x :: st) := fun H locs ls hP hS hl => W.lcmp C.1 C.2.1 d (K H locs ls hP hS hl)
theorem w_dup (C : Ok V Y X own cc n r) {v : Value} (d : decode cc pc = .ok (.dup, 1)) (hv : v.category = 1) (K : WS V Y X n fr lo R S (pc + 1) lv (v :: v :: st)) : WS V Y X n fr lo R S pc lv (v :: st) := fun H locs ls hP hS hl => lv_dup C.1 C.2.1 d hv (K H locs ls hP hS hl)
theorem w_dup2 (C : Ok V Y X own cc n r) {va vb : Value} (d : decode cc pc = .ok (.dup2, 1)) (ha : va.category = 1) (hb : vb.category = 1) (K : WS V Y X n fr lo R S (pc + 1) lv (va :: vb :: va :: vb :: st)) : WS V Y X n fr lo R S pc lv (va :: vb :: st) := fun H locs ls hP hS hl => lv_dup2_11 C.1 C.2.1 d ha hb (K H locs ls hP hS hl)
theorem w_pop (C : Ok V Y X own cc n r) {v : Value} (d : decode cc pc = .ok (.pop, 1)) (hv : v.category = 1) (K : WS V Y X n fr lo R S (pc + 1) lv st) : WS V Y X n fr lo R S pc lv (v :: st) := fun H locs ls hP hS hl => lv_pop C.1 C.2.1 d hv (K H locs ls hP hS hl)
theorem w_goto (C : Ok V Y X own cc n r) {off : Int} (tgt : Nat) (d : decode cc pc = .ok (.goto off, 3)) (ht : (pc : Int) + off = (tgt : Int)) (K : WS V Y X n fr lo R S tgt lv st) : WS V Y X n fr lo R S pc lv st := fun H locs ls hP hS hl => lv_goto C.1 C.2.1 d ht (K H locs ls hP hS hl)
theorem w_pl {α β : Type} {a : α} {k : α → Option β} {ρ : β} (h : pl a k = some ρ) (K : ∀ x, x = a → k x = some ρ → WS V Y X n fr lo R S pc lv st) : WS V Y X n fr lo R S pc lv st := K a rfl h
theorem w_topi {β : Type} {a : Int32} {k : Int32 → Option β} {ρ : β} (h : pl a k = some ρ) (K : ∀ x, k x = some ρ → WS V Y X n fr lo R S pc lv (.int x :: st)) : WS V Y X n fr lo R S pc lv (.int a :: st) := K a h
theorem w_topl {β : Type} {a : Int64} {k : Int64 → Option β} {ρ : β} (h : pl a k = some ρ) (K : ∀ x, k x = some ρ → WS V Y X n fr lo R S pc lv (.long x :: st)) : WS V Y X n fr lo R S pc lv (.long a :: st) := K a h
section
variable {β : Type} {ρ : β} {A B : Option β}
theorem w_if_eq (C : Ok V Y X own cc n r) {x : Int32} {off : Int} (tgt : Nat) (d : decode cc pc = .ok (.ifCond .eq off, 3)) (ht : (pc : Int) + off = (tgt : Int)) (h : (if x = 0 then A else B) = some ρ) (kt : A = some ρ → WS V Y X n fr lo R S tgt lv st) (kf : B = some ρ → WS V Y X n fr lo R S (pc + 3) lv st) : WS V Y X n fr lo R S pc lv (.int x :: st) := fun H locs ls hP hS hl => lv_if_eq C.1 C.2.1 d ht (fun c => kt (ite_t c h) H locs ls hP hS hl) (fun c => kf (ite_f c h) H locs ls hP hS hl)
theorem w_if_ne (C : Ok V Y X own cc n r) {x : Int32} {off : Int} (tgt : Nat) (d : decode cc pc = .ok (.ifCond .ne off, 3)) (ht : (pc : Int) + off = (tgt : Int)) (h : (if x = 0 then B else A) = some ρ) (kt : A = some ρ → WS V Y X n fr lo R S tgt lv st) (kf : B = some ρ → WS V Y X n fr lo R S (pc + 3) lv st) : WS V Y X n fr lo R S pc lv (.int x :: st) := fun H locs ls hP hS hl => lv_if_ne C.1 C.2.1 d ht (fun c => kt (ite_f c h) H locs ls hP hS hl) (fun c => kf (ite_t c h) H locs ls hP hS hl)
theorem w_if_lt (C : Ok V Y X own cc n r) {x : Int32} {off : Int} (tgt : Nat) (d : decode cc pc = .ok (.ifCond .lt off, 3)) (ht : (pc : Int) + off = (tgt : Int)) (h : (if x < 0 then A else B) = some ρ) (kt : A = some ρ → WS V Y X n fr lo R S tgt lv st) (kf : B = some ρ → WS V Y X n fr lo R S (pc + 3) lv st) : WS V Y X n fr lo R S pc lv (.int x :: st) := fun H locs ls hP hS hl => lv_if_lt C.1 C.2.1 d ht (fun c => kt (ite_t c h) H locs ls hP hS hl) (fun c => kf (ite_f c h) H locs ls hP hS hl)
theorem w_if_ge (C : Ok V Y X own cc n r) {x : Int32} {off : Int} (tgt : Nat) (d : decode cc pc = .ok (.ifCond .ge off, 3)) (ht : (pc : Int) + off = (tgt : Int)) (h : (if 0 ≤ x then A else B) = some ρ) (kt : A = some ρ → WS V Y X n fr lo R S tgt lv st) (kf : B = some ρ → WS V Y X n fr lo R S (pc + 3) lv st) : WS V Y X n fr lo R S pc lv (.int x :: st) := fun H locs ls hP hS hl => lv_if_ge C.1 C.2.1 d ht (fun c => kt (ite_t c h) H locs ls hP hS hl) (fun c => kf (ite_f c h) H locs ls hP hS hl)
theorem w_if_gt (C : Ok V Y X own cc n r) {x : Int32} {off : Int} (tgt : Nat) (d : decode cc pc = .ok (.ifCond .gt off, 3)) (ht : (pc : Int) + off = (tgt : Int)) (h : (if 0 < x then A else B) = some ρ) (kt : A = some ρ → WS V Y X n fr lo R S tgt lv st) (kf : B = some ρ → WS V Y X n fr lo R S (pc + 3) lv st) : WS V Y X n fr lo R S pc lv (.int x :: st) := fun H locs ls hP hS hl => lv_if_gt C.1 C.2.1 d ht (fun c => kt (ite_t c h) H locs ls hP hS hl) (fun c => kf (ite_f c h) H locs ls hP hS hl)
theorem w_if_le (C : Ok V Y X own cc n r) {x : Int32} {off : Int} (tgt : Nat) (d : decode cc pc = .ok (.ifCond .le off, 3)) (ht : (pc : Int) + off = (tgt : Int)) (h : (if x ≤ 0 then A else B) = some ρ) (kt : A = some ρ → WS V Y X n fr lo R S tgt lv st) (kf : B = some ρ → WS V Y X n fr lo R S (pc + 3) lv st) : WS V Y X n fr lo R S pc lv (.int x :: st) := fun H locs ls hP hS hl => lv_if_le C.1 C.2.1 d ht (fun c => kt (ite_t c h) H locs ls hP hS hl) (fun c => kf (ite_f c h) H locs ls hP hS hl)
theorem w_icmp_eq (C : Ok V Y X own cc n r) {x y : Int32} {off : Int} (tgt : Nat) (d : decode cc pc = .ok (.if_icmp .eq off, 3)) (ht : (pc : Int) + off = (tgt : Int)) (h : (if x = y then A else B) = some ρ) (kt : A = some ρ → WS V Y X n fr lo R S tgt lv st) (kf : B = some ρ → WS V Y X n fr lo R S (pc + 3) lv st) : WS V Y X n fr lo R S pc lv (.int y :: .int x :: st) := fun H locs ls hP hS hl => lv_icmp_eq C.1 C.2.1 d ht (fun c => kt (ite_t c h) H locs ls hP hS hl) (fun c => kf (ite_f c h) H locs ls hP hS hl)
theorem w_icmp_ne (C : Ok V Y X own cc n r) {x y : Int32} {off : Int} (tgt : Nat) (d : decode cc pc = .ok (.if_icmp .ne off, 3)) (ht : (pc : Int) + off = (tgt : Int)) (h : (if x = y then B else A) = some ρ) (kt : A = some ρ → WS V Y X n fr lo R S tgt lv st) (kf : B = some ρ → WS V Y X n fr lo R S (pc + 3) lv st) : WS V Y X n fr lo R S pc lv (.int y :: .int x :: st) := fun H locs ls hP hS hl => lv_icmp_ne C.1 C.2.1 d ht (fun c => kt (ite_f c h) H locs ls hP hS hl) (fun c => kf (ite_t c h) H locs ls hP hS hl)
theorem w_icmp_lt (C : Ok V Y X own cc n r) {x y : Int32} {off : Int} (tgt : Nat) (d : decode cc pc = .ok (.if_icmp .lt off, 3)) (ht : (pc : Int) + off = (tgt : Int)) (h : (if x < y then A else B) = some ρ) (kt : A = some ρ → WS V Y X n fr lo R S tgt lv st) (kf : B = some ρ → WS V Y X n fr lo R S (pc + 3) lv st) : WS V Y X n fr lo R S pc lv (.int y :: .int x :: st) := fun H locs ls hP hS hl => lv_icmp_lt C.1 C.2.1 d ht (fun c => kt (ite_t c h) H locs ls hP hS hl) (fun c => kf (ite_f c h) H locs ls hP hS hl)
theorem w_icmp_ge (C : Ok V Y X own cc n r) {x y : Int32} {off : Int} (tgt : Nat) (d : decode cc pc = .ok (.if_icmp .ge off, 3)) (ht : (pc : Int) + off = (tgt : Int)) (h : (if y ≤ x then A else B) = some ρ) (kt : A = some ρ → WS V Y X n fr lo R S tgt lv st) (kf : B = some ρ → WS V Y X n fr lo R S (pc + 3) lv st) : WS V Y X n fr lo R S pc lv (.int y :: .int x :: st) := fun H locs ls hP hS hl => lv_icmp_ge C.1 C.2.1 d ht (fun c => kt (ite_t c h) H locs ls hP hS hl) (fun c => kf (ite_f c h) H locs ls hP hS hl)
theorem w_icmp_gt (C : Ok V Y X own cc n r) {x y : Int32} {off : Int} (tgt : Nat) (d : decode cc pc = .ok (.if_icmp .gt off, 3)) (ht : (pc : Int) + off = (tgt : Int)) (h : (if y < x then A else B) = some ρ) (kt : A = some ρ → WS V Y X n fr lo R S tgt lv st) (kf : B = some ρ → WS V Y X n fr lo R S (pc + 3) lv st) : WS V Y X n fr lo R S pc lv (.int y :: .int x :: st) := fun H locs ls hP hS hl => lv_icmp_gt C.1 C.2.1 d ht (fun c => kt (ite_t c h) H locs ls hP hS hl) (fun c => kf (ite_f c h) H locs ls hP hS hl)
theorem w_icmp_le (C : Ok V Y X own cc n r) {x y : Int32} {off : Int} (tgt : Nat) (d : decode cc pc = .ok (.if_icmp .le off, 3)) (ht : (pc : Int) + off = (tgt : Int)) (h : (if x ≤ y then A else B) = some ρ) (kt : A = some ρ → WS V Y X n fr lo R S tgt lv st) (kf : B = some ρ → WS V Y X n fr lo R S (pc + 3) lv st) : WS V Y X n fr lo R S pc lv (.int y :: .int x :: st) := fun H locs ls hP hS hl => lv_icmp_le C.1 C.2.1 d ht (fun c => kt (ite_t c h) H locs ls hP hS hl) (fun c => kf (ite_f c h) H locs ls hP hS hl)
end
end
end
section
-- WHAT A CELL IS
def ai (V : VT) (k len : Nat) : Prop := k < V.1 ∧ ∀ q g i l, V.2 q g k i l = .inl (g 0, len, .inl i)
def aj (V : VT) (k len : Nat) : Prop := k < V.1 ∧ ∀ q g i l, V.2 q g k i l = .inl (g 1, len, .inr (.inl l))
def az (V : VT) (k len : Nat) : Prop := k < V.1 ∧ ∀ q g i l, V.2 q g k i l = .inl (g 2, len, .inl i)
def oi (V : VT) (k ci slot : Nat) : Prop := k < V.1 ∧ ∀ q g i l, ∃ fs, V.2 q g k i l = .inr (ci, fs) ∧ fs[slot]? = some (.int (i slot)) ∧ ∀ v, V.2 q g k (upd i slot v) l = .inr (ci, fs.set slot (.int v))
def og (V : VT) (k ci slot k' : Nat) : Prop := k < V.1 ∧ ∀ q g i l, ∃ fs, V.2 q g k i l = .inr (ci, fs) ∧ fs[slot]? = some (.ref (q k'))
def ob (V : VT) (k ci : Nat) : Prop := k < V.1 ∧ ∀ q g i l, ∃ fs, V.2 q g k i l = .inr (ci, fs)
/-- an index of a constant pool is a field of a class -/
def fl (own : String) (idx ci slot : Nat) : Prop := ∃ C T N, vwCl[ci]? = some (C, T, N) ∧ (∀ w ∈ u_ws C T N, w ∈ WL) ∧ slot < N ∧ Cond.fieldLink own idx (T slot).1 (T slot).2.1 (T slot).2.2.1 ∈ WL
/-- one that is written, of a type -/
def fp (own : String) (idx ci slot : Nat) (ty : FieldType) : Prop := ∃ C T N, vwCl[ci]? = some (C, T, N) ∧ (∀ w ∈ u_ws C T N, w ∈ WL) ∧ slot < N ∧ Cond.fieldLink own idx (T slot).1 (T slot).2.1 (T slot).2.2.1 ∈ WL ∧ (T slot).2.2.2 = false ∧ parseFieldDescriptor (T slot).2.2.1 = some ty ∧ (∃ ty0 : Nat → FieldType, ∀ k, k < N → parseFieldDescriptor (T k).2.2.1 = some (ty0 k)) ∧ ∀ a, a < N → ∀ b, b < N → a ≠ b → (T a).2.1 ≠ (T b).2.1
def mV (y : MethodName) (cc : ByteArray) (n : Nat) (r : Option FieldType) (na ci : Nat) : Prop := isV y cc n r ∧ (y.cls ≠ "java/lang/invoke/MethodHandle" ∧ y.cls ≠ "java/lang/invoke/VarHandle" ∧ (parseMethodDescriptor y.desc).map (fun d => d.parameters.length) = some na) ∧ ∃ T N, vwCl[ci]? = some (y.cls, T, N)
def mS (y : MethodName) (cc : ByteArray) (n : Nat) (r : Option FieldType) (na : Nat) : Prop := isS y cc n r ∧ (y.cls ≠ "java/lang/invoke/MethodHandle" ∧ y.cls ≠ "java/lang/invoke/VarHandle" ∧ (parseMethodDescriptor y.desc).map (fun d => d.parameters.length) = some na)
theorem fits_int (x : Int32) : fits .int (.int x) = true := rfl
theorem fits_zb {x : Int32} (h : x &&& 1 = x) : fits .boolean (.int x) = true := by
  obtain ⟨j, hj, e⟩ := pk_andE x (m := 1) 1 (by decide)
  rw [← h, e]
  match j, hj with
  | 0, _ => rfl
  | 1, _ => rfl
section
variable {V : VT} {Y : YT} {X : XT} {own : String} {cc : ByteArray} {n fr lo : Nat} {r : Option FieldType} {R : Option Value × St} {S : St} {pc : Nat} {lv : List (Nat × Value)} {st : List Value}
theorem w_geti (C : Ok V Y X own cc n r) {idx k ci slot : Nat} (d : decode cc pc = .ok (.getfield idx, 3)) (hf : fl own idx ci slot) (ho : oi V k ci slot) (K : WS V Y X n fr lo R S (pc + 3) lv (.int (S.1 k slot) :: st)) : WS V Y X n fr lo R S pc lv (rf Y k :: st) := fun H locs ls hP hS hl => by
  obtain ⟨C', T, N, hc, hw, hs, hlk⟩ := hf
  obtain ⟨hk, ho⟩ := ho
  obtain ⟨fs, e, hv, -⟩ := ho Y.2.2.2.2 Y.2.2.1 (S.1 k) (S.2 k)
  exact va_get C.1 C.2.1 C.2.2.2.2.2.1 hw C.2.2.2.2.1 C.2.2.2.2.2.2.2.1.1 hP k (wS_get hk e) hc slot hs (C.2.2.2.2.2.1 _ hlk) (fun _ h => h) hv d (K H locs ls hP hS hl)
theorem w_getr (C : Ok V Y X own cc n r) {idx k ci slot k' : Nat} (d : decode cc pc = .ok (.getfield idx, 3)) (hf : fl own idx ci slot) (ho : og V k ci slot k') (K : WS V Y X n fr lo R S (pc + 3) lv (rf Y k' :: st)) : WS V Y X n fr lo R S pc lv (rf Y k :: st) := fun H locs ls hP hS hl => by
  obtain ⟨C', T, N, hc, hw, hs, hlk⟩ := hf
  obtain ⟨hk, ho⟩ := ho
  obtain ⟨fs, e, hv⟩ := ho Y.2.2.2.2 Y.2.2.1 (S.1 k) (S.2 k)
  exact va_get C.1 C.2.1 C.2.2.2.2.2.1 hw C.2.2.2.2.1 C.2.2.2.2.2.2.2.1.1 hP k (wS_get hk e) hc slot hs (C.2.2.2.2.2.1 _ hlk) (fun _ h => h) hv d (K H locs ls hP hS hl)
theorem w_puti_ (C : Ok V Y X own cc n r) {idx k ci slot : Nat} {x : Int32} {ty : FieldType} (d : decode cc pc = .ok (.putfield idx, 3)) (hf : fp own idx ci slot ty) (ho : oi V k ci slot) (hn : narrow ty (.int x) = .int x) (hfit : fits ty (.int x) = true) (K : WS V Y X n fr lo R (si S k slot x) (pc + 3) lv st) : WS V Y X n fr lo R S pc lv (.int x :: rf Y k :: st) := fun H locs ls hP hS hl => by
  obtain ⟨C', T, N, hc, hw, hs, hlk, hfin, hty, ⟨ty0, hty0⟩, hnm⟩ := hf
  obtain ⟨hk, ho⟩ := ho
  obtain ⟨fs, e, hv, hset⟩ := ho Y.2.2.2.2 Y.2.2.1 (S.1 k) (S.2 k)
  have hlt : slot < fs.length := (List.getElem?_eq_some_iff.mp hv).1
  refine va_put (ty := ty) C.1 C.2.1 C.2.2.2.2.2.1 hw ty0 hty0 hnm C.2.2.2.2.1 C.2.2.2.2.2.2.2.1.1 hP (wS_D C.2.2.2.2.2.2.2.2) hS k (wS_get hk e) hc slot hs (C.2.2.2.2.2.1 _ hlk) (fun _ h => h) hfin hty hn hfit hlt d (fun H1 locs1 hP1 hD1 hS1 => ?_)
  refine K H1 locs1 ls ?_ hS1 hl
  rw [wS_set (S' := si S k slot x) (by rw [si_k]; exact hset x) (fun j h => si_n j h) (fun j h => rfl)] at hP1
  exact hP1
theorem w_puti (C : Ok V Y X own cc n r) {idx k ci slot : Nat} {x : Int32} (d : decode cc pc = .ok (.putfield idx, 3)) (hf : fp own idx ci slot .int) (ho : oi V k ci slot) (K : WS V Y X n fr lo R (si S k slot x) (pc + 3) lv st) : WS V Y X n fr lo R S pc lv (.int x :: rf Y k :: st) := w_puti_ C d hf ho rfl rfl K
theorem w_putz (C : Ok V Y X own cc n r) {idx k ci slot : Nat} {x : Int32} {β : Type} {ρ : β} {A : Option β} (d : decode cc pc = .ok (.putfield idx, 3)) (hf : fp own idx ci slot .boolean) (ho : oi V k ci slot) (h : ok (x &&& 1 = x) A = some ρ) (K : A = some ρ → WS V Y X n fr lo R (si S k slot x) (pc + 3) lv st) : WS V Y X n fr lo R S pc lv (.int x :: rf Y k :: st) := w_puti_ C d hf ho (by show Value.int (x &&& 1) = _; rw [(ok_some h).1]) (fits_zb (ok_some h).1) (K (ok_some h).2)
theorem w_iald (C : Ok V Y X own cc n r) {k len : Nat} {i : Int32} {β : Type} {ρ : β} {A : Nat → Option β} (d : decode cc pc = .ok (.iaload, 1)) (ha : ai V k len) (h : ld i len A = some ρ) (K : A i.toNatClampNeg = some ρ → WS V Y X n fr lo R S (pc + 1) lv (.int (S.1 k i.toNatClampNeg) :: st)) : WS V Y X n fr lo R S pc lv (.int i :: rf Y k :: st) := fun H locs ls hP hS hl =>
  va_iald C.1 C.2.1 C.2.2.2.2.2.2.2.1.1 hP k 0 (wS_get ha.1 (ha.2 _ _ _ _)) rfl (ld_some h).1 d (K (ld_some h).2 H locs ls hP hS hl)
theorem w_lald (C : Ok V Y X own cc n r) {k len : Nat} {i : Int32} {β : Type} {ρ : β} {A : Nat → Option β} (d : decode cc pc = .ok (.laload, 1)) (ha : aj V k len) (h : ld i len A = some ρ) (K : A i.toNatClampNeg = some ρ → WS V Y X n fr lo R S (pc + 1) lv (.long (S.2 k i.toNatClampNeg) :: st)) : WS V Y X n fr lo R S pc lv (.int i :: rf Y k :: st) := fun H locs ls hP hS hl =>
  va_lald C.1 C.2.1 C.2.2.2.2.2.2.2.1.1 hP k 1 (wS_get ha.1 (ha.2 _ _ _ _)) rfl (ld_some h).1 d (K (ld_some h).2 H locs ls hP hS hl)
theorem w_zald (C : Ok V Y X own cc n r) {k len : Nat} {i : Int32} {β : Type} {ρ : β} {A : Nat → Option β} (d : decode cc pc = .ok (.baload, 1)) (ha : az V k len) (h : ld i len A = some ρ) (K : A i.toNatClampNeg = some ρ → WS V Y X n fr lo R S (pc + 1) lv (.int (S.1 k i.toNatClampNeg) :: st)) : WS V Y X n fr lo R S pc lv (.int i :: rf Y k :: st) := fun H locs ls hP hS hl =>
  va_zald C.1 C.2.1 C.2.2.2.2.2.2.2.1.1 hP k 2 (wS_get ha.1 (ha.2 _ _ _ _)) rfl (ld_some h).1 d (K (ld_some h).2 H locs ls hP hS hl)
theorem w_iast (C : Ok V Y X own cc n r) {k len : Nat} {i x : Int32} {β : Type} {ρ : β} {A : Nat → Option β} (d : decode cc pc = .ok (.iastore, 1)) (ha : ai V k len) (h : ld i len A = some ρ) (K : A i.toNatClampNeg = some ρ → WS V Y X n fr lo R (si S k i.toNatClampNeg x) (pc + 1) lv st) : WS V Y X n fr lo R S pc lv (.int x :: .int i :: rf Y k :: st) := fun H locs ls hP hS hl => by
  refine va_iast C.1 C.2.1 C.2.2.2.2.2.2.2.1.1 hP (wS_D C.2.2.2.2.2.2.2.2) hS k 0 (wS_get ha.1 (ha.2 _ _ _ _)) rfl (ld_some h).1 d (fun H1 locs1 hP1 hD1 hS1 => ?_)
  refine K (ld_some h).2 H1 locs1 ls ?_ hS1 hl
  rw [wS_set (S' := si S k i.toNatClampNeg x) (by rw [si_k]; exact ha.2 _ _ _ _) (fun j h => si_n j h) (fun j h => rfl)] at hP1
  exact hP1
theorem w_zast (C : Ok V Y X own cc n r) {k len : Nat} {i x : Int32} {β : Type} {ρ : β} {A : Nat → Option β} (d : decode cc pc = .ok (.bastore, 1)) (ha : az V k len) (h : ld i len A = some ρ) (K : A i.toNatClampNeg = some ρ → WS V Y X n fr lo R (si S k i.toNatClampNeg (x &&& 1)) (pc + 1) lv st) : WS V Y X n fr lo R S pc lv (.int x :: .int i :: rf Y k :: st) := fun H locs ls hP hS hl => by
  refine va_zast C.1 C.2.1 C.2.2.2.2.2.2.2.1.1 hP (wS_D C.2.2.2.2.2.2.2.2) hS k 2 (wS_get ha.1 (ha.2 _ _ _ _)) rfl (ld_some h).1 d (fun H1 locs1 hP1 hD1 hS1 => ?_)
  refine K (ld_some h).2 H1 locs1 ls ?_ hS1 hl
  rw [wS_set (S' := si S k i.toNatClampNeg (x &&& 1)) (by rw [si_k]; exact ha.2 _ _ _ _) (fun j h => si_n j h) (fun j h => rfl)] at hP1
  exact hP1
theorem w_last (C : Ok V Y X own cc n r) {k len : Nat} {i : Int32} {x : Int64} {β : Type} {ρ : β} {A : Nat → Option β} (d : decode cc pc = .ok (.lastore, 1)) (ha : aj V k len) (h : ld i len A = some ρ) (K : A i.toNatClampNeg = some ρ → WS V Y X n fr lo R (sj S k i.toNatClampNeg x) (pc + 1) lv st) : WS V Y X n fr lo R S pc lv (.long x :: .int i :: rf Y k :: st) := fun H locs ls hP hS hl => by
  refine va_last C.1 C.2.1 C.2.2.2.2.2.2.2.1.1 hP (wS_D C.2.2.2.2.2.2.2.2) hS k 1 (wS_get ha.1 (ha.2 _ _ _ _)) rfl (ld_some h).1 d (fun H1 locs1 hP1 hD1 hS1 => ?_)
  refine K (ld_some h).2 H1 locs1 ls ?_ hS1 hl
  rw [wS_set (S := S) (S' := sj S k i.toNatClampNeg x) (by rw [sj_k]; exact ha.2 _ _ _ _) (fun j h => rfl) (fun j h => sj_n j h)] at hP1
  exact hP1
-- RETURNS
theorem w_iret (C : Ok V Y X own cc n (some .int)) (d : decode cc pc = .ok (.ireturn, 1)) {v : Int32} {ρ : St × Int32} (h : some (S, v) = some ρ) : WS V Y X n fr lo (some (.int ρ.2), ρ.1) S pc lv [.int v] := fun H locs ls hP hS hl => by
  cases h
  exact W.iret C.1 C.2.1 C.2.2.1 (fun t ht hW => ⟨rfl, by rw [ht]; exact hP, hS.F ht⟩) hS.2.2 d C.2.2.2.2.2.2.1
theorem w_zret (C : Ok V Y X own cc n (some .boolean)) (d : decode cc pc = .ok (.ireturn, 1)) {v : Int32} {ρ : St × Int32} (h : ok (v &&& 1 = v) (some (S, v)) = some ρ) : WS V Y X n fr lo (some (.int ρ.2), ρ.1) S pc lv [.int v] := fun H locs ls hP hS hl => by
  obtain ⟨h1, h2⟩ := ok_some h
  cases h2
  exact W.zret C.1 C.2.1 C.2.2.1 (by show Value.int (v &&& 1) = _; rw [h1]) (fun t ht hW => ⟨rfl, by rw [ht]; exact hP, hS.F ht⟩) hS.2.2 d C.2.2.2.2.2.2.1
theorem w_zret0 (C : Ok V Y X own cc n (some .boolean)) (d : decode cc pc = .ok (.ireturn, 1)) {v : Int32} (hv : v &&& 1 = v) {ρ : St × Int32} (h : some (S, v) = some ρ) : WS V Y X n fr lo (some (.int ρ.2), ρ.1) S pc lv [.int v] := fun H locs ls hP hS hl => by
  cases h
  exact W.zret C.1 C.2.1 C.2.2.1 (by show Value.int (v &&& 1) = _; rw [hv]) (fun t ht hW => ⟨rfl, by rw [ht]; exact hP, hS.F ht⟩) hS.2.2 d C.2.2.2.2.2.2.1
theorem w_lret (C : Ok V Y X own cc n (some .long)) (d : decode cc pc = .ok (.lreturn, 1)) {v : Int64} {ρ : St × Int64} (h : some (S, v) = some ρ) : WS V Y X n fr lo (some (.long ρ.2), ρ.1) S pc lv [.long v] := fun H locs ls hP hS hl => by
  cases h
  exact W.lret C.1 C.2.1 C.2.2.1 (fun t ht hW => ⟨rfl, by rw [ht]; exact hP, hS.F ht⟩) hS.2.2 d C.2.2.2.2.2.2.1
theorem w_vret (C : Ok V Y X own cc n none) (d : decode cc pc = .ok (.return_, 1)) {ρ : St} (h : some S = some ρ) : WS V Y X n fr lo (none, ρ) S pc lv [] := fun H locs ls hP hS hl => by
  cases h
  exact W.vret C.1 C.2.1 C.2.2.1 (fun t ht hW => ⟨rfl, by rw [ht]; exact hP, hS.F ht⟩) hS.2.2 d C.2.2.2.2.2.2.1
-- CALLS
theorem w_run {H : Heap} {locs : List Loc} {ls : Array Slot} {st' : List Value} {ov : Option Value} {S1 : St} {a : Array Value} (hr : va_Run X.1 Y.1 X.2.1 (Rm fr lo) X.2.2.1 X.2.2.2.1 X.2.2.2.2.1 X.2.2.2.2.2.1 X.2.2.2.2.2.2.1 X.2.2.2.2.2.2.2 H locs 0 0 0 0 (F0 X.2.2.2.1 pc ls st') st (QX V Y (ov, S1) a) (aV V Y)) (hS : va_S (aV V Y) X.2.2.1.heap H locs) (hl : lv_has ls n lv) (K : WS V Y X n fr lo R S1 (pc + 3) lv (ov.toList ++ st)) :
    W X.1 Y.1 X.2.1 (Rm fr lo) X.2.2.1 X.2.2.2.1 X.2.2.2.2.1 X.2.2.2.2.2.1 X.2.2.2.2.2.2.1 X.2.2.2.2.2.2.2 H locs 0 0 (MQ X.2.2.2.2.2.1 (QX V Y R) X.2.2.2.2.1 X.2.2.1 0 0 (aV V Y)) (F0 X.2.2.2.1 pc ls st') := by
  intro T hT X0
  obtain ⟨v, st₀, t, T', L, h0, X', hL, e1, e2, ⟨hv, hp, hz, hk⟩, hst⟩ := hr T hT X0
  cases hv
  rw [h0] at hz hk
  obtain ⟨t2, a1, b1⟩ := K T'.heap (locs ++ L) ls (by rw [e1]; exact hp) ⟨Nat.le_trans hS.1 (by rw [e1]; exact hz), fun q h1 h2 => by rw [e1, hk q (Nat.lt_of_lt_of_le h1 hS.1) h2]; exact hS.2.1 q h1 h2, fun q hq => by
      rcases List.mem_append.mp hq with h | h
      · exact hS.2.2 q h
      · exact hL q h⟩ hl T' rfl X'
  exact ⟨t2, hst t2 a1, b1⟩
theorem ok_pre (C : Ok V Y X own cc n r) {H : Heap} {locs : List Loc} {av : List Value} (hP : va_P Y.2.1 vwCl (wV V Y S) H) (hS : va_S (aV V Y) X.2.2.1.heap H locs) : ∀ U : State, U.heap = H → X.2.2.1.WarmedH U.vm → PX V Y S av av.toArray U := fun U hU hW => ⟨rfl, C.2.2.2.2.2.2.2.2, by rw [hU]; exact Ev.moved hW (fun a h1 h2 => hS.2.1 a h1 h2) C.2.2.2.2.2.2.2.1, by rw [hU]; exact hP⟩
theorem w_V (C : Ok V Y X own cc n r) {idx k ci na : Nat} {y : MethodName} {c2 : ByteArray} {n2 fr2 lo2 : Nat} {r2 : Option FieldType} {av : List Value} {ov : Option Value} {S1 : St} {st' : List Value} (d : decode cc pc = .ok (.invokevirtual idx, 3)) (hM : Mc V Y y c2 n2 r2 fr2 lo2 (rf Y k :: av) S (ov, S1)) (hl : Cond.methodLink own idx y ∈ WL) (hy : mV y c2 n2 r2 na ci) (ho : ob V k ci) (hna : av.length = na) (hR : fr2 + 1 ≤ fr ∧ 8 + (n2 + 11) + lo2 ≤ lo) (hst : st' = av.reverse ++ rf Y k :: st) (hcat : (st.map fun v => v.category).sum ≤ 8)
    (K : WS V Y X n fr lo R S1 (pc + 3) lv (ov.toList ++ st)) : WS V Y X n fr lo R S pc lv st' := fun H locs ls hP hS hls => by
  obtain ⟨hV, hd, T, N, hc⟩ := hy
  obtain ⟨hk, ho⟩ := ho
  obtain ⟨fs, e⟩ := ho Y.2.2.2.2 Y.2.2.1 (S.1 k) (S.2 k)
  refine w_run (va_runV (As := av) (rest := st) (C := y.cls) ⟨C.1, C.2.1, C.2.2.2.1, C.2.2.2.2.1, C.2.2.2.2.2.1⟩ hM (cwV na C.2.2.2.2.2.1 (wl_V hl hV) rfl rfl rfl ⟨rfl, hd⟩ hR) ⟨PX_blind, va_recv C.2.2.2.2.2.2.2.1.1 hP hc (wS_get hk e), ok_pre C hP hS⟩ rfl hna hls.1 hst (lv_room hcat) d ⟨Nat.le_refl _, Nat.le_refl _⟩) hS hls K
theorem w_S (C : Ok V Y X own cc n r) {idx na : Nat} {y : MethodName} {c2 : ByteArray} {n2 fr2 lo2 : Nat} {r2 : Option FieldType} {av : List Value} {ov : Option Value} {S1 : St} {st' : List Value} (d : decode cc pc = .ok (.invokestatic idx, 3)) (hM : Mc V Y y c2 n2 r2 fr2 lo2 av S (ov, S1)) (hl : Cond.methodLink own idx y ∈ WL) (hy : mS y c2 n2 r2 na) (hna : av.length = na) (hR : fr2 + 1 ≤ fr ∧ 8 + (n2 + 11) + lo2 ≤ lo) (hst : st' = av.reverse ++ st) (hcat : (st.map fun v => v.category).sum ≤ 8)
    (K : WS V Y X n fr lo R S1 (pc + 3) lv (ov.toList ++ st)) : WS V Y X n fr lo R S pc lv st' := fun H locs ls hP hS hls => by
  obtain ⟨hV, hd⟩ := hy
  refine w_run (va_runS (As := av) (rest := st) ⟨C.1, C.2.1, C.2.2.2.1, C.2.2.2.2.1, C.2.2.2.2.2.1⟩ hM ⟨callB_of na C.2.2.2.2.2.1 (wl_C hV.2.2) rfl rfl rfl (C.2.2.2.2.2.1 _ hV.2.1) (C.2.2.2.2.2.1 _ hl) hd hR, C.2.2.2.2.2.1 _ hV.1⟩ ⟨PX_blind, ok_pre C hP hS⟩ rfl hna hls.1 hst (lv_room hcat) d ⟨Nat.le_refl _, Nat.le_refl _⟩) hS hls K
theorem w_SN (C : Ok V Y X own cc n r) {idx na : Nat} {host : String} {y : MethodName} {c2 : ByteArray} {n2 fr2 lo2 : Nat} {r2 : Option FieldType} {av : List Value} {ov : Option Value} {S1 : St} {st' : List Value} (d : decode cc pc = .ok (.invokestatic idx, 3)) (hM : Mc V Y y c2 n2 r2 fr2 lo2 av S (ov, S1)) (hl : va_Nw (.methodLinkNest own idx y host) X.2.2.1) (hy : mS y c2 n2 r2 na) (hna : av.length = na) (hR : fr2 + 1 ≤ fr ∧ 8 + (n2 + 11) + lo2 ≤ lo) (hst : st' = av.reverse ++ st) (hcat : (st.map fun v => v.category).sum ≤ 8)
    (K : WS V Y X n fr lo R S1 (pc + 3) lv (ov.toList ++ st)) : WS V Y X n fr lo R S pc lv st' := fun H locs ls hP hS hls => by
  obtain ⟨hV, hd⟩ := hy
  refine w_run (va_runSN (As := av) (rest := st) ⟨C.1, C.2.1, C.2.2.2.1, C.2.2.2.2.1, C.2.2.2.2.2.1⟩ hM ⟨va_cnB na C.2.2.2.2.2.1 (wl_C hV.2.2) rfl rfl rfl hl (C.2.2.2.2.2.1 _ hV.2.1) hd hR, C.2.2.2.2.2.1 _ hV.1, trivial⟩ ⟨PX_blind, ok_pre C hP hS⟩ rfl hna hls.1 hst (lv_room hcat) d ⟨Nat.le_refl _, Nat.le_refl _⟩) hS hls K
section
variable {β : Type} {ρ : β} {idx kc ci na : Nat} {y : MethodName} {c2 : ByteArray} {n2 fr2 lo2 : Nat} {r2 : Option FieldType} {av : List Value} {st' : List Value}
theorem w_Vi (C : Ok V Y X own cc n r) {f : Option (St × Int32)} {k : St → Int32 → Option β} (d : decode cc pc = .ok (.invokevirtual idx, 3)) (h : bq f k = some ρ) (hM : ∀ p, f = some p → Mc V Y y c2 n2 r2 fr2 lo2 (rf Y kc :: av) S (some (.int p.2), p.1)) (hl : Cond.methodLink own idx y ∈ WL) (hy : mV y c2 n2 r2 na ci) (ho : ob V kc ci) (hna : av.length = na) (hR : fr2 + 1 ≤ fr ∧ 8 + (n2 + 11) + lo2 ≤ lo) (st : List Value) (hst : st' = av.reverse ++ rf Y kc :: st) (hcat : (st.map fun v => v.category).sum ≤ 8)
    (K : ∀ S1 v, k S1 v = some ρ → WS V Y X n fr lo R S1 (pc + 3) lv (.int v :: st)) : WS V Y X n fr lo R S pc lv st' := by
  obtain ⟨p, e, h⟩ := bq_some h
  exact w_V C d (hM p e) hl hy ho hna hR hst hcat (K p.1 p.2 h)
theorem w_Vl (C : Ok V Y X own cc n r) {f : Option (St × Int64)} {k : St → Int64 → Option β} (d : decode cc pc = .ok (.invokevirtual idx, 3)) (h : bq f k = some ρ) (hM : ∀ p, f = some p → Mc V Y y c2 n2 r2 fr2 lo2 (rf Y kc :: av) S (some (.long p.2), p.1)) (hl : Cond.methodLink own idx y ∈ WL) (hy : mV y c2 n2 r2 na ci) (ho : ob V kc ci) (hna : av.length = na) (hR : fr2 + 1 ≤ fr ∧ 8 + (n2 + 11) + lo2 ≤ lo) (st : List Value) (hst : st' = av.reverse ++ rf Y kc :: st) (hcat : (st.map fun v => v.category).sum ≤ 8)
    (K : ∀ S1 v, k S1 v = some ρ → WS V Y X n fr lo R S1 (pc + 3) lv (.long v :: st)) : WS V Y X n fr lo R S pc lv st' := by
  obtain ⟨p, e, h⟩ := bq_some h
  exact w_V C d (hM p e) hl hy ho hna hR hst hcat (K p.1 p.2 h)
theorem w_Vv (C : Ok V Y X own cc n r) {f : Option St} {k : St → Option β} (d : decode cc pc = .ok (.invokevirtual idx, 3)) (h : bv f k = some ρ) (hM : ∀ p, f = some p → Mc V Y y c2 n2 r2 fr2 lo2 (rf Y kc :: av) S (none, p)) (hl : Cond.methodLink own idx y ∈ WL) (hy : mV y c2 n2 r2 na ci) (ho : ob V kc ci) (hna : av.length = na) (hR : fr2 + 1 ≤ fr ∧ 8 + (n2 + 11) + lo2 ≤ lo) (st : List Value) (hst : st' = av.reverse ++ rf Y kc :: st) (hcat : (st.map fun v => v.category).sum ≤ 8)
    (K : ∀ S1, k S1 = some ρ → WS V Y X n fr lo R S1 (pc + 3) lv st) : WS V Y X n fr lo R S pc lv st' := by
  obtain ⟨p, e, h⟩ := bv_some h
  exact w_V C d (hM p e) hl hy ho hna hR hst hcat (K p h)
theorem w_Si (C : Ok V Y X own cc n r) {f : Option (St × Int32)} {k : St → Int32 → Option β} (d : decode cc pc = .ok (.invokestatic idx, 3)) (h : bq f k = some ρ) (hM : ∀ p, f = some p → Mc V Y y c2 n2 r2 fr2 lo2 av S (some (.int p.2), p.1)) (hl : Cond.methodLink own idx y ∈ WL) (hy : mS y c2 n2 r2 na) (hna : av.length = na) (hR : fr2 + 1 ≤ fr ∧ 8 + (n2 + 11) + lo2 ≤ lo) (st : List Value) (hst : st' = av.reverse ++ st) (hcat : (st.map fun v => v.category).sum ≤ 8)
    (K : ∀ S1 v, k S1 v = some ρ → WS V Y X n fr lo R S1 (pc + 3) lv (.int v :: st)) : WS V Y X n fr lo R S pc lv st' := by
  obtain ⟨p, e, h⟩ := bq_some h
  exact w_S C d (hM p e) hl hy hna hR hst hcat (K p.1 p.2 h)
theorem w_Sl (C : Ok V Y X own cc n r) {f : Option (St × Int64)} {k : St → Int64 → Option β} (d : decode cc pc = .ok (.invokestatic idx, 3)) (h : bq f k = some ρ) (hM : ∀ p, f = some p → Mc V Y y c2 n2 r2 fr2 lo2 av S (some (.long p.2), p.1)) (hl : Cond.methodLink own idx y ∈ WL) (hy : mS y c2 n2 r2 na) (hna : av.length = na) (hR : fr2 + 1 ≤ fr ∧ 8 + (n2 + 11) + lo2 ≤ lo) (st : List Value) (hst : st' = av.reverse ++ st) (hcat : (st.map fun v => v.category).sum ≤ 8)
    (K : ∀ S1 v, k S1 v = some ρ → WS V Y X n fr lo R S1 (pc + 3) lv (.long v :: st)) : WS V Y X n fr lo R S pc lv st' := by
  obtain ⟨p, e, h⟩ := bq_some h
  exact w_S C d (hM p e) hl hy hna hR hst hcat (K p.1 p.2 h)
theorem w_Sv (C : Ok V Y X own cc n r) {f : Option St} {k : St → Option β} (d : decode cc pc = .ok (.invokestatic idx, 3)) (h : bv f k = some ρ) (hM : ∀ p, f = some p → Mc V Y y c2 n2 r2 fr2 lo2 av S (none, p)) (hl : Cond.methodLink own idx y ∈ WL) (hy : mS y c2 n2 r2 na) (hna : av.length = na) (hR : fr2 + 1 ≤ fr ∧ 8 + (n2 + 11) + lo2 ≤ lo) (st : List Value) (hst : st' = av.reverse ++ st) (hcat : (st.map fun v => v.category).sum ≤ 8)
    (K : ∀ S1, k S1 = some ρ → WS V Y X n fr lo R S1 (pc + 3) lv st) : WS V Y X n fr lo R S pc lv st' := by
  obtain ⟨p, e, h⟩ := bv_some h
  exact w_S C d (hM p e) hl hy hna hR hst hcat (K p h)
theorem w_SNi (C : Ok V Y X own cc n r) {f : Option (St × Int32)} {k : St → Int32 → Option β} (host : String) (d : decode cc pc = .ok (.invokestatic idx, 3)) (h : bq f k = some ρ) (hM : ∀ p, f = some p → Mc V Y y c2 n2 r2 fr2 lo2 av S (some (.int p.2), p.1)) (hl : va_Nw (.methodLinkNest own idx y host) X.2.2.1) (hy : mS y c2 n2 r2 na) (hna : av.length = na) (hR : fr2 + 1 ≤ fr ∧ 8 + (n2 + 11) + lo2 ≤ lo) (st : List Value) (hst : st' = av.reverse ++ st) (hcat : (st.map fun v => v.category).sum ≤ 8)
    (K : ∀ S1 v, k S1 v = some ρ → WS V Y X n fr lo R S1 (pc + 3) lv (.int v :: st)) : WS V Y X n fr lo R S pc lv st' := by
  obtain ⟨p, e, h⟩ := bq_some h
  exact w_SN C d (hM p e) hl hy hna hR hst hcat (K p.1 p.2 h)
end
end
end
