section
-- ===== PART A: goes FIRST, ahead of the names: the tables' words, and 'selects' of the private methods out of them =====
/-- a private method of a class that the tables say can be made, by its rows of tables_1 -/
def lw_okq (q : MethodName × Nat) : Prop := (q.1.cls ≠ "java/lang/invoke/MethodHandle" ∧ q.1.cls ≠ "java/lang/invoke/VarHandle") ∧ Cond.instantiable q.1.cls q.2 ∈ tables_1 ∧ Cond.privateMethod q.1 ∈ tables_1 ∧ Cond.instanceMethod q.1 ∈ tables_1
theorem lw_p0 : lw_okq (⟨"NinetyLamps$Reader", "readLine", "()Z"⟩, 11) := ⟨⟨by decide +kernel, by decide +kernel⟩, List.mem_of_getElem? (i := 120) (by decide +kernel), List.mem_of_getElem? (i := 560) (by decide +kernel), List.mem_of_getElem? (i := 561) (by decide +kernel)⟩
theorem lw_p1 : lw_okq (⟨"NinetyLamps$Reader", "isAt", "(C)Z"⟩, 11) := ⟨⟨by decide +kernel, by decide +kernel⟩, List.mem_of_getElem? (i := 120) (by decide +kernel), List.mem_of_getElem? (i := 564) (by decide +kernel), List.mem_of_getElem? (i := 565) (by decide +kernel)⟩
theorem lw_p2 : lw_okq (⟨"NinetyLamps$Reader", "readWidth", "()Z"⟩, 11) := ⟨⟨by decide +kernel, by decide +kernel⟩, List.mem_of_getElem? (i := 120) (by decide +kernel), List.mem_of_getElem? (i := 568) (by decide +kernel), List.mem_of_getElem? (i := 569) (by decide +kernel)⟩
theorem lw_p3 : lw_okq (⟨"NinetyLamps$Reader", "takeNumber", "(II)I"⟩, 11) := ⟨⟨by decide +kernel, by decide +kernel⟩, List.mem_of_getElem? (i := 120) (by decide +kernel), List.mem_of_getElem? (i := 572) (by decide +kernel), List.mem_of_getElem? (i := 573) (by decide +kernel)⟩
theorem lw_p4 : lw_okq (⟨"NinetyLamps$Reader", "isDigit", "()Z"⟩, 11) := ⟨⟨by decide +kernel, by decide +kernel⟩, List.mem_of_getElem? (i := 120) (by decide +kernel), List.mem_of_getElem? (i := 576) (by decide +kernel), List.mem_of_getElem? (i := 577) (by decide +kernel)⟩
theorem lw_p5 : lw_okq (⟨"NinetyLamps$Reader", "fail", "(I)Z"⟩, 11) := ⟨⟨by decide +kernel, by decide +kernel⟩, List.mem_of_getElem? (i := 120) (by decide +kernel), List.mem_of_getElem? (i := 580) (by decide +kernel), List.mem_of_getElem? (i := 581) (by decide +kernel)⟩
theorem lw_p6 : lw_okq (⟨"NinetyLamps$Reader", "note", "(IIII)Z"⟩, 11) := ⟨⟨by decide +kernel, by decide +kernel⟩, List.mem_of_getElem? (i := 120) (by decide +kernel), List.mem_of_getElem? (i := 584) (by decide +kernel), List.mem_of_getElem? (i := 585) (by decide +kernel)⟩
theorem lw_p7 : lw_okq (⟨"NinetyLamps$Reader", "readOhms", "()Z"⟩, 11) := ⟨⟨by decide +kernel, by decide +kernel⟩, List.mem_of_getElem? (i := 120) (by decide +kernel), List.mem_of_getElem? (i := 588) (by decide +kernel), List.mem_of_getElem? (i := 589) (by decide +kernel)⟩
theorem lw_p8 : lw_okq (⟨"NinetyLamps$Reader", "takeWire", "(I)I"⟩, 11) := ⟨⟨by decide +kernel, by decide +kernel⟩, List.mem_of_getElem? (i := 120) (by decide +kernel), List.mem_of_getElem? (i := 592) (by decide +kernel), List.mem_of_getElem? (i := 593) (by decide +kernel)⟩
theorem lw_p9 : lw_okq (⟨"NinetyLamps$Reader", "take", "(C)Z"⟩, 11) := ⟨⟨by decide +kernel, by decide +kernel⟩, List.mem_of_getElem? (i := 120) (by decide +kernel), List.mem_of_getElem? (i := 596) (by decide +kernel), List.mem_of_getElem? (i := 597) (by decide +kernel)⟩
theorem lw_p10 : lw_okq (⟨"NinetyLamps$Reader", "readLamp", "()Z"⟩, 11) := ⟨⟨by decide +kernel, by decide +kernel⟩, List.mem_of_getElem? (i := 120) (by decide +kernel), List.mem_of_getElem? (i := 600) (by decide +kernel), List.mem_of_getElem? (i := 601) (by decide +kernel)⟩
theorem lw_p11 : lw_okq (⟨"NinetyLamps$Reader", "goesOn", "()Z"⟩, 11) := ⟨⟨by decide +kernel, by decide +kernel⟩, List.mem_of_getElem? (i := 120) (by decide +kernel), List.mem_of_getElem? (i := 604) (by decide +kernel), List.mem_of_getElem? (i := 605) (by decide +kernel)⟩
theorem lw_p12 : lw_okq (⟨"NinetyLamps", "takeLine", "(I)V"⟩, 11) := ⟨⟨by decide +kernel, by decide +kernel⟩, List.mem_of_getElem? (i := 25) (by decide +kernel), List.mem_of_getElem? (i := 608) (by decide +kernel), List.mem_of_getElem? (i := 609) (by decide +kernel)⟩
theorem lw_p13 : lw_okq (⟨"NinetyLamps$Flow", "putOut", "()V"⟩, 20) := ⟨⟨by decide +kernel, by decide +kernel⟩, List.mem_of_getElem? (i := 180) (by decide +kernel), List.mem_of_getElem? (i := 696) (by decide +kernel), List.mem_of_getElem? (i := 697) (by decide +kernel)⟩
theorem lw_p14 : lw_okq (⟨"NinetyLamps$Flow", "follow", "(IIII)V"⟩, 20) := ⟨⟨by decide +kernel, by decide +kernel⟩, List.mem_of_getElem? (i := 180) (by decide +kernel), List.mem_of_getElem? (i := 714) (by decide +kernel), List.mem_of_getElem? (i := 715) (by decide +kernel)⟩
theorem lw_p15 : lw_okq (⟨"NinetyLamps$Flow", "goalOf", "(I)I"⟩, 20) := ⟨⟨by decide +kernel, by decide +kernel⟩, List.mem_of_getElem? (i := 180) (by decide +kernel), List.mem_of_getElem? (i := 718) (by decide +kernel), List.mem_of_getElem? (i := 719) (by decide +kernel)⟩
def lw_privs_1 : List (MethodName × Nat) := [(⟨"NinetyLamps$Reader", "readLine", "()Z"⟩, 11), (⟨"NinetyLamps$Reader", "isAt", "(C)Z"⟩, 11), (⟨"NinetyLamps$Reader", "readWidth", "()Z"⟩, 11), (⟨"NinetyLamps$Reader", "takeNumber", "(II)I"⟩, 11), (⟨"NinetyLamps$Reader", "isDigit", "()Z"⟩, 11), (⟨"NinetyLamps$Reader", "fail", "(I)Z"⟩, 11), (⟨"NinetyLamps$Reader", "note", "(IIII)Z"⟩, 11), (⟨"NinetyLamps$Reader", "readOhms", "()Z"⟩, 11), (⟨"NinetyLamps$Reader", "takeWire", "(I)I"⟩, 11), (⟨"NinetyLamps$Reader", "take", "(C)Z"⟩, 11), (⟨"NinetyLamps$Reader", "readLamp", "()Z"⟩, 11), (⟨"NinetyLamps$Reader", "goesOn", "()Z"⟩, 11), (⟨"NinetyLamps", "takeLine", "(I)V"⟩, 11), (⟨"NinetyLamps$Flow", "putOut", "()V"⟩, 20), (⟨"NinetyLamps$Flow", "follow", "(IIII)V"⟩, 20), (⟨"NinetyLamps$Flow", "goalOf", "(I)I"⟩, 20)]
theorem lw_r1 : ∀ q ∈ lw_privs_1, lw_okq q := List.forall_mem_cons.mpr ⟨lw_p0, List.forall_mem_cons.mpr ⟨lw_p1, List.forall_mem_cons.mpr ⟨lw_p2, List.forall_mem_cons.mpr ⟨lw_p3, List.forall_mem_cons.mpr ⟨lw_p4, List.forall_mem_cons.mpr ⟨lw_p5, List.forall_mem_cons.mpr ⟨lw_p6, List.forall_mem_cons.mpr ⟨lw_p7, List.forall_mem_cons.mpr ⟨lw_p8, List.forall_mem_cons.mpr ⟨lw_p9, List.forall_mem_cons.mpr ⟨lw_p10, List.forall_mem_cons.mpr ⟨lw_p11, List.forall_mem_cons.mpr ⟨lw_p12, List.forall_mem_cons.mpr ⟨lw_p13, List.forall_mem_cons.mpr ⟨lw_p14, List.forall_mem_cons.mpr ⟨lw_p15, fun _ h => absurd h List.not_mem_nil⟩⟩⟩⟩⟩⟩⟩⟩⟩⟩⟩⟩⟩⟩⟩⟩
theorem lw_p16 : lw_okq (⟨"NinetyLamps$Flow", "carry", "(IIII)V"⟩, 20) := ⟨⟨by decide +kernel, by decide +kernel⟩, List.mem_of_getElem? (i := 180) (by decide +kernel), List.mem_of_getElem? (i := 722) (by decide +kernel), List.mem_of_getElem? (i := 723) (by decide +kernel)⟩
theorem lw_p17 : lw_okq (⟨"NinetyLamps$Flow", "noteWay", "(IJ)V"⟩, 20) := ⟨⟨by decide +kernel, by decide +kernel⟩, List.mem_of_getElem? (i := 180) (by decide +kernel), List.mem_of_getElem? (i := 728) (by decide +kernel), List.mem_of_getElem? (i := 729) (by decide +kernel)⟩
theorem lw_p18 : lw_okq (⟨"NinetyLamps$Flow", "isLessWay", "(I)Z"⟩, 20) := ⟨⟨by decide +kernel, by decide +kernel⟩, List.mem_of_getElem? (i := 180) (by decide +kernel), List.mem_of_getElem? (i := 732) (by decide +kernel), List.mem_of_getElem? (i := 733) (by decide +kernel)⟩
theorem lw_p19 : lw_okq (⟨"NinetyLamps$Flow", "bright", "()J"⟩, 20) := ⟨⟨by decide +kernel, by decide +kernel⟩, List.mem_of_getElem? (i := 180) (by decide +kernel), List.mem_of_getElem? (i := 736) (by decide +kernel), List.mem_of_getElem? (i := 737) (by decide +kernel)⟩
theorem lw_p20 : lw_okq (⟨"NinetyLamps", "openTable", "()Z"⟩, 11) := ⟨⟨by decide +kernel, by decide +kernel⟩, List.mem_of_getElem? (i := 25) (by decide +kernel), List.mem_of_getElem? (i := 795) (by decide +kernel), List.mem_of_getElem? (i := 796) (by decide +kernel)⟩
theorem lw_p21 : lw_okq (⟨"NinetyLamps", "isSearchable", "()Z"⟩, 11) := ⟨⟨by decide +kernel, by decide +kernel⟩, List.mem_of_getElem? (i := 25) (by decide +kernel), List.mem_of_getElem? (i := 799) (by decide +kernel), List.mem_of_getElem? (i := 800) (by decide +kernel)⟩
theorem lw_p22 : lw_okq (⟨"NinetyLamps$Table", "enter", "(I)Z"⟩, 7) := ⟨⟨by decide +kernel, by decide +kernel⟩, List.mem_of_getElem? (i := 290) (by decide +kernel), List.mem_of_getElem? (i := 838) (by decide +kernel), List.mem_of_getElem? (i := 839) (by decide +kernel)⟩
theorem lw_p23 : lw_okq (⟨"NinetyLamps", "partInto", "(I)I"⟩, 11) := ⟨⟨by decide +kernel, by decide +kernel⟩, List.mem_of_getElem? (i := 25) (by decide +kernel), List.mem_of_getElem? (i := 875) (by decide +kernel), List.mem_of_getElem? (i := 876) (by decide +kernel)⟩
theorem lw_p24 : lw_okq (⟨"NinetyLamps", "openParting", "(I)I"⟩, 11) := ⟨⟨by decide +kernel, by decide +kernel⟩, List.mem_of_getElem? (i := 25) (by decide +kernel), List.mem_of_getElem? (i := 879) (by decide +kernel), List.mem_of_getElem? (i := 880) (by decide +kernel)⟩
theorem lw_p25 : lw_okq (⟨"NinetyLamps$Parting", "numbered", "(J)I"⟩, 17) := ⟨⟨by decide +kernel, by decide +kernel⟩, List.mem_of_getElem? (i := 330) (by decide +kernel), List.mem_of_getElem? (i := 891) (by decide +kernel), List.mem_of_getElem? (i := 892) (by decide +kernel)⟩
theorem lw_p26 : lw_okq (⟨"NinetyLamps$Parting", "findWidest", "()V"⟩, 17) := ⟨⟨by decide +kernel, by decide +kernel⟩, List.mem_of_getElem? (i := 330) (by decide +kernel), List.mem_of_getElem? (i := 899) (by decide +kernel), List.mem_of_getElem? (i := 900) (by decide +kernel)⟩
theorem lw_p27 : lw_okq (⟨"NinetyLamps$Parting", "addWidest", "(I)V"⟩, 17) := ⟨⟨by decide +kernel, by decide +kernel⟩, List.mem_of_getElem? (i := 330) (by decide +kernel), List.mem_of_getElem? (i := 903) (by decide +kernel), List.mem_of_getElem? (i := 904) (by decide +kernel)⟩
theorem lw_p28 : lw_okq (⟨"NinetyLamps$Parting", "fewestFor", "(II)I"⟩, 17) := ⟨⟨by decide +kernel, by decide +kernel⟩, List.mem_of_getElem? (i := 330) (by decide +kernel), List.mem_of_getElem? (i := 913) (by decide +kernel), List.mem_of_getElem? (i := 914) (by decide +kernel)⟩
theorem lw_p29 : lw_okq (⟨"NinetyLamps$Parting", "choose", "(I)V"⟩, 17) := ⟨⟨by decide +kernel, by decide +kernel⟩, List.mem_of_getElem? (i := 330) (by decide +kernel), List.mem_of_getElem? (i := 918) (by decide +kernel), List.mem_of_getElem? (i := 919) (by decide +kernel)⟩
theorem lw_p30 : lw_okq (⟨"NinetyLamps", "tellTurns", "([II)V"⟩, 11) := ⟨⟨by decide +kernel, by decide +kernel⟩, List.mem_of_getElem? (i := 25) (by decide +kernel), List.mem_of_getElem? (i := 922) (by decide +kernel), List.mem_of_getElem? (i := 923) (by decide +kernel)⟩
theorem lw_p31 : lw_okq (⟨"NinetyLamps$Parting", "findNear", "()V"⟩, 17) := ⟨⟨by decide +kernel, by decide +kernel⟩, List.mem_of_getElem? (i := 330) (by decide +kernel), List.mem_of_getElem? (i := 934) (by decide +kernel), List.mem_of_getElem? (i := 935) (by decide +kernel)⟩
def lw_privs_2 : List (MethodName × Nat) := [(⟨"NinetyLamps$Flow", "carry", "(IIII)V"⟩, 20), (⟨"NinetyLamps$Flow", "noteWay", "(IJ)V"⟩, 20), (⟨"NinetyLamps$Flow", "isLessWay", "(I)Z"⟩, 20), (⟨"NinetyLamps$Flow", "bright", "()J"⟩, 20), (⟨"NinetyLamps", "openTable", "()Z"⟩, 11), (⟨"NinetyLamps", "isSearchable", "()Z"⟩, 11), (⟨"NinetyLamps$Table", "enter", "(I)Z"⟩, 7), (⟨"NinetyLamps", "partInto", "(I)I"⟩, 11), (⟨"NinetyLamps", "openParting", "(I)I"⟩, 11), (⟨"NinetyLamps$Parting", "numbered", "(J)I"⟩, 17), (⟨"NinetyLamps$Parting", "findWidest", "()V"⟩, 17), (⟨"NinetyLamps$Parting", "addWidest", "(I)V"⟩, 17), (⟨"NinetyLamps$Parting", "fewestFor", "(II)I"⟩, 17), (⟨"NinetyLamps$Parting", "choose", "(I)V"⟩, 17), (⟨"NinetyLamps", "tellTurns", "([II)V"⟩, 11), (⟨"NinetyLamps$Parting", "findNear", "()V"⟩, 17)]
theorem lw_r2 : ∀ q ∈ lw_privs_2, lw_okq q := List.forall_mem_cons.mpr ⟨lw_p16, List.forall_mem_cons.mpr ⟨lw_p17, List.forall_mem_cons.mpr ⟨lw_p18, List.forall_mem_cons.mpr ⟨lw_p19, List.forall_mem_cons.mpr ⟨lw_p20, List.forall_mem_cons.mpr ⟨lw_p21, List.forall_mem_cons.mpr ⟨lw_p22, List.forall_mem_cons.mpr ⟨lw_p23, List.forall_mem_cons.mpr ⟨lw_p24, List.forall_mem_cons.mpr ⟨lw_p25, List.forall_mem_cons.mpr ⟨lw_p26, List.forall_mem_cons.mpr ⟨lw_p27, List.forall_mem_cons.mpr ⟨lw_p28, List.forall_mem_cons.mpr ⟨lw_p29, List.forall_mem_cons.mpr ⟨lw_p30, List.forall_mem_cons.mpr ⟨lw_p31, fun _ h => absurd h List.not_mem_nil⟩⟩⟩⟩⟩⟩⟩⟩⟩⟩⟩⟩⟩⟩⟩⟩
theorem lw_p32 : lw_okq (⟨"NinetyLamps$Parting", "isApart", "(I)Z"⟩, 17) := ⟨⟨by decide +kernel, by decide +kernel⟩, List.mem_of_getElem? (i := 330) (by decide +kernel), List.mem_of_getElem? (i := 945) (by decide +kernel), List.mem_of_getElem? (i := 946) (by decide +kernel)⟩
theorem lw_p33 : lw_okq (⟨"NinetyLamps$Parting", "tryOrder", "(IIII)V"⟩, 17) := ⟨⟨by decide +kernel, by decide +kernel⟩, List.mem_of_getElem? (i := 330) (by decide +kernel), List.mem_of_getElem? (i := 962) (by decide +kernel), List.mem_of_getElem? (i := 963) (by decide +kernel)⟩
theorem lw_p34 : lw_okq (⟨"NinetyLamps$Parting", "takeLights", "()V"⟩, 17) := ⟨⟨by decide +kernel, by decide +kernel⟩, List.mem_of_getElem? (i := 330) (by decide +kernel), List.mem_of_getElem? (i := 981) (by decide +kernel), List.mem_of_getElem? (i := 982) (by decide +kernel)⟩
theorem lw_p35 : lw_okq (⟨"NinetyLamps$Parting", "dimmest", "()I"⟩, 17) := ⟨⟨by decide +kernel, by decide +kernel⟩, List.mem_of_getElem? (i := 330) (by decide +kernel), List.mem_of_getElem? (i := 987) (by decide +kernel), List.mem_of_getElem? (i := 988) (by decide +kernel)⟩
theorem lw_p36 : lw_okq (⟨"NinetyLamps$Parting", "brightestTurn", "(I)I"⟩, 17) := ⟨⟨by decide +kernel, by decide +kernel⟩, List.mem_of_getElem? (i := 330) (by decide +kernel), List.mem_of_getElem? (i := 991) (by decide +kernel), List.mem_of_getElem? (i := 992) (by decide +kernel)⟩
theorem lw_p37 : lw_okq (⟨"NinetyLamps", "partTraded", "(JII)I"⟩, 11) := ⟨⟨by decide +kernel, by decide +kernel⟩, List.mem_of_getElem? (i := 25) (by decide +kernel), List.mem_of_getElem? (i := 999) (by decide +kernel), List.mem_of_getElem? (i := 1000) (by decide +kernel)⟩
theorem lw_p38 : lw_okq (⟨"NinetyLamps$Suspects", "firstOfPair", "(I)I"⟩, 9) := ⟨⟨by decide +kernel, by decide +kernel⟩, List.mem_of_getElem? (i := 391) (by decide +kernel), List.mem_of_getElem? (i := 1043) (by decide +kernel), List.mem_of_getElem? (i := 1044) (by decide +kernel)⟩
theorem lw_p39 : lw_okq (⟨"NinetyLamps$Suspects", "pairsFrom", "(I)I"⟩, 9) := ⟨⟨by decide +kernel, by decide +kernel⟩, List.mem_of_getElem? (i := 391) (by decide +kernel), List.mem_of_getElem? (i := 1047) (by decide +kernel), List.mem_of_getElem? (i := 1048) (by decide +kernel)⟩
theorem lw_p40 : lw_okq (⟨"NinetyLamps$Suspects", "glowBy", "(II)J"⟩, 9) := ⟨⟨by decide +kernel, by decide +kernel⟩, List.mem_of_getElem? (i := 391) (by decide +kernel), List.mem_of_getElem? (i := 1077) (by decide +kernel), List.mem_of_getElem? (i := 1078) (by decide +kernel)⟩
theorem lw_p41 : lw_okq (⟨"NinetyLamps$Suspects", "joinGroup", "(J)I"⟩, 9) := ⟨⟨by decide +kernel, by decide +kernel⟩, List.mem_of_getElem? (i := 391) (by decide +kernel), List.mem_of_getElem? (i := 1128) (by decide +kernel), List.mem_of_getElem? (i := 1129) (by decide +kernel)⟩
theorem lw_p42 : lw_okq (⟨"NinetyLamps$Plan", "findGroup", "(I)I"⟩, 12) := ⟨⟨by decide +kernel, by decide +kernel⟩, List.mem_of_getElem? (i := 429) (by decide +kernel), List.mem_of_getElem? (i := 1149) (by decide +kernel), List.mem_of_getElem? (i := 1150) (by decide +kernel)⟩
theorem lw_p43 : lw_okq (⟨"NinetyLamps$Plan", "isSameRow", "(II)Z"⟩, 12) := ⟨⟨by decide +kernel, by decide +kernel⟩, List.mem_of_getElem? (i := 429) (by decide +kernel), List.mem_of_getElem? (i := 1154) (by decide +kernel), List.mem_of_getElem? (i := 1155) (by decide +kernel)⟩
theorem lw_p44 : lw_okq (⟨"NinetyLamps$Plan", "partCells", "(I)V"⟩, 12) := ⟨⟨by decide +kernel, by decide +kernel⟩, List.mem_of_getElem? (i := 429) (by decide +kernel), List.mem_of_getElem? (i := 1161) (by decide +kernel), List.mem_of_getElem? (i := 1162) (by decide +kernel)⟩
theorem lw_p45 : lw_okq (⟨"NinetyLamps$Plan", "isOneCell", "(IIII)Z"⟩, 12) := ⟨⟨by decide +kernel, by decide +kernel⟩, List.mem_of_getElem? (i := 429) (by decide +kernel), List.mem_of_getElem? (i := 1166) (by decide +kernel), List.mem_of_getElem? (i := 1167) (by decide +kernel)⟩
theorem lw_p46 : lw_okq (⟨"NinetyLamps$Plan", "reckonDepths", "(I)V"⟩, 12) := ⟨⟨by decide +kernel, by decide +kernel⟩, List.mem_of_getElem? (i := 429) (by decide +kernel), List.mem_of_getElem? (i := 1170) (by decide +kernel), List.mem_of_getElem? (i := 1171) (by decide +kernel)⟩
theorem lw_p47 : lw_okq (⟨"NinetyLamps$Plan", "tryTest", "(II)V"⟩, 12) := ⟨⟨by decide +kernel, by decide +kernel⟩, List.mem_of_getElem? (i := 429) (by decide +kernel), List.mem_of_getElem? (i := 1175) (by decide +kernel), List.mem_of_getElem? (i := 1176) (by decide +kernel)⟩
def lw_privs_3 : List (MethodName × Nat) := [(⟨"NinetyLamps$Parting", "isApart", "(I)Z"⟩, 17), (⟨"NinetyLamps$Parting", "tryOrder", "(IIII)V"⟩, 17), (⟨"NinetyLamps$Parting", "takeLights", "()V"⟩, 17), (⟨"NinetyLamps$Parting", "dimmest", "()I"⟩, 17), (⟨"NinetyLamps$Parting", "brightestTurn", "(I)I"⟩, 17), (⟨"NinetyLamps", "partTraded", "(JII)I"⟩, 11), (⟨"NinetyLamps$Suspects", "firstOfPair", "(I)I"⟩, 9), (⟨"NinetyLamps$Suspects", "pairsFrom", "(I)I"⟩, 9), (⟨"NinetyLamps$Suspects", "glowBy", "(II)J"⟩, 9), (⟨"NinetyLamps$Suspects", "joinGroup", "(J)I"⟩, 9), (⟨"NinetyLamps$Plan", "findGroup", "(I)I"⟩, 12), (⟨"NinetyLamps$Plan", "isSameRow", "(II)Z"⟩, 12), (⟨"NinetyLamps$Plan", "partCells", "(I)V"⟩, 12), (⟨"NinetyLamps$Plan", "isOneCell", "(IIII)Z"⟩, 12), (⟨"NinetyLamps$Plan", "reckonDepths", "(I)V"⟩, 12), (⟨"NinetyLamps$Plan", "tryTest", "(II)V"⟩, 12)]
theorem lw_r3 : ∀ q ∈ lw_privs_3, lw_okq q := List.forall_mem_cons.mpr ⟨lw_p32, List.forall_mem_cons.mpr ⟨lw_p33, List.forall_mem_cons.mpr ⟨lw_p34, List.forall_mem_cons.mpr ⟨lw_p35, List.forall_mem_cons.mpr ⟨lw_p36, List.forall_mem_cons.mpr ⟨lw_p37, List.forall_mem_cons.mpr ⟨lw_p38, List.forall_mem_cons.mpr ⟨lw_p39, List.forall_mem_cons.mpr ⟨lw_p40, List.forall_mem_cons.mpr ⟨lw_p41, List.forall_mem_cons.mpr ⟨lw_p42, List.forall_mem_cons.mpr ⟨lw_p43, List.forall_mem_cons.mpr ⟨lw_p44, List.forall_mem_cons.mpr ⟨lw_p45, List.forall_mem_cons.mpr ⟨lw_p46, List.forall_mem_cons.mpr ⟨lw_p47, fun _ h => absurd h List.not_mem_nil⟩⟩⟩⟩⟩⟩⟩⟩⟩⟩⟩⟩⟩⟩⟩⟩
theorem lw_p48 : lw_okq (⟨"NinetyLamps$Plan", "worstBehind", "(III)I"⟩, 12) := ⟨⟨by decide +kernel, by decide +kernel⟩, List.mem_of_getElem? (i := 429) (by decide +kernel), List.mem_of_getElem? (i := 1189) (by decide +kernel), List.mem_of_getElem? (i := 1190) (by decide +kernel)⟩
theorem lw_p49 : lw_okq (⟨"java/lang/Throwable", "fillInStackTrace", "(I)Ljava/lang/Throwable;"⟩, 6) := ⟨⟨by decide +kernel, by decide +kernel⟩, List.mem_of_getElem? (i := 1277) (by decide +kernel), List.mem_of_getElem? (i := 1275) (by decide +kernel), List.mem_of_getElem? (i := 1276) (by decide +kernel)⟩
theorem lw_p50 : lw_okq (⟨"NinetyLampsModel", "passes", "(C)Z"⟩, 75) := ⟨⟨by decide +kernel, by decide +kernel⟩, List.mem_of_getElem? (i := 1319) (by decide +kernel), List.mem_of_getElem? (i := 1572) (by decide +kernel), List.mem_of_getElem? (i := 1573) (by decide +kernel)⟩
theorem lw_p51 : lw_okq (⟨"NinetyLampsModel", "here", "()I"⟩, 75) := ⟨⟨by decide +kernel, by decide +kernel⟩, List.mem_of_getElem? (i := 1319) (by decide +kernel), List.mem_of_getElem? (i := 1576) (by decide +kernel), List.mem_of_getElem? (i := 1577) (by decide +kernel)⟩
theorem lw_p52 : lw_okq (⟨"NinetyLampsModel", "number", "(III)I"⟩, 75) := ⟨⟨by decide +kernel, by decide +kernel⟩, List.mem_of_getElem? (i := 1319) (by decide +kernel), List.mem_of_getElem? (i := 1580) (by decide +kernel), List.mem_of_getElem? (i := 1581) (by decide +kernel)⟩
theorem lw_p53 : lw_okq (⟨"NinetyLampsModel", "fault", "(I)V"⟩, 75) := ⟨⟨by decide +kernel, by decide +kernel⟩, List.mem_of_getElem? (i := 1319) (by decide +kernel), List.mem_of_getElem? (i := 1586) (by decide +kernel), List.mem_of_getElem? (i := 1587) (by decide +kernel)⟩
theorem lw_p54 : lw_okq (⟨"NinetyLampsModel", "need", "(C)V"⟩, 75) := ⟨⟨by decide +kernel, by decide +kernel⟩, List.mem_of_getElem? (i := 1319) (by decide +kernel), List.mem_of_getElem? (i := 1590) (by decide +kernel), List.mem_of_getElem? (i := 1591) (by decide +kernel)⟩
theorem lw_p55 : lw_okq (⟨"NinetyLampsModel", "take", "(I)V"⟩, 75) := ⟨⟨by decide +kernel, by decide +kernel⟩, List.mem_of_getElem? (i := 1319) (by decide +kernel), List.mem_of_getElem? (i := 1594) (by decide +kernel), List.mem_of_getElem? (i := 1595) (by decide +kernel)⟩
theorem lw_p56 : lw_okq (⟨"NinetyLampsModel", "isLamp", "(I)Z"⟩, 75) := ⟨⟨by decide +kernel, by decide +kernel⟩, List.mem_of_getElem? (i := 1319) (by decide +kernel), List.mem_of_getElem? (i := 1610) (by decide +kernel), List.mem_of_getElem? (i := 1611) (by decide +kernel)⟩
theorem lw_p57 : lw_okq (⟨"NinetyLampsModel", "lost", "()I"⟩, 75) := ⟨⟨by decide +kernel, by decide +kernel⟩, List.mem_of_getElem? (i := 1319) (by decide +kernel), List.mem_of_getElem? (i := 1614) (by decide +kernel), List.mem_of_getElem? (i := 1615) (by decide +kernel)⟩
theorem lw_p58 : lw_okq (⟨"NinetyLampsModel", "isWire", "(I)Z"⟩, 75) := ⟨⟨by decide +kernel, by decide +kernel⟩, List.mem_of_getElem? (i := 1319) (by decide +kernel), List.mem_of_getElem? (i := 1622) (by decide +kernel), List.mem_of_getElem? (i := 1623) (by decide +kernel)⟩
theorem lw_p59 : lw_okq (⟨"NinetyLampsModel", "change", "(II)V"⟩, 75) := ⟨⟨by decide +kernel, by decide +kernel⟩, List.mem_of_getElem? (i := 1319) (by decide +kernel), List.mem_of_getElem? (i := 1636) (by decide +kernel), List.mem_of_getElem? (i := 1637) (by decide +kernel)⟩
theorem lw_p60 : lw_okq (⟨"NinetyLampsModel", "isSetting", "(II)Z"⟩, 75) := ⟨⟨by decide +kernel, by decide +kernel⟩, List.mem_of_getElem? (i := 1319) (by decide +kernel), List.mem_of_getElem? (i := 1644) (by decide +kernel), List.mem_of_getElem? (i := 1645) (by decide +kernel)⟩
theorem lw_p61 : lw_okq (⟨"NinetyLampsModel", "glowingWith", "(III)J"⟩, 75) := ⟨⟨by decide +kernel, by decide +kernel⟩, List.mem_of_getElem? (i := 1319) (by decide +kernel), List.mem_of_getElem? (i := 1648) (by decide +kernel), List.mem_of_getElem? (i := 1649) (by decide +kernel)⟩
theorem lw_p62 : lw_okq (⟨"NinetyLampsModel", "lay", "(I)V"⟩, 75) := ⟨⟨by decide +kernel, by decide +kernel⟩, List.mem_of_getElem? (i := 1319) (by decide +kernel), List.mem_of_getElem? (i := 1652) (by decide +kernel), List.mem_of_getElem? (i := 1653) (by decide +kernel)⟩
theorem lw_p63 : lw_okq (⟨"NinetyLampsModel", "findFault", "(I)V"⟩, 75) := ⟨⟨by decide +kernel, by decide +kernel⟩, List.mem_of_getElem? (i := 1319) (by decide +kernel), List.mem_of_getElem? (i := 1656) (by decide +kernel), List.mem_of_getElem? (i := 1657) (by decide +kernel)⟩
def lw_privs_4 : List (MethodName × Nat) := [(⟨"NinetyLamps$Plan", "worstBehind", "(III)I"⟩, 12), (⟨"java/lang/Throwable", "fillInStackTrace", "(I)Ljava/lang/Throwable;"⟩, 6), (⟨"NinetyLampsModel", "passes", "(C)Z"⟩, 75), (⟨"NinetyLampsModel", "here", "()I"⟩, 75), (⟨"NinetyLampsModel", "number", "(III)I"⟩, 75), (⟨"NinetyLampsModel", "fault", "(I)V"⟩, 75), (⟨"NinetyLampsModel", "need", "(C)V"⟩, 75), (⟨"NinetyLampsModel", "take", "(I)V"⟩, 75), (⟨"NinetyLampsModel", "isLamp", "(I)Z"⟩, 75), (⟨"NinetyLampsModel", "lost", "()I"⟩, 75), (⟨"NinetyLampsModel", "isWire", "(I)Z"⟩, 75), (⟨"NinetyLampsModel", "change", "(II)V"⟩, 75), (⟨"NinetyLampsModel", "isSetting", "(II)Z"⟩, 75), (⟨"NinetyLampsModel", "glowingWith", "(III)J"⟩, 75), (⟨"NinetyLampsModel", "lay", "(I)V"⟩, 75), (⟨"NinetyLampsModel", "findFault", "(I)V"⟩, 75)]
theorem lw_r4 : ∀ q ∈ lw_privs_4, lw_okq q := List.forall_mem_cons.mpr ⟨lw_p48, List.forall_mem_cons.mpr ⟨lw_p49, List.forall_mem_cons.mpr ⟨lw_p50, List.forall_mem_cons.mpr ⟨lw_p51, List.forall_mem_cons.mpr ⟨lw_p52, List.forall_mem_cons.mpr ⟨lw_p53, List.forall_mem_cons.mpr ⟨lw_p54, List.forall_mem_cons.mpr ⟨lw_p55, List.forall_mem_cons.mpr ⟨lw_p56, List.forall_mem_cons.mpr ⟨lw_p57, List.forall_mem_cons.mpr ⟨lw_p58, List.forall_mem_cons.mpr ⟨lw_p59, List.forall_mem_cons.mpr ⟨lw_p60, List.forall_mem_cons.mpr ⟨lw_p61, List.forall_mem_cons.mpr ⟨lw_p62, List.forall_mem_cons.mpr ⟨lw_p63, fun _ h => absurd h List.not_mem_nil⟩⟩⟩⟩⟩⟩⟩⟩⟩⟩⟩⟩⟩⟩⟩⟩
theorem lw_p64 : lw_okq (⟨"NinetyLampsModel", "kindOf", "(I)I"⟩, 75) := ⟨⟨by decide +kernel, by decide +kernel⟩, List.mem_of_getElem? (i := 1319) (by decide +kernel), List.mem_of_getElem? (i := 1660) (by decide +kernel), List.mem_of_getElem? (i := 1661) (by decide +kernel)⟩
theorem lw_p65 : lw_okq (⟨"NinetyLampsModel", "touchFirst", "()I"⟩, 75) := ⟨⟨by decide +kernel, by decide +kernel⟩, List.mem_of_getElem? (i := 1319) (by decide +kernel), List.mem_of_getElem? (i := 1664) (by decide +kernel), List.mem_of_getElem? (i := 1665) (by decide +kernel)⟩
theorem lw_p66 : lw_okq (⟨"NinetyLampsModel", "turnedFirst", "()I"⟩, 75) := ⟨⟨by decide +kernel, by decide +kernel⟩, List.mem_of_getElem? (i := 1319) (by decide +kernel), List.mem_of_getElem? (i := 1668) (by decide +kernel), List.mem_of_getElem? (i := 1669) (by decide +kernel)⟩
theorem lw_p67 : lw_okq (⟨"NinetyLampsModel", "glowing", "(II)J"⟩, 75) := ⟨⟨by decide +kernel, by decide +kernel⟩, List.mem_of_getElem? (i := 1319) (by decide +kernel), List.mem_of_getElem? (i := 1672) (by decide +kernel), List.mem_of_getElem? (i := 1673) (by decide +kernel)⟩
theorem lw_p68 : lw_okq (⟨"NinetyLampsModel", "shine", "(II)V"⟩, 75) := ⟨⟨by decide +kernel, by decide +kernel⟩, List.mem_of_getElem? (i := 1319) (by decide +kernel), List.mem_of_getElem? (i := 1676) (by decide +kernel), List.mem_of_getElem? (i := 1677) (by decide +kernel)⟩
theorem lw_p69 : lw_okq (⟨"NinetyLampsModel", "begin", "(II)Z"⟩, 75) := ⟨⟨by decide +kernel, by decide +kernel⟩, List.mem_of_getElem? (i := 1319) (by decide +kernel), List.mem_of_getElem? (i := 1680) (by decide +kernel), List.mem_of_getElem? (i := 1681) (by decide +kernel)⟩
theorem lw_p70 : lw_okq (⟨"NinetyLampsModel", "goOn", "(IIIII)V"⟩, 75) := ⟨⟨by decide +kernel, by decide +kernel⟩, List.mem_of_getElem? (i := 1319) (by decide +kernel), List.mem_of_getElem? (i := 1687) (by decide +kernel), List.mem_of_getElem? (i := 1688) (by decide +kernel)⟩
theorem lw_p71 : lw_okq (⟨"NinetyLampsModel", "arrive", "(IIII)V"⟩, 75) := ⟨⟨by decide +kernel, by decide +kernel⟩, List.mem_of_getElem? (i := 1319) (by decide +kernel), List.mem_of_getElem? (i := 1691) (by decide +kernel), List.mem_of_getElem? (i := 1692) (by decide +kernel)⟩
theorem lw_p72 : lw_okq (⟨"NinetyLampsModel", "ohmsOf", "(I)I"⟩, 75) := ⟨⟨by decide +kernel, by decide +kernel⟩, List.mem_of_getElem? (i := 1319) (by decide +kernel), List.mem_of_getElem? (i := 1696) (by decide +kernel), List.mem_of_getElem? (i := 1697) (by decide +kernel)⟩
theorem lw_p73 : lw_okq (⟨"NinetyLampsModel", "isBetter", "(JI)Z"⟩, 75) := ⟨⟨by decide +kernel, by decide +kernel⟩, List.mem_of_getElem? (i := 1319) (by decide +kernel), List.mem_of_getElem? (i := 1703) (by decide +kernel), List.mem_of_getElem? (i := 1704) (by decide +kernel)⟩
theorem lw_p74 : lw_okq (⟨"NinetyLampsModel", "isBright", "(I)Z"⟩, 75) := ⟨⟨by decide +kernel, by decide +kernel⟩, List.mem_of_getElem? (i := 1319) (by decide +kernel), List.mem_of_getElem? (i := 1707) (by decide +kernel), List.mem_of_getElem? (i := 1708) (by decide +kernel)⟩
theorem lw_p75 : lw_okq (⟨"NinetyLampsModel", "askedFor", "(II)J"⟩, 75) := ⟨⟨by decide +kernel, by decide +kernel⟩, List.mem_of_getElem? (i := 1319) (by decide +kernel), List.mem_of_getElem? (i := 1721) (by decide +kernel), List.mem_of_getElem? (i := 1722) (by decide +kernel)⟩
theorem lw_p76 : lw_okq (⟨"NinetyLampsModel", "countAll", "(I)V"⟩, 75) := ⟨⟨by decide +kernel, by decide +kernel⟩, List.mem_of_getElem? (i := 1319) (by decide +kernel), List.mem_of_getElem? (i := 1730) (by decide +kernel), List.mem_of_getElem? (i := 1731) (by decide +kernel)⟩
theorem lw_p77 : lw_okq (⟨"NinetyLampsModel", "tell", "(J)V"⟩, 75) := ⟨⟨by decide +kernel, by decide +kernel⟩, List.mem_of_getElem? (i := 1319) (by decide +kernel), List.mem_of_getElem? (i := 1734) (by decide +kernel), List.mem_of_getElem? (i := 1735) (by decide +kernel)⟩
theorem lw_p78 : lw_okq (⟨"NinetyLampsModel", "areLamps", "(J)Z"⟩, 75) := ⟨⟨by decide +kernel, by decide +kernel⟩, List.mem_of_getElem? (i := 1319) (by decide +kernel), List.mem_of_getElem? (i := 1755) (by decide +kernel), List.mem_of_getElem? (i := 1756) (by decide +kernel)⟩
theorem lw_p79 : lw_okq (⟨"NinetyLampsModel", "canSearch", "()Z"⟩, 75) := ⟨⟨by decide +kernel, by decide +kernel⟩, List.mem_of_getElem? (i := 1319) (by decide +kernel), List.mem_of_getElem? (i := 1759) (by decide +kernel), List.mem_of_getElem? (i := 1760) (by decide +kernel)⟩
def lw_privs_5 : List (MethodName × Nat) := [(⟨"NinetyLampsModel", "kindOf", "(I)I"⟩, 75), (⟨"NinetyLampsModel", "touchFirst", "()I"⟩, 75), (⟨"NinetyLampsModel", "turnedFirst", "()I"⟩, 75), (⟨"NinetyLampsModel", "glowing", "(II)J"⟩, 75), (⟨"NinetyLampsModel", "shine", "(II)V"⟩, 75), (⟨"NinetyLampsModel", "begin", "(II)Z"⟩, 75), (⟨"NinetyLampsModel", "goOn", "(IIIII)V"⟩, 75), (⟨"NinetyLampsModel", "arrive", "(IIII)V"⟩, 75), (⟨"NinetyLampsModel", "ohmsOf", "(I)I"⟩, 75), (⟨"NinetyLampsModel", "isBetter", "(JI)Z"⟩, 75), (⟨"NinetyLampsModel", "isBright", "(I)Z"⟩, 75), (⟨"NinetyLampsModel", "askedFor", "(II)J"⟩, 75), (⟨"NinetyLampsModel", "countAll", "(I)V"⟩, 75), (⟨"NinetyLampsModel", "tell", "(J)V"⟩, 75), (⟨"NinetyLampsModel", "areLamps", "(J)Z"⟩, 75), (⟨"NinetyLampsModel", "canSearch", "()Z"⟩, 75)]
theorem lw_r5 : ∀ q ∈ lw_privs_5, lw_okq q := List.forall_mem_cons.mpr ⟨lw_p64, List.forall_mem_cons.mpr ⟨lw_p65, List.forall_mem_cons.mpr ⟨lw_p66, List.forall_mem_cons.mpr ⟨lw_p67, List.forall_mem_cons.mpr ⟨lw_p68, List.forall_mem_cons.mpr ⟨lw_p69, List.forall_mem_cons.mpr ⟨lw_p70, List.forall_mem_cons.mpr ⟨lw_p71, List.forall_mem_cons.mpr ⟨lw_p72, List.forall_mem_cons.mpr ⟨lw_p73, List.forall_mem_cons.mpr ⟨lw_p74, List.forall_mem_cons.mpr ⟨lw_p75, List.forall_mem_cons.mpr ⟨lw_p76, List.forall_mem_cons.mpr ⟨lw_p77, List.forall_mem_cons.mpr ⟨lw_p78, List.forall_mem_cons.mpr ⟨lw_p79, fun _ h => absurd h List.not_mem_nil⟩⟩⟩⟩⟩⟩⟩⟩⟩⟩⟩⟩⟩⟩⟩⟩
theorem lw_p80 : lw_okq (⟨"NinetyLampsModel", "findAll", "()V"⟩, 75) := ⟨⟨by decide +kernel, by decide +kernel⟩, List.mem_of_getElem? (i := 1319) (by decide +kernel), List.mem_of_getElem? (i := 1763) (by decide +kernel), List.mem_of_getElem? (i := 1764) (by decide +kernel)⟩
theorem lw_p81 : lw_okq (⟨"NinetyLampsModel", "findGlow", "(I[J)V"⟩, 75) := ⟨⟨by decide +kernel, by decide +kernel⟩, List.mem_of_getElem? (i := 1319) (by decide +kernel), List.mem_of_getElem? (i := 1767) (by decide +kernel), List.mem_of_getElem? (i := 1768) (by decide +kernel)⟩
theorem lw_p82 : lw_okq (⟨"NinetyLampsModel", "settings", "()I"⟩, 75) := ⟨⟨by decide +kernel, by decide +kernel⟩, List.mem_of_getElem? (i := 1319) (by decide +kernel), List.mem_of_getElem? (i := 1771) (by decide +kernel), List.mem_of_getElem? (i := 1772) (by decide +kernel)⟩
theorem lw_p83 : lw_okq (⟨"NinetyLampsModel", "highOf", "(I)I"⟩, 75) := ⟨⟨by decide +kernel, by decide +kernel⟩, List.mem_of_getElem? (i := 1319) (by decide +kernel), List.mem_of_getElem? (i := 1775) (by decide +kernel), List.mem_of_getElem? (i := 1776) (by decide +kernel)⟩
theorem lw_p84 : lw_okq (⟨"NinetyLampsModel", "wiresAt", "(II)I"⟩, 75) := ⟨⟨by decide +kernel, by decide +kernel⟩, List.mem_of_getElem? (i := 1319) (by decide +kernel), List.mem_of_getElem? (i := 1779) (by decide +kernel), List.mem_of_getElem? (i := 1780) (by decide +kernel)⟩
theorem lw_p85 : lw_okq (⟨"NinetyLampsModel", "lowOf", "(I)I"⟩, 75) := ⟨⟨by decide +kernel, by decide +kernel⟩, List.mem_of_getElem? (i := 1319) (by decide +kernel), List.mem_of_getElem? (i := 1783) (by decide +kernel), List.mem_of_getElem? (i := 1784) (by decide +kernel)⟩
theorem lw_p86 : lw_okq (⟨"NinetyLampsModel", "refusal", "(I)I"⟩, 75) := ⟨⟨by decide +kernel, by decide +kernel⟩, List.mem_of_getElem? (i := 1319) (by decide +kernel), List.mem_of_getElem? (i := 1825) (by decide +kernel), List.mem_of_getElem? (i := 1826) (by decide +kernel)⟩
theorem lw_p87 : lw_okq (⟨"NinetyLampsModel", "findParted", "(J)Z"⟩, 75) := ⟨⟨by decide +kernel, by decide +kernel⟩, List.mem_of_getElem? (i := 1319) (by decide +kernel), List.mem_of_getElem? (i := 1829) (by decide +kernel), List.mem_of_getElem? (i := 1830) (by decide +kernel)⟩
theorem lw_p88 : lw_okq (⟨"NinetyLampsModel", "findTurns", "(J)V"⟩, 75) := ⟨⟨by decide +kernel, by decide +kernel⟩, List.mem_of_getElem? (i := 1319) (by decide +kernel), List.mem_of_getElem? (i := 1833) (by decide +kernel), List.mem_of_getElem? (i := 1834) (by decide +kernel)⟩
theorem lw_p89 : lw_okq (⟨"NinetyLampsModel", "isTurn", "(IJ)Z"⟩, 75) := ⟨⟨by decide +kernel, by decide +kernel⟩, List.mem_of_getElem? (i := 1319) (by decide +kernel), List.mem_of_getElem? (i := 1837) (by decide +kernel), List.mem_of_getElem? (i := 1838) (by decide +kernel)⟩
theorem lw_p90 : lw_okq (⟨"NinetyLampsModel", "tellTurns", "()V"⟩, 75) := ⟨⟨by decide +kernel, by decide +kernel⟩, List.mem_of_getElem? (i := 1319) (by decide +kernel), List.mem_of_getElem? (i := 1843) (by decide +kernel), List.mem_of_getElem? (i := 1844) (by decide +kernel)⟩
theorem lw_p91 : lw_okq (⟨"NinetyLampsModel", "goOrders", "(IIII)V"⟩, 75) := ⟨⟨by decide +kernel, by decide +kernel⟩, List.mem_of_getElem? (i := 1319) (by decide +kernel), List.mem_of_getElem? (i := 1860) (by decide +kernel), List.mem_of_getElem? (i := 1861) (by decide +kernel)⟩
theorem lw_p92 : lw_okq (⟨"NinetyLampsModel", "changed", "(II)I"⟩, 75) := ⟨⟨by decide +kernel, by decide +kernel⟩, List.mem_of_getElem? (i := 1319) (by decide +kernel), List.mem_of_getElem? (i := 1864) (by decide +kernel), List.mem_of_getElem? (i := 1865) (by decide +kernel)⟩
theorem lw_p93 : lw_okq (⟨"NinetyLampsModel", "dimmest", "()I"⟩, 75) := ⟨⟨by decide +kernel, by decide +kernel⟩, List.mem_of_getElem? (i := 1319) (by decide +kernel), List.mem_of_getElem? (i := 1873) (by decide +kernel), List.mem_of_getElem? (i := 1874) (by decide +kernel)⟩
theorem lw_p94 : lw_okq (⟨"NinetyLampsModel", "sumOf", "(I)J"⟩, 75) := ⟨⟨by decide +kernel, by decide +kernel⟩, List.mem_of_getElem? (i := 1319) (by decide +kernel), List.mem_of_getElem? (i := 1877) (by decide +kernel), List.mem_of_getElem? (i := 1878) (by decide +kernel)⟩
theorem lw_p95 : lw_okq (⟨"NinetyLampsModel", "faultMany", "()I"⟩, 75) := ⟨⟨by decide +kernel, by decide +kernel⟩, List.mem_of_getElem? (i := 1319) (by decide +kernel), List.mem_of_getElem? (i := 1889) (by decide +kernel), List.mem_of_getElem? (i := 1890) (by decide +kernel)⟩
def lw_privs_6 : List (MethodName × Nat) := [(⟨"NinetyLampsModel", "findAll", "()V"⟩, 75), (⟨"NinetyLampsModel", "findGlow", "(I[J)V"⟩, 75), (⟨"NinetyLampsModel", "settings", "()I"⟩, 75), (⟨"NinetyLampsModel", "highOf", "(I)I"⟩, 75), (⟨"NinetyLampsModel", "wiresAt", "(II)I"⟩, 75), (⟨"NinetyLampsModel", "lowOf", "(I)I"⟩, 75), (⟨"NinetyLampsModel", "refusal", "(I)I"⟩, 75), (⟨"NinetyLampsModel", "findParted", "(J)Z"⟩, 75), (⟨"NinetyLampsModel", "findTurns", "(J)V"⟩, 75), (⟨"NinetyLampsModel", "isTurn", "(IJ)Z"⟩, 75), (⟨"NinetyLampsModel", "tellTurns", "()V"⟩, 75), (⟨"NinetyLampsModel", "goOrders", "(IIII)V"⟩, 75), (⟨"NinetyLampsModel", "changed", "(II)I"⟩, 75), (⟨"NinetyLampsModel", "dimmest", "()I"⟩, 75), (⟨"NinetyLampsModel", "sumOf", "(I)J"⟩, 75), (⟨"NinetyLampsModel", "faultMany", "()I"⟩, 75)]
theorem lw_r6 : ∀ q ∈ lw_privs_6, lw_okq q := List.forall_mem_cons.mpr ⟨lw_p80, List.forall_mem_cons.mpr ⟨lw_p81, List.forall_mem_cons.mpr ⟨lw_p82, List.forall_mem_cons.mpr ⟨lw_p83, List.forall_mem_cons.mpr ⟨lw_p84, List.forall_mem_cons.mpr ⟨lw_p85, List.forall_mem_cons.mpr ⟨lw_p86, List.forall_mem_cons.mpr ⟨lw_p87, List.forall_mem_cons.mpr ⟨lw_p88, List.forall_mem_cons.mpr ⟨lw_p89, List.forall_mem_cons.mpr ⟨lw_p90, List.forall_mem_cons.mpr ⟨lw_p91, List.forall_mem_cons.mpr ⟨lw_p92, List.forall_mem_cons.mpr ⟨lw_p93, List.forall_mem_cons.mpr ⟨lw_p94, List.forall_mem_cons.mpr ⟨lw_p95, fun _ h => absurd h List.not_mem_nil⟩⟩⟩⟩⟩⟩⟩⟩⟩⟩⟩⟩⟩⟩⟩⟩
theorem lw_p96 : lw_okq (⟨"NinetyLampsModel", "isFault", "(I)Z"⟩, 75) := ⟨⟨by decide +kernel, by decide +kernel⟩, List.mem_of_getElem? (i := 1319) (by decide +kernel), List.mem_of_getElem? (i := 1897) (by decide +kernel), List.mem_of_getElem? (i := 1898) (by decide +kernel)⟩
theorem lw_p97 : lw_okq (⟨"NinetyLampsModel", "firstUnlike", "()I"⟩, 75) := ⟨⟨by decide +kernel, by decide +kernel⟩, List.mem_of_getElem? (i := 1319) (by decide +kernel), List.mem_of_getElem? (i := 1913) (by decide +kernel), List.mem_of_getElem? (i := 1914) (by decide +kernel)⟩
theorem lw_p98 : lw_okq (⟨"NinetyLampsModel", "findAgreed", "()V"⟩, 75) := ⟨⟨by decide +kernel, by decide +kernel⟩, List.mem_of_getElem? (i := 1319) (by decide +kernel), List.mem_of_getElem? (i := 1933) (by decide +kernel), List.mem_of_getElem? (i := 1934) (by decide +kernel)⟩
theorem lw_p99 : lw_okq (⟨"NinetyLampsModel", "bar", "(I)I"⟩, 75) := ⟨⟨by decide +kernel, by decide +kernel⟩, List.mem_of_getElem? (i := 1319) (by decide +kernel), List.mem_of_getElem? (i := 1937) (by decide +kernel), List.mem_of_getElem? (i := 1938) (by decide +kernel)⟩
theorem lw_p100 : lw_okq (⟨"NinetyLampsModel", "findAnswers", "()V"⟩, 75) := ⟨⟨by decide +kernel, by decide +kernel⟩, List.mem_of_getElem? (i := 1319) (by decide +kernel), List.mem_of_getElem? (i := 1957) (by decide +kernel), List.mem_of_getElem? (i := 1958) (by decide +kernel)⟩
theorem lw_p101 : lw_okq (⟨"NinetyLampsModel", "firstOf", "(II)I"⟩, 75) := ⟨⟨by decide +kernel, by decide +kernel⟩, List.mem_of_getElem? (i := 1319) (by decide +kernel), List.mem_of_getElem? (i := 1961) (by decide +kernel), List.mem_of_getElem? (i := 1962) (by decide +kernel)⟩
theorem lw_p102 : lw_okq (⟨"NinetyLampsModel", "depthOf", "(II)I"⟩, 75) := ⟨⟨by decide +kernel, by decide +kernel⟩, List.mem_of_getElem? (i := 1319) (by decide +kernel), List.mem_of_getElem? (i := 1965) (by decide +kernel), List.mem_of_getElem? (i := 1966) (by decide +kernel)⟩
theorem lw_p103 : lw_okq (⟨"NinetyLampsModel", "parts", "(III)Z"⟩, 75) := ⟨⟨by decide +kernel, by decide +kernel⟩, List.mem_of_getElem? (i := 1319) (by decide +kernel), List.mem_of_getElem? (i := 1969) (by decide +kernel), List.mem_of_getElem? (i := 1970) (by decide +kernel)⟩
theorem lw_p104 : lw_okq (⟨"NinetyLampsModel", "areAlike", "(III)Z"⟩, 75) := ⟨⟨by decide +kernel, by decide +kernel⟩, List.mem_of_getElem? (i := 1319) (by decide +kernel), List.mem_of_getElem? (i := 1973) (by decide +kernel), List.mem_of_getElem? (i := 1974) (by decide +kernel)⟩
theorem lw_p105 : lw_okq (⟨"NinetyLampsModel", "depthBy", "(III)I"⟩, 75) := ⟨⟨by decide +kernel, by decide +kernel⟩, List.mem_of_getElem? (i := 1319) (by decide +kernel), List.mem_of_getElem? (i := 1977) (by decide +kernel), List.mem_of_getElem? (i := 1978) (by decide +kernel)⟩
theorem lw_p106 : lw_okq (⟨"NinetyLampsModel", "firstTest", "(II)I"⟩, 75) := ⟨⟨by decide +kernel, by decide +kernel⟩, List.mem_of_getElem? (i := 1319) (by decide +kernel), List.mem_of_getElem? (i := 1981) (by decide +kernel), List.mem_of_getElem? (i := 1982) (by decide +kernel)⟩
def lw_privs_7 : List (MethodName × Nat) := [(⟨"NinetyLampsModel", "isFault", "(I)Z"⟩, 75), (⟨"NinetyLampsModel", "firstUnlike", "()I"⟩, 75), (⟨"NinetyLampsModel", "findAgreed", "()V"⟩, 75), (⟨"NinetyLampsModel", "bar", "(I)I"⟩, 75), (⟨"NinetyLampsModel", "findAnswers", "()V"⟩, 75), (⟨"NinetyLampsModel", "firstOf", "(II)I"⟩, 75), (⟨"NinetyLampsModel", "depthOf", "(II)I"⟩, 75), (⟨"NinetyLampsModel", "parts", "(III)Z"⟩, 75), (⟨"NinetyLampsModel", "areAlike", "(III)Z"⟩, 75), (⟨"NinetyLampsModel", "depthBy", "(III)I"⟩, 75), (⟨"NinetyLampsModel", "firstTest", "(II)I"⟩, 75)]
theorem lw_r7 : ∀ q ∈ lw_privs_7, lw_okq q := List.forall_mem_cons.mpr ⟨lw_p96, List.forall_mem_cons.mpr ⟨lw_p97, List.forall_mem_cons.mpr ⟨lw_p98, List.forall_mem_cons.mpr ⟨lw_p99, List.forall_mem_cons.mpr ⟨lw_p100, List.forall_mem_cons.mpr ⟨lw_p101, List.forall_mem_cons.mpr ⟨lw_p102, List.forall_mem_cons.mpr ⟨lw_p103, List.forall_mem_cons.mpr ⟨lw_p104, List.forall_mem_cons.mpr ⟨lw_p105, List.forall_mem_cons.mpr ⟨lw_p106, fun _ h => absurd h List.not_mem_nil⟩⟩⟩⟩⟩⟩⟩⟩⟩⟩⟩
def lw_privs : List (MethodName × Nat) := lw_privs_1 ++ (lw_privs_2 ++ (lw_privs_3 ++ (lw_privs_4 ++ (lw_privs_5 ++ (lw_privs_6 ++ (lw_privs_7))))))
def lw_tbl : List Cond := k2_sels lw_privs ++ tables_1
theorem lw_privs_ok : ∀ q ∈ lw_privs, lw_okq q := by
  show ∀ q ∈ lw_privs_1 ++ (lw_privs_2 ++ (lw_privs_3 ++ (lw_privs_4 ++ (lw_privs_5 ++ (lw_privs_6 ++ (lw_privs_7)))))), lw_okq q
  exact List.forall_mem_append.mpr ⟨lw_r1, List.forall_mem_append.mpr ⟨lw_r2, List.forall_mem_append.mpr ⟨lw_r3, List.forall_mem_append.mpr ⟨lw_r4, List.forall_mem_append.mpr ⟨lw_r5, List.forall_mem_append.mpr ⟨lw_r6, lw_r7⟩⟩⟩⟩⟩⟩
end
section
def RX0 : String := "NinetyLamps$Board"
def TX0 : u_T := fun k => match k with
  | 0 => ("NinetyLamps$Board", "wide", "I", false)
  | 1 => ("NinetyLamps$Board", "lamps", "I", false)
  | 2 => ("NinetyLamps$Board", "supply", "I", false)
  | 3 => ("NinetyLamps$Board", "depth", "I", false)
  | 4 => ("NinetyLamps$Board", "faint", "I", false)
  | 5 => ("NinetyLamps$Board", "ohms", "[I", true)
  | 6 => ("NinetyLamps$Board", "from", "[I", true)
  | 7 => ("NinetyLamps$Board", "goal", "[I", true)
  | 8 => ("NinetyLamps$Board", "volts", "[I", true)
  | 9 => ("NinetyLamps$Board", "out", "[J", true)
  | _ => ("NinetyLamps$Board", "into", "[J", true)
def tyX0 : Nat → FieldType := fun k => match k with
  | 0 => .int
  | 1 => .int
  | 2 => .int
  | 3 => .int
  | 4 => .int
  | 5 => .array .int
  | 6 => .array .int
  | 7 => .array .int
  | 8 => .array .int
  | 9 => .array .long
  | _ => .array .long
abbrev wsX00 : List Cond := u_ws RX0 TX0 11
theorem nmX0 : ∀ a, a < 11 → ∀ b, b < 11 → a ≠ b → (TX0 a).2.1 ≠ (TX0 b).2.1 := by decide +kernel
theorem tyX0_ok : ∀ k, k < 11 → parseFieldDescriptor (TX0 k).2.2.1 = some (tyX0 k) := by decide +kernel
abbrev cX0_init : ByteArray := prog_2_method_1_code
def yX0_init : MethodName := ⟨RX0, "<init>", "()V"⟩
abbrev cX0_hasWire : ByteArray := prog_2_method_2_code
def yX0_hasWire : MethodName := ⟨RX0, "hasWire", "(I)Z"⟩
abbrev cX0_hasLamp : ByteArray := prog_2_method_3_code
def yX0_hasLamp : MethodName := ⟨RX0, "hasLamp", "(I)Z"⟩
abbrev cX0_hasPair : ByteArray := prog_2_method_4_code
def yX0_hasPair : MethodName := ⟨RX0, "hasPair", "(II)Z"⟩
abbrev cX0_hasLamps : ByteArray := prog_2_method_5_code
def yX0_hasLamps : MethodName := ⟨RX0, "hasLamps", "(J)Z"⟩
abbrev cX0_hasSetting : ByteArray := prog_2_method_6_code
def yX0_hasSetting : MethodName := ⟨RX0, "hasSetting", "(II)Z"⟩
abbrev cX0_startAnew : ByteArray := prog_2_method_7_code
def yX0_startAnew : MethodName := ⟨RX0, "startAnew", "(I)V"⟩
abbrev cX0_add : ByteArray := prog_2_method_8_code
def yX0_add : MethodName := ⟨RX0, "add", "(III)V"⟩
abbrev cX0_resist : ByteArray := prog_2_method_9_code
def yX0_resist : MethodName := ⟨RX0, "resist", "(II)V"⟩
abbrev cX0_trade : ByteArray := prog_2_method_10_code
def yX0_trade : MethodName := ⟨RX0, "trade", "(II)V"⟩
abbrev cX0_rewire : ByteArray := prog_2_method_11_code
def yX0_rewire : MethodName := ⟨RX0, "rewire", "()V"⟩
abbrev cX0_asked : ByteArray := prog_2_method_12_code
def yX0_asked : MethodName := ⟨RX0, "asked", "(II)J"⟩
def RX1 : String := "NinetyLamps$Flow"
def TX1 : u_T := fun k => match k with
  | 0 => ("NinetyLamps$Flow", "board", "LNinetyLamps$Board;", true)
  | 1 => ("NinetyLamps$Flow", "ohms", "[I", true)
  | 2 => ("NinetyLamps$Flow", "out", "[J", true)
  | 3 => ("NinetyLamps$Flow", "into", "[J", true)
  | 4 => ("NinetyLamps$Flow", "light", "[J", true)
  | 5 => ("NinetyLamps$Flow", "drawn", "[J", true)
  | 6 => ("NinetyLamps$Flow", "way", "[I", true)
  | 7 => ("NinetyLamps$Flow", "bestWay", "[I", true)
  | 8 => ("NinetyLamps$Flow", "high", "I", false)
  | 9 => ("NinetyLamps$Flow", "low", "I", false)
  | 10 => ("NinetyLamps$Flow", "turned", "I", false)
  | 11 => ("NinetyLamps$Flow", "joined", "I", false)
  | 12 => ("NinetyLamps$Flow", "joinedTo", "I", false)
  | 13 => ("NinetyLamps$Flow", "toLow", "J", false)
  | 14 => ("NinetyLamps$Flow", "toFree", "J", false)
  | 15 => ("NinetyLamps$Flow", "lit", "J", false)
  | 16 => ("NinetyLamps$Flow", "watched", "I", false)
  | 17 => ("NinetyLamps$Flow", "passing", "I", false)
  | 18 => ("NinetyLamps$Flow", "best", "J", false)
  | _ => ("NinetyLamps$Flow", "bestSize", "I", false)
def tyX1 : Nat → FieldType := fun k => match k with
  | 0 => .object "NinetyLamps$Board"
  | 1 => .array .int
  | 2 => .array .long
  | 3 => .array .long
  | 4 => .array .long
  | 5 => .array .long
  | 6 => .array .int
  | 7 => .array .int
  | 8 => .int
  | 9 => .int
  | 10 => .int
  | 11 => .int
  | 12 => .int
  | 13 => .long
  | 14 => .long
  | 15 => .long
  | 16 => .int
  | 17 => .int
  | 18 => .long
  | _ => .int
abbrev wsX10 : List Cond := u_ws RX1 TX1 20
theorem nmX1 : ∀ a, a < 20 → ∀ b, b < 20 → a ≠ b → (TX1 a).2.1 ≠ (TX1 b).2.1 := by decide +kernel
theorem tyX1_ok : ∀ k, k < 20 → parseFieldDescriptor (TX1 k).2.2.1 = some (tyX1 k) := by decide +kernel
abbrev cX1_init : ByteArray := prog_3_method_1_code
def yX1_init : MethodName := ⟨RX1, "<init>", "(LNinetyLamps$Board;)V"⟩
abbrev cX1_glowing : ByteArray := prog_3_method_2_code
def yX1_glowing : MethodName := ⟨RX1, "glowing", "(II)J"⟩
abbrev cX1_watch : ByteArray := prog_3_method_3_code
def yX1_watch : MethodName := ⟨RX1, "watch", "(III)V"⟩
abbrev cX1_lay : ByteArray := prog_3_method_4_code
def yX1_lay : MethodName := ⟨RX1, "lay", "(II)V"⟩
abbrev cX1_cut : ByteArray := prog_3_method_5_code
def yX1_cut : MethodName := ⟨RX1, "cut", "(I)V"⟩
abbrev cX1_join : ByteArray := prog_3_method_6_code
def yX1_join : MethodName := ⟨RX1, "join", "(II)V"⟩
abbrev cX1_turn : ByteArray := prog_3_method_7_code
def yX1_turn : MethodName := ⟨RX1, "turn", "(I)V"⟩
abbrev cX1_run : ByteArray := prog_3_method_8_code
def yX1_run : MethodName := ⟨RX1, "run", "()J"⟩
abbrev cX1_putOut : ByteArray := prog_3_method_9_code
def yX1_putOut : MethodName := ⟨RX1, "putOut", "()V"⟩
abbrev cX1_follow : ByteArray := prog_3_method_10_code
def yX1_follow : MethodName := ⟨RX1, "follow", "(IIII)V"⟩
abbrev cX1_goalOf : ByteArray := prog_3_method_11_code
def yX1_goalOf : MethodName := ⟨RX1, "goalOf", "(I)I"⟩
abbrev cX1_carry : ByteArray := prog_3_method_12_code
def yX1_carry : MethodName := ⟨RX1, "carry", "(IIII)V"⟩
abbrev cX1_noteWay : ByteArray := prog_3_method_13_code
def yX1_noteWay : MethodName := ⟨RX1, "noteWay", "(IJ)V"⟩
abbrev cX1_isLessWay : ByteArray := prog_3_method_14_code
def yX1_isLessWay : MethodName := ⟨RX1, "isLessWay", "(I)Z"⟩
abbrev cX1_bright : ByteArray := prog_3_method_15_code
def yX1_bright : MethodName := ⟨RX1, "bright", "()J"⟩
def RX2 : String := "NinetyLamps$Kept"
def TX2 : u_T := fun k => match k with
  | 0 => ("NinetyLamps$Kept", "full", "Z", false)
  | 1 => ("NinetyLamps$Kept", "lamps", "I", false)
  | 2 => ("NinetyLamps$Kept", "from", "[I", true)
  | 3 => ("NinetyLamps$Kept", "goal", "[I", true)
  | 4 => ("NinetyLamps$Kept", "volts", "[I", true)
  | _ => ("NinetyLamps$Kept", "notes", "LNinetyLamps$Notes;", true)
def tyX2 : Nat → FieldType := fun k => match k with
  | 0 => .boolean
  | 1 => .int
  | 2 => .array .int
  | 3 => .array .int
  | 4 => .array .int
  | _ => .object "NinetyLamps$Notes"
abbrev wsX20 : List Cond := u_ws RX2 TX2 6
theorem nmX2 : ∀ a, a < 6 → ∀ b, b < 6 → a ≠ b → (TX2 a).2.1 ≠ (TX2 b).2.1 := by decide +kernel
theorem tyX2_ok : ∀ k, k < 6 → parseFieldDescriptor (TX2 k).2.2.1 = some (tyX2 k) := by decide +kernel
abbrev cX2_init : ByteArray := prog_4_method_1_code
def yX2_init : MethodName := ⟨RX2, "<init>", "()V"⟩
abbrev cX2_take : ByteArray := prog_4_method_2_code
def yX2_take : MethodName := ⟨RX2, "take", "(LNinetyLamps$Board;LNinetyLamps$Notes;)V"⟩
abbrev cX2_give : ByteArray := prog_4_method_3_code
def yX2_give : MethodName := ⟨RX2, "give", "(LNinetyLamps$Board;LNinetyLamps$Notes;)V"⟩
def RX3 : String := "NinetyLamps$Notes"
def TX3 : u_T := fun k => match k with
  | 0 => ("NinetyLamps$Notes", "high", "I", false)
  | 1 => ("NinetyLamps$Notes", "low", "I", false)
  | 2 => ("NinetyLamps$Notes", "pictures", "[J", true)
  | 3 => ("NinetyLamps$Notes", "seenSize", "I", false)
  | 4 => ("NinetyLamps$Notes", "seenHigh", "[I", true)
  | 5 => ("NinetyLamps$Notes", "seenLow", "[I", true)
  | _ => ("NinetyLamps$Notes", "seenLamps", "[J", true)
def tyX3 : Nat → FieldType := fun k => match k with
  | 0 => .int
  | 1 => .int
  | 2 => .array .long
  | 3 => .int
  | 4 => .array .int
  | 5 => .array .int
  | _ => .array .long
abbrev wsX30 : List Cond := u_ws RX3 TX3 7
theorem nmX3 : ∀ a, a < 7 → ∀ b, b < 7 → a ≠ b → (TX3 a).2.1 ≠ (TX3 b).2.1 := by decide +kernel
theorem tyX3_ok : ∀ k, k < 7 → parseFieldDescriptor (TX3 k).2.2.1 = some (tyX3 k) := by decide +kernel
abbrev cX3_init : ByteArray := prog_5_method_1_code
def yX3_init : MethodName := ⟨RX3, "<init>", "()V"⟩
abbrev cX3_clear : ByteArray := prog_5_method_2_code
def yX3_clear : MethodName := ⟨RX3, "clear", "()V"⟩
abbrev cX3_addSeen : ByteArray := prog_5_method_3_code
def yX3_addSeen : MethodName := ⟨RX3, "addSeen", "(IIJ)Z"⟩
abbrev cX3_copyFrom : ByteArray := prog_5_method_4_code
def yX3_copyFrom : MethodName := ⟨RX3, "copyFrom", "(LNinetyLamps$Notes;)V"⟩
def RX4 : String := "NinetyLamps$Parting"
def TX4 : u_T := fun k => match k with
  | 0 => ("NinetyLamps$Parting", "table", "LNinetyLamps$Table;", true)
  | 1 => ("NinetyLamps$Parting", "flow", "LNinetyLamps$Flow;", true)
  | 2 => ("NinetyLamps$Parting", "lampAt", "[I", true)
  | 3 => ("NinetyLamps$Parting", "lamps", "I", false)
  | 4 => ("NinetyLamps$Parting", "cover", "[I", true)
  | 5 => ("NinetyLamps$Parting", "widest", "[I", true)
  | 6 => ("NinetyLamps$Parting", "widestSize", "I", false)
  | 7 => ("NinetyLamps$Parting", "fewest", "[I", true)
  | 8 => ("NinetyLamps$Parting", "near", "[I", true)
  | 9 => ("NinetyLamps$Parting", "chosen", "[I", true)
  | 10 => ("NinetyLamps$Parting", "turns", "I", false)
  | 11 => ("NinetyLamps$Parting", "order", "[I", true)
  | 12 => ("NinetyLamps$Parting", "tried", "[I", true)
  | 13 => ("NinetyLamps$Parting", "fewestChanges", "I", false)
  | 14 => ("NinetyLamps$Parting", "slots", "[I", true)
  | 15 => ("NinetyLamps$Parting", "lights", "[J", true)
  | _ => ("NinetyLamps$Parting", "sums", "[J", true)
def tyX4 : Nat → FieldType := fun k => match k with
  | 0 => .object "NinetyLamps$Table"
  | 1 => .object "NinetyLamps$Flow"
  | 2 => .array .int
  | 3 => .int
  | 4 => .array .int
  | 5 => .array .int
  | 6 => .int
  | 7 => .array .int
  | 8 => .array .int
  | 9 => .array .int
  | 10 => .int
  | 11 => .array .int
  | 12 => .array .int
  | 13 => .int
  | 14 => .array .int
  | 15 => .array .long
  | _ => .array .long
abbrev wsX40 : List Cond := u_ws RX4 TX4 17
theorem nmX4 : ∀ a, a < 17 → ∀ b, b < 17 → a ≠ b → (TX4 a).2.1 ≠ (TX4 b).2.1 := by decide +kernel
theorem tyX4_ok : ∀ k, k < 17 → parseFieldDescriptor (TX4 k).2.2.1 = some (tyX4 k) := by decide +kernel
abbrev cX4_init : ByteArray := prog_6_method_1_code
def yX4_init : MethodName := ⟨RX4, "<init>", "(LNinetyLamps$Table;LNinetyLamps$Flow;)V"⟩
abbrev cX4_open : ByteArray := prog_6_method_2_code
def yX4_open : MethodName := ⟨RX4, "open", "(J)V"⟩
abbrev cX4_numbered : ByteArray := prog_6_method_3_code
def yX4_numbered : MethodName := ⟨RX4, "numbered", "(J)I"⟩
abbrev cX4_part : ByteArray := prog_6_method_4_code
def yX4_part : MethodName := ⟨RX4, "part", "()I"⟩
abbrev cX4_findWidest : ByteArray := prog_6_method_5_code
def yX4_findWidest : MethodName := ⟨RX4, "findWidest", "()V"⟩
abbrev cX4_addWidest : ByteArray := prog_6_method_6_code
def yX4_addWidest : MethodName := ⟨RX4, "addWidest", "(I)V"⟩
abbrev cX4_fewestFor : ByteArray := prog_6_method_7_code
def yX4_fewestFor : MethodName := ⟨RX4, "fewestFor", "(II)I"⟩
abbrev cX4_choose : ByteArray := prog_6_method_8_code
def yX4_choose : MethodName := ⟨RX4, "choose", "(I)V"⟩
abbrev cX4_mostApart : ByteArray := prog_6_method_9_code
def yX4_mostApart : MethodName := ⟨RX4, "mostApart", "()J"⟩
abbrev cX4_findNear : ByteArray := prog_6_method_10_code
def yX4_findNear : MethodName := ⟨RX4, "findNear", "()V"⟩
abbrev cX4_isApart : ByteArray := prog_6_method_11_code
def yX4_isApart : MethodName := ⟨RX4, "isApart", "(I)Z"⟩
abbrev cX4_putInOrder : ByteArray := prog_6_method_12_code
def yX4_putInOrder : MethodName := ⟨RX4, "putInOrder", "()I"⟩
abbrev cX4_tryOrder : ByteArray := prog_6_method_13_code
def yX4_tryOrder : MethodName := ⟨RX4, "tryOrder", "(IIII)V"⟩
abbrev cX4_differing : ByteArray := prog_6_method_14_code
def yX4_differing : MethodName := ⟨RX4, "differing", "(II)I"⟩
abbrev cX4_giveSlots : ByteArray := prog_6_method_15_code
def yX4_giveSlots : MethodName := ⟨RX4, "giveSlots", "(I)J"⟩
abbrev cX4_takeLights : ByteArray := prog_6_method_16_code
def yX4_takeLights : MethodName := ⟨RX4, "takeLights", "()V"⟩
abbrev cX4_dimmest : ByteArray := prog_6_method_17_code
def yX4_dimmest : MethodName := ⟨RX4, "dimmest", "()I"⟩
abbrev cX4_brightestTurn : ByteArray := prog_6_method_18_code
def yX4_brightestTurn : MethodName := ⟨RX4, "brightestTurn", "(I)I"⟩
def RX5 : String := "NinetyLamps$Plan"
def TX5 : u_T := fun k => match k with
  | 0 => ("NinetyLamps$Plan", "suspects", "LNinetyLamps$Suspects;", true)
  | 1 => ("NinetyLamps$Plan", "testHigh", "[I", true)
  | 2 => ("NinetyLamps$Plan", "testLow", "[I", true)
  | 3 => ("NinetyLamps$Plan", "tests", "I", false)
  | 4 => ("NinetyLamps$Plan", "groupOf", "[I", true)
  | 5 => ("NinetyLamps$Plan", "groups", "I", false)
  | 6 => ("NinetyLamps$Plan", "shown", "[J", true)
  | 7 => ("NinetyLamps$Plan", "sizes", "[I", true)
  | 8 => ("NinetyLamps$Plan", "worst", "[I", true)
  | 9 => ("NinetyLamps$Plan", "parts", "[I", true)
  | 10 => ("NinetyLamps$Plan", "cells", "[I", false)
  | _ => ("NinetyLamps$Plan", "depths", "[I", false)
def tyX5 : Nat → FieldType := fun k => match k with
  | 0 => .object "NinetyLamps$Suspects"
  | 1 => .array .int
  | 2 => .array .int
  | 3 => .int
  | 4 => .array .int
  | 5 => .int
  | 6 => .array .long
  | 7 => .array .int
  | 8 => .array .int
  | 9 => .array .int
  | 10 => .array .int
  | _ => .array .int
abbrev wsX50 : List Cond := u_ws RX5 TX5 12
theorem nmX5 : ∀ a, a < 12 → ∀ b, b < 12 → a ≠ b → (TX5 a).2.1 ≠ (TX5 b).2.1 := by decide +kernel
theorem tyX5_ok : ∀ k, k < 12 → parseFieldDescriptor (TX5 k).2.2.1 = some (tyX5 k) := by decide +kernel
abbrev cX5_init : ByteArray := prog_7_method_1_code
def yX5_init : MethodName := ⟨RX5, "<init>", "(LNinetyLamps$Suspects;)V"⟩
abbrev cX5_addTest : ByteArray := prog_7_method_2_code
def yX5_addTest : MethodName := ⟨RX5, "addTest", "(II)Z"⟩
abbrev cX5_grow : ByteArray := prog_7_method_3_code
def yX5_grow : MethodName := ⟨RX5, "grow", "()V"⟩
abbrev cX5_findGroup : ByteArray := prog_7_method_4_code
def yX5_findGroup : MethodName := ⟨RX5, "findGroup", "(I)I"⟩
abbrev cX5_isSameRow : ByteArray := prog_7_method_5_code
def yX5_isSameRow : MethodName := ⟨RX5, "isSameRow", "(II)Z"⟩
abbrev cX5_place : ByteArray := prog_7_method_6_code
def yX5_place : MethodName := ⟨RX5, "place", "(II)I"⟩
abbrev cX5_partCells : ByteArray := prog_7_method_7_code
def yX5_partCells : MethodName := ⟨RX5, "partCells", "(I)V"⟩
abbrev cX5_isOneCell : ByteArray := prog_7_method_8_code
def yX5_isOneCell : MethodName := ⟨RX5, "isOneCell", "(IIII)Z"⟩
abbrev cX5_reckonDepths : ByteArray := prog_7_method_9_code
def yX5_reckonDepths : MethodName := ⟨RX5, "reckonDepths", "(I)V"⟩
abbrev cX5_tryTest : ByteArray := prog_7_method_10_code
def yX5_tryTest : MethodName := ⟨RX5, "tryTest", "(II)V"⟩
abbrev cX5_depthAt : ByteArray := prog_7_method_11_code
def yX5_depthAt : MethodName := ⟨RX5, "depthAt", "(II)I"⟩
abbrev cX5_firstTest : ByteArray := prog_7_method_12_code
def yX5_firstTest : MethodName := ⟨RX5, "firstTest", "(II)I"⟩
abbrev cX5_worstBehind : ByteArray := prog_7_method_13_code
def yX5_worstBehind : MethodName := ⟨RX5, "worstBehind", "(III)I"⟩
abbrev cX5_groupOfFault : ByteArray := prog_7_method_14_code
def yX5_groupOfFault : MethodName := ⟨RX5, "groupOfFault", "(I)I"⟩
abbrev cX5_sizeOfGroup : ByteArray := prog_7_method_15_code
def yX5_sizeOfGroup : MethodName := ⟨RX5, "sizeOfGroup", "(I)I"⟩
def RX6 : String := "NinetyLamps$Reader"
def TX6 : u_T := fun k => match k with
  | 0 => ("NinetyLamps$Reader", "text", "LNinetyLamps$Text;", true)
  | 1 => ("NinetyLamps$Reader", "kinds", "[I", true)
  | 2 => ("NinetyLamps$Reader", "wires", "[I", true)
  | 3 => ("NinetyLamps$Reader", "goals", "[I", true)
  | 4 => ("NinetyLamps$Reader", "numbers", "[I", true)
  | 5 => ("NinetyLamps$Reader", "lines", "I", false)
  | 6 => ("NinetyLamps$Reader", "wide", "I", false)
  | 7 => ("NinetyLamps$Reader", "lamps", "I", false)
  | 8 => ("NinetyLamps$Reader", "limit", "I", false)
  | 9 => ("NinetyLamps$Reader", "at", "I", false)
  | _ => ("NinetyLamps$Reader", "bad", "I", false)
def tyX6 : Nat → FieldType := fun k => match k with
  | 0 => .object "NinetyLamps$Text"
  | 1 => .array .int
  | 2 => .array .int
  | 3 => .array .int
  | 4 => .array .int
  | 5 => .int
  | 6 => .int
  | 7 => .int
  | 8 => .int
  | 9 => .int
  | _ => .int
abbrev wsX60 : List Cond := u_ws RX6 TX6 11
theorem nmX6 : ∀ a, a < 11 → ∀ b, b < 11 → a ≠ b → (TX6 a).2.1 ≠ (TX6 b).2.1 := by decide +kernel
theorem tyX6_ok : ∀ k, k < 11 → parseFieldDescriptor (TX6 k).2.2.1 = some (tyX6 k) := by decide +kernel
abbrev cX6_init : ByteArray := prog_8_method_1_code
def yX6_init : MethodName := ⟨RX6, "<init>", "(LNinetyLamps$Text;)V"⟩
abbrev cX6_read : ByteArray := prog_8_method_2_code
def yX6_read : MethodName := ⟨RX6, "read", "(II)I"⟩
abbrev cX6_goesOn : ByteArray := prog_8_method_3_code
def yX6_goesOn : MethodName := ⟨RX6, "goesOn", "()Z"⟩
abbrev cX6_readLine : ByteArray := prog_8_method_4_code
def yX6_readLine : MethodName := ⟨RX6, "readLine", "()Z"⟩
abbrev cX6_readWidth : ByteArray := prog_8_method_5_code
def yX6_readWidth : MethodName := ⟨RX6, "readWidth", "()Z"⟩
abbrev cX6_readOhms : ByteArray := prog_8_method_6_code
def yX6_readOhms : MethodName := ⟨RX6, "readOhms", "()Z"⟩
abbrev cX6_readLamp : ByteArray := prog_8_method_7_code
def yX6_readLamp : MethodName := ⟨RX6, "readLamp", "()Z"⟩
abbrev cX6_note : ByteArray := prog_8_method_8_code
def yX6_note : MethodName := ⟨RX6, "note", "(IIII)Z"⟩
abbrev cX6_fail : ByteArray := prog_8_method_9_code
def yX6_fail : MethodName := ⟨RX6, "fail", "(I)Z"⟩
abbrev cX6_isAt : ByteArray := prog_8_method_10_code
def yX6_isAt : MethodName := ⟨RX6, "isAt", "(C)Z"⟩
abbrev cX6_isDigit : ByteArray := prog_8_method_11_code
def yX6_isDigit : MethodName := ⟨RX6, "isDigit", "()Z"⟩
abbrev cX6_take : ByteArray := prog_8_method_12_code
def yX6_take : MethodName := ⟨RX6, "take", "(C)Z"⟩
abbrev cX6_takeWire : ByteArray := prog_8_method_13_code
def yX6_takeWire : MethodName := ⟨RX6, "takeWire", "(I)I"⟩
abbrev cX6_takeNumber : ByteArray := prog_8_method_14_code
def yX6_takeNumber : MethodName := ⟨RX6, "takeNumber", "(II)I"⟩
def RX7 : String := "NinetyLamps$Suspects"
def TX7 : u_T := fun k => match k with
  | 0 => ("NinetyLamps$Suspects", "table", "LNinetyLamps$Table;", true)
  | 1 => ("NinetyLamps$Suspects", "board", "LNinetyLamps$Board;", true)
  | 2 => ("NinetyLamps$Suspects", "flow", "LNinetyLamps$Flow;", true)
  | 3 => ("NinetyLamps$Suspects", "notes", "LNinetyLamps$Notes;", true)
  | 4 => ("NinetyLamps$Suspects", "agrees", "[I", true)
  | 5 => ("NinetyLamps$Suspects", "agreeing", "I", false)
  | 6 => ("NinetyLamps$Suspects", "groupGlow", "[J", true)
  | 7 => ("NinetyLamps$Suspects", "groupSize", "[I", true)
  | _ => ("NinetyLamps$Suspects", "groups", "I", false)
def tyX7 : Nat → FieldType := fun k => match k with
  | 0 => .object "NinetyLamps$Table"
  | 1 => .object "NinetyLamps$Board"
  | 2 => .object "NinetyLamps$Flow"
  | 3 => .object "NinetyLamps$Notes"
  | 4 => .array .int
  | 5 => .int
  | 6 => .array .long
  | 7 => .array .int
  | _ => .int
abbrev wsX70 : List Cond := u_ws RX7 TX7 9
theorem nmX7 : ∀ a, a < 9 → ∀ b, b < 9 → a ≠ b → (TX7 a).2.1 ≠ (TX7 b).2.1 := by decide +kernel
theorem tyX7_ok : ∀ k, k < 9 → parseFieldDescriptor (TX7 k).2.2.1 = some (tyX7 k) := by decide +kernel
abbrev cX7_init : ByteArray := prog_9_method_1_code
def yX7_init : MethodName := ⟨RX7, "<init>", "(LNinetyLamps$Table;LNinetyLamps$Flow;LNinetyLamps$Notes;)V"⟩
abbrev cX7_firstTouch : ByteArray := prog_9_method_2_code
def yX7_firstTouch : MethodName := ⟨RX7, "firstTouch", "()I"⟩
abbrev cX7_firstTurned : ByteArray := prog_9_method_3_code
def yX7_firstTurned : MethodName := ⟨RX7, "firstTurned", "()I"⟩
abbrev cX7_size : ByteArray := prog_9_method_4_code
def yX7_size : MethodName := ⟨RX7, "size", "()I"⟩
abbrev cX7_has : ByteArray := prog_9_method_5_code
def yX7_has : MethodName := ⟨RX7, "has", "(I)Z"⟩
abbrev cX7_kindOf : ByteArray := prog_9_method_6_code
def yX7_kindOf : MethodName := ⟨RX7, "kindOf", "(I)I"⟩
abbrev cX7_firstOf : ByteArray := prog_9_method_7_code
def yX7_firstOf : MethodName := ⟨RX7, "firstOf", "(I)I"⟩
abbrev cX7_secondOf : ByteArray := prog_9_method_8_code
def yX7_secondOf : MethodName := ⟨RX7, "secondOf", "(I)I"⟩
abbrev cX7_pairsFrom : ByteArray := prog_9_method_9_code
def yX7_pairsFrom : MethodName := ⟨RX7, "pairsFrom", "(I)I"⟩
abbrev cX7_firstOfPair : ByteArray := prog_9_method_10_code
def yX7_firstOfPair : MethodName := ⟨RX7, "firstOfPair", "(I)I"⟩
abbrev cX7_glowWith : ByteArray := prog_9_method_11_code
def yX7_glowWith : MethodName := ⟨RX7, "glowWith", "(III)J"⟩
abbrev cX7_glowBy : ByteArray := prog_9_method_12_code
def yX7_glowBy : MethodName := ⟨RX7, "glowBy", "(II)J"⟩
abbrev cX7_firstParting : ByteArray := prog_9_method_13_code
def yX7_firstParting : MethodName := ⟨RX7, "firstParting", "(III)I"⟩
abbrev cX7_firstAgainst : ByteArray := prog_9_method_14_code
def yX7_firstAgainst : MethodName := ⟨RX7, "firstAgainst", "(I)I"⟩
abbrev cX7_gather : ByteArray := prog_9_method_15_code
def yX7_gather : MethodName := ⟨RX7, "gather", "()V"⟩
abbrev cX7_leftAtWorst : ByteArray := prog_9_method_16_code
def yX7_leftAtWorst : MethodName := ⟨RX7, "leftAtWorst", "(II)I"⟩
abbrev cX7_joinGroup : ByteArray := prog_9_method_17_code
def yX7_joinGroup : MethodName := ⟨RX7, "joinGroup", "(J)I"⟩
def RX8 : String := "NinetyLamps$Table"
def TX8 : u_T := fun k => match k with
  | 0 => ("NinetyLamps$Table", "board", "LNinetyLamps$Board;", true)
  | 1 => ("NinetyLamps$Table", "flow", "LNinetyLamps$Flow;", true)
  | 2 => ("NinetyLamps$Table", "glow", "[J", true)
  | 3 => ("NinetyLamps$Table", "clean", "[Z", true)
  | 4 => ("NinetyLamps$Table", "slots", "[I", true)
  | 5 => ("NinetyLamps$Table", "size", "I", false)
  | _ => ("NinetyLamps$Table", "fresh", "Z", false)
def tyX8 : Nat → FieldType := fun k => match k with
  | 0 => .object "NinetyLamps$Board"
  | 1 => .object "NinetyLamps$Flow"
  | 2 => .array .long
  | 3 => .array .boolean
  | 4 => .array .int
  | 5 => .int
  | _ => .boolean
abbrev wsX80 : List Cond := u_ws RX8 TX8 7
theorem nmX8 : ∀ a, a < 7 → ∀ b, b < 7 → a ≠ b → (TX8 a).2.1 ≠ (TX8 b).2.1 := by decide +kernel
theorem tyX8_ok : ∀ k, k < 7 → parseFieldDescriptor (TX8 k).2.2.1 = some (tyX8 k) := by decide +kernel
abbrev cX8_init : ByteArray := prog_10_method_1_code
def yX8_init : MethodName := ⟨RX8, "<init>", "(LNinetyLamps$Board;LNinetyLamps$Flow;)V"⟩
abbrev cX8_refresh : ByteArray := prog_10_method_2_code
def yX8_refresh : MethodName := ⟨RX8, "refresh", "()V"⟩
abbrev cX8_isTurn : ByteArray := prog_10_method_3_code
def yX8_isTurn : MethodName := ⟨RX8, "isTurn", "(IJ)Z"⟩
abbrev cX8_newSets : ByteArray := prog_10_method_4_code
def yX8_newSets : MethodName := ⟨RX8, "newSets", "(Z)I"⟩
abbrev cX8_enter : ByteArray := prog_10_method_5_code
def yX8_enter : MethodName := ⟨RX8, "enter", "(I)Z"⟩
abbrev cX8_likeBehind : ByteArray := prog_10_method_6_code
def yX8_likeBehind : MethodName := ⟨RX8, "likeBehind", "(I)J"⟩
def RX9 : String := "NinetyLamps$Text"
def TX9 : u_T := fun k => match k with
  | 0 => ("NinetyLamps$Text", "signs", "[C", true)
  | _ => ("NinetyLamps$Text", "size", "I", false)
def tyX9 : Nat → FieldType := fun k => match k with
  | 0 => .array .char
  | _ => .int
abbrev wsX90 : List Cond := u_ws RX9 TX9 2
theorem nmX9 : ∀ a, a < 2 → ∀ b, b < 2 → a ≠ b → (TX9 a).2.1 ≠ (TX9 b).2.1 := by decide +kernel
theorem tyX9_ok : ∀ k, k < 2 → parseFieldDescriptor (TX9 k).2.2.1 = some (tyX9 k) := by decide +kernel
abbrev cX9_init : ByteArray := prog_11_method_1_code
def yX9_init : MethodName := ⟨RX9, "<init>", "()V"⟩
abbrev cX9_append : ByteArray := prog_11_method_2_code
def yX9_append : MethodName := ⟨RX9, "append", "(I)Z"⟩
def RX10 : String := "NinetyLamps$Told"
def TX10 : u_T := fun k => match k with
  | 0 => ("NinetyLamps$Told", "numbers", "[J", true)
  | _ => ("NinetyLamps$Told", "size", "I", false)
def tyX10 : Nat → FieldType := fun k => match k with
  | 0 => .array .long
  | _ => .int
abbrev wsX100 : List Cond := u_ws RX10 TX10 2
theorem nmX10 : ∀ a, a < 2 → ∀ b, b < 2 → a ≠ b → (TX10 a).2.1 ≠ (TX10 b).2.1 := by decide +kernel
theorem tyX10_ok : ∀ k, k < 2 → parseFieldDescriptor (TX10 k).2.2.1 = some (tyX10 k) := by decide +kernel
abbrev cX10_init : ByteArray := prog_12_method_1_code
def yX10_init : MethodName := ⟨RX10, "<init>", "()V"⟩
abbrev cX10_clear : ByteArray := prog_12_method_2_code
def yX10_clear : MethodName := ⟨RX10, "clear", "()V"⟩
abbrev cX10_add : ByteArray := prog_12_method_3_code
def yX10_add : MethodName := ⟨RX10, "add", "(J)V"⟩
def RX11 : String := "NinetyLamps"
def TX11 : u_T := fun k => match k with
  | 0 => ("NinetyLamps", "board", "LNinetyLamps$Board;", true)
  | 1 => ("NinetyLamps", "text", "LNinetyLamps$Text;", true)
  | 2 => ("NinetyLamps", "reader", "LNinetyLamps$Reader;", true)
  | 3 => ("NinetyLamps", "told", "LNinetyLamps$Told;", true)
  | 4 => ("NinetyLamps", "flow", "LNinetyLamps$Flow;", true)
  | 5 => ("NinetyLamps", "notes", "LNinetyLamps$Notes;", true)
  | 6 => ("NinetyLamps", "table", "LNinetyLamps$Table;", true)
  | 7 => ("NinetyLamps", "parting", "LNinetyLamps$Parting;", true)
  | 8 => ("NinetyLamps", "suspects", "LNinetyLamps$Suspects;", true)
  | 9 => ("NinetyLamps", "plan", "LNinetyLamps$Plan;", true)
  | _ => ("NinetyLamps", "kept", "[LNinetyLamps$Kept;", true)
def tyX11 : Nat → FieldType := fun k => match k with
  | 0 => .object "NinetyLamps$Board"
  | 1 => .object "NinetyLamps$Text"
  | 2 => .object "NinetyLamps$Reader"
  | 3 => .object "NinetyLamps$Told"
  | 4 => .object "NinetyLamps$Flow"
  | 5 => .object "NinetyLamps$Notes"
  | 6 => .object "NinetyLamps$Table"
  | 7 => .object "NinetyLamps$Parting"
  | 8 => .object "NinetyLamps$Suspects"
  | 9 => .object "NinetyLamps$Plan"
  | _ => .array (.object "NinetyLamps$Kept")
abbrev wsX110 : List Cond := u_ws RX11 TX11 11
theorem nmX11 : ∀ a, a < 11 → ∀ b, b < 11 → a ≠ b → (TX11 a).2.1 ≠ (TX11 b).2.1 := by decide +kernel
theorem tyX11_ok : ∀ k, k < 11 → parseFieldDescriptor (TX11 k).2.2.1 = some (tyX11 k) := by decide +kernel
abbrev cX11_init : ByteArray := prog_1_method_1_code
def yX11_init : MethodName := ⟨RX11, "<init>", "()V"⟩
abbrev cX11_sign : ByteArray := prog_1_method_2_code
def yX11_sign : MethodName := ⟨RX11, "sign", "(I)I"⟩
abbrev cX11_end : ByteArray := prog_1_method_3_code
def yX11_end : MethodName := ⟨RX11, "end", "(I)Z"⟩
abbrev cX11_board : ByteArray := prog_1_method_4_code
def yX11_board : MethodName := ⟨RX11, "board", "()I"⟩
abbrev cX11_set : ByteArray := prog_1_method_5_code
def yX11_set : MethodName := ⟨RX11, "set", "(II)I"⟩
abbrev cX11_lamp : ByteArray := prog_1_method_6_code
def yX11_lamp : MethodName := ⟨RX11, "lamp", "(II)I"⟩
abbrev cX11_ohms : ByteArray := prog_1_method_7_code
def yX11_ohms : MethodName := ⟨RX11, "ohms", "(I)I"⟩
abbrev cX11_sheet : ByteArray := prog_1_method_8_code
def yX11_sheet : MethodName := ⟨RX11, "sheet", "(IIII)I"⟩
abbrev cX11_swap : ByteArray := prog_1_method_9_code
def yX11_swap : MethodName := ⟨RX11, "swap", "(II)Z"⟩
abbrev cX11_put : ByteArray := prog_1_method_10_code
def yX11_put : MethodName := ⟨RX11, "put", "(II)I"⟩
abbrev cX11_glows : ByteArray := prog_1_method_11_code
def yX11_glows : MethodName := ⟨RX11, "glows", "()J"⟩
abbrev cX11_ghosts : ByteArray := prog_1_method_12_code
def yX11_ghosts : MethodName := ⟨RX11, "ghosts", "()J"⟩
abbrev cX11_light : ByteArray := prog_1_method_13_code
def yX11_light : MethodName := ⟨RX11, "light", "(I)J"⟩
abbrev cX11_why : ByteArray := prog_1_method_14_code
def yX11_why : MethodName := ⟨RX11, "why", "(I)J"⟩
abbrev cX11_draws : ByteArray := prog_1_method_15_code
def yX11_draws : MethodName := ⟨RX11, "draws", "(I)J"⟩
abbrev cX11_brightest : ByteArray := prog_1_method_16_code
def yX11_brightest : MethodName := ⟨RX11, "brightest", "()I"⟩
abbrev cX11_shows : ByteArray := prog_1_method_17_code
def yX11_shows : MethodName := ⟨RX11, "shows", "(J)I"⟩
abbrev cX11_bars : ByteArray := prog_1_method_18_code
def yX11_bars : MethodName := ⟨RX11, "bars", "(J)I"⟩
abbrev cX11_most : ByteArray := prog_1_method_19_code
def yX11_most : MethodName := ⟨RX11, "most", "()I"⟩
abbrev cX11_sets : ByteArray := prog_1_method_20_code
def yX11_sets : MethodName := ⟨RX11, "sets", "()I"⟩
abbrev cX11_fits : ByteArray := prog_1_method_21_code
def yX11_fits : MethodName := ⟨RX11, "fits", "(II)I"⟩
abbrev cX11_alone : ByteArray := prog_1_method_22_code
def yX11_alone : MethodName := ⟨RX11, "alone", "()J"⟩
abbrev cX11_twins : ByteArray := prog_1_method_23_code
def yX11_twins : MethodName := ⟨RX11, "twins", "()I"⟩
abbrev cX11_range : ByteArray := prog_1_method_24_code
def yX11_range : MethodName := ⟨RX11, "range", "(II)I"⟩
abbrev cX11_picture : ByteArray := prog_1_method_25_code
def yX11_picture : MethodName := ⟨RX11, "picture", "(IJ)I"⟩
abbrev cX11_parted : ByteArray := prog_1_method_26_code
def yX11_parted : MethodName := ⟨RX11, "parted", "(I)I"⟩
abbrev cX11_proof : ByteArray := prog_1_method_27_code
def yX11_proof : MethodName := ⟨RX11, "proof", "(I)I"⟩
abbrev cX11_never : ByteArray := prog_1_method_28_code
def yX11_never : MethodName := ⟨RX11, "never", "(I)J"⟩
abbrev cX11_changes : ByteArray := prog_1_method_29_code
def yX11_changes : MethodName := ⟨RX11, "changes", "(I)I"⟩
abbrev cX11_even : ByteArray := prog_1_method_30_code
def yX11_even : MethodName := ⟨RX11, "even", "(II)J"⟩
abbrev cX11_better : ByteArray := prog_1_method_31_code
def yX11_better : MethodName := ⟨RX11, "better", "(I)I"⟩
abbrev cX11_faults : ByteArray := prog_1_method_32_code
def yX11_faults : MethodName := ⟨RX11, "faults", "()I"⟩
abbrev cX11_fault : ByteArray := prog_1_method_33_code
def yX11_fault : MethodName := ⟨RX11, "fault", "(II)I"⟩
abbrev cX11_would : ByteArray := prog_1_method_34_code
def yX11_would : MethodName := ⟨RX11, "would", "(III)J"⟩
abbrev cX11_tells : ByteArray := prog_1_method_35_code
def yX11_tells : MethodName := ⟨RX11, "tells", "(I)I"⟩
abbrev cX11_hidden : ByteArray := prog_1_method_36_code
def yX11_hidden : MethodName := ⟨RX11, "hidden", "()I"⟩
abbrev cX11_alike : ByteArray := prog_1_method_37_code
def yX11_alike : MethodName := ⟨RX11, "alike", "(II)I"⟩
abbrev cX11_seen : ByteArray := prog_1_method_38_code
def yX11_seen : MethodName := ⟨RX11, "seen", "(IIJ)I"⟩
abbrev cX11_forget : ByteArray := prog_1_method_39_code
def yX11_forget : MethodName := ⟨RX11, "forget", "()I"⟩
abbrev cX11_which : ByteArray := prog_1_method_40_code
def yX11_which : MethodName := ⟨RX11, "which", "()I"⟩
abbrev cX11_judge : ByteArray := prog_1_method_41_code
def yX11_judge : MethodName := ⟨RX11, "judge", "(I)I"⟩
abbrev cX11_next : ByteArray := prog_1_method_42_code
def yX11_next : MethodName := ⟨RX11, "next", "()I"⟩
abbrev cX11_test : ByteArray := prog_1_method_43_code
def yX11_test : MethodName := ⟨RX11, "test", "(II)I"⟩
abbrev cX11_tree : ByteArray := prog_1_method_44_code
def yX11_tree : MethodName := ⟨RX11, "tree", "()I"⟩
abbrev cX11_path : ByteArray := prog_1_method_45_code
def yX11_path : MethodName := ⟨RX11, "path", "(I)I"⟩
abbrev cX11_keep : ByteArray := prog_1_method_46_code
def yX11_keep : MethodName := ⟨RX11, "keep", "(I)Z"⟩
abbrev cX11_again : ByteArray := prog_1_method_47_code
def yX11_again : MethodName := ⟨RX11, "again", "(I)Z"⟩
abbrev cX11_count : ByteArray := prog_1_method_48_code
def yX11_count : MethodName := ⟨RX11, "count", "(I)I"⟩
abbrev cX11_row : ByteArray := prog_1_method_49_code
def yX11_row : MethodName := ⟨RX11, "row", "(I)J"⟩
abbrev cX11_takeLine : ByteArray := prog_1_method_50_code
def yX11_takeLine : MethodName := ⟨RX11, "takeLine", "(I)V"⟩
abbrev cX11_entryAs : ByteArray := prog_1_method_51_code
def yX11_entryAs : MethodName := ⟨RX11, "entryAs", "(II)I"⟩
abbrev cX11_isSearchable : ByteArray := prog_1_method_52_code
def yX11_isSearchable : MethodName := ⟨RX11, "isSearchable", "()Z"⟩
abbrev cX11_openTable : ByteArray := prog_1_method_53_code
def yX11_openTable : MethodName := ⟨RX11, "openTable", "()Z"⟩
abbrev cX11_isPicture : ByteArray := prog_1_method_54_code
def yX11_isPicture : MethodName := ⟨RX11, "isPicture", "(I)Z"⟩
abbrev cX11_openParting : ByteArray := prog_1_method_55_code
def yX11_openParting : MethodName := ⟨RX11, "openParting", "(I)I"⟩
abbrev cX11_partInto : ByteArray := prog_1_method_56_code
def yX11_partInto : MethodName := ⟨RX11, "partInto", "(I)I"⟩
abbrev cX11_partTraded : ByteArray := prog_1_method_57_code
def yX11_partTraded : MethodName := ⟨RX11, "partTraded", "(JII)I"⟩
abbrev cX11_tellTurns : ByteArray := prog_1_method_58_code
def yX11_tellTurns : MethodName := ⟨RX11, "tellTurns", "([II)V"⟩
abbrev cX11_settingsOf : ByteArray := prog_1_method_59_code
def yX11_settingsOf : MethodName := ⟨RX11, "settingsOf", "(I)I"⟩
abbrev cX11_wiresThatAre : ByteArray := prog_1_method_60_code
def yX11_wiresThatAre : MethodName := ⟨RX11, "wiresThatAre", "(III)I"⟩
def RX12 : String := "NinetyLampsModel"
def TX12 : u_T := fun k => match k with
  | 0 => ("NinetyLampsModel", "wide", "I", false)
  | 1 => ("NinetyLampsModel", "lamps", "I", false)
  | 2 => ("NinetyLampsModel", "lampFrom", "[I", true)
  | 3 => ("NinetyLampsModel", "lampTo", "[I", true)
  | 4 => ("NinetyLampsModel", "volts", "[I", true)
  | 5 => ("NinetyLampsModel", "ohm", "[I", true)
  | 6 => ("NinetyLampsModel", "sets", "[I", true)
  | 7 => ("NinetyLampsModel", "shownHigh", "I", false)
  | 8 => ("NinetyLampsModel", "shownLow", "I", false)
  | 9 => ("NinetyLampsModel", "boards", "I", false)
  | 10 => ("NinetyLampsModel", "text", "[B", true)
  | 11 => ("NinetyLampsModel", "typed", "I", false)
  | 12 => ("NinetyLampsModel", "row", "[J", true)
  | 13 => ("NinetyLampsModel", "rowMany", "I", false)
  | 14 => ("NinetyLampsModel", "thrown", "I", false)
  | 15 => ("NinetyLampsModel", "size", "I", false)
  | 16 => ("NinetyLampsModel", "at", "I", false)
  | 17 => ("NinetyLampsModel", "wrong", "I", false)
  | 18 => ("NinetyLampsModel", "line", "[I", true)
  | 19 => ("NinetyLampsModel", "faultA", "I", false)
  | 20 => ("NinetyLampsModel", "faultB", "I", false)
  | 21 => ("NinetyLampsModel", "listFrom", "[I", true)
  | 22 => ("NinetyLampsModel", "list", "[I", true)
  | 23 => ("NinetyLampsModel", "goesTo", "[I", true)
  | 24 => ("NinetyLampsModel", "laidKind", "I", false)
  | 25 => ("NinetyLampsModel", "laidA", "I", false)
  | 26 => ("NinetyLampsModel", "laidB", "I", false)
  | 27 => ("NinetyLampsModel", "high", "I", false)
  | 28 => ("NinetyLampsModel", "low", "I", false)
  | 29 => ("NinetyLampsModel", "ohmsTouch", "I", false)
  | 30 => ("NinetyLampsModel", "light", "[J", true)
  | 31 => ("NinetyLampsModel", "through", "[I", true)
  | 32 => ("NinetyLampsModel", "mostOne", "[J", true)
  | 33 => ("NinetyLampsModel", "drawn", "[J", true)
  | 34 => ("NinetyLampsModel", "path", "[I", true)
  | 35 => ("NinetyLampsModel", "asked", "I", false)
  | 36 => ("NinetyLampsModel", "bestCarry", "J", false)
  | 37 => ("NinetyLampsModel", "bestMany", "I", false)
  | 38 => ("NinetyLampsModel", "bestPath", "[I", true)
  | 39 => ("NinetyLampsModel", "isCounted", "Z", false)
  | 40 => ("NinetyLampsModel", "glow", "[J", true)
  | 41 => ("NinetyLampsModel", "isGhostly", "[Z", true)
  | 42 => ("NinetyLampsModel", "pictures", "[J", true)
  | 43 => ("NinetyLampsModel", "member", "[I", true)
  | 44 => ("NinetyLampsModel", "members", "I", false)
  | 45 => ("NinetyLampsModel", "shownBy", "[I", true)
  | 46 => ("NinetyLampsModel", "fewest", "[I", true)
  | 47 => ("NinetyLampsModel", "firstBy", "[I", true)
  | 48 => ("NinetyLampsModel", "masks", "[I", true)
  | 49 => ("NinetyLampsModel", "masksMany", "[I", true)
  | 50 => ("NinetyLampsModel", "turn", "[I", true)
  | 51 => ("NinetyLampsModel", "turns", "I", false)
  | 52 => ("NinetyLampsModel", "order", "[I", true)
  | 53 => ("NinetyLampsModel", "bestOrder", "[I", true)
  | 54 => ("NinetyLampsModel", "leastChanges", "I", false)
  | 55 => ("NinetyLampsModel", "lightIn", "[J", true)
  | 56 => ("NinetyLampsModel", "slots", "[I", true)
  | 57 => ("NinetyLampsModel", "glowToo", "[J", true)
  | 58 => ("NinetyLampsModel", "seenMany", "I", false)
  | 59 => ("NinetyLampsModel", "seenHigh", "[I", true)
  | 60 => ("NinetyLampsModel", "seenLow", "[I", true)
  | 61 => ("NinetyLampsModel", "seenLamps", "[J", true)
  | 62 => ("NinetyLampsModel", "agreed", "[I", true)
  | 63 => ("NinetyLampsModel", "agreeMany", "I", false)
  | 64 => ("NinetyLampsModel", "glowAll", "[J", true)
  | 65 => ("NinetyLampsModel", "testMany", "I", false)
  | 66 => ("NinetyLampsModel", "testHigh", "[I", true)
  | 67 => ("NinetyLampsModel", "testLow", "[I", true)
  | 68 => ("NinetyLampsModel", "answer", "[J", true)
  | 69 => ("NinetyLampsModel", "depth", "[I", true)
  | 70 => ("NinetyLampsModel", "leader", "[I", true)
  | 71 => ("NinetyLampsModel", "kept", "[I", true)
  | 72 => ("NinetyLampsModel", "keptSets", "[J", true)
  | 73 => ("NinetyLampsModel", "isKept", "[Z", true)
  | _ => ("NinetyLampsModel", "keptBoards", "[I", true)
def tyX12 : Nat → FieldType := fun k => match k with
  | 0 => .int
  | 1 => .int
  | 2 => .array .int
  | 3 => .array .int
  | 4 => .array .int
  | 5 => .array .int
  | 6 => .array .int
  | 7 => .int
  | 8 => .int
  | 9 => .int
  | 10 => .array .byte
  | 11 => .int
  | 12 => .array .long
  | 13 => .int
  | 14 => .int
  | 15 => .int
  | 16 => .int
  | 17 => .int
  | 18 => .array .int
  | 19 => .int
  | 20 => .int
  | 21 => .array .int
  | 22 => .array .int
  | 23 => .array .int
  | 24 => .int
  | 25 => .int
  | 26 => .int
  | 27 => .int
  | 28 => .int
  | 29 => .int
  | 30 => .array .long
  | 31 => .array .int
  | 32 => .array .long
  | 33 => .array .long
  | 34 => .array .int
  | 35 => .int
  | 36 => .long
  | 37 => .int
  | 38 => .array .int
  | 39 => .boolean
  | 40 => .array .long
  | 41 => .array .boolean
  | 42 => .array .long
  | 43 => .array .int
  | 44 => .int
  | 45 => .array .int
  | 46 => .array .int
  | 47 => .array .int
  | 48 => .array .int
  | 49 => .array .int
  | 50 => .array .int
  | 51 => .int
  | 52 => .array .int
  | 53 => .array .int
  | 54 => .int
  | 55 => .array .long
  | 56 => .array .int
  | 57 => .array .long
  | 58 => .int
  | 59 => .array .int
  | 60 => .array .int
  | 61 => .array .long
  | 62 => .array .int
  | 63 => .int
  | 64 => .array .long
  | 65 => .int
  | 66 => .array .int
  | 67 => .array .int
  | 68 => .array .long
  | 69 => .array .int
  | 70 => .array .int
  | 71 => .array .int
  | 72 => .array .long
  | 73 => .array .boolean
  | _ => .array .int
abbrev wsX120 : List Cond := u_ws RX12 TX12 75
theorem nmX12 : ∀ a, a < 75 → ∀ b, b < 75 → a ≠ b → (TX12 a).2.1 ≠ (TX12 b).2.1 := by decide +kernel
theorem tyX12_ok : ∀ k, k < 75 → parseFieldDescriptor (TX12 k).2.2.1 = some (tyX12 k) := by decide +kernel
abbrev cX12_init : ByteArray := prog_14_method_1_code
def yX12_init : MethodName := ⟨RX12, "<init>", "()V"⟩
abbrev cX12_thrown : ByteArray := prog_14_method_2_code
def yX12_thrown : MethodName := ⟨RX12, "thrown", "()I"⟩
abbrev cX12_in : ByteArray := prog_14_method_3_code
def yX12_in : MethodName := ⟨RX12, "in", "(JJJ)Z"⟩
abbrev cX12_has : ByteArray := prog_14_method_4_code
def yX12_has : MethodName := ⟨RX12, "has", "(JI)Z"⟩
abbrev cX12_lost : ByteArray := prog_14_method_5_code
def yX12_lost : MethodName := ⟨RX12, "lost", "()I"⟩
abbrev cX12_tell : ByteArray := prog_14_method_6_code
def yX12_tell : MethodName := ⟨RX12, "tell", "(J)V"⟩
abbrev cX12_isWire : ByteArray := prog_14_method_7_code
def yX12_isWire : MethodName := ⟨RX12, "isWire", "(I)Z"⟩
abbrev cX12_isLamp : ByteArray := prog_14_method_8_code
def yX12_isLamp : MethodName := ⟨RX12, "isLamp", "(I)Z"⟩
abbrev cX12_areLamps : ByteArray := prog_14_method_9_code
def yX12_areLamps : MethodName := ⟨RX12, "areLamps", "(J)Z"⟩
abbrev cX12_isSetting : ByteArray := prog_14_method_10_code
def yX12_isSetting : MethodName := ⟨RX12, "isSetting", "(II)Z"⟩
abbrev cX12_sign : ByteArray := prog_14_method_11_code
def yX12_sign : MethodName := ⟨RX12, "sign", "(I)I"⟩
abbrev cX12_end : ByteArray := prog_14_method_12_code
def yX12_end : MethodName := ⟨RX12, "end", "(I)Z"⟩
abbrev cX12_here : ByteArray := prog_14_method_13_code
def yX12_here : MethodName := ⟨RX12, "here", "()I"⟩
abbrev cX12_fault : ByteArray := prog_14_method_14_code
def yX12_fault : MethodName := ⟨RX12, "fault", "(I)V"⟩
abbrev cX12_passes : ByteArray := prog_14_method_15_code
def yX12_passes : MethodName := ⟨RX12, "passes", "(C)Z"⟩
abbrev cX12_need : ByteArray := prog_14_method_16_code
def yX12_need : MethodName := ⟨RX12, "need", "(C)V"⟩
abbrev cX12_number : ByteArray := prog_14_method_17_code
def yX12_number : MethodName := ⟨RX12, "number", "(III)I"⟩
abbrev cX12_board : ByteArray := prog_14_method_18_code
def yX12_board : MethodName := ⟨RX12, "board", "()I"⟩
abbrev cX12_take : ByteArray := prog_14_method_19_code
def yX12_take : MethodName := ⟨RX12, "take", "(I)V"⟩
abbrev cX12_set : ByteArray := prog_14_method_20_code
def yX12_set : MethodName := ⟨RX12, "set", "(II)I"⟩
abbrev cX12_lamp : ByteArray := prog_14_method_21_code
def yX12_lamp : MethodName := ⟨RX12, "lamp", "(II)I"⟩
abbrev cX12_ohms : ByteArray := prog_14_method_22_code
def yX12_ohms : MethodName := ⟨RX12, "ohms", "(I)I"⟩
abbrev cX12_sheet : ByteArray := prog_14_method_23_code
def yX12_sheet : MethodName := ⟨RX12, "sheet", "(IIII)I"⟩
abbrev cX12_change : ByteArray := prog_14_method_24_code
def yX12_change : MethodName := ⟨RX12, "change", "(II)V"⟩
abbrev cX12_swap : ByteArray := prog_14_method_25_code
def yX12_swap : MethodName := ⟨RX12, "swap", "(II)Z"⟩
abbrev cX12_touchFirst : ByteArray := prog_14_method_26_code
def yX12_touchFirst : MethodName := ⟨RX12, "touchFirst", "()I"⟩
abbrev cX12_turnedFirst : ByteArray := prog_14_method_27_code
def yX12_turnedFirst : MethodName := ⟨RX12, "turnedFirst", "()I"⟩
abbrev cX12_faultMany : ByteArray := prog_14_method_28_code
def yX12_faultMany : MethodName := ⟨RX12, "faultMany", "()I"⟩
abbrev cX12_isFault : ByteArray := prog_14_method_29_code
def yX12_isFault : MethodName := ⟨RX12, "isFault", "(I)Z"⟩
abbrev cX12_kindOf : ByteArray := prog_14_method_30_code
def yX12_kindOf : MethodName := ⟨RX12, "kindOf", "(I)I"⟩
abbrev cX12_findFault : ByteArray := prog_14_method_31_code
def yX12_findFault : MethodName := ⟨RX12, "findFault", "(I)V"⟩
abbrev cX12_lay : ByteArray := prog_14_method_32_code
def yX12_lay : MethodName := ⟨RX12, "lay", "(I)V"⟩
abbrev cX12_begin : ByteArray := prog_14_method_33_code
def yX12_begin : MethodName := ⟨RX12, "begin", "(II)Z"⟩
abbrev cX12_ohmsOf : ByteArray := prog_14_method_34_code
def yX12_ohmsOf : MethodName := ⟨RX12, "ohmsOf", "(I)I"⟩
abbrev cX12_shine : ByteArray := prog_14_method_35_code
def yX12_shine : MethodName := ⟨RX12, "shine", "(II)V"⟩
abbrev cX12_goOn : ByteArray := prog_14_method_36_code
def yX12_goOn : MethodName := ⟨RX12, "goOn", "(IIIII)V"⟩
abbrev cX12_arrive : ByteArray := prog_14_method_37_code
def yX12_arrive : MethodName := ⟨RX12, "arrive", "(IIII)V"⟩
abbrev cX12_isBetter : ByteArray := prog_14_method_38_code
def yX12_isBetter : MethodName := ⟨RX12, "isBetter", "(JI)Z"⟩
abbrev cX12_isBright : ByteArray := prog_14_method_39_code
def yX12_isBright : MethodName := ⟨RX12, "isBright", "(I)Z"⟩
abbrev cX12_glowing : ByteArray := prog_14_method_40_code
def yX12_glowing : MethodName := ⟨RX12, "glowing", "(II)J"⟩
abbrev cX12_askedFor : ByteArray := prog_14_method_41_code
def yX12_askedFor : MethodName := ⟨RX12, "askedFor", "(II)J"⟩
abbrev cX12_glowingWith : ByteArray := prog_14_method_42_code
def yX12_glowingWith : MethodName := ⟨RX12, "glowingWith", "(III)J"⟩
abbrev cX12_put : ByteArray := prog_14_method_43_code
def yX12_put : MethodName := ⟨RX12, "put", "(II)I"⟩
abbrev cX12_glows : ByteArray := prog_14_method_44_code
def yX12_glows : MethodName := ⟨RX12, "glows", "()J"⟩
abbrev cX12_ghosts : ByteArray := prog_14_method_45_code
def yX12_ghosts : MethodName := ⟨RX12, "ghosts", "()J"⟩
abbrev cX12_countAll : ByteArray := prog_14_method_46_code
def yX12_countAll : MethodName := ⟨RX12, "countAll", "(I)V"⟩
abbrev cX12_light : ByteArray := prog_14_method_47_code
def yX12_light : MethodName := ⟨RX12, "light", "(I)J"⟩
abbrev cX12_why : ByteArray := prog_14_method_48_code
def yX12_why : MethodName := ⟨RX12, "why", "(I)J"⟩
abbrev cX12_draws : ByteArray := prog_14_method_49_code
def yX12_draws : MethodName := ⟨RX12, "draws", "(I)J"⟩
abbrev cX12_brightest : ByteArray := prog_14_method_50_code
def yX12_brightest : MethodName := ⟨RX12, "brightest", "()I"⟩
abbrev cX12_settings : ByteArray := prog_14_method_51_code
def yX12_settings : MethodName := ⟨RX12, "settings", "()I"⟩
abbrev cX12_highOf : ByteArray := prog_14_method_52_code
def yX12_highOf : MethodName := ⟨RX12, "highOf", "(I)I"⟩
abbrev cX12_lowOf : ByteArray := prog_14_method_53_code
def yX12_lowOf : MethodName := ⟨RX12, "lowOf", "(I)I"⟩
abbrev cX12_wiresAt : ByteArray := prog_14_method_54_code
def yX12_wiresAt : MethodName := ⟨RX12, "wiresAt", "(II)I"⟩
abbrev cX12_canSearch : ByteArray := prog_14_method_55_code
def yX12_canSearch : MethodName := ⟨RX12, "canSearch", "()Z"⟩
abbrev cX12_findGlow : ByteArray := prog_14_method_56_code
def yX12_findGlow : MethodName := ⟨RX12, "findGlow", "(I[J)V"⟩
abbrev cX12_findAll : ByteArray := prog_14_method_57_code
def yX12_findAll : MethodName := ⟨RX12, "findAll", "()V"⟩
abbrev cX12_shows : ByteArray := prog_14_method_58_code
def yX12_shows : MethodName := ⟨RX12, "shows", "(J)I"⟩
abbrev cX12_bars : ByteArray := prog_14_method_59_code
def yX12_bars : MethodName := ⟨RX12, "bars", "(J)I"⟩
abbrev cX12_most : ByteArray := prog_14_method_60_code
def yX12_most : MethodName := ⟨RX12, "most", "()I"⟩
abbrev cX12_sets : ByteArray := prog_14_method_61_code
def yX12_sets : MethodName := ⟨RX12, "sets", "()I"⟩
abbrev cX12_fits : ByteArray := prog_14_method_62_code
def yX12_fits : MethodName := ⟨RX12, "fits", "(II)I"⟩
abbrev cX12_alone : ByteArray := prog_14_method_63_code
def yX12_alone : MethodName := ⟨RX12, "alone", "()J"⟩
abbrev cX12_twins : ByteArray := prog_14_method_64_code
def yX12_twins : MethodName := ⟨RX12, "twins", "()I"⟩
abbrev cX12_range : ByteArray := prog_14_method_65_code
def yX12_range : MethodName := ⟨RX12, "range", "(II)I"⟩
abbrev cX12_picture : ByteArray := prog_14_method_66_code
def yX12_picture : MethodName := ⟨RX12, "picture", "(IJ)I"⟩
abbrev cX12_isTurn : ByteArray := prog_14_method_67_code
def yX12_isTurn : MethodName := ⟨RX12, "isTurn", "(IJ)Z"⟩
abbrev cX12_refusal : ByteArray := prog_14_method_68_code
def yX12_refusal : MethodName := ⟨RX12, "refusal", "(I)I"⟩
abbrev cX12_findTurns : ByteArray := prog_14_method_69_code
def yX12_findTurns : MethodName := ⟨RX12, "findTurns", "(J)V"⟩
abbrev cX12_findParted : ByteArray := prog_14_method_70_code
def yX12_findParted : MethodName := ⟨RX12, "findParted", "(J)Z"⟩
abbrev cX12_tellTurns : ByteArray := prog_14_method_71_code
def yX12_tellTurns : MethodName := ⟨RX12, "tellTurns", "()V"⟩
abbrev cX12_parted : ByteArray := prog_14_method_72_code
def yX12_parted : MethodName := ⟨RX12, "parted", "(I)I"⟩
abbrev cX12_proof : ByteArray := prog_14_method_73_code
def yX12_proof : MethodName := ⟨RX12, "proof", "(I)I"⟩
abbrev cX12_never : ByteArray := prog_14_method_74_code
def yX12_never : MethodName := ⟨RX12, "never", "(I)J"⟩
abbrev cX12_changed : ByteArray := prog_14_method_75_code
def yX12_changed : MethodName := ⟨RX12, "changed", "(II)I"⟩
abbrev cX12_goOrders : ByteArray := prog_14_method_76_code
def yX12_goOrders : MethodName := ⟨RX12, "goOrders", "(IIII)V"⟩
abbrev cX12_changes : ByteArray := prog_14_method_77_code
def yX12_changes : MethodName := ⟨RX12, "changes", "(I)I"⟩
abbrev cX12_sumOf : ByteArray := prog_14_method_78_code
def yX12_sumOf : MethodName := ⟨RX12, "sumOf", "(I)J"⟩
abbrev cX12_dimmest : ByteArray := prog_14_method_79_code
def yX12_dimmest : MethodName := ⟨RX12, "dimmest", "()I"⟩
abbrev cX12_even : ByteArray := prog_14_method_80_code
def yX12_even : MethodName := ⟨RX12, "even", "(II)J"⟩
abbrev cX12_better : ByteArray := prog_14_method_81_code
def yX12_better : MethodName := ⟨RX12, "better", "(I)I"⟩
abbrev cX12_faults : ByteArray := prog_14_method_82_code
def yX12_faults : MethodName := ⟨RX12, "faults", "()I"⟩
abbrev cX12_fault_ : ByteArray := prog_14_method_83_code
def yX12_fault_ : MethodName := ⟨RX12, "fault", "(II)I"⟩
abbrev cX12_would : ByteArray := prog_14_method_84_code
def yX12_would : MethodName := ⟨RX12, "would", "(III)J"⟩
abbrev cX12_tells : ByteArray := prog_14_method_85_code
def yX12_tells : MethodName := ⟨RX12, "tells", "(I)I"⟩
abbrev cX12_firstUnlike : ByteArray := prog_14_method_86_code
def yX12_firstUnlike : MethodName := ⟨RX12, "firstUnlike", "()I"⟩
abbrev cX12_hidden : ByteArray := prog_14_method_87_code
def yX12_hidden : MethodName := ⟨RX12, "hidden", "()I"⟩
abbrev cX12_alike : ByteArray := prog_14_method_88_code
def yX12_alike : MethodName := ⟨RX12, "alike", "(II)I"⟩
abbrev cX12_seen : ByteArray := prog_14_method_89_code
def yX12_seen : MethodName := ⟨RX12, "seen", "(IIJ)I"⟩
abbrev cX12_forget : ByteArray := prog_14_method_90_code
def yX12_forget : MethodName := ⟨RX12, "forget", "()I"⟩
abbrev cX12_bar : ByteArray := prog_14_method_91_code
def yX12_bar : MethodName := ⟨RX12, "bar", "(I)I"⟩
abbrev cX12_findAgreed : ByteArray := prog_14_method_92_code
def yX12_findAgreed : MethodName := ⟨RX12, "findAgreed", "()V"⟩
abbrev cX12_which : ByteArray := prog_14_method_93_code
def yX12_which : MethodName := ⟨RX12, "which", "()I"⟩
abbrev cX12_judge : ByteArray := prog_14_method_94_code
def yX12_judge : MethodName := ⟨RX12, "judge", "(I)I"⟩
abbrev cX12_next : ByteArray := prog_14_method_95_code
def yX12_next : MethodName := ⟨RX12, "next", "()I"⟩
abbrev cX12_test : ByteArray := prog_14_method_96_code
def yX12_test : MethodName := ⟨RX12, "test", "(II)I"⟩
abbrev cX12_findAnswers : ByteArray := prog_14_method_97_code
def yX12_findAnswers : MethodName := ⟨RX12, "findAnswers", "()V"⟩
abbrev cX12_firstOf : ByteArray := prog_14_method_98_code
def yX12_firstOf : MethodName := ⟨RX12, "firstOf", "(II)I"⟩
abbrev cX12_areAlike : ByteArray := prog_14_method_99_code
def yX12_areAlike : MethodName := ⟨RX12, "areAlike", "(III)Z"⟩
abbrev cX12_parts : ByteArray := prog_14_method_100_code
def yX12_parts : MethodName := ⟨RX12, "parts", "(III)Z"⟩
abbrev cX12_depthOf : ByteArray := prog_14_method_101_code
def yX12_depthOf : MethodName := ⟨RX12, "depthOf", "(II)I"⟩
abbrev cX12_depthBy : ByteArray := prog_14_method_102_code
def yX12_depthBy : MethodName := ⟨RX12, "depthBy", "(III)I"⟩
abbrev cX12_firstTest : ByteArray := prog_14_method_103_code
def yX12_firstTest : MethodName := ⟨RX12, "firstTest", "(II)I"⟩
abbrev cX12_tree : ByteArray := prog_14_method_104_code
def yX12_tree : MethodName := ⟨RX12, "tree", "()I"⟩
abbrev cX12_path : ByteArray := prog_14_method_105_code
def yX12_path : MethodName := ⟨RX12, "path", "(I)I"⟩
abbrev cX12_keep : ByteArray := prog_14_method_106_code
def yX12_keep : MethodName := ⟨RX12, "keep", "(I)Z"⟩
abbrev cX12_again : ByteArray := prog_14_method_107_code
def yX12_again : MethodName := ⟨RX12, "again", "(I)Z"⟩
abbrev cX12_count : ByteArray := prog_14_method_108_code
def yX12_count : MethodName := ⟨RX12, "count", "(I)I"⟩
abbrev cX12_row : ByteArray := prog_14_method_109_code
def yX12_row : MethodName := ⟨RX12, "row", "(I)J"⟩
def RJx145de : String := "java/io/Serializable"
def TJx145de : u_T := fun k => match k with
  | _ => ("", "", "", false)
def tyJx145de : Nat → FieldType := fun k => match k with
  | _ => .int
abbrev wsJx145de0 : List Cond := u_ws RJx145de TJx145de 0
theorem nmJx145de : ∀ a, a < 0 → ∀ b, b < 0 → a ≠ b → (TJx145de a).2.1 ≠ (TJx145de b).2.1 := by decide +kernel
theorem tyJx145de_ok : ∀ k, k < 0 → parseFieldDescriptor (TJx145de k).2.2.1 = some (tyJx145de k) := by decide +kernel
def RJxb160c : String := "java/lang/Comparable"
def TJxb160c : u_T := fun k => match k with
  | _ => ("", "", "", false)
def tyJxb160c : Nat → FieldType := fun k => match k with
  | _ => .int
abbrev wsJxb160c0 : List Cond := u_ws RJxb160c TJxb160c 0
theorem nmJxb160c : ∀ a, a < 0 → ∀ b, b < 0 → a ≠ b → (TJxb160c a).2.1 ≠ (TJxb160c b).2.1 := by decide +kernel
theorem tyJxb160c_ok : ∀ k, k < 0 → parseFieldDescriptor (TJxb160c k).2.2.1 = some (tyJxb160c k) := by decide +kernel
def RJ6 : String := "java/lang/Integer"
def TJ6 : u_T := fun k => match k with
  | _ => ("", "", "", false)
def tyJ6 : Nat → FieldType := fun k => match k with
  | _ => .int
abbrev wsJ60 : List Cond := u_ws RJ6 TJ6 0
theorem nmJ6 : ∀ a, a < 0 → ∀ b, b < 0 → a ≠ b → (TJ6 a).2.1 ≠ (TJ6 b).2.1 := by decide +kernel
theorem tyJ6_ok : ∀ k, k < 0 → parseFieldDescriptor (TJ6 k).2.2.1 = some (tyJ6 k) := by decide +kernel
abbrev cJ6_numberOfTrailingZeros_0f7a4 : ByteArray := prog_17_method_48_code
def yJ6_numberOfTrailingZeros_0f7a4 : MethodName := ⟨RJ6, "numberOfTrailingZeros", "(I)I"⟩
abbrev cJ6_bitCount_0f7a4 : ByteArray := prog_17_method_49_code
def yJ6_bitCount_0f7a4 : MethodName := ⟨RJ6, "bitCount", "(I)I"⟩
def RJ13 : String := "java/lang/Long"
def TJ13 : u_T := fun k => match k with
  | _ => ("", "", "", false)
def tyJ13 : Nat → FieldType := fun k => match k with
  | _ => .int
abbrev wsJ130 : List Cond := u_ws RJ13 TJ13 0
theorem nmJ13 : ∀ a, a < 0 → ∀ b, b < 0 → a ≠ b → (TJ13 a).2.1 ≠ (TJ13 b).2.1 := by decide +kernel
theorem tyJ13_ok : ∀ k, k < 0 → parseFieldDescriptor (TJ13 k).2.2.1 = some (tyJ13 k) := by decide +kernel
abbrev cJ13_numberOfTrailingZeros_95d88 : ByteArray := prog_18_method_49_code
def yJ13_numberOfTrailingZeros_95d88 : MethodName := ⟨RJ13, "numberOfTrailingZeros", "(J)I"⟩
abbrev cJ13_bitCount_95d88 : ByteArray := prog_18_method_50_code
def yJ13_bitCount_95d88 : MethodName := ⟨RJ13, "bitCount", "(J)I"⟩
def RJ9 : String := "java/lang/Math"
def TJ9 : u_T := fun k => match k with
  | _ => ("", "", "", false)
def tyJ9 : Nat → FieldType := fun k => match k with
  | _ => .int
abbrev wsJ90 : List Cond := u_ws RJ9 TJ9 0
theorem nmJ9 : ∀ a, a < 0 → ∀ b, b < 0 → a ≠ b → (TJ9 a).2.1 ≠ (TJ9 b).2.1 := by decide +kernel
theorem tyJ9_ok : ∀ k, k < 0 → parseFieldDescriptor (TJ9 k).2.2.1 = some (tyJ9 k) := by decide +kernel
abbrev cJ9_max_7cf53 : ByteArray := prog_19_method_65_code
def yJ9_max_7cf53 : MethodName := ⟨RJ9, "max", "(II)I"⟩
abbrev cJ9_max_f86c9 : ByteArray := prog_19_method_66_code
def yJ9_max_f86c9 : MethodName := ⟨RJ9, "max", "(JJ)J"⟩
abbrev cJ9_min_7cf53 : ByteArray := prog_19_method_69_code
def yJ9_min_7cf53 : MethodName := ⟨RJ9, "min", "(II)I"⟩
def RJxd2413 : String := "java/lang/Number"
def TJxd2413 : u_T := fun k => match k with
  | _ => ("", "", "", false)
def tyJxd2413 : Nat → FieldType := fun k => match k with
  | _ => .int
abbrev wsJxd24130 : List Cond := u_ws RJxd2413 TJxd2413 0
theorem nmJxd2413 : ∀ a, a < 0 → ∀ b, b < 0 → a ≠ b → (TJxd2413 a).2.1 ≠ (TJxd2413 b).2.1 := by decide +kernel
theorem tyJxd2413_ok : ∀ k, k < 0 → parseFieldDescriptor (TJxd2413 k).2.2.1 = some (tyJxd2413 k) := by decide +kernel
def RJ10 : String := "java/lang/System"
def TJ10 : u_T := fun k => match k with
  | _ => ("", "", "", false)
def tyJ10 : Nat → FieldType := fun k => match k with
  | _ => .int
abbrev wsJ100 : List Cond := u_ws RJ10 TJ10 0
theorem nmJ10 : ∀ a, a < 0 → ∀ b, b < 0 → a ≠ b → (TJ10 a).2.1 ≠ (TJ10 b).2.1 := by decide +kernel
theorem tyJ10_ok : ∀ k, k < 0 → parseFieldDescriptor (TJ10 k).2.2.1 = some (tyJ10 k) := by decide +kernel
def RJxfd54e : String := "java/lang/constant/Constable"
def TJxfd54e : u_T := fun k => match k with
  | _ => ("", "", "", false)
def tyJxfd54e : Nat → FieldType := fun k => match k with
  | _ => .int
abbrev wsJxfd54e0 : List Cond := u_ws RJxfd54e TJxfd54e 0
theorem nmJxfd54e : ∀ a, a < 0 → ∀ b, b < 0 → a ≠ b → (TJxfd54e a).2.1 ≠ (TJxfd54e b).2.1 := by decide +kernel
theorem tyJxfd54e_ok : ∀ k, k < 0 → parseFieldDescriptor (TJxfd54e k).2.2.1 = some (tyJxfd54e k) := by decide +kernel
def RJx3cf43 : String := "java/lang/constant/ConstantDesc"
def TJx3cf43 : u_T := fun k => match k with
  | _ => ("", "", "", false)
def tyJx3cf43 : Nat → FieldType := fun k => match k with
  | _ => .int
abbrev wsJx3cf430 : List Cond := u_ws RJx3cf43 TJx3cf43 0
theorem nmJx3cf43 : ∀ a, a < 0 → ∀ b, b < 0 → a ≠ b → (TJx3cf43 a).2.1 ≠ (TJx3cf43 b).2.1 := by decide +kernel
theorem tyJx3cf43_ok : ∀ k, k < 0 → parseFieldDescriptor (TJx3cf43 k).2.2.1 = some (tyJx3cf43 k) := by decide +kernel
def RJ7 : String := "java/util/Arrays"
def TJ7 : u_T := fun k => match k with
  | _ => ("", "", "", false)
def tyJ7 : Nat → FieldType := fun k => match k with
  | _ => .int
abbrev wsJ70 : List Cond := u_ws RJ7 TJ7 0
theorem nmJ7 : ∀ a, a < 0 → ∀ b, b < 0 → a ≠ b → (TJ7 a).2.1 ≠ (TJ7 b).2.1 := by decide +kernel
theorem tyJ7_ok : ∀ k, k < 0 → parseFieldDescriptor (TJ7 k).2.2.1 = some (tyJ7 k) := by decide +kernel
abbrev cJ7_rangeCheck_23922 : ByteArray := prog_24_method_30_code
def yJ7_rangeCheck_23922 : MethodName := ⟨RJ7, "rangeCheck", "(III)V"⟩
abbrev cJ7_fill_d0a16 : ByteArray := prog_24_method_101_code
def yJ7_fill_d0a16 : MethodName := ⟨RJ7, "fill", "([JJ)V"⟩
abbrev cJ7_fill_53178 : ByteArray := prog_24_method_103_code
def yJ7_fill_53178 : MethodName := ⟨RJ7, "fill", "([II)V"⟩
abbrev cJ7_fill_fda19 : ByteArray := prog_24_method_104_code
def yJ7_fill_fda19 : MethodName := ⟨RJ7, "fill", "([IIII)V"⟩
def RL : String := "NinetyLampsLaw"
abbrev cL_lamp : ByteArray := method_3_code
def yL_lamp : MethodName := ⟨RL, "lamp", "(LNinetyLamps;II[J)I"⟩
abbrev cL_fault : ByteArray := method_4_code
def yL_fault : MethodName := ⟨RL, "fault", "(LNinetyLamps;II[J)I"⟩
abbrev cL_row : ByteArray := method_5_code
def yL_row : MethodName := ⟨RL, "row", "(LNinetyLamps;I[J)I"⟩
abbrev cL_law : ByteArray := code
def yL_law : MethodName := ⟨RL, "law", "([I)Z"⟩
end
section
/-! ===== BEGIN words of one list among another's, by their places ===== -/
theorem goodIn_r {big : List Cond} (ws : List Cond) (ps : List Nat) (hp : ws = ps.filterMap (fun i => big[i]?)) (h : ws.all goodWord = true) : GoodIn big ws := by
  intro w hw
  have h1 := List.all_eq_true.mp h w hw
  rw [hp] at hw
  obtain ⟨i, -, hi⟩ := List.mem_filterMap.mp hw
  have hm : w ∈ big := by first | exact List.mem_of_getElem? hi | exact List.getElem?_mem hi
  exact ⟨hm, good_of_word h1⟩
theorem goodIn_app {big a b : List Cond} (ha : GoodIn big a) (hb : GoodIn big b) : GoodIn big (a ++ b) := fun w h => (List.mem_append.mp h).elim (ha w) (hb w)
theorem goodIn_ca {big a b : List Cond} {c : Cond} (ha : GoodIn big (c :: a)) (hb : GoodIn big b) : GoodIn big (c :: (a ++ b)) := fun w h => (List.mem_cons.mp h).elim (fun e => ha w (List.mem_cons.mpr (Or.inl e))) (fun h => (List.mem_append.mp h).elim (fun h => ha w (List.mem_cons.mpr (Or.inr h))) (hb w))
theorem goodIn_sub {big ws : List Cond} (hm : ∀ w ∈ ws, w ∈ big) (h : ws.all goodWord = true) : GoodIn big ws := fun w hw => ⟨hm w hw, good_of_word (List.all_eq_true.mp h w hw)⟩
/-! ===== END ===== -/

/-! ===== BEGIN exceptions that leave a method, and their catching by the caller (launches without stack traces) ===== -/
section VXA
/-! The laws vx_back, vx_callV, vx_callS, vx_callSW, vx_throw0, vx_throwS follow proofs of the library, with one case more: JvmDerived/Free/Laws.lean (Back.of_free), Shelf42/LK1.lean (callV, callS), Shelf/KitTraced.lean (throwNew0V, throwNewS). -/
/-- where a method has thrown q: the class by its name, the cell, what was written, the world -/
def vx_T (XC : String → State → State → Prop) (st : State) (q : Addr) (t : State) (mc ms : Nat) (free : Addr → Prop) : Prop :=
  ∃ (E : String) (ce : Cell) (L : List Loc), XC E st t ∧ t.heap[q]? = some ce ∧ ce.vm = .none ∧ st.vm.findClass E = some ce.cls ∧ st.WarmedH t.vm ∧ st.sameButNew ({ t with vm := st.vm } : State) L mc ms ∧ ∀ z ∈ L, free z.base
def vx_Q (Qc : Array Value → State → Outcome → State → Prop) (XC : String → State → State → Prop) (mc ms : Nat) (free : Addr → Prop) : Array Value → State → Outcome → State → Prop := fun a st o t =>
  (Qc a st o t ∧ ∃ L, FrameEnd st o t L mc ms ∧ ∀ q ∈ L, free q.base) ∨ ∃ q, o = .threw q ∧ vx_T XC st q t mc ms free
/-- a callee that returns or throws -/
def vx_Met (l : Launch) (y : MethodName) (ws : List Cond) (rm : Room) (Pc : Array Value → State → Prop) (Qc : Array Value → State → Outcome → State → Prop) (XC : String → State → State → Prop) (mc ms : Nat) (free : Addr → Prop) : Prop :=
  MetFree l y (headSpec ws rm) Pc (fun _ _ _ _ _ => True) (vx_Q Qc XC mc ms free)
def vx_Post (XC : String → State → State → Prop) (mc ms : Nat) (free : Addr → Prop) : Pt → Array Value → Addr → Pt → Prop := fun A a q B =>
  ∃ (g : JFrame) (mk : MethodId) (t : State) (L : List Loc) (E : String) (ce : Cell), B.U.heap = t.heap ∧ B.U.vm = t.vm ∧ XC E (A.U.calling g mk a) t ∧ t.heap[q]? = some ce ∧ ce.vm = .none ∧ A.U.vm.findClass E = some ce.cls ∧ B.locs = A.locs ++ L ∧ (∀ z ∈ L, free z.base) ∧ B.cells = A.cells + mc ∧ B.slots = A.slots + ms
def vx_Back (l : Launch) (R : Room) (p : Program) (e : Env) (below : List Frame) (s : State) (sargs : Array Value) (y : MethodName) (len W9 : Nat)
    (Pre : Pt → Array Value → Prop) (Post : Pt → Array Value → Option Value → Pt → Prop) (PostX : Pt → Array Value → Addr → Pt → Prop) : Prop :=
  ∀ (m : MethodId) (meth : Method) (c : Code) (A : Pt) (g : JFrame) (ig : Instr) (mk : MethodId) (a : Array Value),
    Stand p l e R s m sargs below meth c A.U A.locs A.cells A.slots → g.method = m → g.locals.size = c.maxLocals → decode c.code g.pc = .ok (ig, len) →
    2 * g.monitorRoom + (g.stack.map fun v => v.category).sum ≤ W9 → A.U.methodNamed? y = some mk → Pre A a →
    (∃ (v : Option Value) (B : Pt), Stand p l e R s m sargs below meth c B.U B.locs B.cells B.slots ∧ Post A a v B ∧
      Steps p.tables e below (doInvoke e (A.U.setTop g) [] mk a).1 (B.U.setTop { g with pc := g.pc + len, stack := v.toList ++ g.stack })) ∨
    (∃ (q : Addr) (B : Pt), Stand p l e R s m sargs below meth c B.U B.locs B.cells B.slots ∧ PostX A a q B ∧
      Steps p.tables e below (doInvoke e (A.U.setTop g) [] mk a).1 ((B.U.setTop g).pushFrame (.throwing q)))
section Payer
variable {l : Launch} {R : Room} {p : Program} {e : Env} {below : List Frame} {s : State} {sargs : Array Value} {y : MethodName} {len W9 : Nat}
theorem vx_back {ws : List Cond} {rm : Room} {Pc : Array Value → State → Prop} {Qc : Array Value → State → Outcome → State → Prop} {XC : String → State → State → Prop} {mc ms : Nat} {free : Addr → Prop} {bytes : ByteArray} {maxL : Nat} {ret : Option FieldType}
    (hM : vx_Met l y ws rm Pc Qc XC mc ms free) (hblind : FrameBlind Pc) (hrc : rm.cells = mc) (hrs : rm.slots = ms)
    (hframes : rm.frames + 1 ≤ R.frames) (hlocals : W9 + (maxL + 11) + rm.locals ≤ R.locals)
    (hws : ∀ w ∈ ws, ∀ a' U, s.WarmedH U.vm → w.before a' U = true) (hcode : Cond.code y bytes maxL ret ∈ ws) (hinit : ∀ a' U, s.WarmedH U.vm → (Cond.initialized y.cls).before a' U = true) :
    vx_Back l R p e below s sargs y len W9 (PreOf R mc ms Pc) (PostOf Qc mc ms free) (vx_Post XC mc ms free) := by
  intro m meth c A g ig mk a X hg hsize hdg hW hn hp
  have h1 : (headSpec ws rm).pre.before a A.U = true := atoms_intro fun w hw => hws w hw _ _ X.warmed
  have h2 : (Cond.code y bytes maxL ret).before a A.U = true := hws _ hcode _ _ X.warmed
  have h3 : (Cond.initialized y.cls).before a A.U = true := hinit _ _ X.warmed
  have h4 : A.cells + (headSpec ws rm).room.cells ≤ R.cells := by rw [show (headSpec ws rm).room.cells = mc from hrc]; exact hp.1
  have h5 : A.slots + (headSpec ws rm).room.slots ≤ R.slots := by rw [show (headSpec ws rm).room.slots = ms from hrs]; exact hp.2.1
  have hPc : Pc a (A.U.calling g mk a) := hblind _ _ _ _ hp.2.2
  obtain ⟨U, Ls, c0, s0⟩ := A
  dsimp only [Pt.U, Pt.locs, Pt.cells, Pt.slots] at h1 h2 h3 h4 h5 X hn hPc ⊢
  obtain ⟨methY, cY, hmY, hcY, -, hlY, -, -, -, -⟩ := Cond.code_spec hn h2
  obtain ⟨kY, hkY, -⟩ := className_of_methodNamed hn
  have hinitY : kY.init = .initialized := Cond.initialized_spec (findClass_of_methodNamed hn) hkY h3
  have h : At U g.method c below := by rw [hg]; exact X.here
  have hlocals9 : W9 + (maxL + 11) + (headSpec ws rm).room.locals ≤ R.locals := hlocals
  have happ : (headSpec ws rm).appliesLoose y e.platform (U.calling g mk a) = true :=
    Spec.appliesLoose_calling (g := g) h hdg hn hkY hinitY
      (X.room_calling (g := g) (R' := (headSpec ws rm).room) hsize hmY hcY hframes (by rw [hlY]; omega) h4 h5) h1
  obtain ⟨mid, hmid⟩ := h.above
  have hfr : (U.setTop g).frames = (.java g :: mid) ++ below := by rw [State.frames_setTop' g h.top, hmid]; rfl
  obtain ⟨o, s₂, hsteps, -, hend, hq⟩ := Steps.callFree hM p X.admits X.cas X.clock (acts := []) hfr happ hPc trivial
  have hq' : vx_Q Qc XC mc ms free a (U.calling g mk a) o s₂ := hq
  rw [State.frames_setTop' g h.top] at hend
  obtain ⟨g₀, hg0⟩ := Option.isSome_iff_exists.mp h.top
  obtain ⟨r, hr⟩ := State.topJava?_eq_some.mp hg0
  have hr' : (({ U with heap := s₂.heap, slotsUsed := s₂.slotsUsed } : State).setVm s₂.vm).frames = .java g₀ :: r := hr
  rcases hq' with ⟨hqc, L, hfe, hL⟩ | ⟨q, rfl, E, ce, L, hx, hce, hcv, hcl, hW₂, hsm, hL⟩
  · obtain ⟨⟨v, rfl⟩, hW₂, e2, q2, q3, q4, q5, q6⟩ := id hfe
    have e3 : s₂ = ({ (U.calling g mk a).setFrames s₂.frames with heap := s₂.heap, slotsUsed := s₂.slotsUsed } : State).setVm s₂.vm := by
      have : s₂ = ({ s₂ with vm := (U.calling g mk a).vm } : State).setVm s₂.vm := rfl
      rw [e2] at this
      exact this
    obtain ⟨c₂, i₂, len₂, hc₂, hd₂, hf₂⟩ := hend
    have hW' : U.WarmedH s₂.vm := hW₂
    have hcc : c₂ = c := by
      have h1 : s₂.code? g.method = U.code? g.method := by
        rw [State.code?_eq, State.code?_eq, hW'.alike.method?]
      exact Option.some.inj (hc₂.symm.trans (h1.trans h.code))
    subst hcc
    have hlen : len₂ = len := by rw [hdg] at hd₂; cases hd₂; rfl
    subst hlen
    have hs₂ : s₂ = (({ U with heap := s₂.heap, slotsUsed := s₂.slotsUsed } : State).setVm s₂.vm).setTop { g with pc := g.pc + len₂, stack := v.toList ++ g.stack } := by
      refine e3.trans ?_
      rw [hf₂, State.calling_eq h.top, State.setFrames_setFrames, State.setTop_of_frames _ hr', hr]
      rfl
    have hsame : U.sameButNew ({ U with heap := s₂.heap, slotsUsed := s₂.slotsUsed } : State) L mc ms := by
      refine ⟨?_, q2, q3, q4, q5, q6⟩
      obtain ⟨t, ht, -⟩ := State.frames_cons hr
      show ({ U with heap := s₂.heap, slotsUsed := s₂.slotsUsed } : State) = { U.setFrames U.frames with heap := s₂.heap, slotsUsed := s₂.slotsUsed }
      rw [State.setFrames_self ht]
    subst hg
    refine Or.inl ⟨v, ⟨(({ U with heap := s₂.heap, slotsUsed := s₂.slotsUsed } : State).setVm s₂.vm), Ls ++ L, c0 + mc, s0 + ms⟩,
      ⟨X.admits, X.cas, X.clock, X.frames, X.room, X.hears, X.method, X.code, (X.here.setHeapUsed s₂.heap s₂.slotsUsed).setVm hW'.alike, X.tail, State.WarmedH.trans X.warmed hW', X.limits, X.bytes, X.same.trans (hsame.setVm s.vm)⟩,
      ⟨g, mk, s₂, L, rfl, rfl, hqc, rfl, hL, rfl, rfl⟩, ?_⟩
    show Steps p.tables e below _ ((({ U with heap := s₂.heap, slotsUsed := s₂.slotsUsed } : State).setVm s₂.vm).setTop { g with pc := g.pc + len₂, stack := v.toList ++ g.stack })
    rw [← hs₂]
    exact hsteps
  · obtain ⟨e2, q2, q3, q4, q5, q6⟩ := id hsm
    have e3 : s₂ = ({ (U.calling g mk a).setFrames s₂.frames with heap := s₂.heap, slotsUsed := s₂.slotsUsed } : State).setVm s₂.vm := by
      have : s₂ = ({ s₂ with vm := (U.calling g mk a).vm } : State).setVm s₂.vm := rfl
      rw [e2] at this
      exact this
    have hf₂ : s₂.frames = .throwing q :: .java g :: U.frames.tail := hend
    have hW' : U.WarmedH s₂.vm := hW₂
    have hs₂ : s₂ = ((({ U with heap := s₂.heap, slotsUsed := s₂.slotsUsed } : State).setVm s₂.vm).setTop g).pushFrame (.throwing q) := by
      refine e3.trans ?_
      rw [hf₂, State.calling_eq h.top, State.setFrames_setFrames, State.pushFrame, State.frames_setTop _ hr', State.setTop_of_frames _ hr', State.setFrames_setFrames, hr]
      rfl
    have hsame : U.sameButNew ({ U with heap := s₂.heap, slotsUsed := s₂.slotsUsed } : State) L mc ms := by
      refine ⟨?_, q2, q3, q4, q5, q6⟩
      obtain ⟨t, ht, -⟩ := State.frames_cons hr
      show ({ U with heap := s₂.heap, slotsUsed := s₂.slotsUsed } : State) = { U.setFrames U.frames with heap := s₂.heap, slotsUsed := s₂.slotsUsed }
      rw [State.setFrames_self ht]
    subst hg
    refine Or.inr ⟨q, ⟨(({ U with heap := s₂.heap, slotsUsed := s₂.slotsUsed } : State).setVm s₂.vm), Ls ++ L, c0 + mc, s0 + ms⟩,
      ⟨X.admits, X.cas, X.clock, X.frames, X.room, X.hears, X.method, X.code, (X.here.setHeapUsed s₂.heap s₂.slotsUsed).setVm hW'.alike, X.tail, State.WarmedH.trans X.warmed hW', X.limits, X.bytes, X.same.trans (hsame.setVm s.vm)⟩,
      ⟨g, mk, s₂, L, E, ce, rfl, rfl, hx, hce, hcv, hcl, rfl, hL, rfl, rfl⟩, ?_⟩
    show Steps p.tables e below _ (((({ U with heap := s₂.heap, slotsUsed := s₂.slotsUsed } : State).setVm s₂.vm).setTop g).pushFrame (.throwing q))
    rw [← hs₂]
    exact hsteps
end Payer
section Calls
variable {p : Program} {l : Launch} {e : Env} {R : Room} {s : State} {m : MethodId} {args : Array Value} {below : List Frame} {meth : Method} {c : Code} {T : State} {locs : List Loc} {cells slots : Nat}
theorem vx_callV (X : Stand p l e R s m args below meth c T locs cells slots) (hexec : p.tables.exec = Jvm.exec) {own C : String} {index : Nat} {y : MethodName} {bytes : ByteArray} {maxL : Nat} {ret : Option FieldType}
    (hown : s.vm.findClass own = some m.cls) (hlink : (Cond.methodLink own index y).before args s = true) (hinst : (Cond.instanceMethod y).before args s = true) (hsel : (Cond.selects C y y).before args s = true)
    (hcode : (Cond.code y bytes maxL ret).before args s = true) (hy : y.cls ≠ "java/lang/invoke/MethodHandle" ∧ y.cls ≠ "java/lang/invoke/VarHandle")
    {W9 : Nat} {Pre : Pt → Array Value → Prop} {Post : Pt → Array Value → Option Value → Pt → Prop} {PostX : Pt → Array Value → Addr → Pt → Prop} (hK : vx_Back l R p e below s args y 3 W9 Pre Post PostX)
    {b : Addr} {cellB : Cell} (hcell : T.heap[b]? = some cellB) (hobj : cellB.vm.isStatics = false) (hcls : s.vm.findClass C = some cellB.cls)
    {g : JFrame} (hg : g.method = m) (hsize : g.locals.size = c.maxLocals) {argsL rest : List Value} (hlen : ∀ sig, parseMethodDescriptor y.desc = some sig → argsL.length = sig.parameters.length)
    (hstack : g.stack = argsL.reverse ++ .ref b :: rest) (hW : 2 * g.monitorRoom + (rest.map fun v => v.category).sum ≤ W9) (hdg : decode c.code g.pc = .ok (.invokevirtual index, 3))
    (hpre : ∀ vm₁, s.WarmedH vm₁ → Pre ⟨T.setVm vm₁, locs, cells, slots⟩ (Value.ref b :: argsL).toArray) :
    (∃ (v : Option Value) (vm₁ : Vm) (B : Pt), s.WarmedH vm₁ ∧ Stand p l e R s m args below meth c B.U B.locs B.cells B.slots ∧ Post ⟨T.setVm vm₁, locs, cells, slots⟩ (Value.ref b :: argsL).toArray v B ∧
      ∀ target, Steps p.tables e below (B.U.setTop { g with pc := g.pc + 3, stack := v.toList ++ rest }) target → Steps p.tables e below (T.setTop g) target) ∨
    (∃ (q : Addr) (vm₁ : Vm) (B : Pt), s.WarmedH vm₁ ∧ Stand p l e R s m args below meth c B.U B.locs B.cells B.slots ∧ PostX ⟨T.setVm vm₁, locs, cells, slots⟩ (Value.ref b :: argsL).toArray q B ∧
      Steps p.tables e below (T.setTop g) ((B.U.setTop { g with stack := rest }).pushFrame (.throwing q))) := by
  obtain ⟨mk, methM, hnamed, hmethM, hstM, habM⟩ := Cond.instanceMethod_spec hinst
  obtain ⟨methM', cM, hmethM', -, -, -, -, -, -, hsigM⟩ := Cond.code_spec hnamed hcode
  cases hmethM.symm.trans hmethM'
  obtain ⟨c2, r2, m2, q1, q2, q3, q4, kP, hkP, hkPi⟩ := Cond.selects_spec hsel
  cases hcls.symm.trans q1
  cases (State.methodFound?_of_named hnamed hy).symm.trans q2
  cases hnamed.symm.trans q3
  have hselP : selectMethod e.platform s.vm cellB.cls mk = .method mk := by rw [Launch.admits_selectMethod X.admits]; exact q4
  obtain ⟨vm₁, X₁, hstep₁⟩ := X.invokevirtual hexec hown hlink hnamed hmethM hstM hkP hkPi hy (a := b) (cell := cellB) hcell
    (fun z h => by rw [h] at hobj; cases hobj) hselP hmethM habM hkP hkPi (g := g) hg (argsL := argsL) (rest := rest) (hlen _ hsigM) hstack hdg
  rcases hK m meth c ⟨T.setVm vm₁, locs, cells, slots⟩ { g with stack := rest } (.invokevirtual index) mk (Value.ref b :: argsL).toArray X₁ hg hsize hdg hW (X₁.named hnamed) (hpre vm₁ X₁.warmed) with ⟨v, B, X', hpost, hsteps⟩ | ⟨q, B, X', hpost, hsteps⟩
  · exact Or.inl ⟨v, vm₁, B, X₁.warmed, X', hpost, fun target h => hstep₁ _ fun acts => by rw [doInvoke_state]; exact hsteps.trans h⟩
  · exact Or.inr ⟨q, vm₁, B, X₁.warmed, X', hpost, hstep₁ _ fun acts => by rw [doInvoke_state]; exact hsteps⟩
theorem vx_callS (X : Stand p l e R s m args below meth c T locs cells slots) (hexec : p.tables.exec = Jvm.exec) {own : String} {index : Nat} {y : MethodName} {bytes : ByteArray} {maxL : Nat} {ret : Option FieldType}
    (hown : s.vm.findClass own = some m.cls) (hlink : (Cond.methodLink own index y).before args s = true) (hstat : (Cond.static y).before args s = true) (hinit : (Cond.initialized y.cls).before args s = true)
    (hcode : (Cond.code y bytes maxL ret).before args s = true) (hy : y.cls ≠ "java/lang/invoke/MethodHandle" ∧ y.cls ≠ "java/lang/invoke/VarHandle")
    {W9 : Nat} {Pre : Pt → Array Value → Prop} {Post : Pt → Array Value → Option Value → Pt → Prop} {PostX : Pt → Array Value → Addr → Pt → Prop} (hK : vx_Back l R p e below s args y 3 W9 Pre Post PostX)
    {g : JFrame} (hg : g.method = m) (hsize : g.locals.size = c.maxLocals) {argsL rest : List Value} (hlen : ∀ sig, parseMethodDescriptor y.desc = some sig → argsL.length = sig.parameters.length)
    (hstack : g.stack = argsL.reverse ++ rest) (hW : 2 * g.monitorRoom + (rest.map fun v => v.category).sum ≤ W9) (hdg : decode c.code g.pc = .ok (.invokestatic index, 3))
    (hpre : ∀ vm₁, s.WarmedH vm₁ → Pre ⟨T.setVm vm₁, locs, cells, slots⟩ argsL.toArray) :
    (∃ (v : Option Value) (vm₁ : Vm) (B : Pt), s.WarmedH vm₁ ∧ Stand p l e R s m args below meth c B.U B.locs B.cells B.slots ∧ Post ⟨T.setVm vm₁, locs, cells, slots⟩ argsL.toArray v B ∧
      ∀ target, Steps p.tables e below (B.U.setTop { g with pc := g.pc + 3, stack := v.toList ++ rest }) target → Steps p.tables e below (T.setTop g) target) ∨
    (∃ (q : Addr) (vm₁ : Vm) (B : Pt), s.WarmedH vm₁ ∧ Stand p l e R s m args below meth c B.U B.locs B.cells B.slots ∧ PostX ⟨T.setVm vm₁, locs, cells, slots⟩ argsL.toArray q B ∧
      Steps p.tables e below (T.setTop g) ((B.U.setTop { g with stack := rest }).pushFrame (.throwing q))) := by
  obtain ⟨mk, hnamed⟩ := Cond.code_named hcode
  obtain ⟨methM, cM, hmethM, -, -, -, -, -, -, hsigM⟩ := Cond.code_spec hnamed hcode
  have hstatic : methM.isStatic = true := Cond.static_spec hnamed hmethM hstat
  obtain ⟨kP, hkP, -⟩ := className_of_methodNamed hnamed
  have hinitP : kP.init = .initialized := Cond.initialized_spec (findClass_of_methodNamed hnamed) hkP hinit
  obtain ⟨vm₁, X₁, hstep₁⟩ := X.invokestatic hexec hown hlink hnamed hmethM hstatic hkP hinitP hy (g := g) hg (argsL := argsL) (rest := rest) (hlen _ hsigM) hstack hdg
  rcases hK m meth c ⟨T.setVm vm₁, locs, cells, slots⟩ { g with stack := rest } (.invokestatic index) mk argsL.toArray X₁ hg hsize hdg hW (X₁.named hnamed) (hpre vm₁ X₁.warmed) with ⟨v, B, X', hpost, hsteps⟩ | ⟨q, B, X', hpost, hsteps⟩
  · exact Or.inl ⟨v, vm₁, B, X₁.warmed, X', hpost, fun target h => hstep₁ _ fun acts => by rw [doInvoke_state]; exact hsteps.trans h⟩
  · exact Or.inr ⟨q, vm₁, B, X₁.warmed, X', hpost, hstep₁ _ fun acts => by rw [doInvoke_state]; exact hsteps⟩
end Calls
theorem vx_cls {s : State} {T : State} {vm₁ : Vm} {E : String} {k : ClassId} (hW : s.WarmedH vm₁) (h : (T.setVm vm₁).vm.findClass E = some k) : s.vm.findClass E = some k := by
  have h1 : vm₁.findClass E = some k := h
  rw [hW.alike.findClass] at h1
  exact h1
/-- the method's frame g, with q thrown over it -/
def vx_W (p : Program) (l : Launch) (e : Env) (R : Room) (s : State) (m : MethodId) (args : Array Value) (below : List Frame) (meth : Method) (c : Code) (H : Heap) (locs : List Loc) (cells slots : Nat) (Q : State → Prop) (g : JFrame) (q : Addr) : Prop :=
  ∀ T : State, T.heap = H → Stand p l e R s m args below meth c T locs cells slots → ∃ t, Steps p.tables e below ((T.setTop g).pushFrame (.throwing q)) t ∧ Q t
def vx_Run (p : Program) (l : Launch) (e : Env) (R : Room) (s : State) (m : MethodId) (args : Array Value) (below : List Frame) (meth : Method) (c : Code) (H : Heap) (locs : List Loc) (cells slots mc ms : Nat) (g : JFrame) (rest : List Value) (Qa : State → Outcome → State → Prop) (XC : String → State → State → Prop) (free : Addr → Prop) : Prop :=
  ∀ T : State, T.heap = H → Stand p l e R s m args below meth c T locs cells slots →
    (∃ (v : Option Value) (st₀ t T' : State) (L : List Loc), st₀.heap = H ∧ Stand p l e R s m args below meth c T' (locs ++ L) (cells + mc) (slots + ms) ∧ (∀ q ∈ L, free q.base) ∧ T'.heap = t.heap ∧ T'.vm = t.vm ∧ Qa st₀ (.returned v) t ∧
      Goes p e below T g T' { g with pc := g.pc + 3, stack := v.toList ++ rest }) ∨
    (∃ (q : Addr) (st₀ t T' : State) (L : List Loc) (E : String) (ce : Cell), st₀.heap = H ∧ Stand p l e R s m args below meth c T' (locs ++ L) (cells + mc) (slots + ms) ∧ (∀ z ∈ L, free z.base) ∧ T'.heap = t.heap ∧ T'.vm = t.vm ∧ XC E st₀ t ∧ t.heap[q]? = some ce ∧ ce.vm = .none ∧ s.vm.findClass E = some ce.cls ∧
      Steps p.tables e below (T.setTop g) ((T'.setTop { g with stack := rest }).pushFrame (.throwing q)))
def vx_X {S : Type} (px : S → Prop) (B : String → S → State → Prop) (A : Nat → Prop) : String → State → State → Prop := fun E st t => ∃ u : S, px u ∧ B E u t ∧ va_F A st t
section Runs
variable {p : Program} {l : Launch} {e : Env} {R : Room} {s : State} {m : MethodId} {args : Array Value} {below : List Frame} {meth : Method} {c : Code} {H : Heap} {locs : List Loc} {cells slots : Nat}
variable {y : MethodName} {bytes cc : ByteArray} {maxL nL mc ms n index : Nat} {ret : Option FieldType} {ws : List Cond} {rm : Room} {Pc : Array Value → State → Prop} {Qc : Array Value → State → Outcome → State → Prop} {XC : String → State → State → Prop} {free : Addr → Prop} {Ts : List Cond} {own C : String} {b : Addr} {As rest : List Value} {g : JFrame}
theorem vx_callBack (cb : CallB R s args own index y bytes maxL ret ws rm mc ms n) (hM : vx_Met l y ws rm Pc Qc XC mc ms free) (hbl : FrameBlind Pc) : vx_Back l R p e below s args y 3 8 (PreOf R mc ms Pc) (PostOf Qc mc ms free) (vx_Post XC mc ms free) := by
  obtain ⟨hrc, hrs, hfr, hlo, hws, hcw, -, hini, -⟩ := cb
  exact vx_back (bytes := bytes) (maxL := maxL) (ret := ret) hM hbl hrc hrs hfr hlo hws hcw (fun a' U hW => word_at hW (Or.inl (by first | rfl | simp [Cond.onTables, Cond.keeps, Cond.steady])) hini)
theorem vx_runV (S : CallFix p m c cc nL s args Ts own) (hM : vx_Met l y ws rm Pc Qc XC mc ms free) (cw : CallW R s args own C index y bytes maxL ret ws rm mc ms n) (hp : PreV s H C b Pc As)
    (hg : g.method = m) (hn : As.length = n) (hsize : g.locals.size = nL) (hstack : g.stack = As.reverse ++ .ref b :: rest) (hW : 2 * g.monitorRoom + (rest.map fun v => v.category).sum ≤ 8) (hdg : decode cc g.pc = .ok (.invokevirtual index, 3)) (hf : cells + mc ≤ R.cells ∧ slots + ms ≤ R.slots) :
    vx_Run p l e R s m args below meth c H locs cells slots mc ms g rest (Qc (Value.ref b :: As).toArray) XC free := by
  have hK : vx_Back l R p e below s args y 3 8 (PreOf R mc ms Pc) (PostOf Qc mc ms free) (vx_Post XC mc ms free) := vx_callBack cw.1 hM hp.1
  obtain ⟨⟨-, -, -, -, -, -, hcode, -, hy, hlen, hl⟩, hin, hse⟩ := cw
  obtain ⟨hx, hb, hml, ho, -⟩ := S
  obtain ⟨-, ⟨cellB, hcB, hoB, hclB⟩, hPc⟩ := hp
  intro T hT X
  rcases vx_callV X hx (C := C) (bytes := bytes) (maxL := maxL) (ret := ret) ho hl hin hse hcode hy hK (by rw [hT]; exact hcB) hoB hclB hg (hsize.trans hml.symm) (argsL := As) (rest := rest) (fun sig h => hn.trans (hlen sig h)) hstack hW (by rw [hb]; exact hdg)
    (fun vm₁ hW₁ => ⟨hf.1, hf.2, hPc (T.setVm vm₁) hT hW₁⟩) with ⟨v, vm₁, ⟨U', l2, c2, s2⟩, hW₁, X', ⟨g', mk, t, L, e1, e2, hq, h1, hL, h2, h3⟩, st⟩ | ⟨q, vm₁, ⟨U', l2, c2, s2⟩, hW₁, X', ⟨g', mk, t, L, E, ce, e1, e2, hq, hce, hcv, hcl, h1, hL, h2, h3⟩, st⟩
  · dsimp only [Pt.U, Pt.locs, Pt.cells, Pt.slots] at X' e1 e2 h1 h2 h3 st
    subst h1; subst h2; subst h3
    exact Or.inl ⟨v, (T.setVm vm₁).calling g' mk (Value.ref b :: As).toArray, t, U', L, hT, X', hL, e1, e2, hq, st⟩
  · dsimp only [Pt.U, Pt.locs, Pt.cells, Pt.slots] at X' e1 e2 h1 h2 h3 st hcl
    subst h1; subst h2; subst h3
    exact Or.inr ⟨q, (T.setVm vm₁).calling g' mk (Value.ref b :: As).toArray, t, U', L, E, ce, hT, X', hL, e1, e2, hq, hce, hcv, vx_cls hW₁ hcl, st⟩
theorem vx_runS (S : CallFix p m c cc nL s args Ts own) (hM : vx_Met l y ws rm Pc Qc XC mc ms free) (cw : CallB R s args own index y bytes maxL ret ws rm mc ms n ∧ (Cond.static y).before args s = true) (hp : PreS s H Pc As)
    (hg : g.method = m) (hn : As.length = n) (hsize : g.locals.size = nL) (hstack : g.stack = As.reverse ++ rest) (hW : 2 * g.monitorRoom + (rest.map fun v => v.category).sum ≤ 8) (hdg : decode cc g.pc = .ok (.invokestatic index, 3)) (hf : cells + mc ≤ R.cells ∧ slots + ms ≤ R.slots) :
    vx_Run p l e R s m args below meth c H locs cells slots mc ms g rest (Qc As.toArray) XC free := by
  have hK : vx_Back l R p e below s args y 3 8 (PreOf R mc ms Pc) (PostOf Qc mc ms free) (vx_Post XC mc ms free) := vx_callBack cw.1 hM hp.1
  obtain ⟨⟨-, -, -, -, -, -, hcode, hini, hy, hlen, hl⟩, hstt⟩ := cw
  obtain ⟨hx, hb, hml, ho, -⟩ := S
  intro T hT X
  rcases vx_callS X hx (bytes := bytes) (maxL := maxL) (ret := ret) ho hl hstt hini hcode hy hK hg (hsize.trans hml.symm) (argsL := As) (rest := rest) (fun sig h => hn.trans (hlen sig h)) hstack hW (by rw [hb]; exact hdg)
    (fun vm₁ hW₁ => ⟨hf.1, hf.2, hp.2 (T.setVm vm₁) hT hW₁⟩) with ⟨v, vm₁, ⟨U', l2, c2, s2⟩, hW₁, X', ⟨g', mk, t, L, e1, e2, hq, h1, hL, h2, h3⟩, st⟩ | ⟨q, vm₁, ⟨U', l2, c2, s2⟩, hW₁, X', ⟨g', mk, t, L, E, ce, e1, e2, hq, hce, hcv, hcl, h1, hL, h2, h3⟩, st⟩
  · dsimp only [Pt.U, Pt.locs, Pt.cells, Pt.slots] at X' e1 e2 h1 h2 h3 st
    subst h1; subst h2; subst h3
    exact Or.inl ⟨v, (T.setVm vm₁).calling g' mk As.toArray, t, U', L, hT, X', hL, e1, e2, hq, st⟩
  · dsimp only [Pt.U, Pt.locs, Pt.cells, Pt.slots] at X' e1 e2 h1 h2 h3 st hcl
    subst h1; subst h2; subst h3
    exact Or.inr ⟨q, (T.setVm vm₁).calling g' mk As.toArray, t, U', L, E, ce, hT, X', hL, e1, e2, hq, hce, hcv, vx_cls hW₁ hcl, st⟩
end Runs
section Rows
variable {p : Program} {l : Launch} {e : Env} {R : Room} {s : State} {m : MethodId} {args : Array Value} {below : List Frame} {meth : Method} {c : Code} {H : Heap} {locs : List Loc} {cells slots : Nat} {Q : State → Prop}
variable {mc ms : Nat} {free : Addr → Prop} {A0 A1 : Nat → Prop} {H0 : Heap} {a : Array Value} {pc : Nat} {ls : Array Slot} {st0 rest : List Value}
theorem vx_keep {st₀ t T' : State} {L : List Loc} (h0 : st₀.heap = H) (e1 : T'.heap = t.heap) (hS : va_S A0 H0 H locs) (hA : ∀ q, q < H.size → A1 q → A0 q) (hf : ∀ q, free q → A0 q) (hL : ∀ q ∈ L, free q.base) (hF : va_F A1 st₀ t) :
    H.size ≤ T'.heap.size ∧ (∀ q : Nat, q < H.size → ¬ A1 q → T'.heap[q]? = H[q]?) ∧ va_S A0 H0 T'.heap (locs ++ L) := by
  obtain ⟨hz, hk⟩ := hF
  rw [h0] at hz hk
  exact ⟨by rw [e1]; exact hz, fun q h1 h2 => by rw [e1]; exact hk q h1 h2,
    ⟨Nat.le_trans hS.1 (by rw [e1]; exact hz), fun q h1 h2 => by rw [e1, hk q (Nat.lt_of_lt_of_le h1 hS.1) (fun z => h2 (hA q (Nat.lt_of_lt_of_le h1 hS.1) z))]; exact hS.2.1 q h1 h2, fun q hq => by
      rcases List.mem_append.mp hq with h | h
      · exact hS.2.2 q h
      · exact hf _ (hL q h)⟩⟩
theorem vx_calli {S SX : Type} {post : Int32 → S → Prop} {px : SX → Prop} {B : S → State → Prop} {BX : String → SX → State → Prop} {AX : Nat → Prop} (hr : vx_Run p l e R s m args below meth c H locs cells slots mc ms (F0 m pc ls st0) rest (va_Qi post B A1 a) (vx_X px BX AX) free) (hS : va_S A0 H0 H locs) (hA : ∀ q, q < H.size → A1 q → A0 q) (hf : ∀ q, free q → A0 q) (hAX : ∀ q, q < H.size → AX q → A0 q)
    (kx : ∀ (E : String) (ce : Cell) (q9 : Addr) (u : SX) (t : State) (H1 : Heap) (locs1 : List Loc), t.heap = H1 → s.vm.Alike t.vm → px u → BX E u t → H.size ≤ H1.size → (∀ q : Nat, q < H.size → ¬ AX q → H1[q]? = H[q]?) → va_S A0 H0 H1 locs1 → H1[q9]? = some ce → ce.vm = .none → s.vm.findClass E = some ce.cls → vx_W p l e R s m args below meth c H1 locs1 (cells + mc) (slots + ms) Q (F0 m pc ls rest) q9)
    (kk : ∀ (r : Int32) (u : S) (t : State) (H1 : Heap) (locs1 : List Loc), t.heap = H1 → s.vm.Alike t.vm → post r u → B u t → H.size ≤ H1.size → (∀ q : Nat, q < H.size → ¬ A1 q → H1[q]? = H[q]?) → va_S A0 H0 H1 locs1 → W p l e R s m args below meth c H1 locs1 (cells + mc) (slots + ms) Q (F0 m (pc + 3) ls (.int r :: rest))) : W p l e R s m args below meth c H locs cells slots Q (F0 m pc ls st0) := by
  intro T hT X
  rcases hr T hT X with ⟨v, st₀, t, T', L, h0, X', hL, e1, e2, ⟨⟨r, u, hv, hp, hb⟩, hF⟩, st⟩ | ⟨q, st₀, t, T', L, E, ce, h0, X', hL, e1, e2, ⟨u, hp, hb, hF⟩, hce, hcv, hcl, st⟩
  · cases hv
    obtain ⟨k1, k2, k3⟩ := vx_keep h0 e1 hS hA hf hL hF
    obtain ⟨t2, a1, b1⟩ := kk r u t T'.heap (locs ++ L) e1.symm (by rw [← e2]; exact X'.warmed.alike) hp hb k1 k2 k3 T' rfl X'
    exact ⟨t2, st t2 a1, b1⟩
  · obtain ⟨k1, k2, k3⟩ := vx_keep h0 e1 hS hAX hf hL hF
    obtain ⟨t2, a1, b1⟩ := kx E ce q u t T'.heap (locs ++ L) e1.symm (by rw [← e2]; exact X'.warmed.alike) hp hb k1 k2 k3 (by rw [e1]; exact hce) hcv hcl T' rfl X'
    exact ⟨t2, st.trans a1, b1⟩
theorem vx_calll {S SX : Type} {post : Int64 → S → Prop} {px : SX → Prop} {B : S → State → Prop} {BX : String → SX → State → Prop} {AX : Nat → Prop} (hr : vx_Run p l e R s m args below meth c H locs cells slots mc ms (F0 m pc ls st0) rest (va_Ql post B A1 a) (vx_X px BX AX) free) (hS : va_S A0 H0 H locs) (hA : ∀ q, q < H.size → A1 q → A0 q) (hf : ∀ q, free q → A0 q) (hAX : ∀ q, q < H.size → AX q → A0 q)
    (kx : ∀ (E : String) (ce : Cell) (q9 : Addr) (u : SX) (t : State) (H1 : Heap) (locs1 : List Loc), t.heap = H1 → s.vm.Alike t.vm → px u → BX E u t → H.size ≤ H1.size → (∀ q : Nat, q < H.size → ¬ AX q → H1[q]? = H[q]?) → va_S A0 H0 H1 locs1 → H1[q9]? = some ce → ce.vm = .none → s.vm.findClass E = some ce.cls → vx_W p l e R s m args below meth c H1 locs1 (cells + mc) (slots + ms) Q (F0 m pc ls rest) q9)
    (kk : ∀ (r : Int64) (u : S) (t : State) (H1 : Heap) (locs1 : List Loc), t.heap = H1 → s.vm.Alike t.vm → post r u → B u t → H.size ≤ H1.size → (∀ q : Nat, q < H.size → ¬ A1 q → H1[q]? = H[q]?) → va_S A0 H0 H1 locs1 → W p l e R s m args below meth c H1 locs1 (cells + mc) (slots + ms) Q (F0 m (pc + 3) ls (.long r :: rest))) : W p l e R s m args below meth c H locs cells slots Q (F0 m pc ls st0) := by
  intro T hT X
  rcases hr T hT X with ⟨v, st₀, t, T', L, h0, X', hL, e1, e2, ⟨⟨r, u, hv, hp, hb⟩, hF⟩, st⟩ | ⟨q, st₀, t, T', L, E, ce, h0, X', hL, e1, e2, ⟨u, hp, hb, hF⟩, hce, hcv, hcl, st⟩
  · cases hv
    obtain ⟨k1, k2, k3⟩ := vx_keep h0 e1 hS hA hf hL hF
    obtain ⟨t2, a1, b1⟩ := kk r u t T'.heap (locs ++ L) e1.symm (by rw [← e2]; exact X'.warmed.alike) hp hb k1 k2 k3 T' rfl X'
    exact ⟨t2, st t2 a1, b1⟩
  · obtain ⟨k1, k2, k3⟩ := vx_keep h0 e1 hS hAX hf hL hF
    obtain ⟨t2, a1, b1⟩ := kx E ce q u t T'.heap (locs ++ L) e1.symm (by rw [← e2]; exact X'.warmed.alike) hp hb k1 k2 k3 (by rw [e1]; exact hce) hcv hcl T' rfl X'
    exact ⟨t2, st.trans a1, b1⟩
theorem vx_callf {S SX : Type} {post : UInt32 → S → Prop} {px : SX → Prop} {B : S → State → Prop} {BX : String → SX → State → Prop} {AX : Nat → Prop} (hr : vx_Run p l e R s m args below meth c H locs cells slots mc ms (F0 m pc ls st0) rest (va_Qf post B A1 a) (vx_X px BX AX) free) (hS : va_S A0 H0 H locs) (hA : ∀ q, q < H.size → A1 q → A0 q) (hf : ∀ q, free q → A0 q) (hAX : ∀ q, q < H.size → AX q → A0 q)
    (kx : ∀ (E : String) (ce : Cell) (q9 : Addr) (u : SX) (t : State) (H1 : Heap) (locs1 : List Loc), t.heap = H1 → s.vm.Alike t.vm → px u → BX E u t → H.size ≤ H1.size → (∀ q : Nat, q < H.size → ¬ AX q → H1[q]? = H[q]?) → va_S A0 H0 H1 locs1 → H1[q9]? = some ce → ce.vm = .none → s.vm.findClass E = some ce.cls → vx_W p l e R s m args below meth c H1 locs1 (cells + mc) (slots + ms) Q (F0 m pc ls rest) q9)
    (kk : ∀ (r : UInt32) (u : S) (t : State) (H1 : Heap) (locs1 : List Loc), t.heap = H1 → s.vm.Alike t.vm → post r u → B u t → H.size ≤ H1.size → (∀ q : Nat, q < H.size → ¬ A1 q → H1[q]? = H[q]?) → va_S A0 H0 H1 locs1 → W p l e R s m args below meth c H1 locs1 (cells + mc) (slots + ms) Q (F0 m (pc + 3) ls (.float r :: rest))) : W p l e R s m args below meth c H locs cells slots Q (F0 m pc ls st0) := by
  intro T hT X
  rcases hr T hT X with ⟨v, st₀, t, T', L, h0, X', hL, e1, e2, ⟨⟨r, u, hv, hp, hb⟩, hF⟩, st⟩ | ⟨q, st₀, t, T', L, E, ce, h0, X', hL, e1, e2, ⟨u, hp, hb, hF⟩, hce, hcv, hcl, st⟩
  · cases hv
    obtain ⟨k1, k2, k3⟩ := vx_keep h0 e1 hS hA hf hL hF
    obtain ⟨t2, a1, b1⟩ := kk r u t T'.heap (locs ++ L) e1.symm (by rw [← e2]; exact X'.warmed.alike) hp hb k1 k2 k3 T' rfl X'
    exact ⟨t2, st t2 a1, b1⟩
  · obtain ⟨k1, k2, k3⟩ := vx_keep h0 e1 hS hAX hf hL hF
    obtain ⟨t2, a1, b1⟩ := kx E ce q u t T'.heap (locs ++ L) e1.symm (by rw [← e2]; exact X'.warmed.alike) hp hb k1 k2 k3 (by rw [e1]; exact hce) hcv hcl T' rfl X'
    exact ⟨t2, st.trans a1, b1⟩
theorem vx_calld {S SX : Type} {post : UInt64 → S → Prop} {px : SX → Prop} {B : S → State → Prop} {BX : String → SX → State → Prop} {AX : Nat → Prop} (hr : vx_Run p l e R s m args below meth c H locs cells slots mc ms (F0 m pc ls st0) rest (va_Qd post B A1 a) (vx_X px BX AX) free) (hS : va_S A0 H0 H locs) (hA : ∀ q, q < H.size → A1 q → A0 q) (hf : ∀ q, free q → A0 q) (hAX : ∀ q, q < H.size → AX q → A0 q)
    (kx : ∀ (E : String) (ce : Cell) (q9 : Addr) (u : SX) (t : State) (H1 : Heap) (locs1 : List Loc), t.heap = H1 → s.vm.Alike t.vm → px u → BX E u t → H.size ≤ H1.size → (∀ q : Nat, q < H.size → ¬ AX q → H1[q]? = H[q]?) → va_S A0 H0 H1 locs1 → H1[q9]? = some ce → ce.vm = .none → s.vm.findClass E = some ce.cls → vx_W p l e R s m args below meth c H1 locs1 (cells + mc) (slots + ms) Q (F0 m pc ls rest) q9)
    (kk : ∀ (r : UInt64) (u : S) (t : State) (H1 : Heap) (locs1 : List Loc), t.heap = H1 → s.vm.Alike t.vm → post r u → B u t → H.size ≤ H1.size → (∀ q : Nat, q < H.size → ¬ A1 q → H1[q]? = H[q]?) → va_S A0 H0 H1 locs1 → W p l e R s m args below meth c H1 locs1 (cells + mc) (slots + ms) Q (F0 m (pc + 3) ls (.double r :: rest))) : W p l e R s m args below meth c H locs cells slots Q (F0 m pc ls st0) := by
  intro T hT X
  rcases hr T hT X with ⟨v, st₀, t, T', L, h0, X', hL, e1, e2, ⟨⟨r, u, hv, hp, hb⟩, hF⟩, st⟩ | ⟨q, st₀, t, T', L, E, ce, h0, X', hL, e1, e2, ⟨u, hp, hb, hF⟩, hce, hcv, hcl, st⟩
  · cases hv
    obtain ⟨k1, k2, k3⟩ := vx_keep h0 e1 hS hA hf hL hF
    obtain ⟨t2, a1, b1⟩ := kk r u t T'.heap (locs ++ L) e1.symm (by rw [← e2]; exact X'.warmed.alike) hp hb k1 k2 k3 T' rfl X'
    exact ⟨t2, st t2 a1, b1⟩
  · obtain ⟨k1, k2, k3⟩ := vx_keep h0 e1 hS hAX hf hL hF
    obtain ⟨t2, a1, b1⟩ := kx E ce q u t T'.heap (locs ++ L) e1.symm (by rw [← e2]; exact X'.warmed.alike) hp hb k1 k2 k3 (by rw [e1]; exact hce) hcv hcl T' rfl X'
    exact ⟨t2, st.trans a1, b1⟩
theorem vx_callv {S SX : Type} {post : S → Prop} {px : SX → Prop} {B : S → State → Prop} {BX : String → SX → State → Prop} {AX : Nat → Prop} (hr : vx_Run p l e R s m args below meth c H locs cells slots mc ms (F0 m pc ls st0) rest (va_Qv post B A1 a) (vx_X px BX AX) free) (hS : va_S A0 H0 H locs) (hA : ∀ q, q < H.size → A1 q → A0 q) (hf : ∀ q, free q → A0 q) (hAX : ∀ q, q < H.size → AX q → A0 q)
    (kx : ∀ (E : String) (ce : Cell) (q9 : Addr) (u : SX) (t : State) (H1 : Heap) (locs1 : List Loc), t.heap = H1 → s.vm.Alike t.vm → px u → BX E u t → H.size ≤ H1.size → (∀ q : Nat, q < H.size → ¬ AX q → H1[q]? = H[q]?) → va_S A0 H0 H1 locs1 → H1[q9]? = some ce → ce.vm = .none → s.vm.findClass E = some ce.cls → vx_W p l e R s m args below meth c H1 locs1 (cells + mc) (slots + ms) Q (F0 m pc ls rest) q9)
    (kk : ∀ (u : S) (t : State) (H1 : Heap) (locs1 : List Loc), t.heap = H1 → s.vm.Alike t.vm → post u → B u t → H.size ≤ H1.size → (∀ q : Nat, q < H.size → ¬ A1 q → H1[q]? = H[q]?) → va_S A0 H0 H1 locs1 → W p l e R s m args below meth c H1 locs1 (cells + mc) (slots + ms) Q (F0 m (pc + 3) ls (rest))) : W p l e R s m args below meth c H locs cells slots Q (F0 m pc ls st0) := by
  intro T hT X
  rcases hr T hT X with ⟨v, st₀, t, T', L, h0, X', hL, e1, e2, ⟨⟨u, hv, hp, hb⟩, hF⟩, st⟩ | ⟨q, st₀, t, T', L, E, ce, h0, X', hL, e1, e2, ⟨u, hp, hb, hF⟩, hce, hcv, hcl, st⟩
  · cases hv
    obtain ⟨k1, k2, k3⟩ := vx_keep h0 e1 hS hA hf hL hF
    obtain ⟨t2, a1, b1⟩ := kk u t T'.heap (locs ++ L) e1.symm (by rw [← e2]; exact X'.warmed.alike) hp hb k1 k2 k3 T' rfl X'
    exact ⟨t2, st t2 a1, b1⟩
  · obtain ⟨k1, k2, k3⟩ := vx_keep h0 e1 hS hAX hf hL hF
    obtain ⟨t2, a1, b1⟩ := kx E ce q u t T'.heap (locs ++ L) e1.symm (by rw [← e2]; exact X'.warmed.alike) hp hb k1 k2 k3 (by rw [e1]; exact hce) hcv hcl T' rfl X'
    exact ⟨t2, st.trans a1, b1⟩
/-- caught by the row x of this method's table; the rows ahead don't take it -/
theorem vx_catch {own name : String} {E : String} {ce : Cell} {q : Addr} (hown : s.vm.findClass own = some m.cls) (pre : List ExceptionTableEntry) (x : ExceptionTableEntry) (suf : List ExceptionTableEntry) (hsplit : c.exceptionTable.toList = pre ++ x :: suf)
    (hpass : ∀ z ∈ pre, covers z pc = false ∨ (z.catchType ≠ 0 ∧ ∃ nm : String, (Cond.classLink own z.catchType nm).before args s = true ∧ va_Nc E nm s)) (hx : covers x pc = true) (h0 : x.catchType ≠ 0)
    (hlink : (Cond.classLink own x.catchType name).before args s = true) (hcast : (Cond.castable E name).before args s = true) (hcell : H[q]? = some ce) (hv : ce.vm = .none) (hcl : s.vm.findClass E = some ce.cls)
    (kk : W p l e R s m args below meth c H locs cells slots Q (F0 m x.handlerPc ls [.ref q])) : vx_W p l e R s m args below meth c H locs cells slots Q (F0 m pc ls rest) q := by
  intro T hT X
  have hpl : e.platform.magicAccessors = ({} : Platform).magicAccessors := by rw [X.admits.platform]
  obtain ⟨c3, c4, hc3, hc4, hasg⟩ := Cond.castable_spec hcast
  cases Option.some.inj (hc3.symm.trans hcl)
  obtain ⟨c5, hc5, hcl5⟩ := Cond.classLink_spec hown hlink e.platform hpl
  cases Option.some.inj (hc4.symm.trans hc5)
  obtain ⟨vm', X', st⟩ := Stand.thenCaughtThrough X q (g := F0 m pc ls rest) rfl (Steps.refl _) (by rw [hT]; exact hcell) (by rw [hv]; rfl) (by obtain ⟨k9, h9, -⟩ := Vm.findClass_spec hcl; exact ⟨k9, h9⟩) pre x suf hsplit
    (fun z hz => by
      rcases hpass z hz with h | ⟨hz0, nm, hl1, hn1⟩
      · exact Or.inl h
      · obtain ⟨c6, hc6, hcl6⟩ := Cond.classLink_spec hown hl1 e.platform hpl
        obtain ⟨a8, b8, h1, h2, h3⟩ := hn1
        cases Option.some.inj (h1.symm.trans hcl)
        cases Option.some.inj (h2.symm.trans hc6)
        exact Or.inr ⟨hz0, _, hcl6, h3⟩) hx (Or.inr ⟨h0, c4, hcl5, hasg⟩)
  obtain ⟨t, a1, b1⟩ := kk (T.setVm vm') hT X'
  exact ⟨t, st.trans a1, b1⟩
end Rows
section Ends
variable {p : Program} {l : Launch} {e : Env} {R : Room} {s : State} {m : MethodId} {args : Array Value} {below : List Frame} {meth : Method} {c : Code} {H : Heap} {locs : List Loc} {cells slots : Nat} {Q : State → Prop}
variable {mc ms : Nat} {free : Addr → Prop} {A0 A1 : Nat → Prop} {H0 : Heap} {a : Array Value} {ls : Array Slot} {st0 rest : List Value}
variable {Qc : Array Value → State → Outcome → State → Prop} {XC : String → State → State → Prop}
/-- what a body that may throw owes at its end -/
def vx_MQ (below : List Frame) (Qc : Array Value → State → Outcome → State → Prop) (XC : String → State → State → Prop) (a : Array Value) (s : State) (mc ms : Nat) (free : Addr → Prop) : State → Prop := fun t =>
  ∃ o, t.status = .running ∧ Ended t below o ∧ vx_Q Qc XC mc ms free a s o t
theorem vx_ret {g : JFrame} {mc ms : Nat} (k : W p l e R s m args below meth c H locs cells slots (MQ below Qc args s mc ms free) g) : W p l e R s m args below meth c H locs cells slots (vx_MQ below Qc XC args s mc ms free) g := by
  intro T hT X
  obtain ⟨t, a1, o, b1, b2, b3, b4⟩ := k T hT X
  exact ⟨t, a1, o, b1, b2, Or.inl ⟨b3, b4⟩⟩
/-- not caught here: it goes on to the caller -/
theorem vx_widen {g : JFrame} {q : Addr} {k n : Nat} (h1 : cells ≤ k) (h2 : slots ≤ n) (kk : vx_W p l e R s m args below meth c H locs k n Q g q) : vx_W p l e R s m args below meth c H locs cells slots Q g q := fun T hT X => kk T hT (stand_widen X h1 h2)
theorem vx_out {pc : Nat} {E : String} {ce : Cell} {q : Addr} {mc ms : Nat} (hout : ∀ x ∈ c.exceptionTable.toList, covers x pc = false) (hlocks : meth.locks = false) (hcell : H[q]? = some ce) (hv : ce.vm = .none) (hcl : s.vm.findClass E = some ce.cls)
    (hx : ∀ t : State, t.heap = H → s.vm.Alike t.vm → XC E s t) (hf : ∀ z ∈ locs, free z.base) (hc : cells ≤ mc) (hs : slots ≤ ms) :
    vx_W p l e R s m args below meth c H locs cells slots (vx_MQ below Qc XC args s mc ms free) (F0 m pc ls rest) q := by
  intro T hT X
  obtain ⟨st1, hrun, hend, hW, hsm⟩ := X.leaveThrown q (g := F0 m pc ls rest) rfl rfl rfl hout hlocks
  have hcell9 : (T.setFrames (.throwing q :: below)).heap[q]? = some ce := by
    show T.heap[q]? = some ce
    rw [hT]; exact hcell
  exact ⟨_, st1, .threw q, hrun, hend, Or.inr ⟨q, rfl, E, ce, locs, hx _ hT hW.alike, hcell9, hv, hcl, hW, hsm.mono hc hs, hf⟩⟩
theorem vx_frame {U : State} {k n : Nat} (h : s.sameButNew ({ U with vm := s.vm } : State) locs k n) : s.heap.size ≤ U.heap.size ∧ ∀ q : Nat, q < s.heap.size → (∀ z ∈ locs, z.base ≠ q) → U.heap[q]? = s.heap[q]? := by
  obtain ⟨-, h2, -, -, -, h6⟩ := h
  refine ⟨h2, fun q hq hz => ?_⟩
  obtain ⟨c9, e1, e2, e3, e4⟩ := h6 q _ (Array.getElem?_eq_getElem hq)
  have hs : c9.slots = (s.heap[q]).slots := Array.ext_getElem? fun i => e4 i fun hm => hz _ hm rfl
  have h9 : c9 = s.heap[q] := by
    rw [hs] at e2
    exact e2
  have e5 : U.heap[q]? = some c9 := e1
  rw [e5, h9, Array.getElem?_eq_getElem hq]
/-- the words of a throw but the four that speak of the heap -/
def vx_no (w : Cond) : Bool := decide (w ≠ .isRef (.static Bundle.tN "UNASSIGNED_STACK" Bundle.steD)) && decide (w ≠ .isRef (.static Bundle.tN "SUPPRESSED_SENTINEL" Bundle.listD)) && decide (w ≠ .laysStatic Bundle.tN "UNASSIGNED_STACK" Bundle.steD) && decide (w ≠ .laysStatic Bundle.tN "SUPPRESSED_SENTINEL" Bundle.listD)
def vx_at0 (own : String) (ic : Nat) (X : String) (names : List String) : List Cond := (Bundle.ownAtoms0 own ic X names).filter vx_no
def vx_atS (own : String) (ic : Nat) (X : String) (names : List String) : List Cond := (Bundle.ownAtoms own ic X names).filter vx_no
/-- a word that the tables alone decide, or a good one -/
def vx_ot (w : Cond) : Bool := w.onTables || goodWord w
theorem vx_ot_at {args a' : Array Value} {s U : State} {w : Cond} (hW : s.WarmedH U.vm) (hvm : s.vm = U.vm) (hg : vx_ot w = true) (h : w.before args s = true) : w.before a' U = true := by
  simp only [vx_ot, Bool.or_eq_true] at hg
  rcases hg with hg | hg
  · exact va_tabs hg hvm h
  · exact word_at hW (good_of_word hg) h
/-- a list's words: the good ones out of the method's own list, the others by premises of their own -/
theorem vx_hat {args : Array Value} {s : State} {L B : List Cond} (h1 : ∀ w ∈ L.filter goodWord, w.before args s = true) (h2 : ∀ w ∈ L.filter (fun w => !goodWord w), w ∈ B) (h3 : ∀ w ∈ B, w.before args s = true) : ∀ w ∈ L, w.before args s = true := by
  intro w hw
  by_cases g : goodWord w = true
  · exact h1 w (List.mem_filter.mpr ⟨hw, g⟩)
  · refine h3 w (h2 w (List.mem_filter.mpr ⟨hw, ?_⟩))
    show (!goodWord w) = true
    cases hgw : goodWord w
    · rfl
    · exact absurd hgw g
theorem vx_c {args : Array Value} {s : State} {w : Cond} {B : List Cond} (h : w.before args s = true) (t : ∀ w ∈ B, w.before args s = true) : ∀ w' ∈ w :: B, w'.before args s = true := fun w' h' => (List.mem_cons.mp h').elim (fun e => by rw [e]; exact h) (t w')
theorem vx_n {args : Array Value} {s : State} : ∀ w ∈ ([] : List Cond), w.before args s = true := fun _ h => nomatch h
theorem vx_own {args : Array Value} {s : State} {L : List Cond} (h1 : ∀ w ∈ L.filter vx_no, w.before args s = true)
    (hU : (Cond.isRef (.static Bundle.tN "UNASSIGNED_STACK" Bundle.steD)).before args s = true) (hN : (Cond.isRef (.static Bundle.tN "SUPPRESSED_SENTINEL" Bundle.listD)).before args s = true)
    (lU : (Cond.laysStatic Bundle.tN "UNASSIGNED_STACK" Bundle.steD).before args s = true) (lN : (Cond.laysStatic Bundle.tN "SUPPRESSED_SENTINEL" Bundle.listD).before args s = true) : ∀ w ∈ L, w.before args s = true := by
  intro w hw
  by_cases e1 : w = .isRef (.static Bundle.tN "UNASSIGNED_STACK" Bundle.steD)
  · rw [e1]; exact hU
  · by_cases e2 : w = .isRef (.static Bundle.tN "SUPPRESSED_SENTINEL" Bundle.listD)
    · rw [e2]; exact hN
    · by_cases e3 : w = .laysStatic Bundle.tN "UNASSIGNED_STACK" Bundle.steD
      · rw [e3]; exact lU
      · by_cases e4 : w = .laysStatic Bundle.tN "SUPPRESSED_SENTINEL" Bundle.listD
        · rw [e4]; exact lN
        · exact h1 w (List.mem_filter.mpr ⟨hw, by unfold vx_no; rw [decide_eq_true e1, decide_eq_true e2, decide_eq_true e3, decide_eq_true e4]; rfl⟩)
/-- where a static field lies, its class's statics cell in H -/
def vx_L (C n d : String) (A : Nat → Prop) (U : State) (H : Heap) : Prop := ∃ (c : ClassId) (k : Class) (i : Nat) (f : Field) (a : Nat) (cell : Cell), U.vm.findClass C = some c ∧ U.fieldFound? C n d = some (c, k, i, f) ∧ f.isStatic = true ∧ k.statics = some a ∧ H[a]? = some cell ∧ cell.vm.isStatics = true ∧ cell.cls = c ∧ f.slot < cell.slots.size ∧ k.staticTypes[f.slot]? = some f.type ∧ ¬ A a
theorem vx_L.moved {C n d : String} {A : Nat → Prop} {u U : State} {H : Heap} (hvm : u.vm.Alike U.vm) (h : vx_L C n d A u H) : vx_L C n d A U H := by
  obtain ⟨c, k, i, f, a, cell, h1, h2, h3, h4, h5, h6, h7, h8, h9, h10⟩ := h
  obtain ⟨k', hi', he⟩ := State.fieldFound?_setVm hvm h2
  exact ⟨c, k', i, f, a, cell, by rw [hvm.findClass]; exact h1, hi', h3, by rw [he]; exact h4, h5, h6, h7, h8, by rw [he]; exact h9, h10⟩
theorem vx_L.kept {C n d : String} {A : Nat → Prop} {U : State} {H H1 : Heap} (h : vx_L C n d A U H) (hq : ∀ a : Nat, a < H.size → ¬ A a → H1[a]? = H[a]?) : vx_L C n d A U H1 := by
  obtain ⟨c, k, i, f, a, cell, h1, h2, h3, h4, h5, h6, h7, h8, h9, h10⟩ := h
  exact ⟨c, k, i, f, a, cell, h1, h2, h3, h4, by rw [hq a (Array.getElem?_eq_some_iff.mp h5).1 h10]; exact h5, h6, h7, h8, h9, h10⟩
theorem vx_L.narrow {C n d : String} {A B : Nat → Prop} {U : State} {H : Heap} (h : vx_L C n d A U H) (hAB : ∀ q, B q → A q) : vx_L C n d B U H := by
  obtain ⟨c, k, i, f, a, cell, h1, h2, h3, h4, h5, h6, h7, h8, h9, h10⟩ := h
  exact ⟨c, k, i, f, a, cell, h1, h2, h3, h4, h5, h6, h7, h8, h9, fun z => h10 (hAB _ z)⟩
theorem vx_L.word {C n d : String} {A : Nat → Prop} {s : State} {args : Array Value} (h : vx_L C n d A s s.heap) : (Cond.laysStatic C n d).before args s = true := by
  obtain ⟨c, k, i, f, a, cell, h1, h2, h3, h4, h5, h6, h7, h8, h9, -⟩ := h
  show (Cond.laysStatic C n d).holds args s none s [] = true
  exact Cond.laysStatic_of h1 h2 h3 h4 h5 h6 h7 h8 h9
/-- .. and what it holds: null or some reference -/
def vx_Zq (C n d : String) (A : Nat → Prop) (U : State) (H : Heap) : Prop := va_Zq C n d A U H ∧ vx_L C n d A U H
theorem vx_Zq.moved {C n d : String} {A : Nat → Prop} {u U : State} {H : Heap} (hvm : u.vm.Alike U.vm) (h : vx_Zq C n d A u H) : vx_Zq C n d A U H := ⟨va_Zq.moved hvm h.1, vx_L.moved hvm h.2⟩
theorem vx_Zq.kept {C n d : String} {A : Nat → Prop} {U : State} {H H1 : Heap} (h : vx_Zq C n d A U H) (hq : ∀ a : Nat, a < H.size → ¬ A a → H1[a]? = H[a]?) : vx_Zq C n d A U H1 := ⟨va_Zq.kept h.1 hq, vx_L.kept h.2 hq⟩
theorem vx_Zq.narrow {C n d : String} {A B : Nat → Prop} {U : State} {H : Heap} (h : vx_Zq C n d A U H) (hAB : ∀ q, B q → A q) : vx_Zq C n d B U H := ⟨va_Zq.narrow h.1 hAB, vx_L.narrow h.2 hAB⟩
theorem vx_Zqof {args : Array Value} {s : State} {C n d : String} {A : Nat → Prop} (hl : (Cond.laysStatic C n d).before args s = true) (hini : (Cond.initialized C).before args s = true) (h : (Cond.isRef (.static C n d)).before args s = true) (hA : ∀ a : Nat, a < s.heap.size → ¬ A a) : vx_Zq C n d A s s.heap := by
  refine ⟨va_Zqof hl hini h hA, ?_⟩
  obtain ⟨c, k, i, f, a, cell, h1, h2, h3, h4, h5, h6, h7, h8, h9⟩ := Cond.laysStatic_spec hl
  exact ⟨c, k, i, f, a, cell, h1, h2, h3, h4, h5, h6, h7, h8, h9, hA a (Array.getElem?_eq_some_iff.mp h5).1⟩
theorem vx_isRef {C n d : String} {v : Value} {A : Nat → Prop} {s : State} {args : Array Value} (h : va_Z C n d v A s s.heap) (hv : v.isRef = true) : (Cond.isRef (.static C n d)).before args s = true := by
  obtain ⟨cf, kf, fi, f, a, cell, h1, h2, h3, h4, h5, h6, h7, -⟩ := h
  have he : (Term.static C n d).eval args s none [] s = some v := by
    simp [Term.eval, State.fieldNamed?, h1, h2, h4, h5, h6, h7]
  simp only [Cond.before, Cond.holds, Cond.value, he]
  cases v <;> simp_all [Value.isRef]
theorem vx_isRefq {C n d : String} {A : Nat → Prop} {s : State} {args : Array Value} (h : va_Zq C n d A s s.heap) : (Cond.isRef (.static C n d)).before args s = true := by
  rcases h with h | ⟨t, h⟩
  · exact vx_isRef h rfl
  · exact vx_isRef h rfl
/-- the same frame, seen from here: as if the method were called anew in this heap -/
theorem vx_rebase {T : State} (X : Stand p l e R s m args below meth c T locs cells slots) {R' : Room} (hf : R'.frames ≤ R.frames) (hl : R'.locals ≤ R.locals) (hc : cells + R'.cells ≤ R.cells) (hs : slots + R'.slots ≤ R.slots) :
    Stand p l e R' ((T.setVm s.vm).setFrames (.invoking m args :: below)) m args below meth c T [] 0 0 := by
  have htop : (T.setVm s.vm).topJava?.isSome := X.here.top
  have hF : ((T.setVm s.vm).setFrames (.invoking m args :: below)).frames = .invoking m args :: below := State.frames_setFrames _ (State.cur_lt_of_top htop)
  obtain ⟨g₀, hg0⟩ := Option.isSome_iff_exists.mp htop
  obtain ⟨r, hr⟩ := State.topJava?_eq_some.mp hg0
  have hl9 : e.platform.stackLimits (T.setVm s.vm).me = e.platform.stackLimits s.me := X.limits
  have hb9 : (T.setVm s.vm).me.stackBytes = s.me.stackBytes := X.bytes
  refine ⟨X.admits, X.cas, X.clock, hF, ?_, X.hears, X.method, X.code, X.here, X.tail, X.warmed, ?_, ?_, ?_⟩
  · have h := X.room
    have hU : ((T.setVm s.vm).setFrames (.invoking m args :: below)).localsInUse = s.localsInUse := by
      rw [State.localsInUse_invoking hF (meth := meth) (c := c) X.method X.code, State.localsInUse_invoking X.frames X.method X.code]
    simp only [State.hasRoom, Bool.and_eq_true, decide_eq_true_eq] at h ⊢
    obtain ⟨⟨⟨⟨h1, h2, h3, h4, h5, h6⟩, h7⟩, h8⟩, h9⟩ := h
    rw [X.frames, List.length_cons] at h2 h3
    have q1 := X.heapSize
    have q2 := X.used
    simp only [hF, hU, List.length_cons, State.stackLimits_setFrames, State.stackBytes_setFrames, hl9, hb9]
    refine ⟨⟨⟨⟨by omega, by omega, by omega, by omega, by omega, h6⟩, ?_⟩, ?_⟩, X.book⟩
    · show T.heap.size + R'.cells ≤ e.platform.maxCells
      omega
    · show T.slotsUsed + R'.slots ≤ e.platform.maxSlots
      omega
  · rw [State.stackLimits_setFrames]; rfl
  · rw [State.stackBytes_setFrames]; rfl
  · refine ⟨?_, Nat.le_refl _, Nat.le_refl _, ?_, ?_, fun a c9 h9 => ⟨c9, h9, rfl, rfl, fun _ _ => rfl⟩⟩
    · obtain ⟨t, ht, -⟩ := State.frames_cons hr
      show T.setVm s.vm = { ((T.setVm s.vm).setFrames (.invoking m args :: below)).setFrames (T.setVm s.vm).frames with heap := T.heap, slotsUsed := T.slotsUsed }
      rw [State.setFrames_setFrames, State.setFrames_self ht]
      rfl
    · show T.slotsUsed = T.slotsUsed + ((T.heap.toList.drop T.heap.size).map (·.slots.size)).sum
      rw [List.drop_eq_nil_of_le (Nat.le_of_eq Array.length_toList)]
      rfl
    · show ((T.heap.toList.drop T.heap.size).map (·.slots.size)).sum ≤ 0
      rw [List.drop_eq_nil_of_le (Nat.le_of_eq Array.length_toList)]
      exact Nat.le_refl _
/-- 'throw new E()': new; dup; invokespecial; athrow -/
theorem vx_throw0 {cc : ByteArray} {pc : Nat} (hexec : p.tables.exec = Jvm.exec) (hb : c.code = cc) (hl : l.stackTraces = false) {own cls : String} {names : List String} {ik ic mc ms : Nat} {A : Nat → Prop}
    (hown : s.vm.findClass own = some m.cls) (hcls : Bundle.fit cls = true) (hnames : ∀ n ∈ names, Bundle.fit n = true)
    (hk : (Cond.classLink own ik cls).before args s = true) (hini : (Cond.initialized cls).before args s = true) (hat : ∀ w ∈ vx_at0 own ic cls names, w.before args s = true)
    (hgood : ∀ w ∈ Cond.classLink own ik cls :: Cond.initialized cls :: vx_at0 own ic cls names, vx_ot w = true)
    (hU : vx_Zq Bundle.tN "UNASSIGNED_STACK" Bundle.steD A s s.heap) (hN : vx_Zq Bundle.tN "SUPPRESSED_SENTINEL" Bundle.listD A s s.heap) (hS : va_S A s.heap H locs) (hsize : ls.size = c.maxLocals)
    (d0 : decode cc pc = .ok (.new ik, 3)) (d3 : decode cc (pc + 3) = .ok (.dup, 1)) (d4 : decode cc (pc + 4) = .ok (.invokespecial ic, 3)) (d7 : decode cc (pc + 7) = .ok (.athrow, 1))
    (hout : ∀ x ∈ c.exceptionTable.toList, covers x (pc + 7) = false)
    (hRframes : names.length + 3 < R.frames) (hRlocals : (rest.map fun v => v.category).sum + (13 * (names.length + 1) + 42) ≤ R.locals) (hRcells : cells + 1 ≤ R.cells) (hRslots : slots + 6 ≤ R.slots) (hlocks : meth.locks = false)
    (hx : ∀ t : State, s.vm.Alike t.vm → H.size ≤ t.heap.size → (∀ q : Nat, q < H.size → t.heap[q]? = H[q]?) → XC cls s t)
    (hf : ∀ z ∈ locs, free z.base) (hc : cells + 1 ≤ mc) (hs : slots + 6 ≤ ms) :
    W p l e R s m args below meth c H locs cells slots (vx_MQ below Qc XC args s mc ms free) (F0 m pc ls rest) := by
  intro T hT X
  have htr : e.platform.stackTraces = false := (show e.platform.stackTraces = l.stackTraces by rw [X.admits.platform]).trans hl
  have Y := vx_rebase X (R' := { frames := R.frames, locals := R.locals, cells := 1, slots := 6 }) (Nat.le_refl _) (Nat.le_refl _) hRcells hRslots
  obtain ⟨s', hA⟩ : ∃ z, z = (T.setVm s.vm).setFrames (.invoking m args :: below) := ⟨_, rfl⟩
  rw [← hA] at Y
  have hvm : s'.vm = s.vm := by rw [hA]; rfl
  have hhp : s'.heap = H := by rw [hA]; exact hT
  have hW0 : s.WarmedH s'.vm := by rw [hvm]; exact State.WarmedH.refl s
  have hat' : ∀ w ∈ vx_at0 own ic cls names, w.before args s' = true := fun w hw => vx_ot_at hW0 hvm.symm (hgood w (List.mem_cons_of_mem _ (List.mem_cons_of_mem _ hw))) (hat w hw)
  have hk' : (Cond.classLink own ik cls).before args s' = true := vx_ot_at hW0 hvm.symm (hgood _ List.mem_cons_self) hk
  have hini' : (Cond.initialized cls).before args s' = true := vx_ot_at hW0 hvm.symm (hgood _ (List.mem_cons_of_mem _ List.mem_cons_self)) hini
  have hU' : vx_Zq Bundle.tN "UNASSIGNED_STACK" Bundle.steD A s' s'.heap := by rw [hhp]; exact vx_Zq.moved hW0.alike (hU.kept hS.2.1)
  have hN' : vx_Zq Bundle.tN "SUPPRESSED_SENTINEL" Bundle.listD A s' s'.heap := by rw [hhp]; exact vx_Zq.moved hW0.alike (hN.kept hS.2.1)
  have h : ∀ w ∈ Bundle.ownAtoms0 own ic cls names, w.before args s' = true := vx_own hat' (vx_isRefq hU'.1) (vx_isRefq hN'.1) hU'.2.word hN'.2.word
  have hown' : s'.vm.findClass own = some m.cls := by rw [hvm]; exact hown
  have hins : (Cond.instantiable cls 6).before args s' = true := h _ (by simp [Bundle.ownAtoms0])
  obtain ⟨vm₁, cX, kX, hfX, hkX, -, -, X₁, st1⟩ := Y.newCold hexec (own := own) (C := cls) (index := ik) (n := 6) hown' hk' hins hini'
    (g := F0 m pc ls rest) rfl (by rw [hb]; exact d0) (Nat.le_refl _) (Nat.le_refl _)
  generalize hT1 : (T.setVm vm₁).pushCell { cls := cX, slots := kX.instanceTypes.map defaultValue, vm := .none } = T1 at X₁ st1
  have hcat : (Value.ref T.heap.size).category = 1 := rfl
  have hcellA : T1.heap[T.heap.size]? = some (freshCell cX kX) := by rw [← hT1]; exact State.heap_pushCell_size _ _
  have d3' : decode c.code (pc + 3) = .ok (.dup, 1) := by rw [hb]; exact d3
  obtain ⟨U, hsteps, hrun, hend, hW, hsame, ce, hce, hO⟩ := X₁.ctorThrow0 hexec htr (own := own) (cls := cls) (names := names) (ic := ic) hown' hcls hnames h (fun x hx => nomatch hx) hfX hkX hcellA (by rw [hhp, hT]; exact Nat.le_refl _)
    (g := { method := m, pc := pc + 4, locals := ls, stack := .ref T.heap.size :: .ref T.heap.size :: rest, locked := none }) rfl hsize rfl rfl (rest := rest) rfl
    (by rw [hb]; exact d4) (by rw [hb]; exact d7) hout hRframes (by simp only [List.map_cons, List.sum_cons, hcat]; omega) hlocks
  obtain ⟨f1, f2⟩ := vx_frame hsame
  rw [hhp] at f1 f2
  have hWs : s.WarmedH U.vm := State.WarmedH.trans hW0 hW
  have hcl : s.vm.findClass cls = some ce.cls := by
    have h9 := hO.cls
    rw [hvm] at h9
    exact h9
  have hall : s.sameButNew ({ U with vm := s.vm } : State) locs mc ms := by
    subst hA
    obtain ⟨e1, e2⟩ := hsame
    rw [State.setFrames_setFrames] at e1
    have h2 : (T.setVm s.vm).sameButNew ({ U with vm := s.vm } : State) [] (0 + 1) (0 + 6) := ⟨e1, e2⟩
    have h3 := X.same.trans h2
    rw [List.append_nil] at h3
    exact h3.mono hc hs
  refine ⟨U, ?_, .threw T.heap.size, hrun, hend, Or.inr ⟨T.heap.size, rfl, cls, ce, locs, hx U hWs.alike f1 (fun q hq => f2 q hq (fun z hz => nomatch hz)), hce, hO.vm, hcl, hWs, hall, hf⟩⟩
  refine st1 _ ?_
  show Steps p.tables e below (T1.setTop { method := m, pc := pc + 3, locals := ls, stack := .ref T.heap.size :: rest, locked := none }) _
  jvm_step X₁.here [X₁.here.top, hexec, d3', Value.category]
  exact hsteps
/-- 'throw new E("text")': new; dup; ldc; invokespecial; athrow -/
theorem vx_throwS {cc : ByteArray} {pc : Nat} (hexec : p.tables.exec = Jvm.exec) (hb : c.code = cc) (hl : l.stackTraces = false) {own cls text : String} {names : List String} {ik is ic mc ms sa : Nat} {A : Nat → Prop}
    (hown : s.vm.findClass own = some m.cls) (hcls : Bundle.fit cls = true) (hnames : ∀ n ∈ names, Bundle.fit n = true)
    (hk : (Cond.classLink own ik cls).before args s = true) (hini : (Cond.initialized cls).before args s = true) (hstr : vk_R own is text sa s) (hat : ∀ w ∈ vx_atS own ic cls names, w.before args s = true)
    (hgood : ∀ w ∈ Cond.classLink own ik cls :: Cond.initialized cls :: vx_atS own ic cls names, vx_ot w = true)
    (hU : vx_Zq Bundle.tN "UNASSIGNED_STACK" Bundle.steD A s s.heap) (hN : vx_Zq Bundle.tN "SUPPRESSED_SENTINEL" Bundle.listD A s s.heap) (hS : va_S A s.heap H locs) (hsize : ls.size = c.maxLocals)
    (d0 : decode cc pc = .ok (.new ik, 3)) (d3 : decode cc (pc + 3) = .ok (.dup, 1)) (d4 : decode cc (pc + 4) = .ok (.ldc is, 2)) (d6 : decode cc (pc + 6) = .ok (.invokespecial ic, 3)) (d9 : decode cc (pc + 9) = .ok (.athrow, 1))
    (hout : ∀ x ∈ c.exceptionTable.toList, covers x (pc + 9) = false)
    (hRframes : names.length + 3 < R.frames) (hRlocals : (rest.map fun v => v.category).sum + (13 * (names.length + 1) + 43) ≤ R.locals) (hRcells : cells + 1 ≤ R.cells) (hRslots : slots + 6 ≤ R.slots) (hlocks : meth.locks = false)
    (hx : ∀ t : State, s.vm.Alike t.vm → H.size ≤ t.heap.size → (∀ q : Nat, q < H.size → t.heap[q]? = H[q]?) → XC cls s t)
    (hf : ∀ z ∈ locs, free z.base) (hc : cells + 1 ≤ mc) (hs : slots + 6 ≤ ms) :
    W p l e R s m args below meth c H locs cells slots (vx_MQ below Qc XC args s mc ms free) (F0 m pc ls rest) := by
  intro T hT X
  have htr : e.platform.stackTraces = false := (show e.platform.stackTraces = l.stackTraces by rw [X.admits.platform]).trans hl
  have Y := vx_rebase X (R' := { frames := R.frames, locals := R.locals, cells := 1, slots := 6 }) (Nat.le_refl _) (Nat.le_refl _) hRcells hRslots
  obtain ⟨s', hA⟩ : ∃ z, z = (T.setVm s.vm).setFrames (.invoking m args :: below) := ⟨_, rfl⟩
  rw [← hA] at Y
  have hvm : s'.vm = s.vm := by rw [hA]; rfl
  have hhp : s'.heap = H := by rw [hA]; exact hT
  have hW0 : s.WarmedH s'.vm := by rw [hvm]; exact State.WarmedH.refl s
  have hat' : ∀ w ∈ vx_atS own ic cls names, w.before args s' = true := fun w hw => vx_ot_at hW0 hvm.symm (hgood w (List.mem_cons_of_mem _ (List.mem_cons_of_mem _ hw))) (hat w hw)
  have hk' : (Cond.classLink own ik cls).before args s' = true := vx_ot_at hW0 hvm.symm (hgood _ List.mem_cons_self) hk
  have hini' : (Cond.initialized cls).before args s' = true := vx_ot_at hW0 hvm.symm (hgood _ (List.mem_cons_of_mem _ List.mem_cons_self)) hini
  have hU' : vx_Zq Bundle.tN "UNASSIGNED_STACK" Bundle.steD A s' s'.heap := by rw [hhp]; exact vx_Zq.moved hW0.alike (hU.kept hS.2.1)
  have hN' : vx_Zq Bundle.tN "SUPPRESSED_SENTINEL" Bundle.listD A s' s'.heap := by rw [hhp]; exact vx_Zq.moved hW0.alike (hN.kept hS.2.1)
  have h : ∀ w ∈ Bundle.ownAtoms own ic cls names, w.before args s' = true := vx_own hat' (vx_isRefq hU'.1) (vx_isRefq hN'.1) hU'.2.word hN'.2.word
  have hown' : s'.vm.findClass own = some m.cls := by rw [hvm]; exact hown
  have hins : (Cond.instantiable cls 6).before args s' = true := h _ (by simp [Bundle.ownAtoms])
  obtain ⟨vm₁, cX, kX, hfX, hkX, -, -, X₁, st1⟩ := Y.newCold hexec (own := own) (C := cls) (index := ik) (n := 6) hown' hk' hins hini'
    (g := F0 m pc ls rest) rfl (by rw [hb]; exact d0) (Nat.le_refl _) (Nat.le_refl _)
  generalize hT1 : (T.setVm vm₁).pushCell { cls := cX, slots := kX.instanceTypes.map defaultValue, vm := .none } = T1 at X₁ st1
  have hcat : (Value.ref T.heap.size).category = 1 := rfl
  have hcellA : T1.heap[T.heap.size]? = some (freshCell cX kX) := by rw [← hT1]; exact State.heap_pushCell_size _ _
  have d3' : decode c.code (pc + 3) = .ok (.dup, 1) := by rw [hb]; exact d3
  have d4' : decode c.code (pc + 4) = .ok (.ldc is, 2) := by rw [hb]; exact d4
  have hstr' : vk_R own is text sa s' := vk_R.warm hW0 hstr
  obtain ⟨U, hsteps, hrun, hend, hW, hsame, ce, hce, hO⟩ := X₁.ctorThrowS hexec htr (own := own) (cls := cls) (names := names) (ic := ic) hown' hcls hnames h (fun x hx => nomatch hx) hfX hkX hcellA (by rw [hhp, hT]; exact Nat.le_refl _) (msg := .ref sa) rfl
    (g := { method := m, pc := pc + 6, locals := ls, stack := .ref sa :: .ref T.heap.size :: .ref T.heap.size :: rest, locked := none }) rfl hsize rfl rfl (rest := rest) rfl
    (by rw [hb]; exact d6) (by rw [hb]; exact d9) hout hRframes (by simp only [List.map_cons, List.sum_cons, hcat]; omega) hlocks
  obtain ⟨f1, f2⟩ := vx_frame hsame
  rw [hhp] at f1 f2
  have hWs : s.WarmedH U.vm := State.WarmedH.trans hW0 hW
  have hcl : s.vm.findClass cls = some ce.cls := by
    have h9 := hO.cls
    rw [hvm] at h9
    exact h9
  have hall : s.sameButNew ({ U with vm := s.vm } : State) locs mc ms := by
    subst hA
    obtain ⟨e1, e2⟩ := hsame
    rw [State.setFrames_setFrames] at e1
    have h2 : (T.setVm s.vm).sameButNew ({ U with vm := s.vm } : State) [] (0 + 1) (0 + 6) := ⟨e1, e2⟩
    have h3 := X.same.trans h2
    rw [List.append_nil] at h3
    exact h3.mono hc hs
  refine ⟨U, ?_, .threw T.heap.size, hrun, hend, Or.inr ⟨T.heap.size, rfl, cls, ce, locs, hx U hWs.alike f1 (fun q hq => f2 q hq (fun z hz => nomatch hz)), hce, hO.vm, hcl, hWs, hall, hf⟩⟩
  refine st1 _ ?_
  show Steps p.tables e below (T1.setTop { method := m, pc := pc + 3, locals := ls, stack := .ref T.heap.size :: rest, locked := none }) _
  jvm_step X₁.here [X₁.here.top, hexec, d3', Value.category]
  exact X₁.ldcString hexec (own := own) (text := text) (index := is) (a := sa) hown' hstr'.1 hstr'.2
    (g := { method := m, pc := pc + 4, locals := ls, stack := .ref T.heap.size :: .ref T.heap.size :: rest, locked := none }) rfl d4' _ hsteps
/-- 'throw new E("text")', the text by a wide index -/
theorem vx_throwSW {cc : ByteArray} {pc : Nat} (hexec : p.tables.exec = Jvm.exec) (hb : c.code = cc) (hl : l.stackTraces = false) {own cls text : String} {names : List String} {ik is ic mc ms sa : Nat} {A : Nat → Prop}
    (hown : s.vm.findClass own = some m.cls) (hcls : Bundle.fit cls = true) (hnames : ∀ n ∈ names, Bundle.fit n = true)
    (hk : (Cond.classLink own ik cls).before args s = true) (hini : (Cond.initialized cls).before args s = true) (hstr : vk_R own is text sa s) (hat : ∀ w ∈ vx_atS own ic cls names, w.before args s = true)
    (hgood : ∀ w ∈ Cond.classLink own ik cls :: Cond.initialized cls :: vx_atS own ic cls names, vx_ot w = true)
    (hU : vx_Zq Bundle.tN "UNASSIGNED_STACK" Bundle.steD A s s.heap) (hN : vx_Zq Bundle.tN "SUPPRESSED_SENTINEL" Bundle.listD A s s.heap) (hS : va_S A s.heap H locs) (hsize : ls.size = c.maxLocals)
    (d0 : decode cc pc = .ok (.new ik, 3)) (d3 : decode cc (pc + 3) = .ok (.dup, 1)) (d4 : decode cc (pc + 4) = .ok (.ldc_w is, 3)) (d7 : decode cc (pc + 7) = .ok (.invokespecial ic, 3)) (d10 : decode cc (pc + 10) = .ok (.athrow, 1))
    (hout : ∀ x ∈ c.exceptionTable.toList, covers x (pc + 10) = false)
    (hRframes : names.length + 3 < R.frames) (hRlocals : (rest.map fun v => v.category).sum + (13 * (names.length + 1) + 43) ≤ R.locals) (hRcells : cells + 1 ≤ R.cells) (hRslots : slots + 6 ≤ R.slots) (hlocks : meth.locks = false)
    (hx : ∀ t : State, s.vm.Alike t.vm → H.size ≤ t.heap.size → (∀ q : Nat, q < H.size → t.heap[q]? = H[q]?) → XC cls s t)
    (hf : ∀ z ∈ locs, free z.base) (hc : cells + 1 ≤ mc) (hs : slots + 6 ≤ ms) :
    W p l e R s m args below meth c H locs cells slots (vx_MQ below Qc XC args s mc ms free) (F0 m pc ls rest) := by
  intro T hT X
  have htr : e.platform.stackTraces = false := (show e.platform.stackTraces = l.stackTraces by rw [X.admits.platform]).trans hl
  have Y := vx_rebase X (R' := { frames := R.frames, locals := R.locals, cells := 1, slots := 6 }) (Nat.le_refl _) (Nat.le_refl _) hRcells hRslots
  obtain ⟨s', hA⟩ : ∃ z, z = (T.setVm s.vm).setFrames (.invoking m args :: below) := ⟨_, rfl⟩
  rw [← hA] at Y
  have hvm : s'.vm = s.vm := by rw [hA]; rfl
  have hhp : s'.heap = H := by rw [hA]; exact hT
  have hW0 : s.WarmedH s'.vm := by rw [hvm]; exact State.WarmedH.refl s
  have hat' : ∀ w ∈ vx_atS own ic cls names, w.before args s' = true := fun w hw => vx_ot_at hW0 hvm.symm (hgood w (List.mem_cons_of_mem _ (List.mem_cons_of_mem _ hw))) (hat w hw)
  have hk' : (Cond.classLink own ik cls).before args s' = true := vx_ot_at hW0 hvm.symm (hgood _ List.mem_cons_self) hk
  have hini' : (Cond.initialized cls).before args s' = true := vx_ot_at hW0 hvm.symm (hgood _ (List.mem_cons_of_mem _ List.mem_cons_self)) hini
  have hU' : vx_Zq Bundle.tN "UNASSIGNED_STACK" Bundle.steD A s' s'.heap := by rw [hhp]; exact vx_Zq.moved hW0.alike (hU.kept hS.2.1)
  have hN' : vx_Zq Bundle.tN "SUPPRESSED_SENTINEL" Bundle.listD A s' s'.heap := by rw [hhp]; exact vx_Zq.moved hW0.alike (hN.kept hS.2.1)
  have h : ∀ w ∈ Bundle.ownAtoms own ic cls names, w.before args s' = true := vx_own hat' (vx_isRefq hU'.1) (vx_isRefq hN'.1) hU'.2.word hN'.2.word
  have hown' : s'.vm.findClass own = some m.cls := by rw [hvm]; exact hown
  have hins : (Cond.instantiable cls 6).before args s' = true := h _ (by simp [Bundle.ownAtoms])
  obtain ⟨vm₁, cX, kX, hfX, hkX, -, -, X₁, st1⟩ := Y.newCold hexec (own := own) (C := cls) (index := ik) (n := 6) hown' hk' hins hini'
    (g := F0 m pc ls rest) rfl (by rw [hb]; exact d0) (Nat.le_refl _) (Nat.le_refl _)
  generalize hT1 : (T.setVm vm₁).pushCell { cls := cX, slots := kX.instanceTypes.map defaultValue, vm := .none } = T1 at X₁ st1
  have hcat : (Value.ref T.heap.size).category = 1 := rfl
  have hcellA : T1.heap[T.heap.size]? = some (freshCell cX kX) := by rw [← hT1]; exact State.heap_pushCell_size _ _
  have d3' : decode c.code (pc + 3) = .ok (.dup, 1) := by rw [hb]; exact d3
  have d4' : decode c.code (pc + 4) = .ok (.ldc_w is, 3) := by rw [hb]; exact d4
  have hstr' : vk_R own is text sa s' := vk_R.warm hW0 hstr
  obtain ⟨U, hsteps, hrun, hend, hW, hsame, ce, hce, hO⟩ := X₁.ctorThrowS hexec htr (own := own) (cls := cls) (names := names) (ic := ic) hown' hcls hnames h (fun x hx => nomatch hx) hfX hkX hcellA (by rw [hhp, hT]; exact Nat.le_refl _) (msg := .ref sa) rfl
    (g := { method := m, pc := pc + 7, locals := ls, stack := .ref sa :: .ref T.heap.size :: .ref T.heap.size :: rest, locked := none }) rfl hsize rfl rfl (rest := rest) rfl
    (by rw [hb]; exact d7) (by rw [hb]; exact d10) hout hRframes (by simp only [List.map_cons, List.sum_cons, hcat]; omega) hlocks
  obtain ⟨f1, f2⟩ := vx_frame hsame
  rw [hhp] at f1 f2
  have hWs : s.WarmedH U.vm := State.WarmedH.trans hW0 hW
  have hcl : s.vm.findClass cls = some ce.cls := by
    have h9 := hO.cls
    rw [hvm] at h9
    exact h9
  have hall : s.sameButNew ({ U with vm := s.vm } : State) locs mc ms := by
    subst hA
    obtain ⟨e1, e2⟩ := hsame
    rw [State.setFrames_setFrames] at e1
    have h2 : (T.setVm s.vm).sameButNew ({ U with vm := s.vm } : State) [] (0 + 1) (0 + 6) := ⟨e1, e2⟩
    have h3 := X.same.trans h2
    rw [List.append_nil] at h3
    exact h3.mono hc hs
  refine ⟨U, ?_, .threw T.heap.size, hrun, hend, Or.inr ⟨T.heap.size, rfl, cls, ce, locs, hx U hWs.alike f1 (fun q hq => f2 q hq (fun z hz => nomatch hz)), hce, hO.vm, hcl, hWs, hall, hf⟩⟩
  refine st1 _ ?_
  show Steps p.tables e below (T1.setTop { method := m, pc := pc + 3, locals := ls, stack := .ref T.heap.size :: rest, locked := none }) _
  jvm_step X₁.here [X₁.here.top, hexec, d3', Value.category]
  exact X₁.ldcStringW hexec (own := own) (text := text) (index := is) (a := sa) hown' hstr'.1 hstr'.2
    (g := { method := m, pc := pc + 4, locals := ls, stack := .ref T.heap.size :: .ref T.heap.size :: rest, locked := none }) rfl d4' _ hsteps
end Ends
section Bodies
variable {l : Launch}
theorem vx_ofW {y : MethodName} {ws ws' : List Cond} {rm : Room} {Pc : Array Value → State → Prop} {Qc : Array Value → State → Outcome → State → Prop} {XC : String → State → State → Prop} {mc ms : Nat} {free : Addr → Prop} {cc : ByteArray} {maxL : Nat} {ret : Option FieldType}
    (hy : plainName y.cls = true) (hw : ws = Cond.code y cc maxL ret :: ws')
    (body : ∀ p e s m args below meth c s₁, BodyLoose p l y (headSpec ws rm) cc maxL ret e s m args below meth c s₁ → c.maxLocals = maxL → (∀ x ∈ c.exceptionTable.toList, False) → Pc args s →
      W p l e (headSpec ws rm).room s m args below meth c s.heap [] 0 0 (vx_MQ below Qc XC args s mc ms free) (entryFrame m args maxL)) : vx_Met l y ws rm Pc Qc XC mc ms free := by
  refine MetFree.of_bodyS (code := cc) (maxLocals := maxL) (ret := ret) hy ?_ ?_
  · intro args s m h hn
    obtain ⟨meth, c, h1, h2, h3, h4, h5, h6, -, -⟩ := Cond.code_spec hn (atoms_spec (ws := ws) h _ (by rw [hw]; exact List.mem_cons_self))
    exact ⟨meth, c, h1, h2, h3, h4, h5, h6⟩
  · intro p e s m args below meth c s₁ B hml hP _
    have hh0 : s₁.heap = s.heap := by rw [B.state]; rfl
    have ht : ∀ x ∈ c.exceptionTable.toList, False := by
      obtain ⟨meth9, c9, h1, h2, -, -, -, -, h7, -⟩ := Cond.code_spec B.named (atoms_spec (ws := ws) B.pre _ (by rw [hw]; exact List.mem_cons_self))
      cases Option.some.inj (h1.symm.trans B.method)
      cases Option.some.inj (h2.symm.trans (Stand.of_body B).code)
      intro x hx
      rw [Array.isEmpty_iff.mp h7] at hx
      cases hx
    obtain ⟨t, a1, o, b1, b2, b3⟩ := body p e s m args below meth c s₁ B hml ht hP s₁ hh0 (Stand.of_body B)
    exact ⟨t, o, a1, b1, b2, b3⟩
/-- the table of a body with handlers -/
theorem vx_table {p : Program} {x y : MethodName} {S : Spec} {cc bytes : ByteArray} {maxL maxL' : Nat} {ret ret' : Option FieldType} {e : Env} {s s₁ : State} {m : MethodId} {args : Array Value} {below : List Frame} {meth : Method} {c : Code} {hh : List (Nat × Nat × Nat × Nat)}
    (B : BodyLoose p l y S cc maxL ret e s m args below meth c s₁) (h : (Cond.codeWith y bytes maxL' ret' hh).before args s = true) : c.exceptionTable.toList = tableOf hh := by
  obtain ⟨m9, meth9, c9, hn9, h1, h2, -, -, h6, -⟩ := Cond.codeWith_spec h
  cases Option.some.inj (hn9.symm.trans B.named)
  cases Option.some.inj (h1.symm.trans B.method)
  cases Option.some.inj (h2.symm.trans (Stand.of_body B).code)
  rw [← h6, table_eq]
end Bodies
end VXA
/-! ===== END ===== -/
/-! ===== BEGIN a static call of a method with an exception table ===== -/
section VXS
variable {p : Program} {l : Launch} {e : Env} {R : Room} {s : State} {m : MethodId} {args : Array Value} {below : List Frame} {meth : Method} {c : Code} {T : State} {H : Heap} {locs : List Loc} {cells slots : Nat}
abbrev vx_CSW (R : Room) (s : State) (args : Array Value) (own : String) (index : Nat) (y : MethodName) (bytes : ByteArray) (maxL : Nat) (ret : Option FieldType) (hh : List (Nat × Nat × Nat × Nat)) (ws : List Cond) (rm : Room) (mc ms n : Nat) : Prop :=
  (rm.cells = mc ∧ rm.slots = ms ∧ rm.frames + 1 ≤ R.frames ∧ 8 + (maxL + 11) + rm.locals ≤ R.locals ∧ (∀ w ∈ ws, ∀ (a' : Array Value) (U : State), s.WarmedH U.vm → w.before a' U = true) ∧ Cond.codeWith y bytes maxL ret hh ∈ ws) ∧
  (Cond.codeWith y bytes maxL ret hh).before args s = true ∧ (Cond.initialized y.cls).before args s = true ∧ (y.cls ≠ "java/lang/invoke/MethodHandle" ∧ y.cls ≠ "java/lang/invoke/VarHandle") ∧
  (∀ sig, parseMethodDescriptor y.desc = some sig → n = sig.parameters.length) ∧ (Cond.methodLink own index y).before args s = true ∧ (Cond.static y).before args s = true
theorem vx_cwSW {own : String} {index maxL mc ms : Nat} {y : MethodName} {bytes : ByteArray} {ret : Option FieldType} {hh : List (Nat × Nat × Nat × Nat)} {Ts ws ws' : List Cond} {rm : Room} (n : Nat) (ht : ∀ w ∈ Ts, w.before args s = true) (hT : GoodIn Ts (va_wsS own index y ws)) (hw : ws = Cond.codeWith y bytes maxL ret hh :: ws') (hrc : rm.cells = mc) (hrs : rm.slots = ms)
    (hd : y.cls ≠ "java/lang/invoke/MethodHandle" ∧ y.cls ≠ "java/lang/invoke/VarHandle" ∧ (parseMethodDescriptor y.desc).map (fun d => d.parameters.length) = some n) (hR : rm.frames + 1 ≤ R.frames ∧ 8 + (maxL + 11) + rm.locals ≤ R.locals) :
    vx_CSW R s args own index y bytes maxL ret hh ws rm mc ms n := by
  have ok : ∀ w ∈ va_wsS own index y ws, w.before args s = true := fun w h => ht w (hT w h).1
  have hG : GoodIn Ts ws := fun w h => hT w (by unfold va_wsS; exact List.mem_append_right _ h)
  have hc : Cond.codeWith y bytes maxL ret hh ∈ ws := by rw [hw]; exact List.mem_cons_self
  refine ⟨⟨hrc, hrs, hR.1, hR.2, pay_in ht hG, hc⟩, ht _ (hG _ hc).1, ok _ (by simp [va_wsS]), ⟨hd.1, hd.2.1⟩, fun sig h => ?_, ok _ (by simp [va_wsS]), ok _ (by simp [va_wsS])⟩
  have h2 := hd.2.2
  rw [h] at h2
  exact (Option.some.inj h2).symm
theorem vx_callSW (X : Stand p l e R s m args below meth c T locs cells slots) (hexec : p.tables.exec = Jvm.exec) {own : String} {index : Nat} {y : MethodName} {bytes : ByteArray} {maxL : Nat} {ret : Option FieldType} {hh : List (Nat × Nat × Nat × Nat)}
    (hown : s.vm.findClass own = some m.cls) (hlink : (Cond.methodLink own index y).before args s = true) (hstat : (Cond.static y).before args s = true) (hinit : (Cond.initialized y.cls).before args s = true)
    (hcode : (Cond.codeWith y bytes maxL ret hh).before args s = true) (hy : y.cls ≠ "java/lang/invoke/MethodHandle" ∧ y.cls ≠ "java/lang/invoke/VarHandle")
    {W9 : Nat} {Pre : Pt → Array Value → Prop} {Post : Pt → Array Value → Option Value → Pt → Prop} (hK : Back l R p e below s args y 3 W9 Pre Post)
    {g : JFrame} (hg : g.method = m) (hsize : g.locals.size = c.maxLocals) {argsL rest : List Value} (hlen : ∀ sig, parseMethodDescriptor y.desc = some sig → argsL.length = sig.parameters.length)
    (hstack : g.stack = argsL.reverse ++ rest) (hW : 2 * g.monitorRoom + (rest.map fun v => v.category).sum ≤ W9) (hdg : decode c.code g.pc = .ok (.invokestatic index, 3))
    (hpre : ∀ vm₁, s.WarmedH vm₁ → Pre ⟨T.setVm vm₁, locs, cells, slots⟩ argsL.toArray) :
    ∃ (v : Option Value) (vm₁ : Vm) (B : Pt), s.WarmedH vm₁ ∧ Stand p l e R s m args below meth c B.U B.locs B.cells B.slots ∧ Post ⟨T.setVm vm₁, locs, cells, slots⟩ argsL.toArray v B ∧
      ∀ target, Steps p.tables e below (B.U.setTop { g with pc := g.pc + 3, stack := v.toList ++ rest }) target → Steps p.tables e below (T.setTop g) target := by
  obtain ⟨mk, methM, cM, hnamed, hmethM, -, -, -, -, -, -, hsigM⟩ := Cond.codeWith_spec hcode
  have hstatic : methM.isStatic = true := Cond.static_spec hnamed hmethM hstat
  obtain ⟨kP, hkP, -⟩ := className_of_methodNamed hnamed
  have hinitP : kP.init = .initialized := Cond.initialized_spec (findClass_of_methodNamed hnamed) hkP hinit
  obtain ⟨vm₁, X₁, hstep₁⟩ := X.invokestatic hexec hown hlink hnamed hmethM hstatic hkP hinitP hy (g := g) hg (argsL := argsL) (rest := rest) (hlen _ hsigM) hstack hdg
  obtain ⟨v, B, X', hpost, hsteps⟩ := hK m meth c ⟨T.setVm vm₁, locs, cells, slots⟩ { g with stack := rest } (.invokestatic index) mk argsL.toArray X₁ hg hsize hdg hW (X₁.named hnamed) (hpre vm₁ X₁.warmed)
  exact ⟨v, vm₁, B, X₁.warmed, X', hpost, fun target h => hstep₁ _ fun acts => by rw [doInvoke_state]; exact hsteps.trans h⟩
theorem vx_runSW {y : MethodName} {bytes cc : ByteArray} {maxL nL mc ms n index : Nat} {ret : Option FieldType} {hh : List (Nat × Nat × Nat × Nat)} {ws : List Cond} {rm : Room} {Pc : Array Value → State → Prop} {Qc : Array Value → State → Outcome → State → Prop} {free : Addr → Prop} {Ts : List Cond} {own : String} {As rest : List Value} {g : JFrame}
    (S : CallFix p m c cc nL s args Ts own) (hM : Met l y ws rm Pc Qc mc ms free) (cw : vx_CSW R s args own index y bytes maxL ret hh ws rm mc ms n) (hp : PreS s H Pc As)
    (hg : g.method = m) (hn : As.length = n) (hsize : g.locals.size = nL) (hstack : g.stack = As.reverse ++ rest) (hW : 2 * g.monitorRoom + (rest.map fun v => v.category).sum ≤ 8) (hdg : decode cc g.pc = .ok (.invokestatic index, 3)) (hf : cells + mc ≤ R.cells ∧ slots + ms ≤ R.slots) :
    va_Run p l e R s m args below meth c H locs cells slots mc ms g rest (Qc As.toArray) (free) := by
  obtain ⟨⟨hrc, hrs, hfr, hlo, hws, hcw⟩, hcode, hini, hy, hlen, hl, hstt⟩ := cw
  have hK : Back l R p e below s args y 3 8 (PreOf R mc ms Pc) (PostOf Qc mc ms free) := va_backW (hh := hh) (bytes := bytes) (maxL := maxL) (ret := ret) hM hp.1 hrc hrs hfr hlo hws hcw (fun a' U hW => word_at hW (Or.inl (by first | rfl | simp [Cond.onTables, Cond.keeps, Cond.steady])) hini)
  obtain ⟨hx, hb, hml, ho, -⟩ := S
  intro T hT X
  obtain ⟨v, vm₁, ⟨U', l2, c2, s2⟩, hW₁, X', ⟨g', mk, t, L, e1, e2, hq, h1, hL, h2, h3⟩, st⟩ := vx_callSW X hx (hh := hh) (bytes := bytes) (maxL := maxL) (ret := ret) ho hl hstt hini hcode hy hK hg (hsize.trans hml.symm) (argsL := As) (rest := rest) (fun sig h => hn.trans (hlen sig h)) hstack hW (by rw [hb]; exact hdg)
    (fun vm₁ hW₁ => ⟨hf.1, hf.2, hp.2 (T.setVm vm₁) hT hW₁⟩)
  dsimp only [Pt.U, Pt.locs, Pt.cells, Pt.slots] at X' e1 e2 h1 h2 h3 st
  subst h1; subst h2; subst h3
  exact ⟨v, (T.setVm vm₁).calling g' mk As.toArray, t, U', L, hT, X', hL, e1, e2, hq, st⟩
/-- not caught here, past rows that name other classes: it goes on to the caller -/
theorem vx_outP {p : Program} {l : Launch} {e : Env} {R : Room} {s : State} {m : MethodId} {args : Array Value} {below : List Frame} {meth : Method} {c : Code} {H : Heap} {locs : List Loc} {cells slots : Nat} {free : Addr → Prop} {ls : Array Slot} {rest : List Value} {Qc : Array Value → State → Outcome → State → Prop} {XC : String → State → State → Prop}
    {pc : Nat} {own E : String} {ce : Cell} {q : Addr} {mc ms : Nat} (hown : s.vm.findClass own = some m.cls) (hlocks : meth.locks = false)
    (hpass : ∀ z ∈ c.exceptionTable.toList, covers z pc = false ∨ (z.catchType ≠ 0 ∧ ∃ nm : String, (Cond.classLink own z.catchType nm).before args s = true ∧ va_Nc E nm s)) (hcell : H[q]? = some ce) (hv : ce.vm = .none) (hcl : s.vm.findClass E = some ce.cls)
    (hx : ∀ t : State, t.heap = H → s.vm.Alike t.vm → XC E s t) (hf : ∀ z ∈ locs, free z.base) (hc : cells ≤ mc) (hs : slots ≤ ms) :
    vx_W p l e R s m args below meth c H locs cells slots (vx_MQ below Qc XC args s mc ms free) (F0 m pc ls rest) q := by
  intro T hT X
  have hpl : e.platform.magicAccessors = ({} : Platform).magicAccessors := by rw [X.admits.platform]
  obtain ⟨vm', hW', X', st⟩ := Stand.outThrough X hlocks q (g := F0 m pc ls rest) rfl rfl rfl (cell := ce) (by rw [hT]; exact hcell) (by rw [hv]; rfl)
    (by obtain ⟨k9, h9, -⟩ := Vm.findClass_spec hcl; exact ⟨k9, h9⟩) (fun z hz => by
      rcases hpass z hz with h | ⟨hz0, nm, hl1, hn1⟩
      · exact Or.inl h
      · obtain ⟨c6, hc6, hcl6⟩ := Cond.classLink_spec hown hl1 e.platform hpl
        obtain ⟨a8, b8, h1, h2, h3⟩ := hn1
        cases Option.some.inj (h1.symm.trans hcl)
        cases Option.some.inj (h2.symm.trans hc6)
        exact Or.inr ⟨hz0, _, hcl6, h3⟩)
  obtain ⟨g₀, hfr⟩ := X'.frames_eq
  have hcell9 : ((T.setVm vm').setFrames (.throwing q :: below)).heap[q]? = some ce := by
    show T.heap[q]? = some ce
    rw [hT]; exact hcell
  have hend : Ended ((T.setVm vm').setFrames (.throwing q :: below)) below (.threw q) := State.frames_setFrames _ (State.cur_lt_of_frames hfr)
  refine ⟨(T.setVm vm').setFrames (.throwing q :: below), ?_, .threw q, X'.here.running, hend, Or.inr ⟨q, rfl, E, ce, locs, hx _ hT (X'.ends _).1.alike, hcell9, hv, hcl, (X'.ends _).1, (X'.ends _).2.mono hc hs, hf⟩⟩
  rw [X.pushThrowing_eq]
  exact st
/-- a thing of a world lies in the heap -/
theorem vx_lt {D : va_G} {cl : List vw_C} {ws : va_W} {H1 : Heap} (h : va_P D cl ws H1) {k : Nat} {q : Nat × va_E} (hk : ws[k]? = some q) : q.1 < H1.size := (h k q hk).lt
end VXS
/-! ===== END ===== -/
/-! ===== BEGIN methods with a table of their own: called by a name, returning or throwing ===== -/
section VXH
/-! vx_backW, vx_callVX, vx_callSX, vx_callVW, vx_runVW, vx_runVX, vx_runSX, vx_ofWH follow the same proofs as their sisters above (Free/Laws.lean, Shelf42/LK1.lean); vx_outP calls Shelf42/NT130.lean (outThrough). -/
section
variable {l : Launch} {R : Room} {p : Program} {e : Env} {below : List Frame} {s : State} {sargs : Array Value} {y : MethodName} {len W9 : Nat}
theorem vx_backW {ws : List Cond} {rm : Room} {Pc : Array Value → State → Prop} {Qc : Array Value → State → Outcome → State → Prop} {XC : String → State → State → Prop} {mc ms : Nat} {free : Addr → Prop} {bytes : ByteArray} {maxL : Nat} {ret : Option FieldType} {hh : List (Nat × Nat × Nat × Nat)}
    (hM : vx_Met l y ws rm Pc Qc XC mc ms free) (hblind : FrameBlind Pc) (hrc : rm.cells = mc) (hrs : rm.slots = ms)
    (hframes : rm.frames + 1 ≤ R.frames) (hlocals : W9 + (maxL + 11) + rm.locals ≤ R.locals)
    (hws : ∀ w ∈ ws, ∀ a' U, s.WarmedH U.vm → w.before a' U = true) (hcode : Cond.codeWith y bytes maxL ret hh ∈ ws) (hinit : ∀ a' U, s.WarmedH U.vm → (Cond.initialized y.cls).before a' U = true) :
    vx_Back l R p e below s sargs y len W9 (PreOf R mc ms Pc) (PostOf Qc mc ms free) (vx_Post XC mc ms free) := by
  intro m meth c A g ig mk a X hg hsize hdg hW hn hp
  have h1 : (headSpec ws rm).pre.before a A.U = true := atoms_intro fun w hw => hws w hw _ _ X.warmed
  have h2 : (Cond.codeWith y bytes maxL ret hh).before a A.U = true := hws _ hcode _ _ X.warmed
  have h3 : (Cond.initialized y.cls).before a A.U = true := hinit _ _ X.warmed
  have h4 : A.cells + (headSpec ws rm).room.cells ≤ R.cells := by rw [show (headSpec ws rm).room.cells = mc from hrc]; exact hp.1
  have h5 : A.slots + (headSpec ws rm).room.slots ≤ R.slots := by rw [show (headSpec ws rm).room.slots = ms from hrs]; exact hp.2.1
  have hPc : Pc a (A.U.calling g mk a) := hblind _ _ _ _ hp.2.2
  obtain ⟨U, Ls, c0, s0⟩ := A
  dsimp only [Pt.U, Pt.locs, Pt.cells, Pt.slots] at h1 h2 h3 h4 h5 X hn hPc ⊢
  obtain ⟨m9, methY, cY, hn9, hmY, hcY, -, hlY, -⟩ := Cond.codeWith_spec h2
  cases Option.some.inj (hn9.symm.trans hn)
  obtain ⟨kY, hkY, -⟩ := className_of_methodNamed hn
  have hinitY : kY.init = .initialized := Cond.initialized_spec (findClass_of_methodNamed hn) hkY h3
  have h : At U g.method c below := by rw [hg]; exact X.here
  have hlocals9 : W9 + (maxL + 11) + (headSpec ws rm).room.locals ≤ R.locals := hlocals
  have happ : (headSpec ws rm).appliesLoose y e.platform (U.calling g mk a) = true :=
    Spec.appliesLoose_calling (g := g) h hdg hn hkY hinitY
      (X.room_calling (g := g) (R' := (headSpec ws rm).room) hsize hmY hcY hframes (by rw [hlY]; omega) h4 h5) h1
  obtain ⟨mid, hmid⟩ := h.above
  have hfr : (U.setTop g).frames = (.java g :: mid) ++ below := by rw [State.frames_setTop' g h.top, hmid]; rfl
  obtain ⟨o, s₂, hsteps, -, hend, hq⟩ := Steps.callFree hM p X.admits X.cas X.clock (acts := []) hfr happ hPc trivial
  have hq' : vx_Q Qc XC mc ms free a (U.calling g mk a) o s₂ := hq
  rw [State.frames_setTop' g h.top] at hend
  obtain ⟨g₀, hg0⟩ := Option.isSome_iff_exists.mp h.top
  obtain ⟨r, hr⟩ := State.topJava?_eq_some.mp hg0
  have hr' : (({ U with heap := s₂.heap, slotsUsed := s₂.slotsUsed } : State).setVm s₂.vm).frames = .java g₀ :: r := hr
  rcases hq' with ⟨hqc, L, hfe, hL⟩ | ⟨q, rfl, E, ce, L, hx, hce, hcv, hcl, hW₂, hsm, hL⟩
  · obtain ⟨⟨v, rfl⟩, hW₂, e2, q2, q3, q4, q5, q6⟩ := id hfe
    have e3 : s₂ = ({ (U.calling g mk a).setFrames s₂.frames with heap := s₂.heap, slotsUsed := s₂.slotsUsed } : State).setVm s₂.vm := by
      have : s₂ = ({ s₂ with vm := (U.calling g mk a).vm } : State).setVm s₂.vm := rfl
      rw [e2] at this
      exact this
    obtain ⟨c₂, i₂, len₂, hc₂, hd₂, hf₂⟩ := hend
    have hW' : U.WarmedH s₂.vm := hW₂
    have hcc : c₂ = c := by
      have h1 : s₂.code? g.method = U.code? g.method := by
        rw [State.code?_eq, State.code?_eq, hW'.alike.method?]
      exact Option.some.inj (hc₂.symm.trans (h1.trans h.code))
    subst hcc
    have hlen : len₂ = len := by rw [hdg] at hd₂; cases hd₂; rfl
    subst hlen
    have hs₂ : s₂ = (({ U with heap := s₂.heap, slotsUsed := s₂.slotsUsed } : State).setVm s₂.vm).setTop { g with pc := g.pc + len₂, stack := v.toList ++ g.stack } := by
      refine e3.trans ?_
      rw [hf₂, State.calling_eq h.top, State.setFrames_setFrames, State.setTop_of_frames _ hr', hr]
      rfl
    have hsame : U.sameButNew ({ U with heap := s₂.heap, slotsUsed := s₂.slotsUsed } : State) L mc ms := by
      refine ⟨?_, q2, q3, q4, q5, q6⟩
      obtain ⟨t, ht, -⟩ := State.frames_cons hr
      show ({ U with heap := s₂.heap, slotsUsed := s₂.slotsUsed } : State) = { U.setFrames U.frames with heap := s₂.heap, slotsUsed := s₂.slotsUsed }
      rw [State.setFrames_self ht]
    subst hg
    refine Or.inl ⟨v, ⟨(({ U with heap := s₂.heap, slotsUsed := s₂.slotsUsed } : State).setVm s₂.vm), Ls ++ L, c0 + mc, s0 + ms⟩,
      ⟨X.admits, X.cas, X.clock, X.frames, X.room, X.hears, X.method, X.code, (X.here.setHeapUsed s₂.heap s₂.slotsUsed).setVm hW'.alike, X.tail, State.WarmedH.trans X.warmed hW', X.limits, X.bytes, X.same.trans (hsame.setVm s.vm)⟩,
      ⟨g, mk, s₂, L, rfl, rfl, hqc, rfl, hL, rfl, rfl⟩, ?_⟩
    show Steps p.tables e below _ ((({ U with heap := s₂.heap, slotsUsed := s₂.slotsUsed } : State).setVm s₂.vm).setTop { g with pc := g.pc + len₂, stack := v.toList ++ g.stack })
    rw [← hs₂]
    exact hsteps
  · obtain ⟨e2, q2, q3, q4, q5, q6⟩ := id hsm
    have e3 : s₂ = ({ (U.calling g mk a).setFrames s₂.frames with heap := s₂.heap, slotsUsed := s₂.slotsUsed } : State).setVm s₂.vm := by
      have : s₂ = ({ s₂ with vm := (U.calling g mk a).vm } : State).setVm s₂.vm := rfl
      rw [e2] at this
      exact this
    have hf₂ : s₂.frames = .throwing q :: .java g :: U.frames.tail := hend
    have hW' : U.WarmedH s₂.vm := hW₂
    have hs₂ : s₂ = ((({ U with heap := s₂.heap, slotsUsed := s₂.slotsUsed } : State).setVm s₂.vm).setTop g).pushFrame (.throwing q) := by
      refine e3.trans ?_
      rw [hf₂, State.calling_eq h.top, State.setFrames_setFrames, State.pushFrame, State.frames_setTop _ hr', State.setTop_of_frames _ hr', State.setFrames_setFrames, hr]
      rfl
    have hsame : U.sameButNew ({ U with heap := s₂.heap, slotsUsed := s₂.slotsUsed } : State) L mc ms := by
      refine ⟨?_, q2, q3, q4, q5, q6⟩
      obtain ⟨t, ht, -⟩ := State.frames_cons hr
      show ({ U with heap := s₂.heap, slotsUsed := s₂.slotsUsed } : State) = { U.setFrames U.frames with heap := s₂.heap, slotsUsed := s₂.slotsUsed }
      rw [State.setFrames_self ht]
    subst hg
    refine Or.inr ⟨q, ⟨(({ U with heap := s₂.heap, slotsUsed := s₂.slotsUsed } : State).setVm s₂.vm), Ls ++ L, c0 + mc, s0 + ms⟩,
      ⟨X.admits, X.cas, X.clock, X.frames, X.room, X.hears, X.method, X.code, (X.here.setHeapUsed s₂.heap s₂.slotsUsed).setVm hW'.alike, X.tail, State.WarmedH.trans X.warmed hW', X.limits, X.bytes, X.same.trans (hsame.setVm s.vm)⟩,
      ⟨g, mk, s₂, L, E, ce, rfl, rfl, hx, hce, hcv, hcl, rfl, hL, rfl, rfl⟩, ?_⟩
    show Steps p.tables e below _ (((({ U with heap := s₂.heap, slotsUsed := s₂.slotsUsed } : State).setVm s₂.vm).setTop g).pushFrame (.throwing q))
    rw [← hs₂]
    exact hsteps
end
variable {p : Program} {l : Launch} {e : Env} {R : Room} {s : State} {m : MethodId} {args : Array Value} {below : List Frame} {meth : Method} {c : Code} {T : State} {H : Heap} {locs : List Loc} {cells slots : Nat}
theorem vx_callVX (X : Stand p l e R s m args below meth c T locs cells slots) (hexec : p.tables.exec = Jvm.exec) {own C : String} {index : Nat} {y : MethodName} {bytes : ByteArray} {maxL : Nat} {ret : Option FieldType} {hh : List (Nat × Nat × Nat × Nat)}
    (hown : s.vm.findClass own = some m.cls) (hlink : (Cond.methodLink own index y).before args s = true) (hinst : (Cond.instanceMethod y).before args s = true) (hsel : (Cond.selects C y y).before args s = true)
    (hcode : (Cond.codeWith y bytes maxL ret hh).before args s = true) (hy : y.cls ≠ "java/lang/invoke/MethodHandle" ∧ y.cls ≠ "java/lang/invoke/VarHandle")
    {W9 : Nat} {Pre : Pt → Array Value → Prop} {Post : Pt → Array Value → Option Value → Pt → Prop} {PostX : Pt → Array Value → Addr → Pt → Prop} (hK : vx_Back l R p e below s args y 3 W9 Pre Post PostX)
    {b : Addr} {cellB : Cell} (hcell : T.heap[b]? = some cellB) (hobj : cellB.vm.isStatics = false) (hcls : s.vm.findClass C = some cellB.cls)
    {g : JFrame} (hg : g.method = m) (hsize : g.locals.size = c.maxLocals) {argsL rest : List Value} (hlen : ∀ sig, parseMethodDescriptor y.desc = some sig → argsL.length = sig.parameters.length)
    (hstack : g.stack = argsL.reverse ++ .ref b :: rest) (hW : 2 * g.monitorRoom + (rest.map fun v => v.category).sum ≤ W9) (hdg : decode c.code g.pc = .ok (.invokevirtual index, 3))
    (hpre : ∀ vm₁, s.WarmedH vm₁ → Pre ⟨T.setVm vm₁, locs, cells, slots⟩ (Value.ref b :: argsL).toArray) :
    (∃ (v : Option Value) (vm₁ : Vm) (B : Pt), s.WarmedH vm₁ ∧ Stand p l e R s m args below meth c B.U B.locs B.cells B.slots ∧ Post ⟨T.setVm vm₁, locs, cells, slots⟩ (Value.ref b :: argsL).toArray v B ∧
      ∀ target, Steps p.tables e below (B.U.setTop { g with pc := g.pc + 3, stack := v.toList ++ rest }) target → Steps p.tables e below (T.setTop g) target) ∨
    (∃ (q : Addr) (vm₁ : Vm) (B : Pt), s.WarmedH vm₁ ∧ Stand p l e R s m args below meth c B.U B.locs B.cells B.slots ∧ PostX ⟨T.setVm vm₁, locs, cells, slots⟩ (Value.ref b :: argsL).toArray q B ∧
      Steps p.tables e below (T.setTop g) ((B.U.setTop { g with stack := rest }).pushFrame (.throwing q))) := by
  obtain ⟨mk, methM, hnamed, hmethM, hstM, habM⟩ := Cond.instanceMethod_spec hinst
  obtain ⟨m8, methM', cM, hn8, hmethM', -, -, -, -, -, -, hsigM⟩ := Cond.codeWith_spec hcode
  cases Option.some.inj (hn8.symm.trans hnamed)
  cases hmethM.symm.trans hmethM'
  obtain ⟨c2, r2, m2, q1, q2, q3, q4, kP, hkP, hkPi⟩ := Cond.selects_spec hsel
  cases hcls.symm.trans q1
  cases (State.methodFound?_of_named hnamed hy).symm.trans q2
  cases hnamed.symm.trans q3
  have hselP : selectMethod e.platform s.vm cellB.cls mk = .method mk := by rw [Launch.admits_selectMethod X.admits]; exact q4
  obtain ⟨vm₁, X₁, hstep₁⟩ := X.invokevirtual hexec hown hlink hnamed hmethM hstM hkP hkPi hy (a := b) (cell := cellB) hcell
    (fun z h => by rw [h] at hobj; cases hobj) hselP hmethM habM hkP hkPi (g := g) hg (argsL := argsL) (rest := rest) (hlen _ hsigM) hstack hdg
  rcases hK m meth c ⟨T.setVm vm₁, locs, cells, slots⟩ { g with stack := rest } (.invokevirtual index) mk (Value.ref b :: argsL).toArray X₁ hg hsize hdg hW (X₁.named hnamed) (hpre vm₁ X₁.warmed) with ⟨v, B, X', hpost, hsteps⟩ | ⟨q, B, X', hpost, hsteps⟩
  · exact Or.inl ⟨v, vm₁, B, X₁.warmed, X', hpost, fun target h => hstep₁ _ fun acts => by rw [doInvoke_state]; exact hsteps.trans h⟩
  · exact Or.inr ⟨q, vm₁, B, X₁.warmed, X', hpost, hstep₁ _ fun acts => by rw [doInvoke_state]; exact hsteps⟩
theorem vx_callSX (X : Stand p l e R s m args below meth c T locs cells slots) (hexec : p.tables.exec = Jvm.exec) {own : String} {index : Nat} {y : MethodName} {bytes : ByteArray} {maxL : Nat} {ret : Option FieldType} {hh : List (Nat × Nat × Nat × Nat)}
    (hown : s.vm.findClass own = some m.cls) (hlink : (Cond.methodLink own index y).before args s = true) (hstat : (Cond.static y).before args s = true) (hinit : (Cond.initialized y.cls).before args s = true)
    (hcode : (Cond.codeWith y bytes maxL ret hh).before args s = true) (hy : y.cls ≠ "java/lang/invoke/MethodHandle" ∧ y.cls ≠ "java/lang/invoke/VarHandle")
    {W9 : Nat} {Pre : Pt → Array Value → Prop} {Post : Pt → Array Value → Option Value → Pt → Prop} {PostX : Pt → Array Value → Addr → Pt → Prop} (hK : vx_Back l R p e below s args y 3 W9 Pre Post PostX)
    {g : JFrame} (hg : g.method = m) (hsize : g.locals.size = c.maxLocals) {argsL rest : List Value} (hlen : ∀ sig, parseMethodDescriptor y.desc = some sig → argsL.length = sig.parameters.length)
    (hstack : g.stack = argsL.reverse ++ rest) (hW : 2 * g.monitorRoom + (rest.map fun v => v.category).sum ≤ W9) (hdg : decode c.code g.pc = .ok (.invokestatic index, 3))
    (hpre : ∀ vm₁, s.WarmedH vm₁ → Pre ⟨T.setVm vm₁, locs, cells, slots⟩ argsL.toArray) :
    (∃ (v : Option Value) (vm₁ : Vm) (B : Pt), s.WarmedH vm₁ ∧ Stand p l e R s m args below meth c B.U B.locs B.cells B.slots ∧ Post ⟨T.setVm vm₁, locs, cells, slots⟩ argsL.toArray v B ∧
      ∀ target, Steps p.tables e below (B.U.setTop { g with pc := g.pc + 3, stack := v.toList ++ rest }) target → Steps p.tables e below (T.setTop g) target) ∨
    (∃ (q : Addr) (vm₁ : Vm) (B : Pt), s.WarmedH vm₁ ∧ Stand p l e R s m args below meth c B.U B.locs B.cells B.slots ∧ PostX ⟨T.setVm vm₁, locs, cells, slots⟩ argsL.toArray q B ∧
      Steps p.tables e below (T.setTop g) ((B.U.setTop { g with stack := rest }).pushFrame (.throwing q))) := by
  obtain ⟨mk, methM, cM, hnamed, hmethM, -, -, -, -, -, -, hsigM⟩ := Cond.codeWith_spec hcode
  have hstatic : methM.isStatic = true := Cond.static_spec hnamed hmethM hstat
  obtain ⟨kP, hkP, -⟩ := className_of_methodNamed hnamed
  have hinitP : kP.init = .initialized := Cond.initialized_spec (findClass_of_methodNamed hnamed) hkP hinit
  obtain ⟨vm₁, X₁, hstep₁⟩ := X.invokestatic hexec hown hlink hnamed hmethM hstatic hkP hinitP hy (g := g) hg (argsL := argsL) (rest := rest) (hlen _ hsigM) hstack hdg
  rcases hK m meth c ⟨T.setVm vm₁, locs, cells, slots⟩ { g with stack := rest } (.invokestatic index) mk argsL.toArray X₁ hg hsize hdg hW (X₁.named hnamed) (hpre vm₁ X₁.warmed) with ⟨v, B, X', hpost, hsteps⟩ | ⟨q, B, X', hpost, hsteps⟩
  · exact Or.inl ⟨v, vm₁, B, X₁.warmed, X', hpost, fun target h => hstep₁ _ fun acts => by rw [doInvoke_state]; exact hsteps.trans h⟩
  · exact Or.inr ⟨q, vm₁, B, X₁.warmed, X', hpost, hstep₁ _ fun acts => by rw [doInvoke_state]; exact hsteps⟩
theorem vx_callVW (X : Stand p l e R s m args below meth c T locs cells slots) (hexec : p.tables.exec = Jvm.exec) {own C : String} {index : Nat} {y : MethodName} {bytes : ByteArray} {maxL : Nat} {ret : Option FieldType} {hh : List (Nat × Nat × Nat × Nat)}
    (hown : s.vm.findClass own = some m.cls) (hlink : (Cond.methodLink own index y).before args s = true) (hinst : (Cond.instanceMethod y).before args s = true) (hsel : (Cond.selects C y y).before args s = true)
    (hcode : (Cond.codeWith y bytes maxL ret hh).before args s = true) (hy : y.cls ≠ "java/lang/invoke/MethodHandle" ∧ y.cls ≠ "java/lang/invoke/VarHandle")
    {W9 : Nat} {Pre : Pt → Array Value → Prop} {Post : Pt → Array Value → Option Value → Pt → Prop} (hK : Back l R p e below s args y 3 W9 Pre Post)
    {b : Addr} {cellB : Cell} (hcell : T.heap[b]? = some cellB) (hobj : cellB.vm.isStatics = false) (hcls : s.vm.findClass C = some cellB.cls)
    {g : JFrame} (hg : g.method = m) (hsize : g.locals.size = c.maxLocals) {argsL rest : List Value} (hlen : ∀ sig, parseMethodDescriptor y.desc = some sig → argsL.length = sig.parameters.length)
    (hstack : g.stack = argsL.reverse ++ .ref b :: rest) (hW : 2 * g.monitorRoom + (rest.map fun v => v.category).sum ≤ W9) (hdg : decode c.code g.pc = .ok (.invokevirtual index, 3))
    (hpre : ∀ vm₁, s.WarmedH vm₁ → Pre ⟨T.setVm vm₁, locs, cells, slots⟩ (Value.ref b :: argsL).toArray) :
    ∃ (v : Option Value) (vm₁ : Vm) (B : Pt), s.WarmedH vm₁ ∧ Stand p l e R s m args below meth c B.U B.locs B.cells B.slots ∧ Post ⟨T.setVm vm₁, locs, cells, slots⟩ (Value.ref b :: argsL).toArray v B ∧
      ∀ target, Steps p.tables e below (B.U.setTop { g with pc := g.pc + 3, stack := v.toList ++ rest }) target → Steps p.tables e below (T.setTop g) target := by
  obtain ⟨mk, methM, hnamed, hmethM, hstM, habM⟩ := Cond.instanceMethod_spec hinst
  obtain ⟨m8, methM', cM, hn8, hmethM', -, -, -, -, -, -, hsigM⟩ := Cond.codeWith_spec hcode
  cases Option.some.inj (hn8.symm.trans hnamed)
  cases hmethM.symm.trans hmethM'
  obtain ⟨c2, r2, m2, q1, q2, q3, q4, kP, hkP, hkPi⟩ := Cond.selects_spec hsel
  cases hcls.symm.trans q1
  cases (State.methodFound?_of_named hnamed hy).symm.trans q2
  cases hnamed.symm.trans q3
  have hselP : selectMethod e.platform s.vm cellB.cls mk = .method mk := by rw [Launch.admits_selectMethod X.admits]; exact q4
  obtain ⟨vm₁, X₁, hstep₁⟩ := X.invokevirtual hexec hown hlink hnamed hmethM hstM hkP hkPi hy (a := b) (cell := cellB) hcell
    (fun z h => by rw [h] at hobj; cases hobj) hselP hmethM habM hkP hkPi (g := g) hg (argsL := argsL) (rest := rest) (hlen _ hsigM) hstack hdg
  obtain ⟨v, B, X', hpost, hsteps⟩ := hK m meth c ⟨T.setVm vm₁, locs, cells, slots⟩ { g with stack := rest } (.invokevirtual index) mk (Value.ref b :: argsL).toArray X₁ hg hsize hdg hW (X₁.named hnamed) (hpre vm₁ X₁.warmed)
  exact ⟨v, vm₁, B, X₁.warmed, X', hpost, fun target h => hstep₁ _ fun acts => by rw [doInvoke_state]; exact hsteps.trans h⟩
abbrev vx_CVW (R : Room) (s : State) (args : Array Value) (own C : String) (index : Nat) (y : MethodName) (bytes : ByteArray) (maxL : Nat) (ret : Option FieldType) (hh : List (Nat × Nat × Nat × Nat)) (ws : List Cond) (rm : Room) (mc ms n : Nat) : Prop :=
  (rm.cells = mc ∧ rm.slots = ms ∧ rm.frames + 1 ≤ R.frames ∧ 8 + (maxL + 11) + rm.locals ≤ R.locals ∧ (∀ w ∈ ws, ∀ (a' : Array Value) (U : State), s.WarmedH U.vm → w.before a' U = true) ∧ Cond.codeWith y bytes maxL ret hh ∈ ws) ∧
  (Cond.codeWith y bytes maxL ret hh).before args s = true ∧ (Cond.initialized y.cls).before args s = true ∧ (y.cls ≠ "java/lang/invoke/MethodHandle" ∧ y.cls ≠ "java/lang/invoke/VarHandle") ∧
  (∀ sig, parseMethodDescriptor y.desc = some sig → n = sig.parameters.length) ∧ (Cond.methodLink own index y).before args s = true ∧ (Cond.instanceMethod y).before args s = true ∧ (Cond.selects C y y).before args s = true
theorem vx_cwVW {own C : String} {index maxL mc ms : Nat} {y : MethodName} {bytes : ByteArray} {ret : Option FieldType} {hh : List (Nat × Nat × Nat × Nat)} {Ts ws ws' : List Cond} {rm : Room} (n : Nat) (ht : ∀ w ∈ Ts, w.before args s = true) (hT : GoodIn Ts (wsV own index C y ws)) (hw : ws = Cond.codeWith y bytes maxL ret hh :: ws') (hrc : rm.cells = mc) (hrs : rm.slots = ms)
    (hd : y.cls = C ∧ y.cls ≠ "java/lang/invoke/MethodHandle" ∧ y.cls ≠ "java/lang/invoke/VarHandle" ∧ (parseMethodDescriptor y.desc).map (fun d => d.parameters.length) = some n) (hR : rm.frames + 1 ≤ R.frames ∧ 8 + (maxL + 11) + rm.locals ≤ R.locals) :
    vx_CVW R s args own C index y bytes maxL ret hh ws rm mc ms n := by
  obtain ⟨hC, hd⟩ := hd
  subst hC
  have ok : ∀ w ∈ wsV own index y.cls y ws, w.before args s = true := fun w h => ht w (hT w h).1
  have hG : GoodIn Ts ws := fun w h => hT w (by unfold wsV; exact List.mem_append_right _ h)
  have hc : Cond.codeWith y bytes maxL ret hh ∈ ws := by rw [hw]; exact List.mem_cons_self
  refine ⟨⟨hrc, hrs, hR.1, hR.2, pay_in ht hG, hc⟩, ht _ (hG _ hc).1, ok _ (by simp [wsV]), ⟨hd.1, hd.2.1⟩, fun sig h => ?_, ok _ (by simp [wsV]), ok _ (by simp [wsV]), ok _ (by simp [wsV])⟩
  have h2 := hd.2.2
  rw [h] at h2
  exact (Option.some.inj h2).symm
theorem vx_runVW {y : MethodName} {bytes cc : ByteArray} {maxL nL mc ms n index : Nat} {ret : Option FieldType} {hh : List (Nat × Nat × Nat × Nat)} {ws : List Cond} {rm : Room} {Pc : Array Value → State → Prop} {Qc : Array Value → State → Outcome → State → Prop} {free : Addr → Prop} {Ts : List Cond} {own C : String} {b : Addr} {As rest : List Value} {g : JFrame}
    (S : CallFix p m c cc nL s args Ts own) (hM : Met l y ws rm Pc Qc mc ms free) (cw : vx_CVW R s args own C index y bytes maxL ret hh ws rm mc ms n) (hp : PreV s H C b Pc As)
    (hg : g.method = m) (hn : As.length = n) (hsize : g.locals.size = nL) (hstack : g.stack = As.reverse ++ .ref b :: rest) (hW : 2 * g.monitorRoom + (rest.map fun v => v.category).sum ≤ 8) (hdg : decode cc g.pc = .ok (.invokevirtual index, 3)) (hf : cells + mc ≤ R.cells ∧ slots + ms ≤ R.slots) :
    va_Run p l e R s m args below meth c H locs cells slots mc ms g rest (Qc (Value.ref b :: As).toArray) free := by
  obtain ⟨⟨hrc, hrs, hfr, hlo, hws, hcw⟩, hcode, hini, hy, hlen, hl, hin, hse⟩ := cw
  have hK : Back l R p e below s args y 3 8 (PreOf R mc ms Pc) (PostOf Qc mc ms free) := va_backW (hh := hh) (bytes := bytes) (maxL := maxL) (ret := ret) hM hp.1 hrc hrs hfr hlo hws hcw (fun a' U hW => word_at hW (Or.inl (by first | rfl | simp [Cond.onTables, Cond.keeps, Cond.steady])) hini)
  obtain ⟨hx, hb, hml, ho, -⟩ := S
  obtain ⟨-, ⟨cellB, hcB, hoB, hclB⟩, hPc⟩ := hp
  intro T hT X
  obtain ⟨v, vm₁, ⟨U', l2, c2, s2⟩, hW₁, X', ⟨g', mk, t, L, e1, e2, hq, h1, hL, h2, h3⟩, st⟩ := vx_callVW X hx (C := C) (hh := hh) (bytes := bytes) (maxL := maxL) (ret := ret) ho hl hin hse hcode hy hK (by rw [hT]; exact hcB) hoB hclB hg (hsize.trans hml.symm) (argsL := As) (rest := rest) (fun sig h => hn.trans (hlen sig h)) hstack hW (by rw [hb]; exact hdg)
    (fun vm₁ hW₁ => ⟨hf.1, hf.2, hPc (T.setVm vm₁) hT hW₁⟩)
  dsimp only [Pt.U, Pt.locs, Pt.cells, Pt.slots] at X' e1 e2 h1 h2 h3 st
  subst h1; subst h2; subst h3
  exact ⟨v, (T.setVm vm₁).calling g' mk (Value.ref b :: As).toArray, t, U', L, hT, X', hL, e1, e2, hq, st⟩
section
variable {y : MethodName} {bytes cc : ByteArray} {maxL nL mc ms n index : Nat} {ret : Option FieldType} {ws : List Cond} {rm : Room} {Pc : Array Value → State → Prop} {Qc : Array Value → State → Outcome → State → Prop} {XC : String → State → State → Prop} {free : Addr → Prop} {Ts : List Cond} {own C : String} {b : Addr} {As rest : List Value} {g : JFrame}
theorem vx_runVX {hh : List (Nat × Nat × Nat × Nat)} (S : CallFix p m c cc nL s args Ts own) (hM : vx_Met l y ws rm Pc Qc XC mc ms free) (cw : vx_CVW R s args own C index y bytes maxL ret hh ws rm mc ms n) (hp : PreV s H C b Pc As)
    (hg : g.method = m) (hn : As.length = n) (hsize : g.locals.size = nL) (hstack : g.stack = As.reverse ++ .ref b :: rest) (hW : 2 * g.monitorRoom + (rest.map fun v => v.category).sum ≤ 8) (hdg : decode cc g.pc = .ok (.invokevirtual index, 3)) (hf : cells + mc ≤ R.cells ∧ slots + ms ≤ R.slots) :
    vx_Run p l e R s m args below meth c H locs cells slots mc ms g rest (Qc (Value.ref b :: As).toArray) XC free := by
  obtain ⟨⟨hrc, hrs, hfr, hlo, hws, hcw⟩, hcode, hini, hy, hlen, hl, hin, hse⟩ := cw
  have hK : vx_Back l R p e below s args y 3 8 (PreOf R mc ms Pc) (PostOf Qc mc ms free) (vx_Post XC mc ms free) := vx_backW (hh := hh) (bytes := bytes) (maxL := maxL) (ret := ret) hM hp.1 hrc hrs hfr hlo hws hcw (fun a' U hW => word_at hW (Or.inl (by first | rfl | simp [Cond.onTables, Cond.keeps, Cond.steady])) hini)
  obtain ⟨hx, hb, hml, ho, -⟩ := S
  obtain ⟨-, ⟨cellB, hcB, hoB, hclB⟩, hPc⟩ := hp
  intro T hT X
  rcases vx_callVX X hx (C := C) (hh := hh) (bytes := bytes) (maxL := maxL) (ret := ret) ho hl hin hse hcode hy hK (by rw [hT]; exact hcB) hoB hclB hg (hsize.trans hml.symm) (argsL := As) (rest := rest) (fun sig h => hn.trans (hlen sig h)) hstack hW (by rw [hb]; exact hdg)
    (fun vm₁ hW₁ => ⟨hf.1, hf.2, hPc (T.setVm vm₁) hT hW₁⟩) with ⟨v, vm₁, ⟨U', l2, c2, s2⟩, hW₁, X', ⟨g', mk, t, L, e1, e2, hq, h1, hL, h2, h3⟩, st⟩ | ⟨q, vm₁, ⟨U', l2, c2, s2⟩, hW₁, X', ⟨g', mk, t, L, E, ce, e1, e2, hq, hce, hcv, hcl, h1, hL, h2, h3⟩, st⟩
  · dsimp only [Pt.U, Pt.locs, Pt.cells, Pt.slots] at X' e1 e2 h1 h2 h3 st
    subst h1; subst h2; subst h3
    exact Or.inl ⟨v, (T.setVm vm₁).calling g' mk (Value.ref b :: As).toArray, t, U', L, hT, X', hL, e1, e2, hq, st⟩
  · dsimp only [Pt.U, Pt.locs, Pt.cells, Pt.slots] at X' e1 e2 h1 h2 h3 st hcl
    subst h1; subst h2; subst h3
    exact Or.inr ⟨q, (T.setVm vm₁).calling g' mk (Value.ref b :: As).toArray, t, U', L, E, ce, hT, X', hL, e1, e2, hq, hce, hcv, vx_cls hW₁ hcl, st⟩
theorem vx_runSX {hh : List (Nat × Nat × Nat × Nat)} (S : CallFix p m c cc nL s args Ts own) (hM : vx_Met l y ws rm Pc Qc XC mc ms free) (cw : vx_CSW R s args own index y bytes maxL ret hh ws rm mc ms n) (hp : PreS s H Pc As)
    (hg : g.method = m) (hn : As.length = n) (hsize : g.locals.size = nL) (hstack : g.stack = As.reverse ++ rest) (hW : 2 * g.monitorRoom + (rest.map fun v => v.category).sum ≤ 8) (hdg : decode cc g.pc = .ok (.invokestatic index, 3)) (hf : cells + mc ≤ R.cells ∧ slots + ms ≤ R.slots) :
    vx_Run p l e R s m args below meth c H locs cells slots mc ms g rest (Qc As.toArray) XC free := by
  obtain ⟨⟨hrc, hrs, hfr, hlo, hws, hcw⟩, hcode, hini, hy, hlen, hl, hstt⟩ := cw
  have hK : vx_Back l R p e below s args y 3 8 (PreOf R mc ms Pc) (PostOf Qc mc ms free) (vx_Post XC mc ms free) := vx_backW (hh := hh) (bytes := bytes) (maxL := maxL) (ret := ret) hM hp.1 hrc hrs hfr hlo hws hcw (fun a' U hW => word_at hW (Or.inl (by first | rfl | simp [Cond.onTables, Cond.keeps, Cond.steady])) hini)
  obtain ⟨hx, hb, hml, ho, -⟩ := S
  intro T hT X
  rcases vx_callSX X hx (hh := hh) (bytes := bytes) (maxL := maxL) (ret := ret) ho hl hstt hini hcode hy hK hg (hsize.trans hml.symm) (argsL := As) (rest := rest) (fun sig h => hn.trans (hlen sig h)) hstack hW (by rw [hb]; exact hdg)
    (fun vm₁ hW₁ => ⟨hf.1, hf.2, hp.2 (T.setVm vm₁) hT hW₁⟩) with ⟨v, vm₁, ⟨U', l2, c2, s2⟩, hW₁, X', ⟨g', mk, t, L, e1, e2, hq, h1, hL, h2, h3⟩, st⟩ | ⟨q, vm₁, ⟨U', l2, c2, s2⟩, hW₁, X', ⟨g', mk, t, L, E, ce, e1, e2, hq, hce, hcv, hcl, h1, hL, h2, h3⟩, st⟩
  · dsimp only [Pt.U, Pt.locs, Pt.cells, Pt.slots] at X' e1 e2 h1 h2 h3 st
    subst h1; subst h2; subst h3
    exact Or.inl ⟨v, (T.setVm vm₁).calling g' mk As.toArray, t, U', L, hT, X', hL, e1, e2, hq, st⟩
  · dsimp only [Pt.U, Pt.locs, Pt.cells, Pt.slots] at X' e1 e2 h1 h2 h3 st hcl
    subst h1; subst h2; subst h3
    exact Or.inr ⟨q, (T.setVm vm₁).calling g' mk As.toArray, t, U', L, E, ce, hT, X', hL, e1, e2, hq, hce, hcv, vx_cls hW₁ hcl, st⟩
end
end VXH
theorem vx_ofWH {l : Launch} {y : MethodName} {ws ws' : List Cond} {rm : Room} {Pc : Array Value → State → Prop} {Qc : Array Value → State → Outcome → State → Prop} {XC : String → State → State → Prop} {mc ms : Nat} {free : Addr → Prop} {cc : ByteArray} {maxL : Nat} {ret : Option FieldType} {hh : List (Nat × Nat × Nat × Nat)}
    (hy : plainName y.cls = true) (hw : ws = Cond.codeWith y cc maxL ret hh :: ws')
    (body : ∀ p e s m args below meth c s₁, BodyLoose p l y (headSpec ws rm) cc maxL ret e s m args below meth c s₁ → c.maxLocals = maxL → Pc args s →
      W p l e (headSpec ws rm).room s m args below meth c s.heap [] 0 0 (vx_MQ below Qc XC args s mc ms free) (entryFrame m args maxL)) : vx_Met l y ws rm Pc Qc XC mc ms free := by
  refine MetFree.of_bodyS (code := cc) (maxLocals := maxL) (ret := ret) hy ?_ ?_
  · intro args s m h hn
    obtain ⟨m9, meth, c, hn9, h1, h2, h3, h4, -, h5, h6, -⟩ := Cond.codeWith_spec (atoms_spec (ws := ws) h _ (by rw [hw]; exact List.mem_cons_self))
    cases hn.symm.trans hn9
    exact ⟨meth, c, h1, h2, h3, h4, h5, h6⟩
  · intro p e s m args below meth c s₁ B hml hP _
    have hh0 : s₁.heap = s.heap := by rw [B.state]; rfl
    obtain ⟨t, a1, o, b1, b2, b3⟩ := body p e s m args below meth c s₁ B hml hP s₁ hh0 (Stand.of_body B)
    exact ⟨t, o, a1, b1, b2, b3⟩
/-! ===== END ===== -/

/-! ===== BEGIN printed: names, fields, word lists, decode rows ===== -/
end
section
/-! THE WORLD: an abstract heap (kinds of cells, ints, longs) and the judgement G: from a configuration of a method the machine comes to one that E holds of -/
abbrev Kd : Type := Nat × Nat × List Nat
abbrev Hp : Type := List Kd × (Nat → Nat → Int32) × (Nat → Nat → Int64)
abbrev Lv : Type := List (Nat × Value)
def shx : Nat := 1000000
def rfv (ad : Nat → Nat) : Nat → Value
  | 0 => .null
  | k + 1 => .ref (ad k)
def rfo (ad : Nat → Nat) : Nat → Option Nat
  | 0 => none
  | k + 1 => some (ad k)
def cv (ad : Nat → Nat) : Value → Value
  | .ref k => .ref (ad k)
  | v => v
/-- 0 an int of any width, 1 a long, 2 a reference -/
def fk : FieldType → Nat
  | .long => 1
  | .object _ => 2
  | .array _ => 2
  | _ => 0
abbrev cl_all : List vw_C := [(RX0, TX0, 11), (RX1, TX1, 20), (RX2, TX2, 6), (RX3, TX3, 7), (RX4, TX4, 17), (RX5, TX5, 12), (RX6, TX6, 11), (RX7, TX7, 9), (RX8, TX8, 7), (RX9, TX9, 2), (RX10, TX10, 2), (RX11, TX11, 11), (RX12, TX12, 75)]
def ctyp : Nat → Nat → FieldType
  | 0 => tyX0
  | 1 => tyX1
  | 2 => tyX2
  | 3 => tyX3
  | 4 => tyX4
  | 5 => tyX5
  | 6 => tyX6
  | 7 => tyX7
  | 8 => tyX8
  | 9 => tyX9
  | 10 => tyX10
  | 11 => tyX11
  | _ => tyX12
def cnf (c : Nat) : Nat := match cl_all[c]? with
  | some q => q.2.2
  | none => 0
def fvl (ad : Nat → Nat) (Ik : Nat → Int32) (Jk : Nat → Int64) (c : Nat) (rs : List Nat) (j : Nat) : Value := match fk (ctyp c j) with
  | 1 => .long (Jk j)
  | 2 => rfv ad (rs.getD j 0)
  | _ => .int (Ik j)
def flds (ad : Nat → Nat) (Ik : Nat → Int32) (Jk : Nat → Int64) (c : Nat) (rs : List Nat) : List Value := (List.range (cnf c)).map (fvl ad Ik Jk c rs)
/-- kinds: 0 an object (its number in cl_all, its references); 1 int[], 2 long[], 3 byte[], 4 char[], 5 boolean[] (length); 6 an array of Kept (length, references) -/
def cel (gA : Nat → ClassId) (ad : Nat → Nat) (Ik : Nat → Int32) (Jk : Nat → Int64) (kd : Kd) : va_E := match kd.1 with
  | 0 => .inr (kd.2.1, flds ad Ik Jk kd.2.1 kd.2.2)
  | 2 => .inl (gA 2, kd.2.1, .inr (.inl Jk))
  | 6 => .inl (gA 6, kd.2.1, .inr (.inr (.inr (.inr (fun i => rfo ad (kd.2.2.getD i 0))))))
  | t => .inl (gA t, kd.2.1, .inl Ik)
def wsO (gA : Nat → ClassId) (ad : Nat → Nat) (h : Hp) : va_W := h.1.mapIdx (fun k kd => (ad k, cel gA ad (h.2.1 k) (h.2.2 k) kd))
def tysO (gA : Nat → ClassId) : List (ClassId × FieldType) := [(gA 1, .int), (gA 2, .long), (gA 3, .byte), (gA 4, .char), (gA 5, .boolean), (gA 6, .object RX2)]
def ui (I : Nat → Nat → Int32) (k i : Nat) (v : Int32) : Nat → Nat → Int32 := fun a => if a = k then upd (I a) i v else I a
def uj (J : Nat → Nat → Int64) (k i : Nat) (v : Int64) : Nat → Nat → Int64 := fun a => if a = k then vp_updL (J a) i v else J a
theorem ui_k (I : Nat → Nat → Int32) (k i : Nat) (v : Int32) : ui I k i v k = upd (I k) i v := if_pos rfl
theorem ui_ne {I : Nat → Nat → Int32} {k i a : Nat} {v : Int32} (h : a ≠ k) : ui I k i v a = I a := if_neg h
theorem uj_k (I : Nat → Nat → Int64) (k i : Nat) (v : Int64) : uj I k i v k = vp_updL (I k) i v := if_pos rfl
theorem uj_ne {I : Nat → Nat → Int64} {k i a : Nat} {v : Int64} (h : a ≠ k) : uj I k i v a = I a := if_neg h
def lvm (ad : Nat → Nat) (lv : Lv) : Lv := lv.map (fun q => (q.1, cv ad q.2))
theorem cv_cat (ad : Nat → Nat) (v : Value) : (cv ad v).category = v.category := by cases v <;> rfl
theorem wsO_get {gA : Nat → ClassId} {ad : Nat → Nat} {h : Hp} {k : Nat} {kd : Kd} (hz : h.1[k]? = some kd) : (wsO gA ad h)[k]? = some (ad k, cel gA ad (h.2.1 k) (h.2.2 k) kd) := by
  simp [wsO, List.getElem?_mapIdx, hz]
theorem wsO_setI {gA : Nat → ClassId} {ad : Nat → Nat} {Z : List Kd} {I : Nat → Nat → Int32} {J : Nat → Nat → Int64} {k i : Nat} {v : Int32} {kd : Kd} (hz : Z[k]? = some kd) :
    (wsO gA ad (Z, I, J)).set k (ad k, cel gA ad (upd (I k) i v) (J k) kd) = wsO gA ad (Z, ui I k i v, J) := by
  apply List.ext_getElem?
  intro n
  by_cases hn : n = k
  · subst hn
    have hl : n < Z.length := (List.getElem?_eq_some_iff.mp hz).1
    rw [List.getElem?_set_self (by simpa [wsO] using hl), wsO_get hz]
    show _ = some (ad n, cel gA ad (ui I n i v n) (J n) kd)
    rw [ui_k]
  · rw [List.getElem?_set_ne (Ne.symm hn)]
    simp [wsO, List.getElem?_mapIdx, ui_ne hn]
theorem wsO_setJ {gA : Nat → ClassId} {ad : Nat → Nat} {Z : List Kd} {I : Nat → Nat → Int32} {J : Nat → Nat → Int64} {k i : Nat} {v : Int64} {kd : Kd} (hz : Z[k]? = some kd) :
    (wsO gA ad (Z, I, J)).set k (ad k, cel gA ad (I k) (vp_updL (J k) i v) kd) = wsO gA ad (Z, I, uj J k i v) := by
  apply List.ext_getElem?
  intro n
  by_cases hn : n = k
  · subst hn
    have hl : n < Z.length := (List.getElem?_eq_some_iff.mp hz).1
    rw [List.getElem?_set_self (by simpa [wsO] using hl), wsO_get hz]
    show _ = some (ad n, cel gA ad (I n) (uj J n i v n) kd)
    rw [uj_k]
  · rw [List.getElem?_set_ne (Ne.symm hn)]
    simp [wsO, List.getElem?_mapIdx, uj_ne hn]
theorem wsO_setZ {gA : Nat → ClassId} {ad : Nat → Nat} {Z : List Kd} {I : Nat → Nat → Int32} {J : Nat → Nat → Int64} {k : Nat} {kd' : Kd} (hk : k < Z.length) :
    (wsO gA ad (Z, I, J)).set k (ad k, cel gA ad (I k) (J k) kd') = wsO gA ad (Z.set k kd', I, J) := by
  apply List.ext_getElem?
  intro n
  by_cases hn : n = k
  · subst hn
    rw [List.getElem?_set_self (by simpa [wsO] using hk), wsO_get (h := (Z.set n kd', I, J)) (List.getElem?_set_self hk)]
  · rw [List.getElem?_set_ne (Ne.symm hn)]
    simp [wsO, List.getElem?_mapIdx, List.getElem?_set_ne (Ne.symm hn)]
/-- words that hold in every state of the run -/
def qw (w : Cond) : Bool := (w.onTables && w.keepsH) || goodWord w
def wl : List Cond := lw_tbl.filter qw
theorem wl_of {w : Cond} (i : Nat) (h : lw_tbl[i]? = some w) (hq : qw w = true) : w ∈ wl := List.mem_filter.mpr ⟨List.mem_of_getElem? h, hq⟩
theorem wl_warm {args a' : Array Value} {s U : State} (hW : s.WarmedH U.vm) {w : Cond} (hw : w ∈ wl) (h : w.before args s = true) : w.before a' U = true := by
  have hq : qw w = true := (List.mem_filter.mp hw).2
  simp only [qw, Bool.or_eq_true, Bool.and_eq_true] at hq
  rcases hq with hq | hq
  · have h1 := Cond.onTables_warmH (T := U) (args' := a') hW hq.1 hq.2 h
    rwa [State.setVm_self] at h1
  · exact word_at hW (good_of_word hq) h
/-- a method: its name, its bytes, locals, return type, its instructions by their places -/
abbrev MD : Type := MethodName × ByteArray × Nat × Option FieldType × List (Nat × Instr × Nat)
def MOk (M : MD) : Prop := ∀ t ∈ M.2.2.2.2, decode M.2.1 t.1 = .ok (t.2.1, t.2.2)
def shf : Nat → Value := fun k => .int (([0, 27720, 13860, 9240, 6930, 5544, 4620, 3960, 3465, 3080, 2772, 2520] : List Int32).getD k 0)
def Shs (A : Nat → Prop) (t : Nat) (U : State) : Prop := va_Z "NinetyLamps$Flow" "SHARES" "[I" (.ref t) A U U.heap ∧ va_T .int t 12 shf A U U.heap ∧ vx_Zq Bundle.tN "UNASSIGNED_STACK" Bundle.steD A U U.heap ∧ vx_Zq Bundle.tN "SUPPRESSED_SENTINEL" Bundle.listD A U U.heap ∧ va_AO RX2 U
def Ext (n : Nat) (ad : Nat → Nat) (n' : Nat) (ad' : Nat → Nat) : Prop := n ≤ n' ∧ (∀ k, k < n ∨ k = shx → ad' k = ad k) ∧ (n' = n → ad' = ad)
theorem Ext.rf {n : Nat} {ad : Nat → Nat} : Ext n ad n ad := ⟨Nat.le_refl _, fun _ _ => rfl, fun _ => rfl⟩
theorem Ext.tr {n1 n2 n3 : Nat} {a1 a2 a3 : Nat → Nat} (h : Ext n1 a1 n2 a2) (g : Ext n2 a2 n3 a3) : Ext n1 a1 n3 a3 := by
  refine ⟨Nat.le_trans h.1 g.1, fun k hk => ?_, fun e => ?_⟩
  · rw [g.2.1 k (hk.elim (fun q => Or.inl (Nat.lt_of_lt_of_le q h.1)) Or.inr), h.2.1 k hk]
  · have h1 := h.1
    have h2 := g.1
    rw [g.2.2 (by omega), h.2.2 (by omega)]
def Cx (M : MD) (p : Program) (l : Launch) (s : State) (m : MethodId) (args : Array Value) (meth : Method) (c : Code) (A : Nat → Prop) (D : va_G) (gA : Nat → ClassId) (t : Nat) : Prop :=
  p.tables.exec = Jvm.exec ∧ c.code = M.2.1 ∧ meth.sig.returnType = M.2.2.2.1 ∧ c.maxLocals = M.2.2.1 ∧ s.vm.findClass M.1.cls = some m.cls ∧ (∀ w ∈ wl, w.before args s = true) ∧ va_K D cl_all (tysO gA) s ∧ (∀ q, s.heap.size ≤ q → A q) ∧ meth.locks = false ∧ meth.name = M.1.name ∧ MOk M ∧ Shs A t s ∧ l.stackTraces = false
section CX
variable {M : MD} {p : Program} {l : Launch} {s : State} {m : MethodId} {args : Array Value} {meth : Method} {c : Code} {A : Nat → Prop} {D : va_G} {gA : Nat → ClassId} {t : Nat}
theorem Cx.x (C : Cx M p l s m args meth c A D gA t) : p.tables.exec = Jvm.exec := And.left C
theorem Cx.b (C : Cx M p l s m args meth c A D gA t) : c.code = M.2.1 := And.left (And.right C)
theorem Cx.r (C : Cx M p l s m args meth c A D gA t) : meth.sig.returnType = M.2.2.2.1 := And.left (And.right (And.right C))
theorem Cx.ml (C : Cx M p l s m args meth c A D gA t) : c.maxLocals = M.2.2.1 := And.left (And.right (And.right (And.right C)))
theorem Cx.own (C : Cx M p l s m args meth c A D gA t) : s.vm.findClass M.1.cls = some m.cls := And.left (And.right (And.right (And.right (And.right C))))
theorem Cx.ts (C : Cx M p l s m args meth c A D gA t) : ∀ w ∈ wl, w.before args s = true := And.left (And.right (And.right (And.right (And.right (And.right C)))))
theorem Cx.K (C : Cx M p l s m args meth c A D gA t) : va_K D cl_all (tysO gA) s := And.left (And.right (And.right (And.right (And.right (And.right (And.right C))))))
theorem Cx.hA (C : Cx M p l s m args meth c A D gA t) : ∀ q, s.heap.size ≤ q → A q := And.left (And.right (And.right (And.right (And.right (And.right (And.right (And.right C)))))))
theorem Cx.lk (C : Cx M p l s m args meth c A D gA t) : meth.locks = false := And.left (And.right (And.right (And.right (And.right (And.right (And.right (And.right (And.right C))))))))
theorem Cx.nm (C : Cx M p l s m args meth c A D gA t) : meth.name = M.1.name := And.left (And.right (And.right (And.right (And.right (And.right (And.right (And.right (And.right (And.right C)))))))))
theorem Cx.ok (C : Cx M p l s m args meth c A D gA t) : MOk M := And.left (And.right (And.right (And.right (And.right (And.right (And.right (And.right (And.right (And.right (And.right C))))))))))
theorem Cx.sh (C : Cx M p l s m args meth c A D gA t) : Shs A t s := And.left (And.right (And.right (And.right (And.right (And.right (And.right (And.right (And.right (And.right (And.right (And.right C)))))))))))
theorem Cx.tr (C : Cx M p l s m args meth c A D gA t) : l.stackTraces = false := And.right (And.right (And.right (And.right (And.right (And.right (And.right (And.right (And.right (And.right (And.right (And.right C)))))))))))
theorem MOk.at {M : MD} (h : MOk M) {i pc len : Nat} {ins : Instr} (hi : M.2.2.2.2[i]? = some (pc, ins, len)) : decode M.2.1 pc = .ok (ins, len) := h (pc, ins, len) (List.mem_of_getElem? hi)
end CX
def Rp (A : Nat → Prop) (D : va_G) (gA : Nat → ClassId) (s : State) (H : Heap) (locs : List Loc) (ad : Nat → Nat) (h : Hp) : Prop :=
  va_P D cl_all (wsO gA ad h) H ∧ va_D A (wsO gA ad h) ∧ va_S A s.heap H locs
abbrev Ex : Type := Nat × Nat → Nat → Lv → List Value → Hp → Prop
def G (M : MD) (R : Room) (E : Ex) (cs : Nat × Nat) (pc : Nat) (lv : Lv) (st : List Value) (h : Hp) : Prop :=
  ∀ (p : Program) (l : Launch) (e : Env) (s : State) (m : MethodId) (args : Array Value) (below : List Frame) (meth : Method) (c : Code) (Q : State → Prop) (A : Nat → Prop) (D : va_G) (gA : Nat → ClassId) (H : Heap) (locs : List Loc) (ls : Array Slot) (ad : Nat → Nat),
    Cx M p l s m args meth c A D gA (ad shx) → Rp A D gA s H locs ad h → lv_has ls M.2.2.1 (lvm ad lv) →
    (∀ (cs' : Nat × Nat) (pc' : Nat) (lv' : Lv) (st' : List Value) (h' : Hp) (H' : Heap) (locs' : List Loc) (ls' : Array Slot) (ad' : Nat → Nat), E cs' pc' lv' st' h' → Ext h.1.length ad h'.1.length ad' → Rp A D gA s H' locs' ad' h' → lv_has ls' M.2.2.1 (lvm ad' lv') →
      W p l e R s m args below meth c H' locs' cs'.1 cs'.2 Q (F0 m pc' ls' (st'.map (cv ad')))) →
    W p l e R s m args below meth c H locs cs.1 cs.2 Q (F0 m pc ls (st.map (cv ad)))
section GR
variable {M : MD} {R : Room} {E : Ex} {cs : Nat × Nat} {pc : Nat} {lv : Lv} {st : List Value} {h : Hp}
theorem G.exit (he : E cs pc lv st h) : G M R E cs pc lv st h := by
  intro p l e s m args below meth c Q A D gA H locs ls ad C hr hl hE
  exact hE cs pc lv st h H locs ls ad he Ext.rf hr hl
theorem G.tr {E1 : Ex} (g : G M R E1 cs pc lv st h) (k : ∀ cs' pc' lv' st' h', E1 cs' pc' lv' st' h' → G M R E cs' pc' lv' st' h') : G M R E cs pc lv st h := by
  intro p l e s m args below meth c Q A D gA H locs ls ad C hr hl hE
  refine g p l e s m args below meth c Q A D gA H locs ls ad C hr hl fun cs' pc' lv' st' h' H' locs' ls' ad' he hx hr' hl' => ?_
  have hs : ad' shx = ad shx := hx.2.1 _ (Or.inr rfl)
  exact k cs' pc' lv' st' h' he p l e s m args below meth c Q A D gA H' locs' ls' ad' (by rw [hs]; exact C) hr' hl' (fun cs2 pc2 lv2 st2 h2 H2 l2 ls2 ad2 he2 hx2 hr2 hl2 => hE cs2 pc2 lv2 st2 h2 H2 l2 ls2 ad2 he2 (hx.tr hx2) hr2 hl2)
theorem G.mono {E1 : Ex} (g : G M R E1 cs pc lv st h) (k : ∀ cs' pc' lv' st' h', E1 cs' pc' lv' st' h' → E cs' pc' lv' st' h') : G M R E cs pc lv st h :=
  g.tr fun cs' pc' lv' st' h' he => G.exit (k cs' pc' lv' st' h' he)
/-- a row of the kit that changes the stack alone -/
theorem G.row {pc' : Nat} {st' : List Value} {ins : Instr} {len : Nat} (i : Nat) (hi : M.2.2.2.2[i]? = some (pc, ins, len))
    (row : ∀ (p : Program) (l : Launch) (e : Env) (s : State) (m : MethodId) (args : Array Value) (below : List Frame) (meth : Method) (c : Code) (Q : State → Prop) (H : Heap) (locs : List Loc) (ls : Array Slot) (ad : Nat → Nat), s.vm.findClass M.1.cls = some m.cls → (∀ w ∈ wl, w.before args s = true) → p.tables.exec = Jvm.exec → c.code = M.2.1 → decode M.2.1 pc = .ok (ins, len) →
      W p l e R s m args below meth c H locs cs.1 cs.2 Q (F0 m pc' ls (st'.map (cv ad))) → W p l e R s m args below meth c H locs cs.1 cs.2 Q (F0 m pc ls (st.map (cv ad))))
    (k : G M R E cs pc' lv st' h) : G M R E cs pc lv st h := by
  intro p l e s m args below meth c Q A D gA H locs ls ad C hr hl hE
  exact row p l e s m args below meth c Q H locs ls ad C.own C.ts C.x C.b (C.ok.at hi) (k p l e s m args below meth c Q A D gA H locs ls ad C hr hl hE)
theorem G.sub {lv' : Lv} (ks : List Nat) (hl' : lv_pick lv ks = lv') (k : G M R E cs pc lv' st h) : G M R E cs pc lv st h := by
  intro p l e s m args below meth c Q A D gA H locs ls ad C hr hl hE
  refine k p l e s m args below meth c Q A D gA H locs ls ad C hr (lv_sub hl ks ?_) hE
  subst hl'
  simp [lv_pick, lvm, List.map_filterMap, List.filterMap_map]
end GR
end
section
/-! STEPS OF G: the instructions that touch stack, locals and the place alone -/
section GS
variable {M : MD} {R : Room} {E : Ex} {cs : Nat × Nat} {pc : Nat} {lv : Lv} {st : List Value} {h : Hp}
theorem G.iconst {n : Int} (v : Int32) (i : Nat) (hi : M.2.2.2.2[i]? = some (pc, .iconst n, 1)) (hv : Int32.ofInt n = v) (k : G M R E cs (pc + 1) lv (.int v :: st) h) : G M R E cs pc lv (st) h := G.row i hi (fun p l e s m args below meth c Q H locs ls ad ho ht hx hb hd kk => lv_iconst hx hb hd hv kk) k
theorem G.bipush {n : Int} (v : Int32) (i : Nat) (hi : M.2.2.2.2[i]? = some (pc, .bipush n, 2)) (hv : (Int8.ofInt n).toInt32 = v) (k : G M R E cs (pc + 2) lv (.int v :: st) h) : G M R E cs pc lv (st) h := G.row i hi (fun p l e s m args below meth c Q H locs ls ad ho ht hx hb hd kk => lv_bipush hx hb hd hv kk) k
theorem G.sipush {n : Int} (v : Int32) (i : Nat) (hi : M.2.2.2.2[i]? = some (pc, .sipush n, 3)) (hv : (Int16.ofInt n).toInt32 = v) (k : G M R E cs (pc + 3) lv (.int v :: st) h) : G M R E cs pc lv (st) h := G.row i hi (fun p l e s m args below meth c Q H locs ls ad ho ht hx hb hd kk => lv_sipush hx hb hd hv kk) k
theorem G.lconst {n : Fin 2} (v : Int64) (i : Nat) (hi : M.2.2.2.2[i]? = some (pc, .lconst n, 1)) (hv : Int64.ofNat (n : Nat) = v) (k : G M R E cs (pc + 1) lv (.long v :: st) h) : G M R E cs pc lv (st) h := G.row i hi (fun p l e s m args below meth c Q H locs ls ad ho ht hx hb hd kk => lv_lconst hx hb hd hv kk) k
theorem G.ldc {x : Nat} (v : Int32) (i : Nat) (hi : M.2.2.2.2[i]? = some (pc, .ldc x, 2)) (hc : Cond.constant M.1.cls x v ∈ wl) (k : G M R E cs (pc + 2) lv (.int v :: st) h) : G M R E cs pc lv (st) h := G.row i hi (fun p l e s m args below meth c Q H locs ls ad ho ht hx hb hd kk => lv_ldc hx hb ho (ht _ hc) hd kk) k
theorem G.ldcw {x : Nat} (v : Int32) (i : Nat) (hi : M.2.2.2.2[i]? = some (pc, .ldc_w x, 3)) (hc : Cond.constant M.1.cls x v ∈ wl) (k : G M R E cs (pc + 3) lv (.int v :: st) h) : G M R E cs pc lv (st) h := G.row i hi (fun p l e s m args below meth c Q H locs ls ad ho ht hx hb hd kk => lv_ldcw hx hb ho (ht _ hc) hd kk) k
theorem G.ldc2 {x : Nat} (v : Int64) (i : Nat) (hi : M.2.2.2.2[i]? = some (pc, .ldc2_w x, 3)) (hc : Cond.constantLong M.1.cls x v ∈ wl) (k : G M R E cs (pc + 3) lv (.long v :: st) h) : G M R E cs pc lv (st) h := G.row i hi (fun p l e s m args below meth c Q H locs ls ad ho ht hx hb hd kk => lv_ldc2 hx hb ho (ht _ hc) hd kk) k
theorem G.iadd {x y : Int32} (i : Nat) (hi : M.2.2.2.2[i]? = some (pc, .iadd, 1)) (k : G M R E cs (pc + 1) lv (.int (x + y) :: st) h) : G M R E cs pc lv (.int y :: .int x :: st) h := G.row i hi (fun p l e s m args below meth c Q H locs ls ad ho ht hx hb hd kk => lv_iadd hx hb hd kk) k
theorem G.isub {x y : Int32} (i : Nat) (hi : M.2.2.2.2[i]? = some (pc, .isub, 1)) (k : G M R E cs (pc + 1) lv (.int (x - y) :: st) h) : G M R E cs pc lv (.int y :: .int x :: st) h := G.row i hi (fun p l e s m args below meth c Q H locs ls ad ho ht hx hb hd kk => lv_isub hx hb hd kk) k
theorem G.imul {x y : Int32} (i : Nat) (hi : M.2.2.2.2[i]? = some (pc, .imul, 1)) (k : G M R E cs (pc + 1) lv (.int (x * y) :: st) h) : G M R E cs pc lv (.int y :: .int x :: st) h := G.row i hi (fun p l e s m args below meth c Q H locs ls ad ho ht hx hb hd kk => lv_imul hx hb hd kk) k
theorem G.iand {x y : Int32} (i : Nat) (hi : M.2.2.2.2[i]? = some (pc, .iand, 1)) (k : G M R E cs (pc + 1) lv (.int (x &&& y) :: st) h) : G M R E cs pc lv (.int y :: .int x :: st) h := G.row i hi (fun p l e s m args below meth c Q H locs ls ad ho ht hx hb hd kk => lv_iand hx hb hd kk) k
theorem G.ior {x y : Int32} (i : Nat) (hi : M.2.2.2.2[i]? = some (pc, .ior, 1)) (k : G M R E cs (pc + 1) lv (.int (x ||| y) :: st) h) : G M R E cs pc lv (.int y :: .int x :: st) h := G.row i hi (fun p l e s m args below meth c Q H locs ls ad ho ht hx hb hd kk => lv_ior hx hb hd kk) k
theorem G.ixor {x y : Int32} (i : Nat) (hi : M.2.2.2.2[i]? = some (pc, .ixor, 1)) (k : G M R E cs (pc + 1) lv (.int (x ^^^ y) :: st) h) : G M R E cs pc lv (.int y :: .int x :: st) h := G.row i hi (fun p l e s m args below meth c Q H locs ls ad ho ht hx hb hd kk => lv_ixor hx hb hd kk) k
theorem G.ishl {x y : Int32} (i : Nat) (hi : M.2.2.2.2[i]? = some (pc, .ishl, 1)) (k : G M R E cs (pc + 1) lv (.int (x <<< (y &&& 31)) :: st) h) : G M R E cs pc lv (.int y :: .int x :: st) h := G.row i hi (fun p l e s m args below meth c Q H locs ls ad ho ht hx hb hd kk => lv_ishl hx hb hd kk) k
theorem G.ishr {x y : Int32} (i : Nat) (hi : M.2.2.2.2[i]? = some (pc, .ishr, 1)) (k : G M R E cs (pc + 1) lv (.int (x >>> (y &&& 31)) :: st) h) : G M R E cs pc lv (.int y :: .int x :: st) h := G.row i hi (fun p l e s m args below meth c Q H locs ls ad ho ht hx hb hd kk => lv_ishr hx hb hd kk) k
theorem G.ladd {x y : Int64} (i : Nat) (hi : M.2.2.2.2[i]? = some (pc, .ladd, 1)) (k : G M R E cs (pc + 1) lv (.long (x + y) :: st) h) : G M R E cs pc lv (.long y :: .long x :: st) h := G.row i hi (fun p l e s m args below meth c Q H locs ls ad ho ht hx hb hd kk => lv_ladd hx hb hd kk) k
theorem G.lsub {x y : Int64} (i : Nat) (hi : M.2.2.2.2[i]? = some (pc, .lsub, 1)) (k : G M R E cs (pc + 1) lv (.long (x - y) :: st) h) : G M R E cs pc lv (.long y :: .long x :: st) h := G.row i hi (fun p l e s m args below meth c Q H locs ls ad ho ht hx hb hd kk => lv_lsub hx hb hd kk) k
theorem G.lmul {x y : Int64} (i : Nat) (hi : M.2.2.2.2[i]? = some (pc, .lmul, 1)) (k : G M R E cs (pc + 1) lv (.long (x * y) :: st) h) : G M R E cs pc lv (.long y :: .long x :: st) h := G.row i hi (fun p l e s m args below meth c Q H locs ls ad ho ht hx hb hd kk => lv_lmul hx hb hd kk) k
theorem G.land {x y : Int64} (i : Nat) (hi : M.2.2.2.2[i]? = some (pc, .land, 1)) (k : G M R E cs (pc + 1) lv (.long (x &&& y) :: st) h) : G M R E cs pc lv (.long y :: .long x :: st) h := G.row i hi (fun p l e s m args below meth c Q H locs ls ad ho ht hx hb hd kk => lv_land hx hb hd kk) k
theorem G.lor {x y : Int64} (i : Nat) (hi : M.2.2.2.2[i]? = some (pc, .lor, 1)) (k : G M R E cs (pc + 1) lv (.long (x ||| y) :: st) h) : G M R E cs pc lv (.long y :: .long x :: st) h := G.row i hi (fun p l e s m args below meth c Q H locs ls ad ho ht hx hb hd kk => lv_lor hx hb hd kk) k
theorem G.lxor {x y : Int64} (i : Nat) (hi : M.2.2.2.2[i]? = some (pc, .lxor, 1)) (k : G M R E cs (pc + 1) lv (.long (x ^^^ y) :: st) h) : G M R E cs pc lv (.long y :: .long x :: st) h := G.row i hi (fun p l e s m args below meth c Q H locs ls ad ho ht hx hb hd kk => lv_lxor hx hb hd kk) k
theorem G.idiv {x y : Int32} (i : Nat) (hi : M.2.2.2.2[i]? = some (pc, .idiv, 1)) (hne : ¬ y = 0) (k : G M R E cs (pc + 1) lv (.int (x / y) :: st) h) : G M R E cs pc lv (.int y :: .int x :: st) h := G.row i hi (fun p l e s m args below meth c Q H locs ls ad ho ht hx hb hd kk => lv_idiv hx hb hd hne kk) k
theorem G.irem {x y : Int32} (i : Nat) (hi : M.2.2.2.2[i]? = some (pc, .irem, 1)) (hne : ¬ y = 0) (k : G M R E cs (pc + 1) lv (.int (x - x / y * y) :: st) h) : G M R E cs pc lv (.int y :: .int x :: st) h := G.row i hi (fun p l e s m args below meth c Q H locs ls ad ho ht hx hb hd kk => lv_irem hx hb hd hne kk) k
theorem G.ldiv {x y : Int64} (i : Nat) (hi : M.2.2.2.2[i]? = some (pc, .ldiv, 1)) (hne : ¬ y = 0) (k : G M R E cs (pc + 1) lv (.long (x / y) :: st) h) : G M R E cs pc lv (.long y :: .long x :: st) h := G.row i hi (fun p l e s m args below meth c Q H locs ls ad ho ht hx hb hd kk => lv_ldiv hx hb hd hne kk) k
theorem G.ineg {x : Int32} (i : Nat) (hi : M.2.2.2.2[i]? = some (pc, .ineg, 1)) (k : G M R E cs (pc + 1) lv (.int (-x) :: st) h) : G M R E cs pc lv (.int x :: st) h := G.row i hi (fun p l e s m args below meth c Q H locs ls ad ho ht hx hb hd kk => lv_ineg hx hb hd kk) k
theorem G.iushr {x y : Int32} (i : Nat) (hi : M.2.2.2.2[i]? = some (pc, .iushr, 1)) (k : G M R E cs (pc + 1) lv (.int ((x.toUInt32 >>> (y.toUInt32 &&& Int32.toUInt32 31)).toInt32) :: st) h) : G M R E cs pc lv (.int y :: .int x :: st) h := G.row i hi (fun p l e s m args below meth c Q H locs ls ad ho ht hx hb hd kk => lv_iushr hx hb hd rfl kk) k
theorem G.lushr {x : Int64} {y : Int32} (i : Nat) (hi : M.2.2.2.2[i]? = some (pc, .lushr, 1)) (k : G M R E cs (pc + 1) lv (.long ((x.toUInt64 >>> (y.toInt64.toUInt64 &&& Int64.toUInt64 63)).toInt64) :: st) h) : G M R E cs pc lv (.int y :: .long x :: st) h := G.row i hi (fun p l e s m args below meth c Q H locs ls ad ho ht hx hb hd kk => lv_lushr hx hb hd rfl kk) k
theorem G.lshr {x : Int64} {y : Int32} (i : Nat) (hi : M.2.2.2.2[i]? = some (pc, .lshr, 1)) (k : G M R E cs (pc + 1) lv (.long (x >>> (y.toInt64 &&& 63)) :: st) h) : G M R E cs pc lv (.int y :: .long x :: st) h := G.row i hi (fun p l e s m args below meth c Q H locs ls ad ho ht hx hb hd kk => lv_lshr hx hb hd rfl kk) k
theorem G.lshl {x : Int64} {y : Int32} (i : Nat) (hi : M.2.2.2.2[i]? = some (pc, .lshl, 1)) (k : G M R E cs (pc + 1) lv (.long (x <<< (y.toInt64 &&& 63)) :: st) h) : G M R E cs pc lv (.int y :: .long x :: st) h := G.row i hi (fun p l e s m args below meth c Q H locs ls ad ho ht hx hb hd kk => lv_lshl hx hb hd rfl kk) k
theorem G.i2l {x : Int32} (i : Nat) (hi : M.2.2.2.2[i]? = some (pc, .i2l, 1)) (k : G M R E cs (pc + 1) lv (.long x.toInt64 :: st) h) : G M R E cs pc lv (.int x :: st) h := G.row i hi (fun p l e s m args below meth c Q H locs ls ad ho ht hx hb hd kk => lv_i2l hx hb hd rfl kk) k
theorem G.l2i {x : Int64} (i : Nat) (hi : M.2.2.2.2[i]? = some (pc, .l2i, 1)) (k : G M R E cs (pc + 1) lv (.int x.toInt32 :: st) h) : G M R E cs pc lv (.long x :: st) h := G.row i hi (fun p l e s m args below meth c Q H locs ls ad ho ht hx hb hd kk => lv_l2i hx hb hd rfl kk) k
theorem G.i2b {x : Int32} (i : Nat) (hi : M.2.2.2.2[i]? = some (pc, .i2b, 1)) (k : G M R E cs (pc + 1) lv (.int x.toInt8.toInt32 :: st) h) : G M R E cs pc lv (.int x :: st) h := G.row i hi (fun p l e s m args below meth c Q H locs ls ad ho ht hx hb hd kk => lv_i2b hx hb hd rfl kk) k
theorem G.i2s {x : Int32} (i : Nat) (hi : M.2.2.2.2[i]? = some (pc, .i2s, 1)) (k : G M R E cs (pc + 1) lv (.int x.toInt16.toInt32 :: st) h) : G M R E cs pc lv (.int x :: st) h := G.row i hi (fun p l e s m args below meth c Q H locs ls ad ho ht hx hb hd kk => lv_i2s hx hb hd rfl kk) k
theorem G.i2c {x : Int32} (i : Nat) (hi : M.2.2.2.2[i]? = some (pc, .i2c, 1)) (k : G M R E cs (pc + 1) lv (.int (x.toUInt32 % 65536).toInt32 :: st) h) : G M R E cs pc lv (.int x :: st) h := G.row i hi (fun p l e s m args below meth c Q H locs ls ad ho ht hx hb hd kk => lv_i2c hx hb hd rfl kk) k
theorem G.lcmp {x y : Int64} (i : Nat) (hi : M.2.2.2.2[i]? = some (pc, .lcmp, 1)) (k : G M R E cs (pc + 1) lv (.int (lg_cmp x y) :: st) h) : G M R E cs pc lv (.long y :: .long x :: st) h := G.row i hi (fun p l e s m args below meth c Q H locs ls ad ho ht hx hb hd kk => W.lcmp hx hb hd kk) k
theorem G.dup {va : Value} (i : Nat) (hi : M.2.2.2.2[i]? = some (pc, .dup, 1)) (hva : va.category = 1) (k : G M R E cs (pc + 1) lv (va :: va :: st) h) : G M R E cs pc lv (va :: st) h := G.row i hi (fun p l e s m args below meth c Q H locs ls ad ho ht hx hb hd kk => lv_dup hx hb hd ((cv_cat ad _).trans hva) kk) k
theorem G.pop {va : Value} (i : Nat) (hi : M.2.2.2.2[i]? = some (pc, .pop, 1)) (hva : va.category = 1) (k : G M R E cs (pc + 1) lv (st) h) : G M R E cs pc lv (va :: st) h := G.row i hi (fun p l e s m args below meth c Q H locs ls ad ho ht hx hb hd kk => lv_pop hx hb hd ((cv_cat ad _).trans hva) kk) k
theorem G.dup_x1 {va vb : Value} (i : Nat) (hi : M.2.2.2.2[i]? = some (pc, .dup_x1, 1)) (hva : va.category = 1) (hvb : vb.category = 1) (k : G M R E cs (pc + 1) lv (va :: vb :: va :: st) h) : G M R E cs pc lv (va :: vb :: st) h := G.row i hi (fun p l e s m args below meth c Q H locs ls ad ho ht hx hb hd kk => lv_dup_x1 hx hb hd ((cv_cat ad _).trans hva) ((cv_cat ad _).trans hvb) kk) k
theorem G.dup2_11 {va vb : Value} (i : Nat) (hi : M.2.2.2.2[i]? = some (pc, .dup2, 1)) (hva : va.category = 1) (hvb : vb.category = 1) (k : G M R E cs (pc + 1) lv (va :: vb :: va :: vb :: st) h) : G M R E cs pc lv (va :: vb :: st) h := G.row i hi (fun p l e s m args below meth c Q H locs ls ad ho ht hx hb hd kk => lv_dup2_11 hx hb hd ((cv_cat ad _).trans hva) ((cv_cat ad _).trans hvb) kk) k
theorem G.dup2_2 {va : Value} (i : Nat) (hi : M.2.2.2.2[i]? = some (pc, .dup2, 1)) (hva : va.category = 2) (k : G M R E cs (pc + 1) lv (va :: va :: st) h) : G M R E cs pc lv (va :: st) h := G.row i hi (fun p l e s m args below meth c Q H locs ls ad ho ht hx hb hd kk => lv_dup2_2 hx hb hd ((cv_cat ad _).trans hva) kk) k
theorem G.pop2_2 {va : Value} (i : Nat) (hi : M.2.2.2.2[i]? = some (pc, .pop2, 1)) (hva : va.category = 2) (k : G M R E cs (pc + 1) lv (st) h) : G M R E cs pc lv (va :: st) h := G.row i hi (fun p l e s m args below meth c Q H locs ls ad ho ht hx hb hd kk => lv_pop2_2 hx hb hd ((cv_cat ad _).trans hva) kk) k
theorem lvm_at {ad : Nat → Nat} {lv : Lv} {j x : Nat} {v : Value} (hj : lv[j]? = some (x, v)) : (lvm ad lv)[j]? = some (x, cv ad v) := by
  simp [lvm, List.getElem?_map, hj]
theorem G.go {pc' : Nat} {st' : List Value} (row : ∀ (p : Program) (l : Launch) (e : Env) (s : State) (m : MethodId) (args : Array Value) (below : List Frame) (meth : Method) (c : Code) (Q : State → Prop) (A : Nat → Prop) (D : va_G) (gA : Nat → ClassId) (H : Heap) (locs : List Loc) (ls : Array Slot) (ad : Nat → Nat), Cx M p l s m args meth c A D gA (ad shx) → Rp A D gA s H locs ad h → lv_has ls M.2.2.1 (lvm ad lv) →
      W p l e R s m args below meth c H locs cs.1 cs.2 Q (F0 m pc' ls (st'.map (cv ad))) → W p l e R s m args below meth c H locs cs.1 cs.2 Q (F0 m pc ls (st.map (cv ad))))
    (k : G M R E cs pc' lv st' h) : G M R E cs pc lv st h := by
  intro p l e s m args below meth c Q A D gA H locs ls ad C hr hl hE
  exact row p l e s m args below meth c Q A D gA H locs ls ad C hr hl (k p l e s m args below meth c Q A D gA H locs ls ad C hr hl hE)
theorem G.iload_n {a : Fin 4} {x : Int32} (i j : Nat) (hi : M.2.2.2.2[i]? = some (pc, .iload_n a, 1)) (hj : lv[j]? = some ((a : Nat), .int x)) (k : G M R E cs (pc + 1) lv (.int x :: st) h) : G M R E cs pc lv st h := G.go (fun p l e s m args below meth c Q A D gA H locs ls ad C hr hl kk => lv_iload_n C.x C.b (C.ok.at hi) rfl (lv_at hl j (lvm_at hj)) kk) k
theorem G.iload {a : Nat} {x : Int32} (i j : Nat) (hi : M.2.2.2.2[i]? = some (pc, .iload a, 2)) (hj : lv[j]? = some (a, .int x)) (k : G M R E cs (pc + 2) lv (.int x :: st) h) : G M R E cs pc lv st h := G.go (fun p l e s m args below meth c Q A D gA H locs ls ad C hr hl kk => lv_iload C.x C.b (C.ok.at hi) (lv_at hl j (lvm_at hj)) kk) k
theorem G.lload_n {a : Fin 4} {x : Int64} (i j : Nat) (hi : M.2.2.2.2[i]? = some (pc, .lload_n a, 1)) (hj : lv[j]? = some ((a : Nat), .long x)) (k : G M R E cs (pc + 1) lv (.long x :: st) h) : G M R E cs pc lv st h := G.go (fun p l e s m args below meth c Q A D gA H locs ls ad C hr hl kk => lv_lload_n C.x C.b (C.ok.at hi) rfl (lv_at hl j (lvm_at hj)) kk) k
theorem G.lload {a : Nat} {x : Int64} (i j : Nat) (hi : M.2.2.2.2[i]? = some (pc, .lload a, 2)) (hj : lv[j]? = some (a, .long x)) (k : G M R E cs (pc + 2) lv (.long x :: st) h) : G M R E cs pc lv st h := G.go (fun p l e s m args below meth c Q A D gA H locs ls ad C hr hl kk => lv_lload C.x C.b (C.ok.at hi) (lv_at hl j (lvm_at hj)) kk) k
theorem G.aload_n {a : Fin 4} {x : Nat} (i j : Nat) (hi : M.2.2.2.2[i]? = some (pc, .aload_n a, 1)) (hj : lv[j]? = some ((a : Nat), .ref x)) (k : G M R E cs (pc + 1) lv (.ref x :: st) h) : G M R E cs pc lv st h := G.go (fun p l e s m args below meth c Q A D gA H locs ls ad C hr hl kk => lv_aload_n C.x C.b (C.ok.at hi) rfl (lv_at hl j (lvm_at hj)) kk) k
theorem G.aload {a : Nat} {x : Nat} (i j : Nat) (hi : M.2.2.2.2[i]? = some (pc, .aload a, 2)) (hj : lv[j]? = some (a, .ref x)) (k : G M R E cs (pc + 2) lv (.ref x :: st) h) : G M R E cs pc lv st h := G.go (fun p l e s m args below meth c Q A D gA H locs ls ad C hr hl kk => lv_aload C.x C.b (C.ok.at hi) (lv_at hl j (lvm_at hj)) kk) k
def f1 (a : Nat) : Nat × Value → Bool := fun q => !(q.1 == a) && !(q.1 + 1 == a && q.2.category == 2)
def f2 (a : Nat) : Nat × Value → Bool := fun q => !(q.1 == a) && (!(q.1 == a + 1) && !(q.1 + 1 == a && q.2.category == 2))
theorem lvm_f1 {ad : Nat → Nat} {lv : Lv} {a : Nat} : (lvm ad lv).filter (fun q => !(q.1 == a) && !(q.1 + 1 == a && q.2.category == 2)) = lvm ad (lv.filter (f1 a)) := by
  unfold lvm
  rw [List.filter_map]
  congr 1
  apply List.filter_congr
  intro q _
  simp [f1, cv_cat]
theorem lvm_f2 {ad : Nat → Nat} {lv : Lv} {a : Nat} : (lvm ad lv).filter (fun q => !(q.1 == a) && (!(q.1 == a + 1) && !(q.1 + 1 == a && q.2.category == 2))) = lvm ad (lv.filter (f2 a)) := by
  unfold lvm
  rw [List.filter_map]
  congr 1
  apply List.filter_congr
  intro q _
  simp [f2, cv_cat]
theorem G.istore_n {a : Fin 4} {x : Int32} (lv' : Lv) (i : Nat) (hi : M.2.2.2.2[i]? = some (pc, .istore_n a, 1)) (hn : (a : Nat) < M.2.2.1) (hl' : ((a : Nat), .int x) :: lv.filter (f1 a) = lv') (k : G M R E cs (pc + 1) lv' st h) : G M R E cs pc lv (.int x :: st) h := by
  intro p l e s m args below meth c Q A D gA H locs ls ad C hr hl hE
  exact lv_istore_n (lv' := ((a : Nat), .int x) :: lvm ad (lv.filter (f1 a))) C.x C.b (C.ok.at hi) rfl hl hn (by rw [lvm_f1]) (fun ls' hl2 => k p l e s m args below meth c Q A D gA H locs ls' ad C hr (by rw [← hl']; exact hl2) hE)
theorem G.istore {a : Nat} {x : Int32} (lv' : Lv) (i : Nat) (hi : M.2.2.2.2[i]? = some (pc, .istore a, 2)) (hn : a < M.2.2.1) (hl' : (a, .int x) :: lv.filter (f1 a) = lv') (k : G M R E cs (pc + 2) lv' st h) : G M R E cs pc lv (.int x :: st) h := by
  intro p l e s m args below meth c Q A D gA H locs ls ad C hr hl hE
  exact lv_istore (lv' := (a, .int x) :: lvm ad (lv.filter (f1 a))) C.x C.b (C.ok.at hi) hl hn (by rw [lvm_f1]) (fun ls' hl2 => k p l e s m args below meth c Q A D gA H locs ls' ad C hr (by rw [← hl']; exact hl2) hE)
theorem G.lstore_n {a : Fin 4} {x : Int64} (lv' : Lv) (i : Nat) (hi : M.2.2.2.2[i]? = some (pc, .lstore_n a, 1)) (hn : (a : Nat) + 1 < M.2.2.1) (hl' : ((a : Nat), .long x) :: lv.filter (f2 a) = lv') (k : G M R E cs (pc + 1) lv' st h) : G M R E cs pc lv (.long x :: st) h := by
  intro p l e s m args below meth c Q A D gA H locs ls ad C hr hl hE
  exact lv_lstore_n (lv' := ((a : Nat), .long x) :: lvm ad (lv.filter (f2 a))) C.x C.b (C.ok.at hi) rfl hl hn (by rw [lvm_f2]) (fun ls' hl2 => k p l e s m args below meth c Q A D gA H locs ls' ad C hr (by rw [← hl']; exact hl2) hE)
theorem G.lstore {a : Nat} {x : Int64} (lv' : Lv) (i : Nat) (hi : M.2.2.2.2[i]? = some (pc, .lstore a, 2)) (hn : a + 1 < M.2.2.1) (hl' : (a, .long x) :: lv.filter (f2 a) = lv') (k : G M R E cs (pc + 2) lv' st h) : G M R E cs pc lv (.long x :: st) h := by
  intro p l e s m args below meth c Q A D gA H locs ls ad C hr hl hE
  exact lv_lstore (lv' := (a, .long x) :: lvm ad (lv.filter (f2 a))) C.x C.b (C.ok.at hi) hl hn (by rw [lvm_f2]) (fun ls' hl2 => k p l e s m args below meth c Q A D gA H locs ls' ad C hr (by rw [← hl']; exact hl2) hE)
theorem G.astore_n {a : Fin 4} {x : Nat} (lv' : Lv) (i : Nat) (hi : M.2.2.2.2[i]? = some (pc, .astore_n a, 1)) (hn : (a : Nat) < M.2.2.1) (hl' : ((a : Nat), .ref x) :: lv.filter (f1 a) = lv') (k : G M R E cs (pc + 1) lv' st h) : G M R E cs pc lv (.ref x :: st) h := by
  intro p l e s m args below meth c Q A D gA H locs ls ad C hr hl hE
  exact lv_astore_n (lv' := ((a : Nat), .ref (ad x)) :: lvm ad (lv.filter (f1 a))) C.x C.b (C.ok.at hi) rfl hl hn (by rw [lvm_f1]) (fun ls' hl2 => k p l e s m args below meth c Q A D gA H locs ls' ad C hr (by rw [← hl']; exact hl2) hE)
theorem G.astore {a : Nat} {x : Nat} (lv' : Lv) (i : Nat) (hi : M.2.2.2.2[i]? = some (pc, .astore a, 2)) (hn : a < M.2.2.1) (hl' : (a, .ref x) :: lv.filter (f1 a) = lv') (k : G M R E cs (pc + 2) lv' st h) : G M R E cs pc lv (.ref x :: st) h := by
  intro p l e s m args below meth c Q A D gA H locs ls ad C hr hl hE
  exact lv_astore (lv' := (a, .ref (ad x)) :: lvm ad (lv.filter (f1 a))) C.x C.b (C.ok.at hi) hl hn (by rw [lvm_f1]) (fun ls' hl2 => k p l e s m args below meth c Q A D gA H locs ls' ad C hr (by rw [← hl']; exact hl2) hE)
theorem G.iinc {a : Nat} {n : Int} {x : Int32} (v : Int32) (lv' : Lv) (i j : Nat) (hi : M.2.2.2.2[i]? = some (pc, .iinc a n, 3)) (hj : lv[j]? = some (a, .int x)) (hv : x + Int32.ofInt n = v) (hn : a < M.2.2.1) (hl' : (a, .int v) :: lv.filter (f1 a) = lv') (k : G M R E cs (pc + 3) lv' st h) : G M R E cs pc lv st h := by
  intro p l e s m args below meth c Q A D gA H locs ls ad C hr hl hE
  exact lv_iinc (lv' := (a, .int v) :: lvm ad (lv.filter (f1 a))) C.x C.b (C.ok.at hi) hl (lvm_at hj) hv hn (by rw [lvm_f1]) (fun ls' hl2 => k p l e s m args below meth c Q A D gA H locs ls' ad C hr (by rw [← hl']; exact hl2) hE)
theorem G.iincW {a : Nat} {n : Int} {x : Int32} (v : Int32) (lv' : Lv) (i j : Nat) (hi : M.2.2.2.2[i]? = some (pc, .iinc a n, 6)) (hj : lv[j]? = some (a, .int x)) (hv : x + Int32.ofInt n = v) (hn : a < M.2.2.1) (hl' : (a, .int v) :: lv.filter (f1 a) = lv') (k : G M R E cs (pc + 6) lv' st h) : G M R E cs pc lv st h := by
  intro p l e s m args below meth c Q A D gA H locs ls ad C hr hl hE
  exact lv_iincW (lv' := (a, .int v) :: lvm ad (lv.filter (f1 a))) C.x C.b (C.ok.at hi) hl (lvm_at hj) hv hn (by rw [lvm_f1]) (fun ls' hl2 => k p l e s m args below meth c Q A D gA H locs ls' ad C hr (by rw [← hl']; exact hl2) hE)
theorem G.if_eq {x : Int32} {off : Int} (tgt : Nat) (i : Nat) (hi : M.2.2.2.2[i]? = some (pc, .ifCond .eq off, 3)) (ht : (pc : Int) + off = (tgt : Int)) (kt : x = 0 → G M R E cs tgt lv st h) (kf : ¬ x = 0 → G M R E cs (pc + 3) lv st h) : G M R E cs pc lv (.int x :: st) h := by
  intro p l e s m args below meth c Q A D gA H locs ls ad C hr hl hE
  exact lv_if_eq C.x C.b (C.ok.at hi) ht (fun q => kt q p l e s m args below meth c Q A D gA H locs ls ad C hr hl hE) (fun q => kf q p l e s m args below meth c Q A D gA H locs ls ad C hr hl hE)
theorem G.if_ne {x : Int32} {off : Int} (tgt : Nat) (i : Nat) (hi : M.2.2.2.2[i]? = some (pc, .ifCond .ne off, 3)) (ht : (pc : Int) + off = (tgt : Int)) (kt : ¬ x = 0 → G M R E cs tgt lv st h) (kf : x = 0 → G M R E cs (pc + 3) lv st h) : G M R E cs pc lv (.int x :: st) h := by
  intro p l e s m args below meth c Q A D gA H locs ls ad C hr hl hE
  exact lv_if_ne C.x C.b (C.ok.at hi) ht (fun q => kt q p l e s m args below meth c Q A D gA H locs ls ad C hr hl hE) (fun q => kf q p l e s m args below meth c Q A D gA H locs ls ad C hr hl hE)
theorem G.if_lt {x : Int32} {off : Int} (tgt : Nat) (i : Nat) (hi : M.2.2.2.2[i]? = some (pc, .ifCond .lt off, 3)) (ht : (pc : Int) + off = (tgt : Int)) (kt : x < 0 → G M R E cs tgt lv st h) (kf : ¬ x < 0 → G M R E cs (pc + 3) lv st h) : G M R E cs pc lv (.int x :: st) h := by
  intro p l e s m args below meth c Q A D gA H locs ls ad C hr hl hE
  exact lv_if_lt C.x C.b (C.ok.at hi) ht (fun q => kt q p l e s m args below meth c Q A D gA H locs ls ad C hr hl hE) (fun q => kf q p l e s m args below meth c Q A D gA H locs ls ad C hr hl hE)
theorem G.if_ge {x : Int32} {off : Int} (tgt : Nat) (i : Nat) (hi : M.2.2.2.2[i]? = some (pc, .ifCond .ge off, 3)) (ht : (pc : Int) + off = (tgt : Int)) (kt : 0 ≤ x → G M R E cs tgt lv st h) (kf : ¬ 0 ≤ x → G M R E cs (pc + 3) lv st h) : G M R E cs pc lv (.int x :: st) h := by
  intro p l e s m args below meth c Q A D gA H locs ls ad C hr hl hE
  exact lv_if_ge C.x C.b (C.ok.at hi) ht (fun q => kt q p l e s m args below meth c Q A D gA H locs ls ad C hr hl hE) (fun q => kf q p l e s m args below meth c Q A D gA H locs ls ad C hr hl hE)
theorem G.if_gt {x : Int32} {off : Int} (tgt : Nat) (i : Nat) (hi : M.2.2.2.2[i]? = some (pc, .ifCond .gt off, 3)) (ht : (pc : Int) + off = (tgt : Int)) (kt : 0 < x → G M R E cs tgt lv st h) (kf : ¬ 0 < x → G M R E cs (pc + 3) lv st h) : G M R E cs pc lv (.int x :: st) h := by
  intro p l e s m args below meth c Q A D gA H locs ls ad C hr hl hE
  exact lv_if_gt C.x C.b (C.ok.at hi) ht (fun q => kt q p l e s m args below meth c Q A D gA H locs ls ad C hr hl hE) (fun q => kf q p l e s m args below meth c Q A D gA H locs ls ad C hr hl hE)
theorem G.if_le {x : Int32} {off : Int} (tgt : Nat) (i : Nat) (hi : M.2.2.2.2[i]? = some (pc, .ifCond .le off, 3)) (ht : (pc : Int) + off = (tgt : Int)) (kt : x ≤ 0 → G M R E cs tgt lv st h) (kf : ¬ x ≤ 0 → G M R E cs (pc + 3) lv st h) : G M R E cs pc lv (.int x :: st) h := by
  intro p l e s m args below meth c Q A D gA H locs ls ad C hr hl hE
  exact lv_if_le C.x C.b (C.ok.at hi) ht (fun q => kt q p l e s m args below meth c Q A D gA H locs ls ad C hr hl hE) (fun q => kf q p l e s m args below meth c Q A D gA H locs ls ad C hr hl hE)
theorem G.icmp_eq {x y : Int32} {off : Int} (tgt : Nat) (i : Nat) (hi : M.2.2.2.2[i]? = some (pc, .if_icmp .eq off, 3)) (ht : (pc : Int) + off = (tgt : Int)) (kt : x = y → G M R E cs tgt lv st h) (kf : ¬ x = y → G M R E cs (pc + 3) lv st h) : G M R E cs pc lv (.int y :: .int x :: st) h := by
  intro p l e s m args below meth c Q A D gA H locs ls ad C hr hl hE
  exact lv_icmp_eq C.x C.b (C.ok.at hi) ht (fun q => kt q p l e s m args below meth c Q A D gA H locs ls ad C hr hl hE) (fun q => kf q p l e s m args below meth c Q A D gA H locs ls ad C hr hl hE)
theorem G.icmp_ne {x y : Int32} {off : Int} (tgt : Nat) (i : Nat) (hi : M.2.2.2.2[i]? = some (pc, .if_icmp .ne off, 3)) (ht : (pc : Int) + off = (tgt : Int)) (kt : ¬ x = y → G M R E cs tgt lv st h) (kf : x = y → G M R E cs (pc + 3) lv st h) : G M R E cs pc lv (.int y :: .int x :: st) h := by
  intro p l e s m args below meth c Q A D gA H locs ls ad C hr hl hE
  exact lv_icmp_ne C.x C.b (C.ok.at hi) ht (fun q => kt q p l e s m args below meth c Q A D gA H locs ls ad C hr hl hE) (fun q => kf q p l e s m args below meth c Q A D gA H locs ls ad C hr hl hE)
theorem G.icmp_lt {x y : Int32} {off : Int} (tgt : Nat) (i : Nat) (hi : M.2.2.2.2[i]? = some (pc, .if_icmp .lt off, 3)) (ht : (pc : Int) + off = (tgt : Int)) (kt : x < y → G M R E cs tgt lv st h) (kf : ¬ x < y → G M R E cs (pc + 3) lv st h) : G M R E cs pc lv (.int y :: .int x :: st) h := by
  intro p l e s m args below meth c Q A D gA H locs ls ad C hr hl hE
  exact lv_icmp_lt C.x C.b (C.ok.at hi) ht (fun q => kt q p l e s m args below meth c Q A D gA H locs ls ad C hr hl hE) (fun q => kf q p l e s m args below meth c Q A D gA H locs ls ad C hr hl hE)
theorem G.icmp_ge {x y : Int32} {off : Int} (tgt : Nat) (i : Nat) (hi : M.2.2.2.2[i]? = some (pc, .if_icmp .ge off, 3)) (ht : (pc : Int) + off = (tgt : Int)) (kt : y ≤ x → G M R E cs tgt lv st h) (kf : ¬ y ≤ x → G M R E cs (pc + 3) lv st h) : G M R E cs pc lv (.int y :: .int x :: st) h := by
  intro p l e s m args below meth c Q A D gA H locs ls ad C hr hl hE
  exact lv_icmp_ge C.x C.b (C.ok.at hi) ht (fun q => kt q p l e s m args below meth c Q A D gA H locs ls ad C hr hl hE) (fun q => kf q p l e s m args below meth c Q A D gA H locs ls ad C hr hl hE)
theorem G.icmp_gt {x y : Int32} {off : Int} (tgt : Nat) (i : Nat) (hi : M.2.2.2.2[i]? = some (pc, .if_icmp .gt off, 3)) (ht : (pc : Int) + off = (tgt : Int)) (kt : y < x → G M R E cs tgt lv st h) (kf : ¬ y < x → G M R E cs (pc + 3) lv st h) : G M R E cs pc lv (.int y :: .int x :: st) h := by
  intro p l e s m args below meth c Q A D gA H locs ls ad C hr hl hE
  exact lv_icmp_gt C.x C.b (C.ok.at hi) ht (fun q => kt q p l e s m args below meth c Q A D gA H locs ls ad C hr hl hE) (fun q => kf q p l e s m args below meth c Q A D gA H locs ls ad C hr hl hE)
theorem G.icmp_le {x y : Int32} {off : Int} (tgt : Nat) (i : Nat) (hi : M.2.2.2.2[i]? = some (pc, .if_icmp .le off, 3)) (ht : (pc : Int) + off = (tgt : Int)) (kt : x ≤ y → G M R E cs tgt lv st h) (kf : ¬ x ≤ y → G M R E cs (pc + 3) lv st h) : G M R E cs pc lv (.int y :: .int x :: st) h := by
  intro p l e s m args below meth c Q A D gA H locs ls ad C hr hl hE
  exact lv_icmp_le C.x C.b (C.ok.at hi) ht (fun q => kt q p l e s m args below meth c Q A D gA H locs ls ad C hr hl hE) (fun q => kf q p l e s m args below meth c Q A D gA H locs ls ad C hr hl hE)
theorem G.goto {off : Int} (tgt : Nat) (i : Nat) (hi : M.2.2.2.2[i]? = some (pc, .goto off, 3)) (ht' : (pc : Int) + off = (tgt : Int)) (k : G M R E cs tgt lv st h) : G M R E cs pc lv st h := G.row i hi (fun p l e s m args below meth c Q H locs ls ad ho ht hx hb hd kk => lv_goto hx hb hd ht' kk) k
theorem G.tswOut {dflt lo hi : Int} {offs : Array Int} {len : Nat} {x : Int32} (tgt : Nat) (i : Nat) (hi' : M.2.2.2.2[i]? = some (pc, .tableswitch dflt lo hi offs, len)) (hh : x.toInt < lo ∨ hi < x.toInt) (ht' : (pc : Int) + dflt = (tgt : Int)) (k : G M R E cs tgt lv st h) : G M R E cs pc lv (.int x :: st) h := G.row i hi' (fun p l e s m args below meth c Q H locs ls ad ho ht hx hb hd kk => lv_tableOut hx hb hd hh ht' kk) k
theorem G.tswIn {dflt lo hi off : Int} {offs : Array Int} {len : Nat} {x : Int32} (tgt : Nat) (i : Nat) (hi' : M.2.2.2.2[i]? = some (pc, .tableswitch dflt lo hi offs, len)) (h1 : ¬ x.toInt < lo) (h2 : ¬ hi < x.toInt) (hof : offs[(x.toInt - lo).toNat]? = some off) (ht' : (pc : Int) + off = (tgt : Int)) (k : G M R E cs tgt lv st h) : G M R E cs pc lv (.int x :: st) h := G.row i hi' (fun p l e s m args below meth c Q H locs ls ad ho ht hx hb hd kk => lv_tableIn hx hb hd h1 h2 hof ht' kk) k
end GS
end
section
/-! STEPS OF G: fields and arrays -/
section GH
variable {ad : Nat → Nat} {Ik : Nat → Int32} {Jk : Nat → Int64} {ci j : Nat} {rs : List Nat}
theorem flds_get (hj : j < cnf ci) : (flds ad Ik Jk ci rs)[j]? = some (fvl ad Ik Jk ci rs j) := by simp [flds, hj]
theorem flds_len : (flds ad Ik Jk ci rs).length = cnf ci := by simp [flds]
theorem fvl_0 (ht : fk (ctyp ci j) = 0) : fvl ad Ik Jk ci rs j = .int (Ik j) := by simp [fvl, ht]
theorem fvl_1 (ht : fk (ctyp ci j) = 1) : fvl ad Ik Jk ci rs j = .long (Jk j) := by simp [fvl, ht]
theorem fvl_2 (ht : fk (ctyp ci j) = 2) : fvl ad Ik Jk ci rs j = rfv ad (rs.getD j 0) := by simp [fvl, ht]
theorem flds_ext {vs : List Value} (hl : vs.length = cnf ci) (hv : ∀ n, n < cnf ci → vs[n]? = some (fvl ad Ik Jk ci rs n)) : vs = flds ad Ik Jk ci rs := by
  apply List.ext_getElem?
  intro n
  by_cases hn : n < cnf ci
  · rw [hv n hn, flds_get hn]
  · rw [List.getElem?_eq_none (by omega), List.getElem?_eq_none (by rw [flds_len]; omega)]
theorem flds_setI {v : Int32} (hj : j < cnf ci) (ht : fk (ctyp ci j) = 0) : (flds ad Ik Jk ci rs).set j (.int v) = flds ad (upd Ik j v) Jk ci rs := by
  refine flds_ext (by simp [flds]) fun n hn => ?_
  by_cases h : n = j
  · subst h
    rw [List.getElem?_set_self (by rw [flds_len]; exact hn), fvl_0 ht]
    simp [upd]
  · rw [List.getElem?_set_ne (Ne.symm h), flds_get hn]
    simp [fvl, upd, h]
theorem flds_setJ {v : Int64} (hj : j < cnf ci) (ht : fk (ctyp ci j) = 1) : (flds ad Ik Jk ci rs).set j (.long v) = flds ad Ik (vp_updL Jk j v) ci rs := by
  refine flds_ext (by simp [flds]) fun n hn => ?_
  by_cases h : n = j
  · subst h
    rw [List.getElem?_set_self (by rw [flds_len]; exact hn), fvl_1 ht]
    simp [vp_updL]
  · rw [List.getElem?_set_ne (Ne.symm h), flds_get hn]
    simp [fvl, vp_updL, h]
theorem flds_setR {r : Nat} (hj : j < cnf ci) (ht : fk (ctyp ci j) = 2) (hl : j < rs.length) : (flds ad Ik Jk ci rs).set j (rfv ad r) = flds ad Ik Jk ci (rs.set j r) := by
  refine flds_ext (by simp [flds]) fun n hn => ?_
  by_cases h : n = j
  · subst h
    rw [List.getElem?_set_self (by rw [flds_len]; exact hn), fvl_2 ht]
    simp [List.getD_eq_getElem?_getD, hl]
  · rw [List.getElem?_set_ne (Ne.symm h), flds_get hn]
    simp [fvl, List.getD_eq_getElem?_getD, List.getElem?_set_ne (Ne.symm h)]
end GH
def cokb (q : vw_C) : Bool := (u_ws q.1 q.2.1 q.2.2).all (fun w => decide (w ∈ lw_tbl) && qw w)
theorem cokb_wl {q : vw_C} (h : cokb q = true) : ∀ w ∈ u_ws q.1 q.2.1 q.2.2, w ∈ wl := by
  intro w hw
  have h1 := List.all_eq_true.mp h w hw
  simp only [Bool.and_eq_true, decide_eq_true_eq] at h1
  exact List.mem_filter.mpr h1
def COk (ci : Nat) (q : vw_C) : Prop := (∀ w ∈ u_ws q.1 q.2.1 q.2.2, w ∈ wl) ∧ (∀ k, k < q.2.2 → parseFieldDescriptor (q.2.1 k).2.2.1 = some (ctyp ci k)) ∧ (∀ a, a < q.2.2 → ∀ b, b < q.2.2 → a ≠ b → (q.2.1 a).2.1 ≠ (q.2.1 b).2.1)
theorem ck0 : COk 0 (RX0, TX0, 11) := ⟨cokb_wl (by decide +kernel), tyX0_ok, nmX0⟩
theorem ck1 : COk 1 (RX1, TX1, 20) := ⟨cokb_wl (by decide +kernel), tyX1_ok, nmX1⟩
theorem ck2 : COk 2 (RX2, TX2, 6) := ⟨cokb_wl (by decide +kernel), tyX2_ok, nmX2⟩
theorem ck3 : COk 3 (RX3, TX3, 7) := ⟨cokb_wl (by decide +kernel), tyX3_ok, nmX3⟩
theorem ck4 : COk 4 (RX4, TX4, 17) := ⟨cokb_wl (by decide +kernel), tyX4_ok, nmX4⟩
theorem ck5 : COk 5 (RX5, TX5, 12) := ⟨cokb_wl (by decide +kernel), tyX5_ok, nmX5⟩
theorem ck6 : COk 6 (RX6, TX6, 11) := ⟨cokb_wl (by decide +kernel), tyX6_ok, nmX6⟩
theorem ck7 : COk 7 (RX7, TX7, 9) := ⟨cokb_wl (by decide +kernel), tyX7_ok, nmX7⟩
theorem ck8 : COk 8 (RX8, TX8, 7) := ⟨cokb_wl (by decide +kernel), tyX8_ok, nmX8⟩
theorem ck9 : COk 9 (RX9, TX9, 2) := ⟨cokb_wl (by decide +kernel), tyX9_ok, nmX9⟩
theorem ck10 : COk 10 (RX10, TX10, 2) := ⟨cokb_wl (by decide +kernel), tyX10_ok, nmX10⟩
theorem ck11 : COk 11 (RX11, TX11, 11) := ⟨cokb_wl (by decide +kernel), tyX11_ok, nmX11⟩
theorem ck12 : COk 12 (RX12, TX12, 75) := ⟨cokb_wl (by decide +kernel), tyX12_ok, nmX12⟩
theorem cok {ci : Nat} {q : vw_C} (h : cl_all[ci]? = some q) : COk ci q := by
  match ci, h with
  | 0, h => cases h; exact ck0
  | 1, h => cases h; exact ck1
  | 2, h => cases h; exact ck2
  | 3, h => cases h; exact ck3
  | 4, h => cases h; exact ck4
  | 5, h => cases h; exact ck5
  | 6, h => cases h; exact ck6
  | 7, h => cases h; exact ck7
  | 8, h => cases h; exact ck8
  | 9, h => cases h; exact ck9
  | 10, h => cases h; exact ck10
  | 11, h => cases h; exact ck11
  | 12, h => cases h; exact ck12
  | n + 13, h => simp at h
theorem cnf_of {ci : Nat} {q : vw_C} (h : cl_all[ci]? = some q) : cnf ci = q.2.2 := by simp only [cnf, h]
/-- the link idx of the methods of 'own' is field j of the objects of kind ci -/
def FOk (own : String) (idx ci j : Nat) : Prop := ∃ q : vw_C, cl_all[ci]? = some q ∧ j < q.2.2 ∧ Cond.fieldLink own idx q.1 (q.2.1 j).2.1 (q.2.1 j).2.2.1 ∈ wl ∧ (q.2.1 j).1 = q.1
section GF
variable {M : MD} {R : Room} {E : Ex} {cs : Nat × Nat} {pc : Nat} {lv : Lv} {st : List Value} {h : Hp} {Z : List Kd} {I : Nat → Nat → Int32} {J : Nat → Nat → Int64}
theorem G.getV {idx ci j o : Nat} {rs : List Nat} {v : Value} (i : Nat) (hi : M.2.2.2.2[i]? = some (pc, .getfield idx, 3)) (hf : FOk M.1.cls idx ci j) (hz : h.1[o]? = some (0, ci, rs)) (hv : ∀ ad : Nat → Nat, fvl ad (h.2.1 o) (h.2.2 o) ci rs j = cv ad v)
    (k : G M R E cs (pc + 3) lv (v :: st) h) : G M R E cs pc lv (.ref o :: st) h := by
  refine G.go (fun p l e s m args below meth c Q A D gA H locs ls ad C hr hl kk => ?_) k
  obtain ⟨q, hq, hj, hl1, hl2⟩ := hf
  have hg : (flds ad (h.2.1 o) (h.2.2 o) ci rs)[j]? = some (cv ad v) := by rw [flds_get (by rw [cnf_of hq]; exact hj), hv ad]
  exact va_get C.x C.b C.ts (cok hq).1 C.own C.K hr.1 o (wsO_get hz) hq j hj (C.ts _ hl1) (fun x hx => by rw [← hl2]; exact hx) hg (C.ok.at hi) kk
theorem G.getI {idx ci j o : Nat} {rs : List Nat} (i : Nat) (hi : M.2.2.2.2[i]? = some (pc, .getfield idx, 3)) (hf : FOk M.1.cls idx ci j) (hz : Z[o]? = some (0, ci, rs)) (ht : fk (ctyp ci j) = 0)
    (k : G M R E cs (pc + 3) lv (.int (I o j) :: st) (Z, I, J)) : G M R E cs pc lv (.ref o :: st) (Z, I, J) := G.getV i hi hf hz (fun ad => fvl_0 ht) k
theorem G.getJ {idx ci j o : Nat} {rs : List Nat} (i : Nat) (hi : M.2.2.2.2[i]? = some (pc, .getfield idx, 3)) (hf : FOk M.1.cls idx ci j) (hz : Z[o]? = some (0, ci, rs)) (ht : fk (ctyp ci j) = 1)
    (k : G M R E cs (pc + 3) lv (.long (J o j) :: st) (Z, I, J)) : G M R E cs pc lv (.ref o :: st) (Z, I, J) := G.getV i hi hf hz (fun ad => fvl_1 ht) k
theorem G.getR {idx ci j o r : Nat} {rs : List Nat} (i : Nat) (hi : M.2.2.2.2[i]? = some (pc, .getfield idx, 3)) (hf : FOk M.1.cls idx ci j) (hz : Z[o]? = some (0, ci, rs)) (ht : fk (ctyp ci j) = 2) (hr : rs.getD j 0 = r + 1)
    (k : G M R E cs (pc + 3) lv (.ref r :: st) (Z, I, J)) : G M R E cs pc lv (.ref o :: st) (Z, I, J) := G.getV i hi hf hz (fun ad => by rw [fvl_2 ht, hr]; rfl) k
/-- a store into a field: final ones in a constructor of the same kind alone -/
theorem G.putV {idx ci j o : Nat} {rs : List Nat} {v : Value} {h' : Hp} (i : Nat) (hi : M.2.2.2.2[i]? = some (pc, .putfield idx, 3)) (hf : FOk M.1.cls idx ci j) (hz : h.1[o]? = some (0, ci, rs)) (hn : ∀ ad : Nat → Nat, narrow (ctyp ci j) (cv ad v) = cv ad v) (hfit : ∀ ad : Nat → Nat, fits (ctyp ci j) (cv ad v) = true)
    (hfin : ∀ q : vw_C, cl_all[ci]? = some q → (q.2.1 j).2.2.2 = false ∨ ((q.2.1 j).2.2.2 = true ∧ M.1.name = "<init>" ∧ (q.2.1 j).1 = M.1.cls))
    (hlen : h'.1.length = h.1.length) (hw : ∀ (gA : Nat → ClassId) (ad : Nat → Nat), (wsO gA ad h).set o (ad o, .inr (ci, (flds ad (h.2.1 o) (h.2.2 o) ci rs).set j (cv ad v))) = wsO gA ad h')
    (k : G M R E cs (pc + 3) lv st h') : G M R E cs pc lv (v :: .ref o :: st) h := by
  intro p l e s m args below meth c Q A D gA H locs ls ad C hr hl hE
  obtain ⟨q, hq, hj, hl1, hl2⟩ := hf
  have hk := cok hq
  have kk : ∀ (H1 : Heap) (locs1 : List Loc), va_P D cl_all ((wsO gA ad h).set o (ad o, .inr (ci, (flds ad (h.2.1 o) (h.2.2 o) ci rs).set j (cv ad v)))) H1 → va_D A ((wsO gA ad h).set o (ad o, .inr (ci, (flds ad (h.2.1 o) (h.2.2 o) ci rs).set j (cv ad v)))) → va_S A s.heap H1 locs1 → W p l e R s m args below meth c H1 locs1 cs.1 cs.2 Q (F0 m (pc + 3) ls (st.map (cv ad))) := by
    intro H1 locs1 g1 g2 g3
    rw [hw] at g1 g2
    exact k p l e s m args below meth c Q A D gA H1 locs1 ls ad C ⟨g1, g2, g3⟩ hl (by rw [hlen]; exact hE)
  rcases hfin q hq with h0 | ⟨h0, h1, h2⟩
  · exact va_put C.x C.b C.ts hk.1 (ctyp ci) hk.2.1 hk.2.2 C.own C.K hr.1 hr.2.1 hr.2.2 o (wsO_get hz) hq j hj (C.ts _ hl1) (fun x hx => by rw [← hl2]; exact hx) h0 (hk.2.1 j hj) (hn ad) (hfit ad) (by rw [flds_len, cnf_of hq]; exact hj) (C.ok.at hi) kk
  · exact va_putF C.x C.b C.ts hk.1 (ctyp ci) hk.2.1 hk.2.2 C.own C.K hr.1 hr.2.1 hr.2.2 o (wsO_get hz) hq j hj (C.ts _ hl1) (fun x hx => by rw [← hl2]; exact hx) h0 (C.nm.trans h1) h2 (hk.2.1 j hj) (hn ad) (hfit ad) (by rw [flds_len, cnf_of hq]; exact hj) (C.ok.at hi) kk
end GF
end
section
/-! STEPS OF G: stores into fields, arrays, the static table, making -/
section GA
variable {M : MD} {R : Room} {E : Ex} {cs : Nat × Nat} {pc : Nat} {lv : Lv} {st : List Value} {h : Hp} {Z : List Kd} {I : Nat → Nat → Int32} {J : Nat → Nat → Int64}
theorem cnf_j {own : String} {idx ci j : Nat} (hf : FOk own idx ci j) : j < cnf ci := by
  obtain ⟨q, hq, hj, -⟩ := hf
  rw [cnf_of hq]
  exact hj
abbrev FinOk (M : MD) (ci j : Nat) : Prop := ∀ q : vw_C, cl_all[ci]? = some q → (q.2.1 j).2.2.2 = false ∨ ((q.2.1 j).2.2.2 = true ∧ M.1.name = "<init>" ∧ (q.2.1 j).1 = M.1.cls)
theorem G.putI {idx ci j o : Nat} {rs : List Nat} {v : Int32} (i : Nat) (hi : M.2.2.2.2[i]? = some (pc, .putfield idx, 3)) (hf : FOk M.1.cls idx ci j) (hz : Z[o]? = some (0, ci, rs)) (ht : fk (ctyp ci j) = 0) (hn : narrow (ctyp ci j) (.int v) = .int v) (hfit : fits (ctyp ci j) (.int v) = true) (hfin : FinOk M ci j)
    (k : G M R E cs (pc + 3) lv st (Z, ui I o j v, J)) : G M R E cs pc lv (.int v :: .ref o :: st) (Z, I, J) :=
  G.putV (h' := (Z, ui I o j v, J)) i hi hf hz (fun _ => hn) (fun _ => hfit) hfin rfl (fun gA ad => by
    show (wsO gA ad (Z, I, J)).set o (ad o, .inr (ci, (flds ad (I o) (J o) ci rs).set j (.int v))) = _
    rw [flds_setI (cnf_j hf) ht]; exact wsO_setI hz) k
theorem G.putJ {idx ci j o : Nat} {rs : List Nat} {v : Int64} (i : Nat) (hi : M.2.2.2.2[i]? = some (pc, .putfield idx, 3)) (hf : FOk M.1.cls idx ci j) (hz : Z[o]? = some (0, ci, rs)) (ht : fk (ctyp ci j) = 1) (hn : narrow (ctyp ci j) (.long v) = .long v) (hfit : fits (ctyp ci j) (.long v) = true) (hfin : FinOk M ci j)
    (k : G M R E cs (pc + 3) lv st (Z, I, uj J o j v)) : G M R E cs pc lv (.long v :: .ref o :: st) (Z, I, J) :=
  G.putV (h' := (Z, I, uj J o j v)) i hi hf hz (fun _ => hn) (fun _ => hfit) hfin rfl (fun gA ad => by
    show (wsO gA ad (Z, I, J)).set o (ad o, .inr (ci, (flds ad (I o) (J o) ci rs).set j (.long v))) = _
    rw [flds_setJ (cnf_j hf) ht]; exact wsO_setJ hz) k
theorem G.putR {idx ci j o r : Nat} {rs : List Nat} (i : Nat) (hi : M.2.2.2.2[i]? = some (pc, .putfield idx, 3)) (hf : FOk M.1.cls idx ci j) (hz : Z[o]? = some (0, ci, rs)) (ht : fk (ctyp ci j) = 2) (hn : ∀ a : Nat, narrow (ctyp ci j) (.ref a) = .ref a) (hfit : ∀ a : Nat, fits (ctyp ci j) (.ref a) = true) (hfin : FinOk M ci j) (hl : j < rs.length)
    (k : G M R E cs (pc + 3) lv st (Z.set o (0, ci, rs.set j (r + 1)), I, J)) : G M R E cs pc lv (.ref r :: .ref o :: st) (Z, I, J) :=
  G.putV (h' := (Z.set o (0, ci, rs.set j (r + 1)), I, J)) i hi hf hz (fun ad => hn (ad r)) (fun ad => hfit (ad r)) hfin (List.length_set ..) (fun gA ad => by
    show (wsO gA ad (Z, I, J)).set o (ad o, .inr (ci, (flds ad (I o) (J o) ci rs).set j (rfv ad (r + 1)))) = _
    rw [flds_setR (cnf_j hf) ht hl]; exact wsO_setZ (kd' := (0, ci, rs.set j (r + 1))) (List.getElem?_eq_some_iff.mp hz).1) k
-- loads
theorem G.iald {o n : Nat} {rs : List Nat} {x : Int32} (i : Nat) (hi : M.2.2.2.2[i]? = some (pc, .iaload, 1)) (hz : Z[o]? = some (1, n, rs)) (hin : vp_in x n) (k : G M R E cs (pc + 1) lv (.int (I o x.toNatClampNeg) :: st) (Z, I, J)) : G M R E cs pc lv (.int x :: .ref o :: st) (Z, I, J) :=
  G.go (fun p l e s m args below meth c Q A D gA H locs ls ad C hr hl kk => va_iald C.x C.b C.K hr.1 o 0 (wsO_get (gA := gA) (ad := ad) (h := (Z, I, J)) hz) rfl hin (C.ok.at hi) kk) k
theorem G.bald {o n : Nat} {rs : List Nat} {x : Int32} (i : Nat) (hi : M.2.2.2.2[i]? = some (pc, .baload, 1)) (hz : Z[o]? = some (3, n, rs)) (hin : vp_in x n) (k : G M R E cs (pc + 1) lv (.int (I o x.toNatClampNeg) :: st) (Z, I, J)) : G M R E cs pc lv (.int x :: .ref o :: st) (Z, I, J) :=
  G.go (fun p l e s m args below meth c Q A D gA H locs ls ad C hr hl kk => va_bald C.x C.b C.K hr.1 o 2 (wsO_get (gA := gA) (ad := ad) (h := (Z, I, J)) hz) rfl hin (C.ok.at hi) kk) k
theorem G.zald {o n : Nat} {rs : List Nat} {x : Int32} (i : Nat) (hi : M.2.2.2.2[i]? = some (pc, .baload, 1)) (hz : Z[o]? = some (5, n, rs)) (hin : vp_in x n) (k : G M R E cs (pc + 1) lv (.int (I o x.toNatClampNeg) :: st) (Z, I, J)) : G M R E cs pc lv (.int x :: .ref o :: st) (Z, I, J) :=
  G.go (fun p l e s m args below meth c Q A D gA H locs ls ad C hr hl kk => va_zald C.x C.b C.K hr.1 o 4 (wsO_get (gA := gA) (ad := ad) (h := (Z, I, J)) hz) rfl hin (C.ok.at hi) kk) k
theorem G.cald {o n : Nat} {rs : List Nat} {x : Int32} (i : Nat) (hi : M.2.2.2.2[i]? = some (pc, .caload, 1)) (hz : Z[o]? = some (4, n, rs)) (hin : vp_in x n) (k : G M R E cs (pc + 1) lv (.int (I o x.toNatClampNeg) :: st) (Z, I, J)) : G M R E cs pc lv (.int x :: .ref o :: st) (Z, I, J) :=
  G.go (fun p l e s m args below meth c Q A D gA H locs ls ad C hr hl kk => va_cald C.x C.b C.K hr.1 o 3 (wsO_get (gA := gA) (ad := ad) (h := (Z, I, J)) hz) rfl hin (C.ok.at hi) kk) k
theorem G.lald {o n : Nat} {rs : List Nat} {x : Int32} (i : Nat) (hi : M.2.2.2.2[i]? = some (pc, .laload, 1)) (hz : Z[o]? = some (2, n, rs)) (hin : vp_in x n) (k : G M R E cs (pc + 1) lv (.long (J o x.toNatClampNeg) :: st) (Z, I, J)) : G M R E cs pc lv (.int x :: .ref o :: st) (Z, I, J) :=
  G.go (fun p l e s m args below meth c Q A D gA H locs ls ad C hr hl kk => va_lald C.x C.b C.K hr.1 o 1 (wsO_get (gA := gA) (ad := ad) (h := (Z, I, J)) hz) rfl hin (C.ok.at hi) kk) k
theorem G.aald {o n r : Nat} {rs : List Nat} {x : Int32} (i : Nat) (hi : M.2.2.2.2[i]? = some (pc, .aaload, 1)) (hz : Z[o]? = some (6, n, rs)) (hin : vp_in x n) (hr' : rs.getD x.toNatClampNeg 0 = r + 1) (k : G M R E cs (pc + 1) lv (.ref r :: st) (Z, I, J)) : G M R E cs pc lv (.int x :: .ref o :: st) (Z, I, J) :=
  G.go (fun p l e s m args below meth c Q A D gA H locs ls ad C hr hl kk => va_aldq C.x C.b C.K hr.1 o 5 (wsO_get (gA := gA) (ad := ad) (h := (Z, I, J)) hz) rfl hin (C.ok.at hi) (by
    show W p l e R s m args below meth c H locs cs.1 cs.2 Q (F0 m (pc + 1) ls (va_rf (rfo ad (rs.getD x.toNatClampNeg 0)) :: _))
    rw [hr']; exact kk)) k
-- stores
theorem G.iast {o n : Nat} {rs : List Nat} {x v : Int32} (i : Nat) (hi : M.2.2.2.2[i]? = some (pc, .iastore, 1)) (hz : Z[o]? = some (1, n, rs)) (hin : vp_in x n) (k : G M R E cs (pc + 1) lv st (Z, ui I o x.toNatClampNeg v, J)) : G M R E cs pc lv (.int v :: .int x :: .ref o :: st) (Z, I, J) := by
  intro p l e s m args below meth c Q A D gA H locs ls ad C hr hl hE
  refine va_iast C.x C.b C.K hr.1 hr.2.1 hr.2.2 o 0 (wsO_get (gA := gA) (ad := ad) (h := (Z, I, J)) hz) rfl hin (C.ok.at hi) fun H1 locs1 g1 g2 g3 => ?_
  have hw := wsO_setI (gA := gA) (ad := ad) (I := I) (J := J) (i := x.toNatClampNeg) (v := v) hz
  exact k p l e s m args below meth c Q A D gA H1 locs1 ls ad C ⟨by rw [← hw]; exact g1, by rw [← hw]; exact g2, g3⟩ hl hE
theorem G.bast {o n : Nat} {rs : List Nat} {x v : Int32} (i : Nat) (hi : M.2.2.2.2[i]? = some (pc, .bastore, 1)) (hz : Z[o]? = some (3, n, rs)) (hin : vp_in x n) (k : G M R E cs (pc + 1) lv st (Z, ui I o x.toNatClampNeg (vp_nar .byte v), J)) : G M R E cs pc lv (.int v :: .int x :: .ref o :: st) (Z, I, J) := by
  intro p l e s m args below meth c Q A D gA H locs ls ad C hr hl hE
  refine va_bast C.x C.b C.K hr.1 hr.2.1 hr.2.2 o 2 (wsO_get (gA := gA) (ad := ad) (h := (Z, I, J)) hz) rfl hin (C.ok.at hi) fun H1 locs1 g1 g2 g3 => ?_
  have hw := wsO_setI (gA := gA) (ad := ad) (I := I) (J := J) (i := x.toNatClampNeg) (v := vp_nar .byte v) hz
  exact k p l e s m args below meth c Q A D gA H1 locs1 ls ad C ⟨by rw [← hw]; exact g1, by rw [← hw]; exact g2, g3⟩ hl hE
theorem G.zast {o n : Nat} {rs : List Nat} {x v : Int32} (i : Nat) (hi : M.2.2.2.2[i]? = some (pc, .bastore, 1)) (hz : Z[o]? = some (5, n, rs)) (hin : vp_in x n) (k : G M R E cs (pc + 1) lv st (Z, ui I o x.toNatClampNeg (vp_nar .boolean v), J)) : G M R E cs pc lv (.int v :: .int x :: .ref o :: st) (Z, I, J) := by
  intro p l e s m args below meth c Q A D gA H locs ls ad C hr hl hE
  refine va_zast C.x C.b C.K hr.1 hr.2.1 hr.2.2 o 4 (wsO_get (gA := gA) (ad := ad) (h := (Z, I, J)) hz) rfl hin (C.ok.at hi) fun H1 locs1 g1 g2 g3 => ?_
  have hw := wsO_setI (gA := gA) (ad := ad) (I := I) (J := J) (i := x.toNatClampNeg) (v := vp_nar .boolean v) hz
  exact k p l e s m args below meth c Q A D gA H1 locs1 ls ad C ⟨by rw [← hw]; exact g1, by rw [← hw]; exact g2, g3⟩ hl hE
theorem G.cast {o n : Nat} {rs : List Nat} {x v : Int32} (i : Nat) (hi : M.2.2.2.2[i]? = some (pc, .castore, 1)) (hz : Z[o]? = some (4, n, rs)) (hin : vp_in x n) (k : G M R E cs (pc + 1) lv st (Z, ui I o x.toNatClampNeg (vp_nar .char v), J)) : G M R E cs pc lv (.int v :: .int x :: .ref o :: st) (Z, I, J) := by
  intro p l e s m args below meth c Q A D gA H locs ls ad C hr hl hE
  refine va_cast C.x C.b C.K hr.1 hr.2.1 hr.2.2 o 3 (wsO_get (gA := gA) (ad := ad) (h := (Z, I, J)) hz) rfl hin (C.ok.at hi) fun H1 locs1 g1 g2 g3 => ?_
  have hw := wsO_setI (gA := gA) (ad := ad) (I := I) (J := J) (i := x.toNatClampNeg) (v := vp_nar .char v) hz
  exact k p l e s m args below meth c Q A D gA H1 locs1 ls ad C ⟨by rw [← hw]; exact g1, by rw [← hw]; exact g2, g3⟩ hl hE
theorem G.last {o n : Nat} {rs : List Nat} {x : Int32} {v : Int64} (i : Nat) (hi : M.2.2.2.2[i]? = some (pc, .lastore, 1)) (hz : Z[o]? = some (2, n, rs)) (hin : vp_in x n) (k : G M R E cs (pc + 1) lv st (Z, I, uj J o x.toNatClampNeg v)) : G M R E cs pc lv (.long v :: .int x :: .ref o :: st) (Z, I, J) := by
  intro p l e s m args below meth c Q A D gA H locs ls ad C hr hl hE
  refine va_last C.x C.b C.K hr.1 hr.2.1 hr.2.2 o 1 (wsO_get (gA := gA) (ad := ad) (h := (Z, I, J)) hz) rfl hin (C.ok.at hi) fun H1 locs1 g1 g2 g3 => ?_
  have hw := wsO_setJ (gA := gA) (ad := ad) (I := I) (J := J) (i := x.toNatClampNeg) (v := v) hz
  exact k p l e s m args below meth c Q A D gA H1 locs1 ls ad C ⟨by rw [← hw]; exact g1, by rw [← hw]; exact g2, g3⟩ hl hE
theorem G.aast {o n r ci : Nat} {rs rs2 : List Nat} {x : Int32} (i : Nat) (hi : M.2.2.2.2[i]? = some (pc, .aastore, 1)) (hz : Z[o]? = some (6, n, rs)) (hz2 : Z[r]? = some (0, 2, rs2)) (hin : vp_in x n) (hl' : x.toNatClampNeg < rs.length) (k : G M R E cs (pc + 1) lv st (Z.set o (6, n, rs.set x.toNatClampNeg (r + 1)), I, J)) : G M R E cs pc lv (.ref r :: .int x :: .ref o :: st) (Z, I, J) := by
  intro p l e s m args below meth c Q A D gA H locs ls ad C hr hl hE
  refine va_astq C.x C.b C.K hr.1 hr.2.1 hr.2.2 o 5 r 2 (r := (RX2, TX2, 6)) (wsO_get (gA := gA) (ad := ad) (h := (Z, I, J)) hz) rfl (wsO_get (gA := gA) (ad := ad) (h := (Z, I, J)) hz2) rfl hin (C.ok.at hi) fun H1 locs1 g1 g2 g3 => ?_
  have hf : (va_up (fun i => rfo ad (rs.getD i 0)) x.toNatClampNeg (some (ad r))) = fun i => rfo ad ((rs.set x.toNatClampNeg (r + 1)).getD i 0) := by
    funext q
    by_cases hq : q = x.toNatClampNeg
    · subst hq
      simp [va_up, List.getD_eq_getElem?_getD, hl', rfo]
    · simp [va_up, List.getD_eq_getElem?_getD, List.getElem?_set_ne (Ne.symm hq), hq]
  have hw := wsO_setZ (gA := gA) (ad := ad) (I := I) (J := J) (k := o) (kd' := (6, n, rs.set x.toNatClampNeg (r + 1))) (List.getElem?_eq_some_iff.mp hz).1
  have hw2 : (ad o, (Sum.inl (gA 6, n, .inr (.inr (.inr (.inr (va_up (fun i => rfo ad (rs.getD i 0)) x.toNatClampNeg (some (ad r))))))) : va_E)) = (ad o, cel gA ad (I o) (J o) (6, n, rs.set x.toNatClampNeg (r + 1))) := by
    rw [hf]; rfl
  rw [hw2, hw] at g1 g2
  exact k p l e s m args below meth c Q A D gA H1 locs1 ls ad C ⟨g1, g2, g3⟩ hl (by show _; rw [List.length_set]; exact hE)
theorem cel_t {gA : Nat → ClassId} {ad : Nat → Nat} {Ik : Nat → Int32} {Jk : Nat → Int64} {t n : Nat} {rs : List Nat} (h0 : 1 ≤ t) : ∃ x : vp_A, cel gA ad Ik Jk (t, n, rs) = .inl (gA t, x) ∧ x.1 = n := by
  match t, h0 with
  | 1, _ => exact ⟨_, rfl, rfl⟩
  | 2, _ => exact ⟨_, rfl, rfl⟩
  | 3, _ => exact ⟨_, rfl, rfl⟩
  | 4, _ => exact ⟨_, rfl, rfl⟩
  | 5, _ => exact ⟨_, rfl, rfl⟩
  | 6, _ => exact ⟨_, rfl, rfl⟩
  | t + 7, _ => exact ⟨_, rfl, rfl⟩
theorem G.alen {o t n : Nat} {rs : List Nat} (v : Int32) (i : Nat) (hi : M.2.2.2.2[i]? = some (pc, .arraylength, 1)) (hz : h.1[o]? = some (t, n, rs)) (h0 : 1 ≤ t) (h6 : t ≤ 6) (hv : Int32.ofNat n = v) (k : G M R E cs (pc + 1) lv (.int v :: st) h) : G M R E cs pc lv (.ref o :: st) h := by
  refine G.go (fun p l e s m args below meth c Q A D gA H locs ls ad C hr hl kk => ?_) k
  obtain ⟨x, hx, hx1⟩ := cel_t (gA := gA) (ad := ad) (Ik := h.2.1 o) (Jk := h.2.2 o) (n := n) (rs := rs) h0
  have hg := wsO_get (gA := gA) (ad := ad) hz
  rw [hx] at hg
  obtain ⟨ty, hty⟩ : ∃ ty, (tysO gA)[t - 1]? = some (gA t, ty) := by
    match t, h0, h6 with
    | 1, _, _ => exact ⟨_, rfl⟩
    | 2, _, _ => exact ⟨_, rfl⟩
    | 3, _, _ => exact ⟨_, rfl⟩
    | 4, _, _ => exact ⟨_, rfl⟩
    | 5, _, _ => exact ⟨_, rfl⟩
    | 6, _, _ => exact ⟨_, rfl⟩
  exact va_alen C.x C.b C.K hr.1 o (t - 1) hg hty (by rw [hx1]; exact hv) (C.ok.at hi) kk
-- the static table
def shI (k : Nat) : Int32 := ([0, 27720, 13860, 9240, 6930, 5544, 4620, 3960, 3465, 3080, 2772, 2520] : List Int32).getD k 0
theorem G.gets {idx : Nat} (i : Nat) (hi : M.2.2.2.2[i]? = some (pc, .getstatic idx, 3)) (hf : Cond.fieldLink M.1.cls idx "NinetyLamps$Flow" "SHARES" "[I" ∈ wl) (k : G M R E cs (pc + 3) lv (.ref shx :: st) h) : G M R E cs pc lv st h :=
  G.go (fun p l e s m args below meth c Q A D gA H locs ls ad C hr hl kk => va_gets C.x C.b C.sh.1 hr.2.2 C.own (C.ts _ hf) (fun _ h => h) (C.ok.at hi) kk) k
theorem G.shld {x : Int32} (i : Nat) (hi : M.2.2.2.2[i]? = some (pc, .iaload, 1)) (hin : vp_in x 12) (k : G M R E cs (pc + 1) lv (.int (shI x.toNatClampNeg) :: st) h) : G M R E cs pc lv (.int x :: .ref shx :: st) h :=
  G.go (fun p l e s m args below meth c Q A D gA H locs ls ad C hr hl kk => va_ti C.x C.b C.sh.2.1 hr.2.2 hin rfl (C.ok.at hi) kk) k
theorem G.shlen (i : Nat) (hi : M.2.2.2.2[i]? = some (pc, .arraylength, 1)) (k : G M R E cs (pc + 1) lv (.int 12 :: st) h) : G M R E cs pc lv (.ref shx :: st) h :=
  G.go (fun p l e s m args below meth c Q A D gA H locs ls ad C hr hl kk => va_tlen C.x C.b C.sh.2.1 hr.2.2 (by decide) (C.ok.at hi) kk) k
end GA
end
section
/-! CONTRACTS OF METHODS over the whole world, calls, ends -/
def rmd (d mc ms : Nat) : Room := { frames := d, cells := mc, slots := ms, locals := 64 * d }
abbrev cdw (M : MD) : Cond := Cond.code M.1 M.2.1 M.2.2.1 M.2.2.2.1
def Pm (D : va_G) (gA : Nat → ClassId) (ad : Nat → Nat) (sz : Nat) (h : Hp) (U : State) : Prop :=
  U.heap.size = sz ∧ (∀ w ∈ wl, w.before #[] U = true) ∧ va_K D cl_all (tysO gA) U ∧ va_P D cl_all (wsO gA ad h) U.heap ∧ va_D (fun _ => True) (wsO gA ad h) ∧ Shs (va_A (wsO gA ad h) sz) (ad shx) U
def Qm (D : va_G) (gA : Nat → ClassId) (ad : Nat → Nat) (sz : Nat) (h : Hp) (Q : Option Value → Hp → Prop) : Array Value → State → Outcome → State → Prop := fun _ st oc t =>
  (∃ (r : Option Value) (h' : Hp) (ad' : Nat → Nat), oc = .returned (r.map (cv ad')) ∧ Q r h' ∧ Ext h.1.length ad h'.1.length ad' ∧ va_P D cl_all (wsO gA ad' h') t.heap ∧ va_D (va_A (wsO gA ad h) sz) (wsO gA ad' h')) ∧ va_F (va_A (wsO gA ad h) sz) st t
def GM (M : MD) (d mc ms : Nat) (av : List Value) (h : Hp) (Q : Option Value → Hp → Prop) : Prop :=
  ∀ (l : Launch) (D : va_G) (gA : Nat → ClassId) (ad : Nat → Nat) (sz : Nat), l.stackTraces = false → Met l M.1 [cdw M] (rmd d mc ms) (va_Pc (av.map (cv ad)) (Pm D gA ad sz h)) (Qm D gA ad sz h Q) mc ms (va_A (wsO gA ad h) sz)
theorem Shs.to {A B : Nat → Prop} {t : Nat} {u U : State} (h : Shs A t u) (hW : u.WarmedH U.vm) (hk : ∀ a : Nat, a < u.heap.size → ¬ A a → U.heap[a]? = u.heap[a]?) (hAB : ∀ q, B q → A q) : Shs B t U :=
  ⟨((h.1.kept hk).moved hW.alike).narrow hAB, ((h.2.1.kept hk).moved hW.alike).narrow hAB, ((h.2.2.1.kept hk).moved hW.alike).narrow hAB, ((h.2.2.2.1.kept hk).moved hW.alike).narrow hAB, h.2.2.2.2.moved hW.alike⟩
theorem Pm.to {D : va_G} {gA : Nat → ClassId} {ad : Nat → Nat} {sz : Nat} {h : Hp} {u U : State} (g : Pm D gA ad sz h u) (hW : u.WarmedH U.vm) (hh : U.heap = u.heap) : Pm D gA ad sz h U :=
  ⟨by rw [hh]; exact g.1, fun w hw => wl_warm hW hw (g.2.1 w hw), g.2.2.1.moved hW.alike, by rw [hh]; exact g.2.2.2.1, g.2.2.2.2.1, g.2.2.2.2.2.to hW (fun _ _ _ => by rw [hh]) (fun _ h => h)⟩
theorem Pm.blind {av : List Value} {D : va_G} {gA : Nat → ClassId} {ad : Nat → Nat} {sz : Nat} {h : Hp} : FrameBlind (va_Pc av (Pm D gA ad sz h)) :=
  fun a U g mk q => ⟨q.1, q.2.to (U := U.calling g mk a) (State.WarmedH.refl U) rfl⟩
section GC
variable {M : MD} {R : Room} {E : Ex} {cs : Nat × Nat} {pc : Nat} {lv : Lv} {st : List Value} {h : Hp}
/-- what the callee finds -/
theorem Pm.call {p : Program} {l : Launch} {s : State} {m : MethodId} {args : Array Value} {meth : Method} {c : Code} {A : Nat → Prop} {D : va_G} {gA : Nat → ClassId} {H : Heap} {locs : List Loc} {ad : Nat → Nat} (C : Cx M p l s m args meth c A D gA (ad shx)) (hr : Rp A D gA s H locs ad h) {U : State} (hU : U.heap = H) (hW : s.WarmedH U.vm) : Pm D gA ad H.size h U := by
  have hAB : ∀ q, va_A (wsO gA ad h) H.size q → A q := by
    intro q hq
    rcases hq with ⟨k, e, hk⟩ | hq
    · exact hr.2.1.2 k _ hk
    · exact C.hA q (Nat.le_trans hr.2.2.1 hq)
  refine ⟨by rw [hU], fun w hw => wl_warm hW hw (C.ts w hw), C.K.moved hW.alike, by rw [hU]; exact hr.1, hr.2.1.weaken (fun _ _ _ _ => trivial), C.sh.to hW (fun a ha hn => by rw [hU]; exact hr.2.2.2.1 a ha hn) hAB⟩
def okr (n : Nat) : Value → Bool
  | .ref k => decide (k < n) || decide (k = shx)
  | _ => true
def vld (n : Nat) (lv : Lv) (st : List Value) : Bool := lv.all (fun q => okr n q.2) && st.all (okr n)
theorem cv_ok {n n' : Nat} {ad ad' : Nat → Nat} (hx : Ext n ad n' ad') {v : Value} (hv : okr n v = true) : cv ad' v = cv ad v := by
  cases v <;> try rfl
  rename_i k
  simp only [okr, Bool.or_eq_true, decide_eq_true_eq] at hv
  show Value.ref (ad' k) = Value.ref (ad k)
  rw [hx.2.1 k hv]
theorem vld_lv {n n' : Nat} {ad ad' : Nat → Nat} {lv : Lv} {st : List Value} (hx : Ext n ad n' ad') (hv : vld n lv st = true ∨ n' = n) : lvm ad' lv = lvm ad lv ∧ st.map (cv ad') = st.map (cv ad) := by
  rcases hv with hv | hv
  · simp only [vld, Bool.and_eq_true, List.all_eq_true] at hv
    exact ⟨List.map_congr_left fun q hq => by rw [cv_ok hx (hv.1 q hq)], List.map_congr_left fun q hq => cv_ok hx (hv.2 q hq)⟩
  · rw [hx.2.2 hv]
    exact ⟨rfl, rfl⟩
/-- behind a call -/
theorem G.ran {p : Program} {l : Launch} {e : Env} {s : State} {m : MethodId} {args : Array Value} {below : List Frame} {meth : Method} {c : Code} {Q' : State → Prop} {A : Nat → Prop} {D : va_G} {gA : Nat → ClassId} {H : Heap} {locs : List Loc} {ls : Array Slot} {ad : Nat → Nat} {mc ms : Nat} {st0 : List Value} {a : Array Value} {Q : Option Value → Hp → Prop}
    (C : Cx M p l s m args meth c A D gA (ad shx)) (hr : Rp A D gA s H locs ad h) (hl : lv_has ls M.2.2.1 (lvm ad lv))
    (hE : ∀ (cs' : Nat × Nat) (pc' : Nat) (lv' : Lv) (st' : List Value) (h' : Hp) (H' : Heap) (locs' : List Loc) (ls' : Array Slot) (ad' : Nat → Nat), E cs' pc' lv' st' h' → Ext h.1.length ad h'.1.length ad' → Rp A D gA s H' locs' ad' h' → lv_has ls' M.2.2.1 (lvm ad' lv') →
      W p l e R s m args below meth c H' locs' cs'.1 cs'.2 Q' (F0 m pc' ls' (st'.map (cv ad'))))
    (hv : vld h.1.length lv st = true ∨ ∀ v h', Q v h' → h'.1.length = h.1.length)
    (run : va_Run p l e R s m args below meth c H locs cs.1 cs.2 mc ms (F0 m pc ls st0) (st.map (cv ad)) (Qm D gA ad H.size h Q a) (va_A (wsO gA ad h) H.size))
    (k : ∀ v h', Q v h' → G M R E (cs.1 + mc, cs.2 + ms) (pc + 3) lv (v.toList ++ st) h') : W p l e R s m args below meth c H locs cs.1 cs.2 Q' (F0 m pc ls st0) := by
  intro T hT X
  obtain ⟨v, st₀, t, T', L, h0, X', hL, e1, e2, ⟨⟨r, h', ad', hv', hq, hx, hP', hD'⟩, hz, hk⟩, stp⟩ := run T hT X
  have hAB : ∀ q, va_A (wsO gA ad h) H.size q → A q := by
    intro q hq
    rcases hq with ⟨k, e, hk⟩ | hq
    · exact hr.2.1.2 k _ hk
    · exact C.hA q (Nat.le_trans hr.2.2.1 hq)
  rw [h0] at hz hk
  have hS : va_S A s.heap T'.heap (locs ++ L) := ⟨Nat.le_trans hr.2.2.1 (by rw [e1]; exact hz), fun q h1 h2 => by rw [e1, hk q (Nat.lt_of_lt_of_le h1 hr.2.2.1) (fun z => h2 (hAB q z))]; exact hr.2.2.2.1 q h1 h2, fun q hq => by
      rcases List.mem_append.mp hq with h | h
      · exact hr.2.2.2.2 q h
      · exact hAB _ (hL q h)⟩
  cases hv'
  have hvv := vld_lv (lv := lv) (st := st) hx (hv.imp id (fun z => z r h' hq))
  have hs : ad' shx = ad shx := hx.2.1 _ (Or.inr rfl)
  have kk := k r h' hq p l e s m args below meth c Q' A D gA T'.heap (locs ++ L) ls ad' (by rw [hs]; exact C) ⟨by rw [e1]; exact hP', hD'.weaken (fun _ q _ z => hAB _ z), hS⟩ (by rw [hvv.1]; exact hl) (fun cs2 pc2 lv2 st2 h2 H2 l2 ls2 ad2 he2 hx2 hr2 hl2 => hE cs2 pc2 lv2 st2 h2 H2 l2 ls2 ad2 he2 (hx.tr hx2) hr2 hl2)
  have hst : ((r.toList ++ st).map (cv ad')) = (r.map (cv ad')).toList ++ st.map (cv ad) := by
    rw [List.map_append, hvv.2]
    cases r <;> rfl
  rw [hst] at kk
  obtain ⟨t2, a1, b1⟩ := kk T' rfl X'
  exact ⟨t2, stp t2 a1, b1⟩
def dOk (M' : MD) (n : Nat) : Prop := M'.1.cls ≠ "java/lang/invoke/MethodHandle" ∧ M'.1.cls ≠ "java/lang/invoke/VarHandle" ∧ (parseMethodDescriptor M'.1.desc).map (fun d => d.parameters.length) = some n
def VOk (own : String) (idx : Nat) (M' : MD) (n : Nat) : Prop := GoodIn wl (wsV own idx M'.1.cls M'.1 [cdw M']) ∧ dOk M' n
def SOk (own : String) (idx : Nat) (M' : MD) (n : Nat) : Prop := GoodIn wl (va_wsS own idx M'.1 [cdw M']) ∧ dOk M' n
def IOk (own : String) (idx : Nat) (M' : MD) (n : Nat) : Prop := GoodIn wl [cdw M'] ∧ Cond.initialized M'.1.cls ∈ wl ∧ Cond.methodLink own idx M'.1 ∈ wl ∧ Cond.instanceMethod M'.1 ∈ wl ∧ M'.1.name = "<init>" ∧ M'.2.2.2.1 = none ∧ dOk M' n
def SNOk (own : String) (idx : Nat) (M' : MD) (n : Nat) : Prop := ∃ host : String, GoodIn wl [cdw M'] ∧ Cond.initialized M'.1.cls ∈ wl ∧ Cond.methodLinkNest own idx M'.1 host ∈ wl ∧ Cond.static M'.1 ∈ wl ∧ dOk M' n
def INOk (own : String) (idx : Nat) (M' : MD) (n : Nat) : Prop := ∃ host : String, GoodIn wl [cdw M'] ∧ Cond.initialized M'.1.cls ∈ wl ∧ Cond.methodLinkNest own idx M'.1 host ∈ wl ∧ Cond.instanceMethod M'.1 ∈ wl ∧ M'.1.name = "<init>" ∧ M'.2.2.2.1 = none ∧ dOk M' n
abbrev rOk (R : Room) (cs : Nat × Nat) (M' : MD) (d mc ms : Nat) (st : List Value) : Prop := (d + 1 ≤ R.frames ∧ 8 + (M'.2.2.1 + 11) + 64 * d ≤ R.locals) ∧ (cs.1 + mc ≤ R.cells ∧ cs.2 + ms ≤ R.slots) ∧ (st.map fun v => v.category).sum ≤ 8
theorem cat_sum (ad : Nat → Nat) (st : List Value) : ((st.map (cv ad)).map fun v => v.category).sum = (st.map fun v => v.category).sum := by
  rw [List.map_map]
  congr 1
  exact List.map_congr_left fun v _ => cv_cat ad v
theorem G.callV {idx n d mc ms b ci : Nat} {M' : MD} {av rs : List Value} {rr : List Nat} {Q : Option Value → Hp → Prop} (i : Nat) (hi : M.2.2.2.2[i]? = some (pc, .invokevirtual idx, 3)) (ho : VOk M.1.cls idx M' n) (hn : av.length = n) (hrs : av.reverse = rs) {qc : vw_C} (hq : cl_all[ci]? = some qc) (hqc : qc.1 = M'.1.cls) (hz : h.1[b]? = some (0, ci, rr)) (hR : rOk R cs M' d mc ms st)
    (hM : GM M' d mc ms (.ref b :: av) h Q) (hv : vld h.1.length lv st = true ∨ ∀ v h', Q v h' → h'.1.length = h.1.length) (k : ∀ v h', Q v h' → G M R E (cs.1 + mc, cs.2 + ms) (pc + 3) lv (v.toList ++ st) h') : G M R E cs pc lv (rs ++ .ref b :: st) h := by
  subst hrs
  intro p l e s m args below meth c Q' A D gA H locs ls ad C hr hl hE
  have hrun := va_runV (p := p) (l := l) (e := e) (R := R) (s := s) (m := m) (args := args) (below := below) (meth := meth) (c := c) (H := H) (locs := locs) (cells := cs.1) (slots := cs.2) (cc := M.2.1) (nL := M.2.2.1) (Ts := wl) (b := ad b) (As := av.map (cv ad)) (rest := st.map (cv ad)) (g := F0 m pc ls ((av.reverse ++ .ref b :: st).map (cv ad))) (n := n) (index := idx)
    ⟨C.x, C.b, C.ml, C.own, C.ts⟩ (hM l D gA ad H.size C.tr) (cwV (ws' := []) n C.ts ho.1 rfl rfl rfl ⟨rfl, ho.2⟩ hR.1)
    ⟨Pm.blind, by
      obtain ⟨cell, q1, q2, q3⟩ := va_recv C.K hr.1 hq (wsO_get hz)
      exact ⟨cell, q1, q2, by rw [← hqc]; exact q3⟩, fun U hU hW => ⟨rfl, Pm.call C hr hU hW⟩⟩
    rfl (by rw [List.length_map]; exact hn) hl.1 (by show (av.reverse ++ .ref b :: st).map (cv ad) = _; simp [cv]) (lv_room (by rw [cat_sum]; exact hR.2.2)) (C.ok.at hi) hR.2.1
  exact G.ran C hr hl hE hv hrun k
theorem G.callS {idx n d mc ms : Nat} {M' : MD} {av rs : List Value} {Q : Option Value → Hp → Prop} (i : Nat) (hi : M.2.2.2.2[i]? = some (pc, .invokestatic idx, 3)) (ho : SOk M.1.cls idx M' n) (hn : av.length = n) (hrs : av.reverse = rs) (hR : rOk R cs M' d mc ms st)
    (hM : GM M' d mc ms av h Q) (hv : vld h.1.length lv st = true ∨ ∀ v h', Q v h' → h'.1.length = h.1.length) (k : ∀ v h', Q v h' → G M R E (cs.1 + mc, cs.2 + ms) (pc + 3) lv (v.toList ++ st) h') : G M R E cs pc lv (rs ++ st) h := by
  subst hrs
  intro p l e s m args below meth c Q' A D gA H locs ls ad C hr hl hE
  have hrun := va_runS (p := p) (l := l) (e := e) (R := R) (s := s) (m := m) (args := args) (below := below) (meth := meth) (c := c) (H := H) (locs := locs) (cells := cs.1) (slots := cs.2) (cc := M.2.1) (nL := M.2.2.1) (Ts := wl) (As := av.map (cv ad)) (rest := st.map (cv ad)) (g := F0 m pc ls ((av.reverse ++ st).map (cv ad))) (n := n) (index := idx)
    ⟨C.x, C.b, C.ml, C.own, C.ts⟩ (hM l D gA ad H.size C.tr) (va_cwS (ws' := []) n C.ts ho.1 rfl rfl rfl ho.2 hR.1)
    ⟨Pm.blind, fun U hU hW => ⟨rfl, Pm.call C hr hU hW⟩⟩
    rfl (by rw [List.length_map]; exact hn) hl.1 (by show (av.reverse ++ st).map (cv ad) = _; simp) (lv_room (by rw [cat_sum]; exact hR.2.2)) (C.ok.at hi) hR.2.1
  exact G.ran C hr hl hE hv hrun k
theorem G.callSN {idx n d mc ms : Nat} {M' : MD} {av rs : List Value} {Q : Option Value → Hp → Prop} (i : Nat) (hi : M.2.2.2.2[i]? = some (pc, .invokestatic idx, 3)) (ho : SNOk M.1.cls idx M' n) (hn : av.length = n) (hrs : av.reverse = rs) (hR : rOk R cs M' d mc ms st)
    (hM : GM M' d mc ms av h Q) (hv : vld h.1.length lv st = true ∨ ∀ v h', Q v h' → h'.1.length = h.1.length) (k : ∀ v h', Q v h' → G M R E (cs.1 + mc, cs.2 + ms) (pc + 3) lv (v.toList ++ st) h') : G M R E cs pc lv (rs ++ st) h := by
  subst hrs
  intro p l e s m args below meth c Q' A D gA H locs ls ad C hr hl hE
  obtain ⟨host, o1, o2, o3, o4, o5⟩ := ho
  have hrun := va_runSN (p := p) (l := l) (e := e) (R := R) (s := s) (m := m) (args := args) (below := below) (meth := meth) (c := c) (H := H) (locs := locs) (cells := cs.1) (slots := cs.2) (cc := M.2.1) (nL := M.2.2.1) (Ts := wl) (As := av.map (cv ad)) (rest := st.map (cv ad)) (g := F0 m pc ls ((av.reverse ++ st).map (cv ad))) (n := n) (index := idx)
    ⟨C.x, C.b, C.ml, C.own, C.ts⟩ (hM l D gA ad H.size C.tr) ⟨va_cnB (ws' := []) n C.ts o1 rfl rfl rfl (va_Nw.of rfl (C.ts _ o3)) (C.ts _ o2) o5 hR.1, C.ts _ o4, trivial⟩
    ⟨Pm.blind, fun U hU hW => ⟨rfl, Pm.call C hr hU hW⟩⟩
    rfl (by rw [List.length_map]; exact hn) hl.1 (by show (av.reverse ++ st).map (cv ad) = _; simp) (lv_room (by rw [cat_sum]; exact hR.2.2)) (C.ok.at hi) hR.2.1
  exact G.ran C hr hl hE hv hrun k
theorem G.callI {idx n d mc ms b : Nat} {M' : MD} {av rs : List Value} {Q : Option Value → Hp → Prop} (i : Nat) (hi : M.2.2.2.2[i]? = some (pc, .invokespecial idx, 3)) (ho : IOk M.1.cls idx M' n) (hn : av.length = n) (hrs : av.reverse = rs) (hR : rOk R cs M' d mc ms st)
    (hM : GM M' d mc ms (.ref b :: av) h Q) (hv : vld h.1.length lv st = true ∨ ∀ v h', Q v h' → h'.1.length = h.1.length) (k : ∀ v h', Q v h' → G M R E (cs.1 + mc, cs.2 + ms) (pc + 3) lv (v.toList ++ st) h') : G M R E cs pc lv (rs ++ .ref b :: st) h := by
  subst hrs
  intro p l e s m args below meth c Q' A D gA H locs ls ad C hr hl hE
  obtain ⟨o1, o2, o3, o4, o5, o6, o7⟩ := ho
  have hw : [cdw M'] = Cond.code M'.1 M'.2.1 M'.2.2.1 none :: [] := by rw [← o6]
  have hrun := va_runI (p := p) (l := l) (e := e) (R := R) (s := s) (m := m) (args := args) (below := below) (meth := meth) (c := c) (H := H) (locs := locs) (cells := cs.1) (slots := cs.2) (cc := M.2.1) (nL := M.2.2.1) (Ts := wl) (b := ad b) (As := av.map (cv ad)) (rest := st.map (cv ad)) (g := F0 m pc ls ((av.reverse ++ .ref b :: st).map (cv ad))) (n := n) (index := idx)
    ⟨C.x, C.b, C.ml, C.own, C.ts⟩ (hM l D gA ad H.size C.tr) (cwI (ws' := []) n C.ts o1 hw rfl rfl (C.ts _ o2) (C.ts _ o3) (C.ts _ o4) o5 o7 hR.1)
    ⟨Pm.blind, fun U hU hW => ⟨rfl, Pm.call C hr hU hW⟩⟩
    rfl (by rw [List.length_map]; exact hn) hl.1 (by show (av.reverse ++ .ref b :: st).map (cv ad) = _; simp [cv]) (lv_room (by rw [cat_sum]; exact hR.2.2)) (C.ok.at hi) hR.2.1
  exact G.ran C hr hl hE hv hrun k
theorem G.callIN {idx n d mc ms b : Nat} {M' : MD} {av rs : List Value} {Q : Option Value → Hp → Prop} (i : Nat) (hi : M.2.2.2.2[i]? = some (pc, .invokespecial idx, 3)) (ho : INOk M.1.cls idx M' n) (hn : av.length = n) (hrs : av.reverse = rs) (hR : rOk R cs M' d mc ms st)
    (hM : GM M' d mc ms (.ref b :: av) h Q) (hv : vld h.1.length lv st = true ∨ ∀ v h', Q v h' → h'.1.length = h.1.length) (k : ∀ v h', Q v h' → G M R E (cs.1 + mc, cs.2 + ms) (pc + 3) lv (v.toList ++ st) h') : G M R E cs pc lv (rs ++ .ref b :: st) h := by
  subst hrs
  intro p l e s m args below meth c Q' A D gA H locs ls ad C hr hl hE
  obtain ⟨host, o1, o2, o3, o4, o5, o6, o7⟩ := ho
  have hw : [cdw M'] = Cond.code M'.1 M'.2.1 M'.2.2.1 none :: [] := by rw [← o6]
  have hrun := va_runIN (p := p) (l := l) (e := e) (R := R) (s := s) (m := m) (args := args) (below := below) (meth := meth) (c := c) (H := H) (locs := locs) (cells := cs.1) (slots := cs.2) (cc := M.2.1) (nL := M.2.2.1) (Ts := wl) (b := ad b) (As := av.map (cv ad)) (rest := st.map (cv ad)) (g := F0 m pc ls ((av.reverse ++ .ref b :: st).map (cv ad))) (n := n) (index := idx)
    ⟨C.x, C.b, C.ml, C.own, C.ts⟩ (hM l D gA ad H.size C.tr) ⟨va_cnB (ws' := []) n C.ts o1 hw rfl rfl (va_Nw.of rfl (C.ts _ o3)) (C.ts _ o2) o7 hR.1, o5, C.ts _ o4⟩
    ⟨Pm.blind, fun U hU hW => ⟨rfl, Pm.call C hr hU hW⟩⟩
    rfl (by rw [List.length_map]; exact hn) hl.1 (by show (av.reverse ++ .ref b :: st).map (cv ad) = _; simp [cv]) (lv_room (by rw [cat_sum]; exact hR.2.2)) (C.ok.at hi) hR.2.1
  exact G.ran C hr hl hE hv hrun k
theorem G.objI {idx b : Nat} (i : Nat) (hi : M.2.2.2.2[i]? = some (pc, .invokespecial idx, 3)) (hw1 : Cond.methodLink M.1.cls idx objectInit ∈ wl) (hw2 : Cond.instanceMethod objectInit ∈ wl) (hw3 : Cond.code objectInit ⟨#[0xb1]⟩ 1 none ∈ wl) (hf : 1 ≤ R.frames) (hlo : 20 ≤ R.locals) (hs : (st.map fun v => v.category).sum ≤ 8) (k : G M R E cs (pc + 3) lv st h) : G M R E cs pc lv (.ref b :: st) h :=
  G.go (fun p l e s m args below meth c Q A D gA H locs ls ad C hr hl kk => W.objInit C.x C.b C.own (C.ts _ hw1) (C.ts _ hw2) (C.ts _ hw3) rfl (by rw [C.ml]; exact hl.1) rfl (C.ok.at hi) hf (by
    have := lv_room (m := m) (pc := pc) (ls := ls) (rest := (Value.ref b :: st).map (cv ad)) (st := st.map (cv ad)) (by rw [cat_sum]; exact hs)
    exact Nat.le_trans (Nat.add_le_add_right this 12) hlo) kk) k
/-- the ends of a method -/
def Rt (M : MD) (mc ms : Nat) (Q : Option Value → Hp → Prop) : Ex := fun cs pc _ st h => cs.1 ≤ mc ∧ cs.2 ≤ ms ∧ ∃ i : Nat,
  (M.2.2.2.2[i]? = some (pc, .return_, 1) ∧ M.2.2.2.1 = none ∧ st = [] ∧ Q none h) ∨
  (∃ (ty : FieldType) (v : Int32), M.2.2.2.2[i]? = some (pc, .ireturn, 1) ∧ M.2.2.2.1 = some ty ∧ narrow ty (.int v) = .int v ∧ st = [.int v] ∧ Q (some (.int v)) h) ∨
  (∃ v : Int64, M.2.2.2.2[i]? = some (pc, .lreturn, 1) ∧ M.2.2.2.1 = some .long ∧ st = [.long v] ∧ Q (some (.long v)) h)
theorem G.vret {mc ms : Nat} {Q : Option Value → Hp → Prop} (i : Nat) (hi : M.2.2.2.2[i]? = some (pc, .return_, 1)) (hr : M.2.2.2.1 = none) (h1 : cs.1 ≤ mc) (h2 : cs.2 ≤ ms) (hq : Q none h) : G M R (Rt M mc ms Q) cs pc lv [] h := G.exit ⟨h1, h2, i, Or.inl ⟨hi, hr, rfl, hq⟩⟩
theorem G.iret {mc ms : Nat} {Q : Option Value → Hp → Prop} {ty : FieldType} {v : Int32} (i : Nat) (hi : M.2.2.2.2[i]? = some (pc, .ireturn, 1)) (hr : M.2.2.2.1 = some ty) (hn : narrow ty (.int v) = .int v) (h1 : cs.1 ≤ mc) (h2 : cs.2 ≤ ms) (hq : Q (some (.int v)) h) : G M R (Rt M mc ms Q) cs pc lv [.int v] h := G.exit ⟨h1, h2, i, Or.inr (Or.inl ⟨ty, v, hi, hr, hn, rfl, hq⟩)⟩
theorem G.lret {mc ms : Nat} {Q : Option Value → Hp → Prop} {v : Int64} (i : Nat) (hi : M.2.2.2.2[i]? = some (pc, .lreturn, 1)) (hr : M.2.2.2.1 = some .long) (h1 : cs.1 ≤ mc) (h2 : cs.2 ≤ ms) (hq : Q (some (.long v)) h) : G M R (Rt M mc ms Q) cs pc lv [.long v] h := G.exit ⟨h1, h2, i, Or.inr (Or.inr ⟨v, hi, hr, rfl, hq⟩)⟩
theorem lv_args_m (ad : Nat → Nat) : ∀ (av : List Value) (n : Nat), lv_args n (av.map (cv ad)) = lvm ad (lv_args n av)
  | [], n => rfl
  | v :: vs, n => by
    simp only [List.map_cons, lv_args, cv_cat, lvm]
    rw [lv_args_m ad vs]
    rfl
theorem lg_sl_m (ad : Nat → Nat) : ∀ (av : List Value), (lg_sl (av.map (cv ad))).length = (lg_sl av).length
  | [] => rfl
  | v :: vs => by
    have ih := lg_sl_m ad vs
    simp only [lg_sl, List.map_cons, List.flatMap_cons, List.length_append, cv_cat] at ih ⊢
    rw [ih]
    by_cases hc : v.category = 2 <;> simp [hc]
theorem GM.of {d mc ms : Nat} {av : List Value} {Q : Option Value → Hp → Prop} (hok : MOk M) (hpl : plainName M.1.cls = true) (hlen : (lg_sl av).length ≤ M.2.2.1) (g : G M (rmd d mc ms) (Rt M mc ms Q) (0, 0) 0 (lv_args 0 av) [] h) : GM M d mc ms av h Q := by
  intro l D gA ad sz htr
  refine Met.ofW (cc := M.2.1) (maxL := M.2.2.1) (ret := M.2.2.2.1) (ws' := []) hpl rfl ?_
  intro p e s m args below meth c s₁ B hml hv
  obtain ⟨rfl, hsz, hw, hK, hP, hD, hS⟩ := hv
  subst hsz
  have hlk : meth.locks = false := B.notSynchronized
  have C : Cx M p l s m (av.map (cv ad)).toArray meth c (va_A (wsO gA ad h) s.heap.size) D gA (ad shx) := ⟨B.exec, B.bytes, B.returns, hml, findClass_of_methodNamed B.named, fun w h9 => wl_warm (State.WarmedH.refl s) h9 (hw w h9), hK, fun q hq => Or.inr hq, hlk, (name_of_methodNamed B.named B.method).1, hok, hS, htr⟩
  have hl := lv_entry (av.map (cv ad)) (n := M.2.2.1) (by rw [lg_sl_m]; exact hlen)
  rw [lg_entry_eq]
  rw [lv_args_m] at hl
  refine g p l e s m _ below meth c _ _ D gA s.heap [] _ ad C ⟨hP, hD.self, va_S.rf⟩ hl ?_
  intro cs' pc' lv' st' h' H' locs' ls' ad' hE hx hr' hl'
  obtain ⟨h1, h2, i, hE⟩ := hE
  refine W.widen (k := mc) (n := ms) h1 h2 ?_
  have hf : ∀ q ∈ locs', va_A (wsO gA ad h) s.heap.size q.base := hr'.2.2.2.2
  rcases hE with ⟨hi, hret, rfl, hq⟩ | ⟨ty, v, hi, hret, hn, rfl, hq⟩ | ⟨v, hi, hret, rfl, hq⟩
  · exact W.vret B.exec B.bytes (B.returns.trans hret) (fun t ht hW => ⟨⟨none, h', ad', rfl, hq, hx, by rw [ht]; exact hr'.1, hr'.2.1⟩, hr'.2.2.F ht⟩) hf (hok.at hi) hlk
  · exact W.zret B.exec B.bytes (B.returns.trans hret) hn (fun t ht hW => ⟨⟨some (.int v), h', ad', rfl, hq, hx, by rw [ht]; exact hr'.1, hr'.2.1⟩, hr'.2.2.F ht⟩) hf (hok.at hi) hlk
  · exact W.lret B.exec B.bytes (B.returns.trans hret) (fun t ht hW => ⟨⟨some (.long v), h', ad', rfl, hq, hx, by rw [ht]; exact hr'.1, hr'.2.1⟩, hr'.2.2.F ht⟩) hf (hok.at hi) hlk
end GC
end
section
/-! STEPS OF G: making objects and arrays; arraycopy -/
def uf (I : Nat → Nat → Int32) (k : Nat) (f : Nat → Int32) : Nat → Nat → Int32 := fun a => if a = k then f else I a
def ufj (J : Nat → Nat → Int64) (k : Nat) (f : Nat → Int64) : Nat → Nat → Int64 := fun a => if a = k then f else J a
theorem wsO_setF {gA : Nat → ClassId} {ad : Nat → Nat} {Z : List Kd} {I : Nat → Nat → Int32} {J : Nat → Nat → Int64} {k : Nat} {f : Nat → Int32} {kd : Kd} (hz : Z[k]? = some kd) :
    (wsO gA ad (Z, I, J)).set k (ad k, cel gA ad f (J k) kd) = wsO gA ad (Z, uf I k f, J) := by
  apply List.ext_getElem?
  intro n
  by_cases hn : n = k
  · subst hn
    have hl : n < Z.length := (List.getElem?_eq_some_iff.mp hz).1
    rw [List.getElem?_set_self (by simpa [wsO] using hl), wsO_get hz]
    simp [uf]
  · rw [List.getElem?_set_ne (Ne.symm hn)]
    simp [wsO, List.getElem?_mapIdx, uf, hn]
theorem wsO_setFj {gA : Nat → ClassId} {ad : Nat → Nat} {Z : List Kd} {I : Nat → Nat → Int32} {J : Nat → Nat → Int64} {k : Nat} {f : Nat → Int64} {kd : Kd} (hz : Z[k]? = some kd) :
    (wsO gA ad (Z, I, J)).set k (ad k, cel gA ad (I k) f kd) = wsO gA ad (Z, I, ufj J k f) := by
  apply List.ext_getElem?
  intro n
  by_cases hn : n = k
  · subst hn
    have hl : n < Z.length := (List.getElem?_eq_some_iff.mp hz).1
    rw [List.getElem?_set_self (by simpa [wsO] using hl), wsO_get hz]
    simp [ufj]
  · rw [List.getElem?_set_ne (Ne.symm hn)]
    simp [wsO, List.getElem?_mapIdx, ufj, hn]
def zok (Z : List Kd) : Bool := Z.all (fun kd => kd.2.2.all (fun r => decide (r ≤ Z.length))) && decide (Z.length < shx)
theorem rfv_ok {n n' : Nat} {ad ad' : Nat → Nat} (hx : Ext n ad n' ad') {r : Nat} (h : r ≤ n) : rfv ad' r = rfv ad r := by
  cases r with
  | zero => rfl
  | succ k => simp only [rfv]; rw [hx.2.1 k (Or.inl h)]
theorem rfo_ok {n n' : Nat} {ad ad' : Nat → Nat} (hx : Ext n ad n' ad') {r : Nat} (h : r ≤ n) : rfo ad' r = rfo ad r := by
  cases r with
  | zero => rfl
  | succ k => simp only [rfo]; rw [hx.2.1 k (Or.inl h)]
theorem getD_le {rs : List Nat} {n j : Nat} (h : rs.all (fun r => decide (r ≤ n)) = true) : rs.getD j 0 ≤ n := by
  rw [List.getD_eq_getElem?_getD]
  cases hj : rs[j]? with
  | none => exact Nat.zero_le _
  | some r => exact of_decide_eq_true (List.all_eq_true.mp h r (List.mem_of_getElem? hj))
theorem cel_ok {gA : Nat → ClassId} {n n' : Nat} {ad ad' : Nat → Nat} {Ik : Nat → Int32} {Jk : Nat → Int64} (hx : Ext n ad n' ad') {kd : Kd} (h : kd.2.2.all (fun r => decide (r ≤ n)) = true) : cel gA ad' Ik Jk kd = cel gA ad Ik Jk kd := by
  obtain ⟨t, m, rs⟩ := kd
  match t with
  | 0 =>
    show Sum.inr (m, flds ad' Ik Jk m rs) = Sum.inr (m, flds ad Ik Jk m rs)
    have hf : flds ad' Ik Jk m rs = flds ad Ik Jk m rs := by
      refine List.map_congr_left fun j _ => ?_
      unfold fvl
      rw [rfv_ok hx (getD_le h)]
    rw [hf]
  | 1 => rfl
  | 2 => rfl
  | 3 => rfl
  | 4 => rfl
  | 5 => rfl
  | 6 =>
    have hf : (fun i => rfo ad' (rs.getD i 0)) = (fun i => rfo ad (rs.getD i 0)) := by
      funext i
      exact rfo_ok hx (getD_le h)
    show Sum.inl (gA 6, m, Sum.inr (Sum.inr (Sum.inr (Sum.inr (fun i => rfo ad' (rs.getD i 0)))))) = _
    rw [hf]
    rfl
  | t + 7 => rfl
def adN (ad : Nat → Nat) (n q : Nat) : Nat → Nat := fun k => if k = n then q else ad k
theorem adN_ext {ad : Nat → Nat} {n q : Nat} (hn : n < shx) : Ext n ad (n + 1) (adN ad n q) :=
  ⟨Nat.le_succ n, fun k hk => if_neg (by rcases hk with h | h <;> omega), fun h => absurd h (by omega)⟩
theorem wsO_new {gA : Nat → ClassId} {ad : Nat → Nat} {Z : List Kd} {I : Nat → Nat → Int32} {J : Nat → Nat → Int64} {kd : Kd} {q : Nat} (hz : zok Z = true) (hkd : kd.2.2.all (fun r => decide (r ≤ 0)) = true) :
    wsO gA (adN ad Z.length q) (Z ++ [kd], uf I Z.length (fun _ => 0), ufj J Z.length (fun _ => 0)) = wsO gA ad (Z, I, J) ++ [(q, cel gA ad (fun _ => 0) (fun _ => 0) kd)] := by
  simp only [zok, Bool.and_eq_true, decide_eq_true_eq] at hz
  have hx : Ext Z.length ad (Z.length + 1) (adN ad Z.length q) := adN_ext hz.2
  unfold wsO
  rw [List.mapIdx_append]
  congr 1
  · apply List.ext_getElem?
    intro n
    simp only [List.getElem?_mapIdx]
    cases hn : Z[n]? with
    | none => rfl
    | some k0 =>
      have hl : n < Z.length := (List.getElem?_eq_some_iff.mp hn).1
      have hne : n ≠ Z.length := by omega
      simp only [Option.map_some, uf, ufj, if_neg hne]
      rw [cel_ok hx (List.all_eq_true.mp hz.1 k0 (List.mem_of_getElem? hn)), hx.2.1 n (Or.inl hl)]
  · simp only [List.mapIdx_cons, List.mapIdx_nil, Nat.zero_add, uf, ufj, adN, if_true]
    rw [cel_ok (n := 0) (n' := Z.length + 1) (ad := ad) (ad' := adN ad Z.length q) ⟨Nat.zero_le _, fun k hk => ?_, fun h => absurd h (by omega)⟩ hkd]
    exact hx.2.1 k (by rcases hk with h | h; omega; exact Or.inr h)
theorem RA_inj {s : State} {a b : ClassId} {ty : FieldType} (ha : va_RA s a ty) (hb : va_RA s b ty) : a = b := by
  cases ty with
  | object C =>
    obtain ⟨kA, comp, h1, h2, h3, h4⟩ := ha
    obtain ⟨kB, comp', g1, g2, g3, g4⟩ := hb
    exact Option.some.inj (h4.symm.trans g4)
  | _ => exact Option.some.inj (Eq.trans (Eq.symm ha) hb)
section GN
variable {M : MD} {R : Room} {E : Ex} {cs : Nat × Nat} {pc : Nat} {lv : Lv} {st : List Value} {Z : List Kd} {I : Nat → Nat → Int32} {J : Nat → Nat → Int64}
theorem G.newa {atype : ArrayType} {ty : FieldType} {n : Int32} (t N : Nat) (i : Nat) (hi : M.2.2.2.2[i]? = some (pc, .newarray atype, 2)) (hw : Cond.arrayClass (newarray.typeOf atype) ∈ wl) (hty : newarray.typeOf atype = ty) (htt : ∀ gA : Nat → ClassId, (tysO gA)[t - 1]? = some (gA t, ty))
    (hcel : ∀ (gA : Nat → ClassId) (ad : Nat → Nat) (cA : ClassId), ∃ a0 : vp_A, cel gA ad (fun _ => 0) (fun _ => 0) (t, N, []) = .inl (gA t, a0) ∧ vp_cell cA a0 = arrV cA N (fun _ => defaultValue ty)) (hn : ¬ n < 0) (hN : n.toNatClampNeg = N) (hb : N * componentBytes ty ≤ 536870912) (hz : zok Z = true) (hv : vld Z.length lv st = true) (hc1 : cs.1 + 1 ≤ R.cells) (hc2 : cs.2 + N ≤ R.slots)
    (k : G M R E (cs.1 + 1, cs.2 + N) (pc + 2) lv (.ref Z.length :: st) (Z ++ [(t, N, [])], uf I Z.length (fun _ => 0), ufj J Z.length (fun _ => 0))) : G M R E cs pc lv (.int n :: st) (Z, I, J) := by
  intro p l e s m args below meth c Q A D gA H locs ls ad C hr hl hE
  obtain ⟨a0, ha0, -⟩ := hcel gA ad (gA t)
  have hac : ∀ cA : ClassId, vp_cell cA a0 = arrV cA N (fun _ => defaultValue ty) := fun cA => by
    obtain ⟨a1, ha1, ha2⟩ := hcel gA ad cA
    rw [ha0] at ha1
    cases Sum.inl.inj ha1
    exact ha2
  refine va_newa C.x C.b (C.ts _ hw) hty C.K hr.1 hr.2.1 hr.2.2 C.hA hac hn hN hb hc1 hc2 (C.ok.at hi) fun q cA H1 hK1 hP1 hD1 hS1 => ?_
  have hzz := hz
  simp only [zok, Bool.and_eq_true, decide_eq_true_eq] at hz
  have hx : Ext Z.length ad (Z.length + 1) (adN ad Z.length q) := adN_ext hz.2
  have h1 : va_RA s cA ty := (hK1.2 (tysO gA).length (cA, _) (by simp)).2
  have h2 : va_RA s (gA t) ty := (C.K.2 (t - 1) _ (htt gA)).2
  cases RA_inj h1 h2
  rw [← ha0, ← wsO_new (q := q) hzz rfl] at hP1 hD1
  have hvv := vld_lv (lv := lv) (st := st) hx (Or.inl hv)
  have hs : adN ad Z.length q shx = ad shx := hx.2.1 _ (Or.inr rfl)
  have kk := k p l e s m args below meth c Q A D gA H1 locs ls (adN ad Z.length q) (by rw [hs]; exact C) ⟨hP1, hD1, hS1⟩ (by rw [hvv.1]; exact hl) (fun cs2 pc2 lv2 st2 h2 H2 l2 ls2 ad2 he2 hx2 hr2 hl2 => hE cs2 pc2 lv2 st2 h2 H2 l2 ls2 ad2 he2 (hx.tr (by simpa using hx2)) hr2 hl2)
  rw [List.map_cons, hvv.2] at kk
  have e1 : cv (adN ad Z.length q) (.ref Z.length) = .ref q := by show Value.ref (adN ad Z.length q Z.length) = _; simp [adN]
  rw [e1] at kk
  exact kk
theorem G.new {idx : Nat} (ci N : Nat) {qc : vw_C} (i : Nat) (hi : M.2.2.2.2[i]? = some (pc, .new idx, 3)) (hq : cl_all[ci]? = some qc) (hN : qc.2.2 = N) (hw1 : Cond.classLink M.1.cls idx qc.1 ∈ wl) (hw2 : Cond.instantiable qc.1 N ∈ wl) (hw3 : Cond.initialized qc.1 ∈ wl) (hdf : ∀ j, j < N → defaultValue (ctyp ci j) = fvl id (fun _ => 0) (fun _ => 0) ci (List.replicate N 0) j)
    (hz : zok Z = true) (hv : vld Z.length lv st = true) (hc1 : cs.1 + 1 ≤ R.cells) (hc2 : cs.2 + N ≤ R.slots)
    (k : G M R E (cs.1 + 1, cs.2 + N) (pc + 3) lv (.ref Z.length :: st) (Z ++ [(0, ci, List.replicate N 0)], uf I Z.length (fun _ => 0), ufj J Z.length (fun _ => 0))) : G M R E cs pc lv st (Z, I, J) := by
  intro p l e s m args below meth c Q A D gA H locs ls ad C hr hl hE
  subst hN
  have hk := cok hq
  refine va_new (ci := ci) (fs := flds ad (fun _ => 0) (fun _ => 0) ci (List.replicate qc.2.2 0)) C.x C.b C.ts hk.1 (ctyp ci) hk.2.1 C.own (C.ts _ hw1) (C.ts _ hw2) (C.ts _ hw3) C.K hr.1 hr.2.1 hr.2.2 C.hA hq (fun j hj => ?_) hc1 hc2 (C.ok.at hi) fun q H1 hP1 hD1 hS1 => ?_
  · rw [vp_V, List.getD_eq_getElem?_getD, flds_get (by rw [cnf_of hq]; exact hj), hdf j hj]
    have h0 : (List.replicate qc.2.2 0).getD j 0 = 0 := by simp [List.getD_eq_getElem?_getD, hj]
    simp only [fvl, h0, rfv, Option.getD_some]
  have hzz := hz
  simp only [zok, Bool.and_eq_true, decide_eq_true_eq] at hz
  have hx : Ext Z.length ad (Z.length + 1) (adN ad Z.length q) := adN_ext hz.2
  have hcl : (.inr (ci, flds ad (fun _ => 0) (fun _ => 0) ci (List.replicate qc.2.2 0)) : va_E) = cel gA ad (fun _ => 0) (fun _ => 0) (0, ci, List.replicate qc.2.2 0) := rfl
  rw [hcl, ← wsO_new (q := q) hzz (by simp)] at hP1 hD1
  have hvv := vld_lv (lv := lv) (st := st) hx (Or.inl hv)
  have hs : adN ad Z.length q shx = ad shx := hx.2.1 _ (Or.inr rfl)
  have kk := k p l e s m args below meth c Q A D gA H1 locs ls (adN ad Z.length q) (by rw [hs]; exact C) ⟨hP1, hD1, hS1⟩ (by rw [hvv.1]; exact hl) (fun cs2 pc2 lv2 st2 h2 H2 l2 ls2 ad2 he2 hx2 hr2 hl2 => hE cs2 pc2 lv2 st2 h2 H2 l2 ls2 ad2 he2 (hx.tr (by simpa using hx2)) hr2 hl2)
  rw [List.map_cons, hvv.2] at kk
  have e1 : cv (adN ad Z.length q) (.ref Z.length) = .ref q := by show Value.ref (adN ad Z.length q Z.length) = _; simp [adN]
  rw [e1] at kk
  exact kk
theorem G.newq {idx : Nat} {n : Int32} (N : Nat) (i : Nat) (hi : M.2.2.2.2[i]? = some (pc, .anewarray idx, 3)) (hw1 : Cond.classLink M.1.cls idx RX2 ∈ wl) (hn : ¬ n < 0) (hN : n.toNatClampNeg = N) (hb : N * 4 ≤ 536870912)
    (hz : zok Z = true) (hv : vld Z.length lv st = true) (hc1 : cs.1 + 1 ≤ R.cells) (hc2 : cs.2 + N ≤ R.slots)
    (k : G M R E (cs.1 + 1, cs.2 + N) (pc + 3) lv (.ref Z.length :: st) (Z ++ [(6, N, List.replicate N 0)], uf I Z.length (fun _ => 0), ufj J Z.length (fun _ => 0))) : G M R E cs pc lv (.int n :: st) (Z, I, J) := by
  intro p l e s m args below meth c Q A D gA H locs ls ad C hr hl hE
  refine va_newq C.x C.b C.own (C.ts _ hw1) C.sh.2.2.2.2 C.K hr.1 hr.2.1 hr.2.2 C.hA hn hN hb hc1 hc2 (C.ok.at hi) fun q cA H1 hK1 hP1 hD1 hS1 => ?_
  have hzz := hz
  simp only [zok, Bool.and_eq_true, decide_eq_true_eq] at hz
  have hx : Ext Z.length ad (Z.length + 1) (adN ad Z.length q) := adN_ext hz.2
  have h1 : va_RA s cA (.object RX2) := (hK1.2 (tysO gA).length (cA, _) (by simp)).2
  have h2 : va_RA s (gA 6) (.object RX2) := (C.K.2 5 _ rfl).2
  cases RA_inj h1 h2
  have hcl : (.inl (gA 6, N, .inr (.inr (.inr (.inr (fun _ => none))))) : va_E) = cel gA ad (fun _ => 0) (fun _ => 0) (6, N, List.replicate N 0) := by
    have hf : (fun i => rfo ad ((List.replicate N 0).getD i 0)) = (fun _ => none) := by
      funext j
      have h0 : (List.replicate N 0).getD j 0 = 0 := by
        rw [List.getD_eq_getElem?_getD, List.getElem?_replicate]
        by_cases hj : j < N <;> simp [hj]
      rw [h0]
      rfl
    show _ = (.inl (gA 6, N, .inr (.inr (.inr (.inr (fun i => rfo ad ((List.replicate N 0).getD i 0)))))) : va_E)
    rw [hf]
  rw [hcl, ← wsO_new (q := q) hzz (by simp)] at hP1 hD1
  have hvv := vld_lv (lv := lv) (st := st) hx (Or.inl hv)
  have hs : adN ad Z.length q shx = ad shx := hx.2.1 _ (Or.inr rfl)
  have kk := k p l e s m args below meth c Q A D gA H1 locs ls (adN ad Z.length q) (by rw [hs]; exact C) ⟨hP1, hD1, hS1⟩ (by rw [hvv.1]; exact hl) (fun cs2 pc2 lv2 st2 h2 H2 l2 ls2 ad2 he2 hx2 hr2 hl2 => hE cs2 pc2 lv2 st2 h2 H2 l2 ls2 ad2 he2 (hx.tr (by simpa using hx2)) hr2 hl2)
  rw [List.map_cons, hvv.2] at kk
  have e1 : cv (adN ad Z.length q) (.ref Z.length) = .ref q := by show Value.ref (adN ad Z.length q Z.length) = _; simp [adN]
  rw [e1] at kk
  exact kk
theorem G.copyi {idx o0 o1 n0 n1 : Nat} {r0 r1 : List Nat} {sp dp n : Int32} (i : Nat) (hi : M.2.2.2.2[i]? = some (pc, .invokestatic idx, 3)) (hw1 : Cond.methodLink M.1.cls idx arraycopyName ∈ wl) (hw2 : Cond.native arraycopyName ∈ wl) (hw3 : Cond.static arraycopyName ∈ wl) (hw4 : Cond.initialized "java/lang/System" ∈ wl)
    (hz0 : Z[o0]? = some (1, n0, r0)) (hz1 : Z[o1]? = some (1, n1, r1)) (h1 : ¬ sp < 0) (h2 : ¬ dp < 0) (h3 : ¬ n < 0) (h4 : sp.toNatClampNeg + n.toNatClampNeg ≤ n0) (h5 : dp.toNatClampNeg + n.toNatClampNeg ≤ n1) (hf : 1 ≤ R.frames) (hlo : 8 + (nativeFrameWords "java/lang/System" "arraycopy" 5 + 11) ≤ R.locals) (hs : (st.map fun v => v.category).sum ≤ 8)
    (k : G M R E cs (pc + 3) lv st (Z, uf I o1 (va_cpy (I o0) (I o1) sp.toNatClampNeg dp.toNatClampNeg n.toNatClampNeg), J)) : G M R E cs pc lv (.int n :: .int dp :: .ref o1 :: .int sp :: .ref o0 :: st) (Z, I, J) := by
  intro p l e s m args below meth c Q A D gA H locs ls ad C hr hl hE
  refine va_copyi C.x C.b (C.ml.trans hl.1.symm) C.own (C.ts _ hw1) (C.ts _ hw2) (C.ts _ hw3) (C.ts _ hw4) C.K hr.1 hr.2.1 hr.2.2 o0 o1 0 0 (wsO_get (gA := gA) (ad := ad) (h := (Z, I, J)) hz0) (wsO_get (gA := gA) (ad := ad) (h := (Z, I, J)) hz1) rfl rfl rfl h1 h2 h3 h4 h5 (fun _ _ => rfl) hf (by
    have := cat_sum ad st
    exact Nat.le_trans (Nat.add_le_add_right (by rw [this]; exact hs) _) hlo) (C.ok.at hi) fun H1 locs1 g1 g2 g3 => ?_
  have hw := wsO_setF (gA := gA) (ad := ad) (I := I) (J := J) (f := va_cpy (I o0) (I o1) sp.toNatClampNeg dp.toNatClampNeg n.toNatClampNeg) hz1
  exact k p l e s m args below meth c Q A D gA H1 locs1 ls ad C ⟨by rw [← hw]; exact g1, by rw [← hw]; exact g2, g3⟩ hl hE
theorem G.copyl {idx o0 o1 n0 n1 : Nat} {r0 r1 : List Nat} {sp dp n : Int32} (i : Nat) (hi : M.2.2.2.2[i]? = some (pc, .invokestatic idx, 3)) (hw1 : Cond.methodLink M.1.cls idx arraycopyName ∈ wl) (hw2 : Cond.native arraycopyName ∈ wl) (hw3 : Cond.static arraycopyName ∈ wl) (hw4 : Cond.initialized "java/lang/System" ∈ wl)
    (hz0 : Z[o0]? = some (2, n0, r0)) (hz1 : Z[o1]? = some (2, n1, r1)) (h1 : ¬ sp < 0) (h2 : ¬ dp < 0) (h3 : ¬ n < 0) (h4 : sp.toNatClampNeg + n.toNatClampNeg ≤ n0) (h5 : dp.toNatClampNeg + n.toNatClampNeg ≤ n1) (hf : 1 ≤ R.frames) (hlo : 8 + (nativeFrameWords "java/lang/System" "arraycopy" 5 + 11) ≤ R.locals) (hs : (st.map fun v => v.category).sum ≤ 8)
    (k : G M R E cs (pc + 3) lv st (Z, I, ufj J o1 (va_cpy (J o0) (J o1) sp.toNatClampNeg dp.toNatClampNeg n.toNatClampNeg))) : G M R E cs pc lv (.int n :: .int dp :: .ref o1 :: .int sp :: .ref o0 :: st) (Z, I, J) := by
  intro p l e s m args below meth c Q A D gA H locs ls ad C hr hl hE
  refine va_copyl C.x C.b (C.ml.trans hl.1.symm) C.own (C.ts _ hw1) (C.ts _ hw2) (C.ts _ hw3) (C.ts _ hw4) C.K hr.1 hr.2.1 hr.2.2 o0 o1 1 1 (wsO_get (gA := gA) (ad := ad) (h := (Z, I, J)) hz0) (wsO_get (gA := gA) (ad := ad) (h := (Z, I, J)) hz1) rfl rfl rfl h1 h2 h3 h4 h5 (fun _ _ => rfl) hf (by
    have := cat_sum ad st
    exact Nat.le_trans (Nat.add_le_add_right (by rw [this]; exact hs) _) hlo) (C.ok.at hi) fun H1 locs1 g1 g2 g3 => ?_
  have hw := wsO_setFj (gA := gA) (ad := ad) (I := I) (J := J) (f := va_cpy (J o0) (J o1) sp.toNatClampNeg dp.toNatClampNeg n.toNatClampNeg) hz1
  exact k p l e s m args below meth c Q A D gA H1 locs1 ls ad C ⟨by rw [← hw]; exact g1, by rw [← hw]; exact g2, g3⟩ hl hE
end GN
end
