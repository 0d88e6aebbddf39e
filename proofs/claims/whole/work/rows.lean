section
-- ===== PART A: goes FIRST, ahead of the names: the tables' words, and 'selects' of the private methods out of them =====
/-- a private method of a class that the tables say can be made, by its rows of tables_1 -/
def lw_okq (q : MethodName × Nat) : Prop := (q.1.cls ≠ "java/lang/invoke/MethodHandle" ∧ q.1.cls ≠ "java/lang/invoke/VarHandle") ∧ Cond.instantiable q.1.cls q.2 ∈ tables_1 ∧ Cond.privateMethod q.1 ∈ tables_1 ∧ Cond.instanceMethod q.1 ∈ tables_1
theorem lw_p0 : lw_okq (⟨"NinetyLamps$Reader", "readLine", "()Z"⟩, 11) := ⟨⟨by decide +kernel, by decide +kernel⟩, List.mem_of_getElem? (i := 120) (by decide +kernel), List.mem_of_getElem? (i := 560) (by decide +kernel), List.mem_of_getElem? (i := 561) (by decide +kernel)⟩
theorem lw_p1 : lw_okq (⟨"NinetyLamps$Reader", "isAt", "(C)Z"⟩, 11) := ⟨⟨by decide +kernel, by decide +kernel⟩, List.mem_of_getElem? (i := 120) (by decide +kernel), List.mem_of_getElem? (i := 564) (by decide +kernel), List.mem_of_getElem? (i := 565) (by decide +kernel)⟩
theorem lw_p2 : lw_okq (⟨"NinetyLamps$Reader", "readWidth", "()Z"⟩, 11) := ⟨⟨by decide +kernel, by decide +kernel⟩, List.mem_of_getElem? (i := 120) (by decide +kernel), List.mem_of_getElem? (i := 568) (by decide +kernel), List.mem_of_getElem? (i := 569) (by decide +kernel)⟩
theorem lw_p3 : lw_okq (⟨"NinetyLamps$Reader", "takeNumber", "(II)I"⟩, 11) := ⟨⟨by decide +kernel, by decide +kernel⟩, List.mem_of_getElem? (i := 120) (by decide +kernel), List.mem_of_getElem? (i := 572) (by decide +kernel), List.mem_of_getElem? (i := 573) (by decide +kernel)⟩
theorem lw_p4 : lw_okq (⟨"NinetyLamps$Reader", "isDigit", "()Z"⟩, 11) := ⟨⟨by decide +kernel, by decide +kernel⟩, List.mem_of_getElem? (i := 120) (by decide +kernel), List.mem_of_getElem? (i := 576) (by decide +kernel), List.mem_of_getElem? (i := 577) (by decide +kernel)⟩
theorem lw_p5 : lw_okq (⟨"NinetyLamps$Reader", "fail", "(I)Z"⟩, 11) := ⟨⟨by decide +kernel, by decide +kernel⟩, List.mem_of_getElem? (i := 120) (by decide +kernel), List.mem_of_getElem? (i := 580) (by decide +kernel), List.mem_of_getElem? (i := 581) (by decide +kernel)⟩
theorem lw_p6 : lw_okq (⟨"NinetyLamps$Reader", "note", "(IIII)Z"⟩, 11) := ⟨⟨by decide +kernel, by decide +kernel⟩, List.mem_of_getElem? (i := 120) (by decide +kernel), List.mem_of_getElem? (i := 584) (by decide +kernel), List.mem_of_getElem? (i := 585) (by decide +kernel)⟩
theorem lw_p7 : lw_okq (⟨"NinetyLamps$Reader", "readOhms", "()Z"⟩, 11) := ⟨⟨by decide +kernel, by decide +kernel⟩, List.mem_of_getElem? (i := 120) (by decide +kernel), List.mem_of_getElem? (i := 588) (by decide +kernel), List.mem_of_getElem? (i := 589) (by decide +kernel)⟩
theorem lw_p8 : lw_okq (⟨"NinetyLamps$Reader", "takeWire", "(I)I"⟩, 11) := ⟨⟨by decide +kernel, by decide +kernel⟩, List.mem_of_getElem? (i := 120) (by decide +kernel), List.mem_of_getElem? (i := 592) (by decide +kernel), List.mem_of_getElem? (i := 593) (by decide +kernel)⟩
theorem lw_p9 : lw_okq (⟨"NinetyLamps$Reader", "take", "(C)Z"⟩, 11) := ⟨⟨by decide +kernel, by decide +kernel⟩, List.mem_of_getElem? (i := 120) (by decide +kernel), List.mem_of_getElem? (i := 596) (by decide +kernel), List.mem_of_getElem? (i := 597) (by decide +kernel)⟩
theorem lw_p10 : lw_okq (⟨"NinetyLamps$Reader", "readLamp", "()Z"⟩, 11) := ⟨⟨by decide +kernel, by decide +kernel⟩, List.mem_of_getElem? (i := 120) (by decide +kernel), List.mem_of_getElem? (i := 600) (by decide +kernel), List.mem_of_getElem? (i := 601) (by decide +kernel)⟩
theorem lw_p11 : lw_okq (⟨"NinetyLamps$Reader", "goesOn", "()Z"⟩, 11) := ⟨⟨by decide +kernel, by decide +kernel⟩, List.mem_of_getElem? (i := 120) (by decide +kernel), List.mem_of_getElem? (i := 604) (by decide +kernel), List.mem_of_getElem? (i := 605) (by decide +kernel)⟩
theorem lw_p12 : lw_okq (⟨"NinetyLamps", "takeLine", "(I)V"⟩, 11) := ⟨⟨by decide +kernel, by decide +kernel⟩, List.mem_of_getElem? (i := 25) (by decide +kernel), List.mem_of_getElem? (i := 608) (by decide +kernel), List.mem_of_getElem? (i := 609) (by decide +kernel)⟩
theorem lw_p13 : lw_okq (⟨"NinetyLamps$Flow", "putOut", "()V"⟩, 20) := ⟨⟨by decide +kernel, by decide +kernel⟩, List.mem_of_getElem? (i := 180) (by decide +kernel), List.mem_of_getElem? (i := 696) (by decide +kernel), List.mem_of_getElem? (i := 697) (by decide +kernel)⟩
theorem lw_p14 : lw_okq (⟨"NinetyLamps$Flow", "follow", "(IIII)V"⟩, 20) := ⟨⟨by decide +kernel, by decide +kernel⟩, List.mem_of_getElem? (i := 180) (by decide +kernel), List.mem_of_getElem? (i := 714) (by decide +kernel), List.mem_of_getElem? (i := 715) (by decide +kernel)⟩
theorem lw_p15 : lw_okq (⟨"NinetyLamps$Flow", "goalOf", "(I)I"⟩, 20) := ⟨⟨by decide +kernel, by decide +kernel⟩, List.mem_of_getElem? (i := 180) (by decide +kernel), List.mem_of_getElem? (i := 718) (by decide +kernel), List.mem_of_getElem? (i := 719) (by decide +kernel)⟩
def lw_privs_1 : List (MethodName × Nat) := [(⟨"NinetyLamps$Reader", "readLine", "()Z"⟩, 11), (⟨"NinetyLamps$Reader", "isAt", "(C)Z"⟩, 11), (⟨"NinetyLamps$Reader", "readWidth", "()Z"⟩, 11), (⟨"NinetyLamps$Reader", "takeNumber", "(II)I"⟩, 11), (⟨"NinetyLamps$Reader", "isDigit", "()Z"⟩, 11), (⟨"NinetyLamps$Reader", "fail", "(I)Z"⟩, 11), (⟨"NinetyLamps$Reader", "note", "(IIII)Z"⟩, 11), (⟨"NinetyLamps$Reader", "readOhms", "()Z"⟩, 11), (⟨"NinetyLamps$Reader", "takeWire", "(I)I"⟩, 11), (⟨"NinetyLamps$Reader", "take", "(C)Z"⟩, 11), (⟨"NinetyLamps$Reader", "readLamp", "()Z"⟩, 11), (⟨"NinetyLamps$Reader", "goesOn", "()Z"⟩, 11), (⟨"NinetyLamps", "takeLine", "(I)V"⟩, 11), (⟨"NinetyLamps$Flow", "putOut", "()V"⟩, 20), (⟨"NinetyLamps$Flow", "follow", "(IIII)V"⟩, 20), (⟨"NinetyLamps$Flow", "goalOf", "(I)I"⟩, 20)]
theorem lw_r1 : ∀ q ∈ lw_privs_1, lw_okq q := List.forall_mem_cons.mpr ⟨lw_p0, List.forall_mem_cons.mpr ⟨lw_p1, List.forall_mem_cons.mpr ⟨lw_p2, List.forall_mem_cons.mpr ⟨lw_p3, List.forall_mem_cons.mpr ⟨lw_p4, List.forall_mem_cons.mpr ⟨lw_p5, List.forall_mem_cons.mpr ⟨lw_p6, List.forall_mem_cons.mpr ⟨lw_p7, List.forall_mem_cons.mpr ⟨lw_p8, List.forall_mem_cons.mpr ⟨lw_p9, List.forall_mem_cons.mpr ⟨lw_p10, List.forall_mem_cons.mpr ⟨lw_p11, List.forall_mem_cons.mpr ⟨lw_p12, List.forall_mem_cons.mpr ⟨lw_p13, List.forall_mem_cons.mpr ⟨lw_p14, List.forall_mem_cons.mpr ⟨lw_p15, fun _ h => absurd h List.not_mem_nil⟩⟩⟩⟩⟩⟩⟩⟩⟩⟩⟩⟩⟩⟩⟩⟩
theorem lw_p16 : lw_okq (⟨"NinetyLamps$Flow", "carry", "(IIII)V"⟩, 20) := ⟨⟨by decide +kernel, by decide +kernel⟩, List.mem_of_getElem? (i := 180) (by decide +kernel), List.mem_of_getElem? (i := 722) (by decide +kernel), List.mem_of_getElem? (i := 723) (by decide +kernel)⟩
theorem lw_p17 : lw_okq (⟨"NinetyLamps$Flow", "noteWay", "(IJ)V"⟩, 20) := ⟨⟨by decide +kernel, by decide +kernel⟩, List.mem_of_getElem? (i := 180) (by decide +kernel), List.mem_of_getElem? (i := 728) (by decide +kernel), List.mem_of_getElem? (i := 729) (by decide +kernel)⟩
theorem lw_p18 : lw_okq (⟨"NinetyLamps$Flow", "isLessWay", "(I)Z"⟩, 20) := ⟨⟨by decide +kernel, by decide +kernel⟩, List.mem_of_getElem? (i := 180) (by decide +kernel), List.mem_of_getElem? (i := 732) (by decide +kernel), List.mem_of_getElem? (i := 733) (by decide +kernel)⟩
theorem lw_p19 : lw_okq (⟨"NinetyLamps$Flow", "bright", "()J"⟩, 20) := ⟨⟨by decide +kernel, by decide +kernel⟩, List.mem_of_getElem? (i := 180) (by decide +kernel), List.mem_of_getElem? (i := 736) (by decide +kernel), List.mem_of_getElem? (i := 737) (by decide +kernel)⟩
theorem lw_p20 : lw_okq (⟨"NinetyLamps", "openTable", "()Z"⟩, 11) := ⟨⟨by decide +kernel, by decide +kernel⟩, List.mem_of_getElem? (i := 25) (by decide +kernel), List.mem_of_getElem? (i := 795) (by decide +kernel), List.mem_of_getElem? (i := 796) (by decide +kernel)⟩
theorem lw_p21 : lw_okq (⟨"NinetyLamps", "isSearchable", "()Z"⟩, 11) := ⟨⟨by decide +kernel, by decide +kernel⟩, List.mem_of_getElem? (i := 25) (by decide +kernel), List.mem_of_getElem? (i := 799) (by decide +kernel), List.mem_of_getElem? (i := 800) (by decide +kernel)⟩
theorem lw_p22 : lw_okq (⟨"NinetyLamps$Table", "enter", "(I)Z"⟩, 7) := ⟨⟨by decide +kernel, by decide +kernel⟩, List.mem_of_getElem? (i := 290) (by decide +kernel), List.mem_of_getElem? (i := 838) (by decide +kernel), List.mem_of_getElem? (i := 839) (by decide +kernel)⟩
theorem lw_p23 : lw_okq (⟨"NinetyLamps", "partInto", "(I)I"⟩, 11) := ⟨⟨by decide +kernel, by decide +kernel⟩, List.mem_of_getElem? (i := 25) (by decide +kernel), List.mem_of_getElem? (i := 875) (by decide +kernel), List.mem_of_getElem? (i := 876) (by decide +kernel)⟩
theorem lw_p24 : lw_okq (⟨"NinetyLamps", "openParting", "(I)I"⟩, 11) := ⟨⟨by decide +kernel, by decide +kernel⟩, List.mem_of_getElem? (i := 25) (by decide +kernel), List.mem_of_getElem? (i := 879) (by decide +kernel), List.mem_of_getElem? (i := 880) (by decide +kernel)⟩
theorem lw_p25 : lw_okq (⟨"NinetyLamps$Parting", "numbered", "(J)I"⟩, 17) := ⟨⟨by decide +kernel, by decide +kernel⟩, List.mem_of_getElem? (i := 330) (by decide +kernel), List.mem_of_getElem? (i := 891) (by decide +kernel), List.mem_of_getElem? (i := 892) (by decide +kernel)⟩
theorem lw_p26 : lw_okq (⟨"NinetyLamps$Parting", "findWidest", "()V"⟩, 17) := ⟨⟨by decide +kernel, by decide +kernel⟩, List.mem_of_getElem? (i := 330) (by decide +kernel), List.mem_of_getElem? (i := 899) (by decide +kernel), List.mem_of_getElem? (i := 900) (by decide +kernel)⟩
theorem lw_p27 : lw_okq (⟨"NinetyLamps$Parting", "addWidest", "(I)V"⟩, 17) := ⟨⟨by decide +kernel, by decide +kernel⟩, List.mem_of_getElem? (i := 330) (by decide +kernel), List.mem_of_getElem? (i := 903) (by decide +kernel), List.mem_of_getElem? (i := 904) (by decide +kernel)⟩
theorem lw_p28 : lw_okq (⟨"NinetyLamps$Parting", "fewestFor", "(II)I"⟩, 17) := ⟨⟨by decide +kernel, by decide +kernel⟩, List.mem_of_getElem? (i := 330) (by decide +kernel), List.mem_of_getElem? (i := 913) (by decide +kernel), List.mem_of_getElem? (i := 914) (by decide +kernel)⟩
theorem lw_p29 : lw_okq (⟨"NinetyLamps$Parting", "choose", "(I)V"⟩, 17) := ⟨⟨by decide +kernel, by decide +kernel⟩, List.mem_of_getElem? (i := 330) (by decide +kernel), List.mem_of_getElem? (i := 918) (by decide +kernel), List.mem_of_getElem? (i := 919) (by decide +kernel)⟩
theorem lw_p30 : lw_okq (⟨"NinetyLamps", "tellTurns", "([II)V"⟩, 11) := ⟨⟨by decide +kernel, by decide +kernel⟩, List.mem_of_getElem? (i := 25) (by decide +kernel), List.mem_of_getElem? (i := 922) (by decide +kernel), List.mem_of_getElem? (i := 923) (by decide +kernel)⟩
theorem lw_p31 : lw_okq (⟨"NinetyLamps$Parting", "findNear", "()V"⟩, 17) := ⟨⟨by decide +kernel, by decide +kernel⟩, List.mem_of_getElem? (i := 330) (by decide +kernel), List.mem_of_getElem? (i := 934) (by decide +kernel), List.mem_of_getElem? (i := 935) (by decide +kernel)⟩
def lw_privs_2 : List (MethodName × Nat) := [(⟨"NinetyLamps$Flow", "carry", "(IIII)V"⟩, 20), (⟨"NinetyLamps$Flow", "noteWay", "(IJ)V"⟩, 20), (⟨"NinetyLamps$Flow", "isLessWay", "(I)Z"⟩, 20), (⟨"NinetyLamps$Flow", "bright", "()J"⟩, 20), (⟨"NinetyLamps", "openTable", "()Z"⟩, 11), (⟨"NinetyLamps", "isSearchable", "()Z"⟩, 11), (⟨"NinetyLamps$Table", "enter", "(I)Z"⟩, 7), (⟨"NinetyLamps", "partInto", "(I)I"⟩, 11), (⟨"NinetyLamps", "openParting", "(I)I"⟩, 11), (⟨"NinetyLamps$Parting", "numbered", "(J)I"⟩, 17), (⟨"NinetyLamps$Parting", "findWidest", "()V"⟩, 17), (⟨"NinetyLamps$Parting", "addWidest", "(I)V"⟩, 17), (⟨"NinetyLamps$Parting", "fewestFor", "(II)I"⟩, 17), (⟨"NinetyLamps$Parting", "choose", "(I)V"⟩, 17), (⟨"NinetyLamps", "tellTurns", "([II)V"⟩, 11), (⟨"NinetyLamps$Parting", "findNear", "()V"⟩, 17)]
theorem lw_r2 : ∀ q ∈ lw_privs_2, lw_okq q := List.forall_mem_cons.mpr ⟨lw_p16, List.forall_mem_cons.mpr ⟨lw_p17, List.forall_mem_cons.mpr ⟨lw_p18, List.forall_mem_cons.mpr ⟨lw_p19, List.forall_mem_cons.mpr ⟨lw_p20, List.forall_mem_cons.mpr ⟨lw_p21, List.forall_mem_cons.mpr ⟨lw_p22, List.forall_mem_cons.mpr ⟨lw_p23, List.forall_mem_cons.mpr ⟨lw_p24, List.forall_mem_cons.mpr ⟨lw_p25, List.forall_mem_cons.mpr ⟨lw_p26, List.forall_mem_cons.mpr ⟨lw_p27, List.forall_mem_cons.mpr ⟨lw_p28, List.forall_mem_cons.mpr ⟨lw_p29, List.forall_mem_cons.mpr ⟨lw_p30, List.forall_mem_cons.mpr ⟨lw_p31, fun _ h => absurd h List.not_mem_nil⟩⟩⟩⟩⟩⟩⟩⟩⟩⟩⟩⟩⟩⟩⟩⟩
theorem lw_p32 : lw_okq (⟨"NinetyLamps$Parting", "isApart", "(I)Z"⟩, 17) := ⟨⟨by decide +kernel, by decide +kernel⟩, List.mem_of_getElem? (i := 330) (by decide +kernel), List.mem_of_getElem? (i := 945) (by decide +kernel), List.mem_of_getElem? (i := 946) (by decide +kernel)⟩
theorem lw_p33 : lw_okq (⟨"NinetyLamps$Parting", "tryOrder", "(IIII)V"⟩, 17) := ⟨⟨by decide +kernel, by decide +kernel⟩, List.mem_of_getElem? (i := 330) (by decide +kernel), List.mem_of_getElem? (i := 962) (by decide +kernel), List.mem_of_getElem? (i := 963) (by decide +kernel)⟩
theorem lw_p34 : lw_okq (⟨"NinetyLamps$Parting", "takeLights", "()V"⟩, 17) := ⟨⟨by decide +kernel, by decide +kernel⟩, List.mem_of_getElem? (i := 330) (by decide +kernel), List.mem_of_getElem? (i := 981) (by decide +kernel), List.mem_of_getElem? (i := 982) (by decide +kernel)⟩
theorem lw_p35 : lw_okq (⟨"NinetyLamps$Parting", "dimmest", "()I"⟩, 17) := ⟨⟨by decide +kernel, by decide +kernel⟩, List.mem_of_getElem? (i := 330) (by decide +kernel), List.mem_of_getElem? (i := 987) (by decide +kernel), List.mem_of_getElem? (i := 988) (by decide +kernel)⟩
theorem lw_p36 : lw_okq (⟨"NinetyLamps$Parting", "brightestTurn", "(I)I"⟩, 17) := ⟨⟨by decide +kernel, by decide +kernel⟩, List.mem_of_getElem? (i := 330) (by decide +kernel), List.mem_of_getElem? (i := 991) (by decide +kernel), List.mem_of_getElem? (i := 992) (by decide +kernel)⟩
theorem lw_p37 : lw_okq (⟨"NinetyLamps", "partTraded", "(JII)I"⟩, 11) := ⟨⟨by decide +kernel, by decide +kernel⟩, List.mem_of_getElem? (i := 25) (by decide +kernel), List.mem_of_getElem? (i := 999) (by decide +kernel), List.mem_of_getElem? (i := 1000) (by decide +kernel)⟩
theorem lw_p38 : lw_okq (⟨"NinetyLamps$Suspects", "firstOfPair", "(I)I"⟩, 9) := ⟨⟨by decide +kernel, by decide +kernel⟩, List.mem_of_getElem? (i := 391) (by decide +kernel), List.mem_of_getElem? (i := 1043) (by decide +kernel), List.mem_of_getElem? (i := 1044) (by decide +kernel)⟩
theorem lw_p39 : lw_okq (⟨"NinetyLamps$Suspects", "pairsFrom", "(I)I"⟩, 9) := ⟨⟨by decide +kernel, by decide +kernel⟩, List.mem_of_getElem? (i := 391) (by decide +kernel), List.mem_of_getElem? (i := 1047) (by decide +kernel), List.mem_of_getElem? (i := 1048) (by decide +kernel)⟩
theorem lw_p40 : lw_okq (⟨"NinetyLamps$Suspects", "glowBy", "(II)J"⟩, 9) := ⟨⟨by decide +kernel, by decide +kernel⟩, List.mem_of_getElem? (i := 391) (by decide +kernel), List.mem_of_getElem? (i := 1077) (by decide +kernel), List.mem_of_getElem? (i := 1078) (by decide +kernel)⟩
theorem lw_p41 : lw_okq (⟨"NinetyLamps$Suspects", "joinGroup", "(J)I"⟩, 9) := ⟨⟨by decide +kernel, by decide +kernel⟩, List.mem_of_getElem? (i := 391) (by decide +kernel), List.mem_of_getElem? (i := 1128) (by decide +kernel), List.mem_of_getElem? (i := 1129) (by decide +kernel)⟩
theorem lw_p42 : lw_okq (⟨"NinetyLamps$Plan", "findGroup", "(I)I"⟩, 12) := ⟨⟨by decide +kernel, by decide +kernel⟩, List.mem_of_getElem? (i := 429) (by decide +kernel), List.mem_of_getElem? (i := 1149) (by decide +kernel), List.mem_of_getElem? (i := 1150) (by decide +kernel)⟩
theorem lw_p43 : lw_okq (⟨"NinetyLamps$Plan", "isSameRow", "(II)Z"⟩, 12) := ⟨⟨by decide +kernel, by decide +kernel⟩, List.mem_of_getElem? (i := 429) (by decide +kernel), List.mem_of_getElem? (i := 1154) (by decide +kernel), List.mem_of_getElem? (i := 1155) (by decide +kernel)⟩
theorem lw_p44 : lw_okq (⟨"NinetyLamps$Plan", "partCells", "(I)V"⟩, 12) := ⟨⟨by decide +kernel, by decide +kernel⟩, List.mem_of_getElem? (i := 429) (by decide +kernel), List.mem_of_getElem? (i := 1161) (by decide +kernel), List.mem_of_getElem? (i := 1162) (by decide +kernel)⟩
theorem lw_p45 : lw_okq (⟨"NinetyLamps$Plan", "isOneCell", "(IIII)Z"⟩, 12) := ⟨⟨by decide +kernel, by decide +kernel⟩, List.mem_of_getElem? (i := 429) (by decide +kernel), List.mem_of_getElem? (i := 1166) (by decide +kernel), List.mem_of_getElem? (i := 1167) (by decide +kernel)⟩
theorem lw_p46 : lw_okq (⟨"NinetyLamps$Plan", "reckonDepths", "(I)V"⟩, 12) := ⟨⟨by decide +kernel, by decide +kernel⟩, List.mem_of_getElem? (i := 429) (by decide +kernel), List.mem_of_getElem? (i := 1170) (by decide +kernel), List.mem_of_getElem? (i := 1171) (by decide +kernel)⟩
theorem lw_p47 : lw_okq (⟨"NinetyLamps$Plan", "tryTest", "(II)V"⟩, 12) := ⟨⟨by decide +kernel, by decide +kernel⟩, List.mem_of_getElem? (i := 429) (by decide +kernel), List.mem_of_getElem? (i := 1175) (by decide +kernel), List.mem_of_getElem? (i := 1176) (by decide +kernel)⟩
def lw_privs_3 : List (MethodName × Nat) := [(⟨"NinetyLamps$Parting", "isApart", "(I)Z"⟩, 17), (⟨"NinetyLamps$Parting", "tryOrder", "(IIII)V"⟩, 17), (⟨"NinetyLamps$Parting", "takeLights", "()V"⟩, 17), (⟨"NinetyLamps$Parting", "dimmest", "()I"⟩, 17), (⟨"NinetyLamps$Parting", "brightestTurn", "(I)I"⟩, 17), (⟨"NinetyLamps", "partTraded", "(JII)I"⟩, 11), (⟨"NinetyLamps$Suspects", "firstOfPair", "(I)I"⟩, 9), (⟨"NinetyLamps$Suspects", "pairsFrom", "(I)I"⟩, 9), (⟨"NinetyLamps$Suspects", "glowBy", "(II)J"⟩, 9), (⟨"NinetyLamps$Suspects", "joinGroup", "(J)I"⟩, 9), (⟨"NinetyLamps$Plan", "findGroup", "(I)I"⟩, 12), (⟨"NinetyLamps$Plan", "isSameRow", "(II)Z"⟩, 12), (⟨"NinetyLamps$Plan", "partCells", "(I)V"⟩, 12), (⟨"NinetyLamps$Plan", "isOneCell", "(IIII)Z"⟩, 12), (⟨"NinetyLamps$Plan", "reckonDepths", "(I)V"⟩, 12), (⟨"NinetyLamps$Plan", "tryTest", "(II)V"⟩, 12)]
theorem lw_r3 : ∀ q ∈ lw_privs_3, lw_okq q := List.forall_mem_cons.mpr ⟨lw_p32, List.forall_mem_cons.mpr ⟨lw_p33, List.forall_mem_cons.mpr ⟨lw_p34, List.forall_mem_cons.mpr ⟨lw_p35, List.forall_mem_cons.mpr ⟨lw_p36, List.forall_mem_cons.mpr ⟨lw_p37, List.forall_mem_cons.mpr ⟨lw_p38, List.forall_mem_cons.mpr ⟨lw_p39, List.forall_mem_cons.mpr ⟨lw_p40, List.forall_mem_cons.mpr ⟨lw_p41, List.forall_mem_cons.mpr ⟨lw_p42, List.forall_mem_cons.mpr ⟨lw_p43, List.forall_mem_cons.mpr ⟨lw_p44, List.forall_mem_cons.mpr ⟨lw_p45, List.forall_mem_cons.mpr ⟨lw_p46, List.forall_mem_cons.mpr ⟨lw_p47, fun _ h => absurd h List.not_mem_nil⟩⟩⟩⟩⟩⟩⟩⟩⟩⟩⟩⟩⟩⟩⟩⟩
theorem lw_p48 : lw_okq (⟨"NinetyLamps$Plan", "worstBehind", "(III)I"⟩, 12) := ⟨⟨by decide +kernel, by decide +kernel⟩, List.mem_of_getElem? (i := 429) (by decide +kernel), List.mem_of_getElem? (i := 1189) (by decide +kernel), List.mem_of_getElem? (i := 1190) (by decide +kernel)⟩
theorem lw_p49 : lw_okq (⟨"java/lang/Throwable", "fillInStackTrace", "(I)Ljava/lang/Throwable;"⟩, 6) := ⟨⟨by decide +kernel, by decide +kernel⟩, List.mem_of_getElem? (i := 1277) (by decide +kernel), List.mem_of_getElem? (i := 1275) (by decide +kernel), List.mem_of_getElem? (i := 1276) (by decide +kernel)⟩
theorem lw_p50 : lw_okq (⟨"NinetyLampsModel", "passes", "(C)Z"⟩, 75) := ⟨⟨by decide +kernel, by decide +kernel⟩, List.mem_of_getElem? (i := 1319) (by decide +kernel), List.mem_of_getElem? (i := 1572) (by decide +kernel), List.mem_of_getElem? (i := 1573) (by decide +kernel)⟩
theorem lw_p51 : lw_okq (⟨"NinetyLampsModel", "here", "()I"⟩, 75) := ⟨⟨by decide +kernel, by decide +kernel⟩, List.mem_of_getElem? (i := 1319) (by decide +kernel), List.mem_of_getElem? (i := 1576) (by decide +kernel), List.mem_of_getElem? (i := 1577) (by decide +kernel)⟩
theorem lw_p52 : lw_okq (⟨"NinetyLampsModel", "number", "(III)I"⟩, 75) := ⟨⟨by decide +kernel, by decide +kernel⟩, List.mem_of_getElem? (i := 1319) (by decide +kernel), List.mem_of_getElem? (i := 1580) (by decide +kernel), List.mem_of_getElem? (i := 1581) (by decide +kernel)⟩
theorem lw_p53 : lw_okq (⟨"NinetyLampsModel", "fault", "(I)V"⟩, 75) := ⟨⟨by decide +kernel, by decide +kernel⟩, List.mem_of_getElem? (i := 1319) (by decide +kernel), List.mem_of_getElem? (i := 1586) (by decide +kernel), List.mem_of_getElem? (i := 1587) (by decide +kernel)⟩
theorem lw_p54 : lw_okq (⟨"NinetyLampsModel", "need", "(C)V"⟩, 75) := ⟨⟨by decide +kernel, by decide +kernel⟩, List.mem_of_getElem? (i := 1319) (by decide +kernel), List.mem_of_getElem? (i := 1590) (by decide +kernel), List.mem_of_getElem? (i := 1591) (by decide +kernel)⟩
theorem lw_p55 : lw_okq (⟨"NinetyLampsModel", "take", "(I)V"⟩, 75) := ⟨⟨by decide +kernel, by decide +kernel⟩, List.mem_of_getElem? (i := 1319) (by decide +kernel), List.mem_of_getElem? (i := 1594) (by decide +kernel), List.mem_of_getElem? (i := 1595) (by decide +kernel)⟩
theorem lw_p56 : lw_okq (⟨"NinetyLampsModel", "isLamp", "(I)Z"⟩, 75) := ⟨⟨by decide +kernel, by decide +kernel⟩, List.mem_of_getElem? (i := 1319) (by decide +kernel), List.mem_of_getElem? (i := 1610) (by decide +kernel), List.mem_of_getElem? (i := 1611) (by decide +kernel)⟩
theorem lw_p57 : lw_okq (⟨"NinetyLampsModel", "lost", "()I"⟩, 75) := ⟨⟨by decide +kernel, by decide +kernel⟩, List.mem_of_getElem? (i := 1319) (by decide +kernel), List.mem_of_getElem? (i := 1614) (by decide +kernel), List.mem_of_getElem? (i := 1615) (by decide +kernel)⟩
theorem lw_p58 : lw_okq (⟨"NinetyLampsModel", "isWire", "(I)Z"⟩, 75) := ⟨⟨by decide +kernel, by decide +kernel⟩, List.mem_of_getElem? (i := 1319) (by decide +kernel), List.mem_of_getElem? (i := 1622) (by decide +kernel), List.mem_of_getElem? (i := 1623) (by decide +kernel)⟩
theorem lw_p59 : lw_okq (⟨"NinetyLampsModel", "change", "(II)V"⟩, 75) := ⟨⟨by decide +kernel, by decide +kernel⟩, List.mem_of_getElem? (i := 1319) (by decide +kernel), List.mem_of_getElem? (i := 1636) (by decide +kernel), List.mem_of_getElem? (i := 1637) (by decide +kernel)⟩
theorem lw_p60 : lw_okq (⟨"NinetyLampsModel", "isSetting", "(II)Z"⟩, 75) := ⟨⟨by decide +kernel, by decide +kernel⟩, List.mem_of_getElem? (i := 1319) (by decide +kernel), List.mem_of_getElem? (i := 1644) (by decide +kernel), List.mem_of_getElem? (i := 1645) (by decide +kernel)⟩
theorem lw_p61 : lw_okq (⟨"NinetyLampsModel", "glowingWith", "(III)J"⟩, 75) := ⟨⟨by decide +kernel, by decide +kernel⟩, List.mem_of_getElem? (i := 1319) (by decide +kernel), List.mem_of_getElem? (i := 1648) (by decide +kernel), List.mem_of_getElem? (i := 1649) (by decide +kernel)⟩
theorem lw_p62 : lw_okq (⟨"NinetyLampsModel", "lay", "(I)V"⟩, 75) := ⟨⟨by decide +kernel, by decide +kernel⟩, List.mem_of_getElem? (i := 1319) (by decide +kernel), List.mem_of_getElem? (i := 1652) (by decide +kernel), List.mem_of_getElem? (i := 1653) (by decide +kernel)⟩
theorem lw_p63 : lw_okq (⟨"NinetyLampsModel", "findFault", "(I)V"⟩, 75) := ⟨⟨by decide +kernel, by decide +kernel⟩, List.mem_of_getElem? (i := 1319) (by decide +kernel), List.mem_of_getElem? (i := 1656) (by decide +kernel), List.mem_of_getElem? (i := 1657) (by decide +kernel)⟩
def lw_privs_4 : List (MethodName × Nat) := [(⟨"NinetyLamps$Plan", "worstBehind", "(III)I"⟩, 12), (⟨"java/lang/Throwable", "fillInStackTrace", "(I)Ljava/lang/Throwable;"⟩, 6), (⟨"NinetyLampsModel", "passes", "(C)Z"⟩, 75), (⟨"NinetyLampsModel", "here", "()I"⟩, 75), (⟨"NinetyLampsModel", "number", "(III)I"⟩, 75), (⟨"NinetyLampsModel", "fault", "(I)V"⟩, 75), (⟨"NinetyLampsModel", "need", "(C)V"⟩, 75), (⟨"NinetyLampsModel", "take", "(I)V"⟩, 75), (⟨"NinetyLampsModel", "isLamp", "(I)Z"⟩, 75), (⟨"NinetyLampsModel", "lost", "()I"⟩, 75), (⟨"NinetyLampsModel", "isWire", "(I)Z"⟩, 75), (⟨"NinetyLampsModel", "change", "(II)V"⟩, 75), (⟨"NinetyLampsModel", "isSetting", "(II)Z"⟩, 75), (⟨"NinetyLampsModel", "glowingWith", "(III)J"⟩, 75), (⟨"NinetyLampsModel", "lay", "(I)V"⟩, 75), (⟨"NinetyLampsModel", "findFault", "(I)V"⟩, 75)]
theorem lw_r4 : ∀ q ∈ lw_privs_4, lw_okq q := List.forall_mem_cons.mpr ⟨lw_p48, List.forall_mem_cons.mpr ⟨lw_p49, List.forall_mem_cons.mpr ⟨lw_p50, List.forall_mem_cons.mpr ⟨lw_p51, List.forall_mem_cons.mpr ⟨lw_p52, List.forall_mem_cons.mpr ⟨lw_p53, List.forall_mem_cons.mpr ⟨lw_p54, List.forall_mem_cons.mpr ⟨lw_p55, List.forall_mem_cons.mpr ⟨lw_p56, List.forall_mem_cons.mpr ⟨lw_p57, List.forall_mem_cons.mpr ⟨lw_p58, List.forall_mem_cons.mpr ⟨lw_p59, List.forall_mem_cons.mpr ⟨lw_p60, List.forall_mem_cons.mpr ⟨lw_p61, List.forall_mem_cons.mpr ⟨lw_p62, List.forall_mem_cons.mpr ⟨lw_p63, fun _ h => absurd h List.not_mem_nil⟩⟩⟩⟩⟩⟩⟩⟩⟩⟩⟩⟩⟩⟩⟩⟩
theorem lw_p64 : lw_okq (⟨"NinetyLampsModel", "kindOf", "(I)I"⟩, 75) := ⟨⟨by decide +kernel, by decide +kernel⟩, List.mem_of_getElem? (i := 1319) (by decide +kernel), List.mem_of_getElem? (i := 1660) (by decide +kernel), List.mem_of_getElem? (i := 1661) (by decide +kernel)⟩
theorem lw_p65 : lw_okq (⟨"NinetyLampsModel", "touchFirst", "()I"⟩, 75) := ⟨⟨by decide +kernel, by decide +kernel⟩, List.mem_of_getElem? (i := 1319) (by decide +kernel), List.mem_of_getElem? (i := 1664) (by decide +kernel), List.mem_of_getElem? (i := 1665) (by decide +kernel)⟩
theorem lw_p66 : lw_okq (⟨"NinetyLampsModel", "turnedFirst", "()I"⟩, 75) := ⟨⟨by decide +kernel, by decide +kernel⟩, List.mem_of_getElem? (i := 1319) (by decide +kernel), List.mem_of_getElem? (i := 1668) (by decide +kernel), List.mem_of_getElem? (i := 1669) (by decide +kernel)⟩
theorem lw_p67 : lw_okq (⟨"NinetyLampsModel", "glowing", "(II)J"⟩, 75) := ⟨⟨by decide +kernel, by decide +kernel⟩, List.mem_of_getElem? (i := 1319) (by decide +kernel), List.mem_of_getElem? (i := 1672) (by decide +kernel), List.mem_of_getElem? (i := 1673) (by decide +kernel)⟩
theorem lw_p68 : lw_okq (⟨"NinetyLampsModel", "shine", "(II)V"⟩, 75) := ⟨⟨by decide +kernel, by decide +kernel⟩, List.mem_of_getElem? (i := 1319) (by decide +kernel), List.mem_of_getElem? (i := 1676) (by decide +kernel), List.mem_of_getElem? (i := 1677) (by decide +kernel)⟩
theorem lw_p69 : lw_okq (⟨"NinetyLampsModel", "begin", "(II)Z"⟩, 75) := ⟨⟨by decide +kernel, by decide +kernel⟩, List.mem_of_getElem? (i := 1319) (by decide +kernel), List.mem_of_getElem? (i := 1680) (by decide +kernel), List.mem_of_getElem? (i := 1681) (by decide +kernel)⟩
theorem lw_p70 : lw_okq (⟨"NinetyLampsModel", "goOn", "(IIIII)V"⟩, 75) := ⟨⟨by decide +kernel, by decide +kernel⟩, List.mem_of_getElem? (i := 1319) (by decide +kernel), List.mem_of_getElem? (i := 1687) (by decide +kernel), List.mem_of_getElem? (i := 1688) (by decide +kernel)⟩
theorem lw_p71 : lw_okq (⟨"NinetyLampsModel", "arrive", "(IIII)V"⟩, 75) := ⟨⟨by decide +kernel, by decide +kernel⟩, List.mem_of_getElem? (i := 1319) (by decide +kernel), List.mem_of_getElem? (i := 1691) (by decide +kernel), List.mem_of_getElem? (i := 1692) (by decide +kernel)⟩
theorem lw_p72 : lw_okq (⟨"NinetyLampsModel", "ohmsOf", "(I)I"⟩, 75) := ⟨⟨by decide +kernel, by decide +kernel⟩, List.mem_of_getElem? (i := 1319) (by decide +kernel), List.mem_of_getElem? (i := 1696) (by decide +kernel), List.mem_of_getElem? (i := 1697) (by decide +kernel)⟩
theorem lw_p73 : lw_okq (⟨"NinetyLampsModel", "isBetter", "(JI)Z"⟩, 75) := ⟨⟨by decide +kernel, by decide +kernel⟩, List.mem_of_getElem? (i := 1319) (by decide +kernel), List.mem_of_getElem? (i := 1703) (by decide +kernel), List.mem_of_getElem? (i := 1704) (by decide +kernel)⟩
theorem lw_p74 : lw_okq (⟨"NinetyLampsModel", "isBright", "(I)Z"⟩, 75) := ⟨⟨by decide +kernel, by decide +kernel⟩, List.mem_of_getElem? (i := 1319) (by decide +kernel), List.mem_of_getElem? (i := 1707) (by decide +kernel), List.mem_of_getElem? (i := 1708) (by decide +kernel)⟩
theorem lw_p75 : lw_okq (⟨"NinetyLampsModel", "askedFor", "(II)J"⟩, 75) := ⟨⟨by decide +kernel, by decide +kernel⟩, List.mem_of_getElem? (i := 1319) (by decide +kernel), List.mem_of_getElem? (i := 1721) (by decide +kernel), List.mem_of_getElem? (i := 1722) (by decide +kernel)⟩
theorem lw_p76 : lw_okq (⟨"NinetyLampsModel", "countAll", "(I)V"⟩, 75) := ⟨⟨by decide +kernel, by decide +kernel⟩, List.mem_of_getElem? (i := 1319) (by decide +kernel), List.mem_of_getElem? (i := 1730) (by decide +kernel), List.mem_of_getElem? (i := 1731) (by decide +kernel)⟩
theorem lw_p77 : lw_okq (⟨"NinetyLampsModel", "tell", "(J)V"⟩, 75) := ⟨⟨by decide +kernel, by decide +kernel⟩, List.mem_of_getElem? (i := 1319) (by decide +kernel), List.mem_of_getElem? (i := 1734) (by decide +kernel), List.mem_of_getElem? (i := 1735) (by decide +kernel)⟩
theorem lw_p78 : lw_okq (⟨"NinetyLampsModel", "areLamps", "(J)Z"⟩, 75) := ⟨⟨by decide +kernel, by decide +kernel⟩, List.mem_of_getElem? (i := 1319) (by decide +kernel), List.mem_of_getElem? (i := 1755) (by decide +kernel), List.mem_of_getElem? (i := 1756) (by decide +kernel)⟩
theorem lw_p79 : lw_okq (⟨"NinetyLampsModel", "canSearch", "()Z"⟩, 75) := ⟨⟨by decide +kernel, by decide +kernel⟩, List.mem_of_getElem? (i := 1319) (by decide +kernel), List.mem_of_getElem? (i := 1759) (by decide +kernel), List.mem_of_getElem? (i := 1760) (by decide +kernel)⟩
def lw_privs_5 : List (MethodName × Nat) := [(⟨"NinetyLampsModel", "kindOf", "(I)I"⟩, 75), (⟨"NinetyLampsModel", "touchFirst", "()I"⟩, 75), (⟨"NinetyLampsModel", "turnedFirst", "()I"⟩, 75), (⟨"NinetyLampsModel", "glowing", "(II)J"⟩, 75), (⟨"NinetyLampsModel", "shine", "(II)V"⟩, 75), (⟨"NinetyLampsModel", "begin", "(II)Z"⟩, 75), (⟨"NinetyLampsModel", "goOn", "(IIIII)V"⟩, 75), (⟨"NinetyLampsModel", "arrive", "(IIII)V"⟩, 75), (⟨"NinetyLampsModel", "ohmsOf", "(I)I"⟩, 75), (⟨"NinetyLampsModel", "isBetter", "(JI)Z"⟩, 75), (⟨"NinetyLampsModel", "isBright", "(I)Z"⟩, 75), (⟨"NinetyLampsModel", "askedFor", "(II)J"⟩, 75), (⟨"NinetyLampsModel", "countAll", "(I)V"⟩, 75), (⟨"NinetyLampsModel", "tell", "(J)V"⟩, 75), (⟨"NinetyLampsModel", "areLamps", "(J)Z"⟩, 75), (⟨"NinetyLampsModel", "canSearch", "()Z"⟩, 75)]
theorem lw_r5 : ∀ q ∈ lw_privs_5, lw_okq q := List.forall_mem_cons.mpr ⟨lw_p64, List.forall_mem_cons.mpr ⟨lw_p65, List.forall_mem_cons.mpr ⟨lw_p66, List.forall_mem_cons.mpr ⟨lw_p67, List.forall_mem_cons.mpr ⟨lw_p68, List.forall_mem_cons.mpr ⟨lw_p69, List.forall_mem_cons.mpr ⟨lw_p70, List.forall_mem_cons.mpr ⟨lw_p71, List.forall_mem_cons.mpr ⟨lw_p72, List.forall_mem_cons.mpr ⟨lw_p73, List.forall_mem_cons.mpr ⟨lw_p74, List.forall_mem_cons.mpr ⟨lw_p75, List.forall_mem_cons.mpr ⟨lw_p76, List.forall_mem_cons.mpr ⟨lw_p77, List.forall_mem_cons.mpr ⟨lw_p78, List.forall_mem_cons.mpr ⟨lw_p79, fun _ h => absurd h List.not_mem_nil⟩⟩⟩⟩⟩⟩⟩⟩⟩⟩⟩⟩⟩⟩⟩⟩
theorem lw_p80 : lw_okq (⟨"NinetyLampsModel", "findAll", "()V"⟩, 75) := ⟨⟨by decide +kernel, by decide +kernel⟩, List.mem_of_getElem? (i := 1319) (by decide +kernel), List.mem_of_getElem? (i := 1763) (by decide +kernel), List.mem_of_getElem? (i := 1764) (by decide +kernel)⟩
theorem lw_p81 : lw_okq (⟨"NinetyLampsModel", "findGlow", "(I[J)V"⟩, 75) := ⟨⟨by decide +kernel, by decide +kernel⟩, List.mem_of_getElem? (i := 1319) (by decide +kernel), List.mem_of_getElem? (i := 1767) (by decide +kernel), List.mem_of_getElem? (i := 1768) (by decide +kernel)⟩
theorem lw_p82 : lw_okq (⟨"NinetyLampsModel", "settings", "()I"⟩, 75) := ⟨⟨by decide +kernel, by decide +kernel⟩, List.mem_of_getElem? (i := 1319) (by decide +kernel), List.mem_of_getElem? (i := 1771) (by decide +kernel), List.mem_of_getElem? (i := 1772) (by decide +kernel)⟩
theorem lw_p83 : lw_okq (⟨"NinetyLampsModel", "highOf", "(I)I"⟩, 75) := ⟨⟨by decide +kernel, by decide +kernel⟩, List.mem_of_getElem? (i := 1319) (by decide +kernel), List.mem_of_getElem? (i := 1775) (by decide +kernel), List.mem_of_getElem? (i := 1776) (by decide +kernel)⟩
theorem lw_p84 : lw_okq (⟨"NinetyLampsModel", "wiresAt", "(II)I"⟩, 75) := ⟨⟨by decide +kernel, by decide +kernel⟩, List.mem_of_getElem? (i := 1319) (by decide +kernel), List.mem_of_getElem? (i := 1779) (by decide +kernel), List.mem_of_getElem? (i := 1780) (by decide +kernel)⟩
theorem lw_p85 : lw_okq (⟨"NinetyLampsModel", "lowOf", "(I)I"⟩, 75) := ⟨⟨by decide +kernel, by decide +kernel⟩, List.mem_of_getElem? (i := 1319) (by decide +kernel), List.mem_of_getElem? (i := 1783) (by decide +kernel), List.mem_of_getElem? (i := 1784) (by decide +kernel)⟩
theorem lw_p86 : lw_okq (⟨"NinetyLampsModel", "refusal", "(I)I"⟩, 75) := ⟨⟨by decide +kernel, by decide +kernel⟩, List.mem_of_getElem? (i := 1319) (by decide +kernel), List.mem_of_getElem? (i := 1825) (by decide +kernel), List.mem_of_getElem? (i := 1826) (by decide +kernel)⟩
theorem lw_p87 : lw_okq (⟨"NinetyLampsModel", "findParted", "(J)Z"⟩, 75) := ⟨⟨by decide +kernel, by decide +kernel⟩, List.mem_of_getElem? (i := 1319) (by decide +kernel), List.mem_of_getElem? (i := 1829) (by decide +kernel), List.mem_of_getElem? (i := 1830) (by decide +kernel)⟩
theorem lw_p88 : lw_okq (⟨"NinetyLampsModel", "findTurns", "(J)V"⟩, 75) := ⟨⟨by decide +kernel, by decide +kernel⟩, List.mem_of_getElem? (i := 1319) (by decide +kernel), List.mem_of_getElem? (i := 1833) (by decide +kernel), List.mem_of_getElem? (i := 1834) (by decide +kernel)⟩
theorem lw_p89 : lw_okq (⟨"NinetyLampsModel", "isTurn", "(IJ)Z"⟩, 75) := ⟨⟨by decide +kernel, by decide +kernel⟩, List.mem_of_getElem? (i := 1319) (by decide +kernel), List.mem_of_getElem? (i := 1837) (by decide +kernel), List.mem_of_getElem? (i := 1838) (by decide +kernel)⟩
theorem lw_p90 : lw_okq (⟨"NinetyLampsModel", "tellTurns", "()V"⟩, 75) := ⟨⟨by decide +kernel, by decide +kernel⟩, List.mem_of_getElem? (i := 1319) (by decide +kernel), List.mem_of_getElem? (i := 1843) (by decide +kernel), List.mem_of_getElem? (i := 1844) (by decide +kernel)⟩
theorem lw_p91 : lw_okq (⟨"NinetyLampsModel", "goOrders", "(IIII)V"⟩, 75) := ⟨⟨by decide +kernel, by decide +kernel⟩, List.mem_of_getElem? (i := 1319) (by decide +kernel), List.mem_of_getElem? (i := 1860) (by decide +kernel), List.mem_of_getElem? (i := 1861) (by decide +kernel)⟩
theorem lw_p92 : lw_okq (⟨"NinetyLampsModel", "changed", "(II)I"⟩, 75) := ⟨⟨by decide +kernel, by decide +kernel⟩, List.mem_of_getElem? (i := 1319) (by decide +kernel), List.mem_of_getElem? (i := 1864) (by decide +kernel), List.mem_of_getElem? (i := 1865) (by decide +kernel)⟩
theorem lw_p93 : lw_okq (⟨"NinetyLampsModel", "dimmest", "()I"⟩, 75) := ⟨⟨by decide +kernel, by decide +kernel⟩, List.mem_of_getElem? (i := 1319) (by decide +kernel), List.mem_of_getElem? (i := 1873) (by decide +kernel), List.mem_of_getElem? (i := 1874) (by decide +kernel)⟩
theorem lw_p94 : lw_okq (⟨"NinetyLampsModel", "sumOf", "(I)J"⟩, 75) := ⟨⟨by decide +kernel, by decide +kernel⟩, List.mem_of_getElem? (i := 1319) (by decide +kernel), List.mem_of_getElem? (i := 1877) (by decide +kernel), List.mem_of_getElem? (i := 1878) (by decide +kernel)⟩
theorem lw_p95 : lw_okq (⟨"NinetyLampsModel", "faultMany", "()I"⟩, 75) := ⟨⟨by decide +kernel, by decide +kernel⟩, List.mem_of_getElem? (i := 1319) (by decide +kernel), List.mem_of_getElem? (i := 1889) (by decide +kernel), List.mem_of_getElem? (i := 1890) (by decide +kernel)⟩
def lw_privs_6 : List (MethodName × Nat) := [(⟨"NinetyLampsModel", "findAll", "()V"⟩, 75), (⟨"NinetyLampsModel", "findGlow", "(I[J)V"⟩, 75), (⟨"NinetyLampsModel", "settings", "()I"⟩, 75), (⟨"NinetyLampsModel", "highOf", "(I)I"⟩, 75), (⟨"NinetyLampsModel", "wiresAt", "(II)I"⟩, 75), (⟨"NinetyLampsModel", "lowOf", "(I)I"⟩, 75), (⟨"NinetyLampsModel", "refusal", "(I)I"⟩, 75), (⟨"NinetyLampsModel", "findParted", "(J)Z"⟩, 75), (⟨"NinetyLampsModel", "findTurns", "(J)V"⟩, 75), (⟨"NinetyLampsModel", "isTurn", "(IJ)Z"⟩, 75), (⟨"NinetyLampsModel", "tellTurns", "()V"⟩, 75), (⟨"NinetyLampsModel", "goOrders", "(IIII)V"⟩, 75), (⟨"NinetyLampsModel", "changed", "(II)I"⟩, 75), (⟨"NinetyLampsModel", "dimmest", "()I"⟩, 75), (⟨"NinetyLampsModel", "sumOf", "(I)J"⟩, 75), (⟨"NinetyLampsModel", "faultMany", "()I"⟩, 75)]
theorem lw_r6 : ∀ q ∈ lw_privs_6, lw_okq q := List.forall_mem_cons.mpr ⟨lw_p80, List.forall_mem_cons.mpr ⟨lw_p81, List.forall_mem_cons.mpr ⟨lw_p82, List.forall_mem_cons.mpr ⟨lw_p83, List.forall_mem_cons.mpr ⟨lw_p84, List.forall_mem_cons.mpr ⟨lw_p85, List.forall_mem_cons.mpr ⟨lw_p86, List.forall_mem_cons.mpr ⟨lw_p87, List.forall_mem_cons.mpr ⟨lw_p88, List.forall_mem_cons.mpr ⟨lw_p89, List.forall_mem_cons.mpr ⟨lw_p90, List.forall_mem_cons.mpr ⟨lw_p91, List.forall_mem_cons.mpr ⟨lw_p92, List.forall_mem_cons.mpr ⟨lw_p93, List.forall_mem_cons.mpr ⟨lw_p94, List.forall_mem_cons.mpr ⟨lw_p95, fun _ h => absurd h List.not_mem_nil⟩⟩⟩⟩⟩⟩⟩⟩⟩⟩⟩⟩⟩⟩⟩⟩
theorem lw_p96 : lw_okq (⟨"NinetyLampsModel", "isFault", "(I)Z"⟩, 75) := ⟨⟨by decide +kernel, by decide +kernel⟩, List.mem_of_getElem? (i := 1319) (by decide +kernel), List.mem_of_getElem? (i := 1897) (by decide +kernel), List.mem_of_getElem? (i := 1898) (by decide +kernel)⟩
theorem lw_p97 : lw_okq (⟨"NinetyLampsModel", "firstUnlike", "()I"⟩, 75) := ⟨⟨by decide +kernel, by decide +kernel⟩, List.mem_of_getElem? (i := 1319) (by decide +kernel), List.mem_of_getElem? (i := 1913) (by decide +kernel), List.mem_of_getElem? (i := 1914) (by decide +kernel)⟩
theorem lw_p98 : lw_okq (⟨"NinetyLampsModel", "findAgreed", "()V"⟩, 75) := ⟨⟨by decide +kernel, by decide +kernel⟩, List.mem_of_getElem? (i := 1319) (by decide +kernel), List.mem_of_getElem? (i := 1933) (by decide +kernel), List.mem_of_getElem? (i := 1934) (by decide +kernel)⟩
theorem lw_p99 : lw_okq (⟨"NinetyLampsModel", "bar", "(I)I"⟩, 75) := ⟨⟨by decide +kernel, by decide +kernel⟩, List.mem_of_getElem? (i := 1319) (by decide +kernel), List.mem_of_getElem? (i := 1937) (by decide +kernel), List.mem_of_getElem? (i := 1938) (by decide +kernel)⟩
theorem lw_p100 : lw_okq (⟨"NinetyLampsModel", "findAnswers", "()V"⟩, 75) := ⟨⟨by decide +kernel, by decide +kernel⟩, List.mem_of_getElem? (i := 1319) (by decide +kernel), List.mem_of_getElem? (i := 1957) (by decide +kernel), List.mem_of_getElem? (i := 1958) (by decide +kernel)⟩
theorem lw_p101 : lw_okq (⟨"NinetyLampsModel", "firstOf", "(II)I"⟩, 75) := ⟨⟨by decide +kernel, by decide +kernel⟩, List.mem_of_getElem? (i := 1319) (by decide +kernel), List.mem_of_getElem? (i := 1961) (by decide +kernel), List.mem_of_getElem? (i := 1962) (by decide +kernel)⟩
theorem lw_p102 : lw_okq (⟨"NinetyLampsModel", "depthOf", "(II)I"⟩, 75) := ⟨⟨by decide +kernel, by decide +kernel⟩, List.mem_of_getElem? (i := 1319) (by decide +kernel), List.mem_of_getElem? (i := 1965) (by decide +kernel), List.mem_of_getElem? (i := 1966) (by decide +kernel)⟩
theorem lw_p103 : lw_okq (⟨"NinetyLampsModel", "parts", "(III)Z"⟩, 75) := ⟨⟨by decide +kernel, by decide +kernel⟩, List.mem_of_getElem? (i := 1319) (by decide +kernel), List.mem_of_getElem? (i := 1969) (by decide +kernel), List.mem_of_getElem? (i := 1970) (by decide +kernel)⟩
theorem lw_p104 : lw_okq (⟨"NinetyLampsModel", "areAlike", "(III)Z"⟩, 75) := ⟨⟨by decide +kernel, by decide +kernel⟩, List.mem_of_getElem? (i := 1319) (by decide +kernel), List.mem_of_getElem? (i := 1973) (by decide +kernel), List.mem_of_getElem? (i := 1974) (by decide +kernel)⟩
theorem lw_p105 : lw_okq (⟨"NinetyLampsModel", "depthBy", "(III)I"⟩, 75) := ⟨⟨by decide +kernel, by decide +kernel⟩, List.mem_of_getElem? (i := 1319) (by decide +kernel), List.mem_of_getElem? (i := 1977) (by decide +kernel), List.mem_of_getElem? (i := 1978) (by decide +kernel)⟩
theorem lw_p106 : lw_okq (⟨"NinetyLampsModel", "firstTest", "(II)I"⟩, 75) := ⟨⟨by decide +kernel, by decide +kernel⟩, List.mem_of_getElem? (i := 1319) (by decide +kernel), List.mem_of_getElem? (i := 1981) (by decide +kernel), List.mem_of_getElem? (i := 1982) (by decide +kernel)⟩
def lw_privs_7 : List (MethodName × Nat) := [(⟨"NinetyLampsModel", "isFault", "(I)Z"⟩, 75), (⟨"NinetyLampsModel", "firstUnlike", "()I"⟩, 75), (⟨"NinetyLampsModel", "findAgreed", "()V"⟩, 75), (⟨"NinetyLampsModel", "bar", "(I)I"⟩, 75), (⟨"NinetyLampsModel", "findAnswers", "()V"⟩, 75), (⟨"NinetyLampsModel", "firstOf", "(II)I"⟩, 75), (⟨"NinetyLampsModel", "depthOf", "(II)I"⟩, 75), (⟨"NinetyLampsModel", "parts", "(III)Z"⟩, 75), (⟨"NinetyLampsModel", "areAlike", "(III)Z"⟩, 75), (⟨"NinetyLampsModel", "depthBy", "(III)I"⟩, 75), (⟨"NinetyLampsModel", "firstTest", "(II)I"⟩, 75)]
theorem lw_r7 : ∀ q ∈ lw_privs_7, lw_okq q := List.forall_mem_cons.mpr ⟨lw_p96, List.forall_mem_cons.mpr ⟨lw_p97, List.forall_mem_cons.mpr ⟨lw_p98, List.forall_mem_cons.mpr ⟨lw_p99, List.forall_mem_cons.mpr ⟨lw_p100, List.forall_mem_cons.mpr ⟨lw_p101, List.forall_mem_cons.mpr ⟨lw_p102, List.forall_mem_cons.mpr ⟨lw_p103, List.forall_mem_cons.mpr ⟨lw_p104, List.forall_mem_cons.mpr ⟨lw_p105, List.forall_mem_cons.mpr ⟨lw_p106, fun _ h => absurd h List.not_mem_nil⟩⟩⟩⟩⟩⟩⟩⟩⟩⟩⟩
def lw_privs : List (MethodName × Nat) := lw_privs_1 ++ (lw_privs_2 ++ (lw_privs_3 ++ (lw_privs_4 ++ (lw_privs_5 ++ (lw_privs_6 ++ (lw_privs_7))))))
def lw_tbl : List Cond := k2_sels lw_privs ++ tables_1
theorem lw_privs_ok : ∀ q ∈ lw_privs, lw_okq q := by
  show ∀ q ∈ lw_privs_1 ++ (lw_privs_2 ++ (lw_privs_3 ++ (lw_privs_4 ++ (lw_privs_5 ++ (lw_privs_6 ++ (lw_privs_7)))))), lw_okq q
  exact List.forall_mem_append.mpr ⟨lw_r1, List.forall_mem_append.mpr ⟨lw_r2, List.forall_mem_append.mpr ⟨lw_r3, List.forall_mem_append.mpr ⟨lw_r4, List.forall_mem_append.mpr ⟨lw_r5, List.forall_mem_append.mpr ⟨lw_r6, lw_r7⟩⟩⟩⟩⟩⟩
end
section
def RX0 : String := "NinetyLamps$Board"
def TX0 : u_T := fun k => match k with
  | 0 => ("NinetyLamps$Board", "wide", "I", false)
  | 1 => ("NinetyLamps$Board", "lamps", "I", false)
  | 2 => ("NinetyLamps$Board", "supply", "I", false)
  | 3 => ("NinetyLamps$Board", "depth", "I", false)
  | 4 => ("NinetyLamps$Board", "faint", "I", false)
  | 5 => ("NinetyLamps$Board", "ohms", "[I", true)
  | 6 => ("NinetyLamps$Board", "from", "[I", true)
  | 7 => ("NinetyLamps$Board", "goal", "[I", true)
  | 8 => ("NinetyLamps$Board", "volts", "[I", true)
  | 9 => ("NinetyLamps$Board", "out", "[J", true)
  | _ => ("NinetyLamps$Board", "into", "[J", true)
def tyX0 : Nat → FieldType := fun k => match k with
  | 0 => .int
  | 1 => .int
  | 2 => .int
  | 3 => .int
  | 4 => .int
  | 5 => .array .int
  | 6 => .array .int
  | 7 => .array .int
  | 8 => .array .int
  | 9 => .array .long
  | _ => .array .long
abbrev wsX00 : List Cond := u_ws RX0 TX0 11
theorem nmX0 : ∀ a, a < 11 → ∀ b, b < 11 → a ≠ b → (TX0 a).2.1 ≠ (TX0 b).2.1 := by decide +kernel
theorem tyX0_ok : ∀ k, k < 11 → parseFieldDescriptor (TX0 k).2.2.1 = some (tyX0 k) := by decide +kernel
abbrev cX0_init : ByteArray := prog_2_method_1_code
def yX0_init : MethodName := ⟨RX0, "<init>", "()V"⟩
abbrev cX0_hasWire : ByteArray := prog_2_method_2_code
def yX0_hasWire : MethodName := ⟨RX0, "hasWire", "(I)Z"⟩
abbrev cX0_hasLamp : ByteArray := prog_2_method_3_code
def yX0_hasLamp : MethodName := ⟨RX0, "hasLamp", "(I)Z"⟩
abbrev cX0_hasPair : ByteArray := prog_2_method_4_code
def yX0_hasPair : MethodName := ⟨RX0, "hasPair", "(II)Z"⟩
abbrev cX0_hasLamps : ByteArray := prog_2_method_5_code
def yX0_hasLamps : MethodName := ⟨RX0, "hasLamps", "(J)Z"⟩
abbrev cX0_hasSetting : ByteArray := prog_2_method_6_code
def yX0_hasSetting : MethodName := ⟨RX0, "hasSetting", "(II)Z"⟩
abbrev cX0_startAnew : ByteArray := prog_2_method_7_code
def yX0_startAnew : MethodName := ⟨RX0, "startAnew", "(I)V"⟩
abbrev cX0_add : ByteArray := prog_2_method_8_code
def yX0_add : MethodName := ⟨RX0, "add", "(III)V"⟩
abbrev cX0_resist : ByteArray := prog_2_method_9_code
def yX0_resist : MethodName := ⟨RX0, "resist", "(II)V"⟩
abbrev cX0_trade : ByteArray := prog_2_method_10_code
def yX0_trade : MethodName := ⟨RX0, "trade", "(II)V"⟩
abbrev cX0_rewire : ByteArray := prog_2_method_11_code
def yX0_rewire : MethodName := ⟨RX0, "rewire", "()V"⟩
abbrev cX0_asked : ByteArray := prog_2_method_12_code
def yX0_asked : MethodName := ⟨RX0, "asked", "(II)J"⟩
def RX1 : String := "NinetyLamps$Flow"
def TX1 : u_T := fun k => match k with
  | 0 => ("NinetyLamps$Flow", "board", "LNinetyLamps$Board;", true)
  | 1 => ("NinetyLamps$Flow", "ohms", "[I", true)
  | 2 => ("NinetyLamps$Flow", "out", "[J", true)
  | 3 => ("NinetyLamps$Flow", "into", "[J", true)
  | 4 => ("NinetyLamps$Flow", "light", "[J", true)
  | 5 => ("NinetyLamps$Flow", "drawn", "[J", true)
  | 6 => ("NinetyLamps$Flow", "way", "[I", true)
  | 7 => ("NinetyLamps$Flow", "bestWay", "[I", true)
  | 8 => ("NinetyLamps$Flow", "high", "I", false)
  | 9 => ("NinetyLamps$Flow", "low", "I", false)
  | 10 => ("NinetyLamps$Flow", "turned", "I", false)
  | 11 => ("NinetyLamps$Flow", "joined", "I", false)
  | 12 => ("NinetyLamps$Flow", "joinedTo", "I", false)
  | 13 => ("NinetyLamps$Flow", "toLow", "J", false)
  | 14 => ("NinetyLamps$Flow", "toFree", "J", false)
  | 15 => ("NinetyLamps$Flow", "lit", "J", false)
  | 16 => ("NinetyLamps$Flow", "watched", "I", false)
  | 17 => ("NinetyLamps$Flow", "passing", "I", false)
  | 18 => ("NinetyLamps$Flow", "best", "J", false)
  | _ => ("NinetyLamps$Flow", "bestSize", "I", false)
def tyX1 : Nat → FieldType := fun k => match k with
  | 0 => .object "NinetyLamps$Board"
  | 1 => .array .int
  | 2 => .array .long
  | 3 => .array .long
  | 4 => .array .long
  | 5 => .array .long
  | 6 => .array .int
  | 7 => .array .int
  | 8 => .int
  | 9 => .int
  | 10 => .int
  | 11 => .int
  | 12 => .int
  | 13 => .long
  | 14 => .long
  | 15 => .long
  | 16 => .int
  | 17 => .int
  | 18 => .long
  | _ => .int
abbrev wsX10 : List Cond := u_ws RX1 TX1 20
theorem nmX1 : ∀ a, a < 20 → ∀ b, b < 20 → a ≠ b → (TX1 a).2.1 ≠ (TX1 b).2.1 := by decide +kernel
theorem tyX1_ok : ∀ k, k < 20 → parseFieldDescriptor (TX1 k).2.2.1 = some (tyX1 k) := by decide +kernel
abbrev cX1_init : ByteArray := prog_3_method_1_code
def yX1_init : MethodName := ⟨RX1, "<init>", "(LNinetyLamps$Board;)V"⟩
abbrev cX1_glowing : ByteArray := prog_3_method_2_code
def yX1_glowing : MethodName := ⟨RX1, "glowing", "(II)J"⟩
abbrev cX1_watch : ByteArray := prog_3_method_3_code
def yX1_watch : MethodName := ⟨RX1, "watch", "(III)V"⟩
abbrev cX1_lay : ByteArray := prog_3_method_4_code
def yX1_lay : MethodName := ⟨RX1, "lay", "(II)V"⟩
abbrev cX1_cut : ByteArray := prog_3_method_5_code
def yX1_cut : MethodName := ⟨RX1, "cut", "(I)V"⟩
abbrev cX1_join : ByteArray := prog_3_method_6_code
def yX1_join : MethodName := ⟨RX1, "join", "(II)V"⟩
abbrev cX1_turn : ByteArray := prog_3_method_7_code
def yX1_turn : MethodName := ⟨RX1, "turn", "(I)V"⟩
abbrev cX1_run : ByteArray := prog_3_method_8_code
def yX1_run : MethodName := ⟨RX1, "run", "()J"⟩
abbrev cX1_putOut : ByteArray := prog_3_method_9_code
def yX1_putOut : MethodName := ⟨RX1, "putOut", "()V"⟩
abbrev cX1_follow : ByteArray := prog_3_method_10_code
def yX1_follow : MethodName := ⟨RX1, "follow", "(IIII)V"⟩
abbrev cX1_goalOf : ByteArray := prog_3_method_11_code
def yX1_goalOf : MethodName := ⟨RX1, "goalOf", "(I)I"⟩
abbrev cX1_carry : ByteArray := prog_3_method_12_code
def yX1_carry : MethodName := ⟨RX1, "carry", "(IIII)V"⟩
abbrev cX1_noteWay : ByteArray := prog_3_method_13_code
def yX1_noteWay : MethodName := ⟨RX1, "noteWay", "(IJ)V"⟩
abbrev cX1_isLessWay : ByteArray := prog_3_method_14_code
def yX1_isLessWay : MethodName := ⟨RX1, "isLessWay", "(I)Z"⟩
abbrev cX1_bright : ByteArray := prog_3_method_15_code
def yX1_bright : MethodName := ⟨RX1, "bright", "()J"⟩
def RX2 : String := "NinetyLamps$Kept"
def TX2 : u_T := fun k => match k with
  | 0 => ("NinetyLamps$Kept", "full", "Z", false)
  | 1 => ("NinetyLamps$Kept", "lamps", "I", false)
  | 2 => ("NinetyLamps$Kept", "from", "[I", true)
  | 3 => ("NinetyLamps$Kept", "goal", "[I", true)
  | 4 => ("NinetyLamps$Kept", "volts", "[I", true)
  | _ => ("NinetyLamps$Kept", "notes", "LNinetyLamps$Notes;", true)
def tyX2 : Nat → FieldType := fun k => match k with
  | 0 => .boolean
  | 1 => .int
  | 2 => .array .int
  | 3 => .array .int
  | 4 => .array .int
  | _ => .object "NinetyLamps$Notes"
abbrev wsX20 : List Cond := u_ws RX2 TX2 6
theorem nmX2 : ∀ a, a < 6 → ∀ b, b < 6 → a ≠ b → (TX2 a).2.1 ≠ (TX2 b).2.1 := by decide +kernel
theorem tyX2_ok : ∀ k, k < 6 → parseFieldDescriptor (TX2 k).2.2.1 = some (tyX2 k) := by decide +kernel
abbrev cX2_init : ByteArray := prog_4_method_1_code
def yX2_init : MethodName := ⟨RX2, "<init>", "()V"⟩
abbrev cX2_take : ByteArray := prog_4_method_2_code
def yX2_take : MethodName := ⟨RX2, "take", "(LNinetyLamps$Board;LNinetyLamps$Notes;)V"⟩
abbrev cX2_give : ByteArray := prog_4_method_3_code
def yX2_give : MethodName := ⟨RX2, "give", "(LNinetyLamps$Board;LNinetyLamps$Notes;)V"⟩
def RX3 : String := "NinetyLamps$Notes"
def TX3 : u_T := fun k => match k with
  | 0 => ("NinetyLamps$Notes", "high", "I", false)
  | 1 => ("NinetyLamps$Notes", "low", "I", false)
  | 2 => ("NinetyLamps$Notes", "pictures", "[J", true)
  | 3 => ("NinetyLamps$Notes", "seenSize", "I", false)
  | 4 => ("NinetyLamps$Notes", "seenHigh", "[I", true)
  | 5 => ("NinetyLamps$Notes", "seenLow", "[I", true)
  | _ => ("NinetyLamps$Notes", "seenLamps", "[J", true)
def tyX3 : Nat → FieldType := fun k => match k with
  | 0 => .int
  | 1 => .int
  | 2 => .array .long
  | 3 => .int
  | 4 => .array .int
  | 5 => .array .int
  | _ => .array .long
abbrev wsX30 : List Cond := u_ws RX3 TX3 7
theorem nmX3 : ∀ a, a < 7 → ∀ b, b < 7 → a ≠ b → (TX3 a).2.1 ≠ (TX3 b).2.1 := by decide +kernel
theorem tyX3_ok : ∀ k, k < 7 → parseFieldDescriptor (TX3 k).2.2.1 = some (tyX3 k) := by decide +kernel
abbrev cX3_init : ByteArray := prog_5_method_1_code
def yX3_init : MethodName := ⟨RX3, "<init>", "()V"⟩
abbrev cX3_clear : ByteArray := prog_5_method_2_code
def yX3_clear : MethodName := ⟨RX3, "clear", "()V"⟩
abbrev cX3_addSeen : ByteArray := prog_5_method_3_code
def yX3_addSeen : MethodName := ⟨RX3, "addSeen", "(IIJ)Z"⟩
abbrev cX3_copyFrom : ByteArray := prog_5_method_4_code
def yX3_copyFrom : MethodName := ⟨RX3, "copyFrom", "(LNinetyLamps$Notes;)V"⟩
def RX4 : String := "NinetyLamps$Parting"
def TX4 : u_T := fun k => match k with
  | 0 => ("NinetyLamps$Parting", "table", "LNinetyLamps$Table;", true)
  | 1 => ("NinetyLamps$Parting", "flow", "LNinetyLamps$Flow;", true)
  | 2 => ("NinetyLamps$Parting", "lampAt", "[I", true)
  | 3 => ("NinetyLamps$Parting", "lamps", "I", false)
  | 4 => ("NinetyLamps$Parting", "cover", "[I", true)
  | 5 => ("NinetyLamps$Parting", "widest", "[I", true)
  | 6 => ("NinetyLamps$Parting", "widestSize", "I", false)
  | 7 => ("NinetyLamps$Parting", "fewest", "[I", true)
  | 8 => ("NinetyLamps$Parting", "near", "[I", true)
  | 9 => ("NinetyLamps$Parting", "chosen", "[I", true)
  | 10 => ("NinetyLamps$Parting", "turns", "I", false)
  | 11 => ("NinetyLamps$Parting", "order", "[I", true)
  | 12 => ("NinetyLamps$Parting", "tried", "[I", true)
  | 13 => ("NinetyLamps$Parting", "fewestChanges", "I", false)
  | 14 => ("NinetyLamps$Parting", "slots", "[I", true)
  | 15 => ("NinetyLamps$Parting", "lights", "[J", true)
  | _ => ("NinetyLamps$Parting", "sums", "[J", true)
def tyX4 : Nat → FieldType := fun k => match k with
  | 0 => .object "NinetyLamps$Table"
  | 1 => .object "NinetyLamps$Flow"
  | 2 => .array .int
  | 3 => .int
  | 4 => .array .int
  | 5 => .array .int
  | 6 => .int
  | 7 => .array .int
  | 8 => .array .int
  | 9 => .array .int
  | 10 => .int
  | 11 => .array .int
  | 12 => .array .int
  | 13 => .int
  | 14 => .array .int
  | 15 => .array .long
  | _ => .array .long
abbrev wsX40 : List Cond := u_ws RX4 TX4 17
theorem nmX4 : ∀ a, a < 17 → ∀ b, b < 17 → a ≠ b → (TX4 a).2.1 ≠ (TX4 b).2.1 := by decide +kernel
theorem tyX4_ok : ∀ k, k < 17 → parseFieldDescriptor (TX4 k).2.2.1 = some (tyX4 k) := by decide +kernel
abbrev cX4_init : ByteArray := prog_6_method_1_code
def yX4_init : MethodName := ⟨RX4, "<init>", "(LNinetyLamps$Table;LNinetyLamps$Flow;)V"⟩
abbrev cX4_open : ByteArray := prog_6_method_2_code
def yX4_open : MethodName := ⟨RX4, "open", "(J)V"⟩
abbrev cX4_numbered : ByteArray := prog_6_method_3_code
def yX4_numbered : MethodName := ⟨RX4, "numbered", "(J)I"⟩
abbrev cX4_part : ByteArray := prog_6_method_4_code
def yX4_part : MethodName := ⟨RX4, "part", "()I"⟩
abbrev cX4_findWidest : ByteArray := prog_6_method_5_code
def yX4_findWidest : MethodName := ⟨RX4, "findWidest", "()V"⟩
abbrev cX4_addWidest : ByteArray := prog_6_method_6_code
def yX4_addWidest : MethodName := ⟨RX4, "addWidest", "(I)V"⟩
abbrev cX4_fewestFor : ByteArray := prog_6_method_7_code
def yX4_fewestFor : MethodName := ⟨RX4, "fewestFor", "(II)I"⟩
abbrev cX4_choose : ByteArray := prog_6_method_8_code
def yX4_choose : MethodName := ⟨RX4, "choose", "(I)V"⟩
abbrev cX4_mostApart : ByteArray := prog_6_method_9_code
def yX4_mostApart : MethodName := ⟨RX4, "mostApart", "()J"⟩
abbrev cX4_findNear : ByteArray := prog_6_method_10_code
def yX4_findNear : MethodName := ⟨RX4, "findNear", "()V"⟩
abbrev cX4_isApart : ByteArray := prog_6_method_11_code
def yX4_isApart : MethodName := ⟨RX4, "isApart", "(I)Z"⟩
abbrev cX4_putInOrder : ByteArray := prog_6_method_12_code
def yX4_putInOrder : MethodName := ⟨RX4, "putInOrder", "()I"⟩
abbrev cX4_tryOrder : ByteArray := prog_6_method_13_code
def yX4_tryOrder : MethodName := ⟨RX4, "tryOrder", "(IIII)V"⟩
abbrev cX4_differing : ByteArray := prog_6_method_14_code
def yX4_differing : MethodName := ⟨RX4, "differing", "(II)I"⟩
abbrev cX4_giveSlots : ByteArray := prog_6_method_15_code
def yX4_giveSlots : MethodName := ⟨RX4, "giveSlots", "(I)J"⟩
abbrev cX4_takeLights : ByteArray := prog_6_method_16_code
def yX4_takeLights : MethodName := ⟨RX4, "takeLights", "()V"⟩
abbrev cX4_dimmest : ByteArray := prog_6_method_17_code
def yX4_dimmest : MethodName := ⟨RX4, "dimmest", "()I"⟩
abbrev cX4_brightestTurn : ByteArray := prog_6_method_18_code
def yX4_brightestTurn : MethodName := ⟨RX4, "brightestTurn", "(I)I"⟩
def RX5 : String := "NinetyLamps$Plan"
def TX5 : u_T := fun k => match k with
  | 0 => ("NinetyLamps$Plan", "suspects", "LNinetyLamps$Suspects;", true)
  | 1 => ("NinetyLamps$Plan", "testHigh", "[I", true)
  | 2 => ("NinetyLamps$Plan", "testLow", "[I", true)
  | 3 => ("NinetyLamps$Plan", "tests", "I", false)
  | 4 => ("NinetyLamps$Plan", "groupOf", "[I", true)
  | 5 => ("NinetyLamps$Plan", "groups", "I", false)
  | 6 => ("NinetyLamps$Plan", "shown", "[J", true)
  | 7 => ("NinetyLamps$Plan", "sizes", "[I", true)
  | 8 => ("NinetyLamps$Plan", "worst", "[I", true)
  | 9 => ("NinetyLamps$Plan", "parts", "[I", true)
  | 10 => ("NinetyLamps$Plan", "cells", "[I", false)
  | _ => ("NinetyLamps$Plan", "depths", "[I", false)
def tyX5 : Nat → FieldType := fun k => match k with
  | 0 => .object "NinetyLamps$Suspects"
  | 1 => .array .int
  | 2 => .array .int
  | 3 => .int
  | 4 => .array .int
  | 5 => .int
  | 6 => .array .long
  | 7 => .array .int
  | 8 => .array .int
  | 9 => .array .int
  | 10 => .array .int
  | _ => .array .int
abbrev wsX50 : List Cond := u_ws RX5 TX5 12
theorem nmX5 : ∀ a, a < 12 → ∀ b, b < 12 → a ≠ b → (TX5 a).2.1 ≠ (TX5 b).2.1 := by decide +kernel
theorem tyX5_ok : ∀ k, k < 12 → parseFieldDescriptor (TX5 k).2.2.1 = some (tyX5 k) := by decide +kernel
abbrev cX5_init : ByteArray := prog_7_method_1_code
def yX5_init : MethodName := ⟨RX5, "<init>", "(LNinetyLamps$Suspects;)V"⟩
abbrev cX5_addTest : ByteArray := prog_7_method_2_code
def yX5_addTest : MethodName := ⟨RX5, "addTest", "(II)Z"⟩
abbrev cX5_grow : ByteArray := prog_7_method_3_code
def yX5_grow : MethodName := ⟨RX5, "grow", "()V"⟩
abbrev cX5_findGroup : ByteArray := prog_7_method_4_code
def yX5_findGroup : MethodName := ⟨RX5, "findGroup", "(I)I"⟩
abbrev cX5_isSameRow : ByteArray := prog_7_method_5_code
def yX5_isSameRow : MethodName := ⟨RX5, "isSameRow", "(II)Z"⟩
abbrev cX5_place : ByteArray := prog_7_method_6_code
def yX5_place : MethodName := ⟨RX5, "place", "(II)I"⟩
abbrev cX5_partCells : ByteArray := prog_7_method_7_code
def yX5_partCells : MethodName := ⟨RX5, "partCells", "(I)V"⟩
abbrev cX5_isOneCell : ByteArray := prog_7_method_8_code
def yX5_isOneCell : MethodName := ⟨RX5, "isOneCell", "(IIII)Z"⟩
abbrev cX5_reckonDepths : ByteArray := prog_7_method_9_code
def yX5_reckonDepths : MethodName := ⟨RX5, "reckonDepths", "(I)V"⟩
abbrev cX5_tryTest : ByteArray := prog_7_method_10_code
def yX5_tryTest : MethodName := ⟨RX5, "tryTest", "(II)V"⟩
abbrev cX5_depthAt : ByteArray := prog_7_method_11_code
def yX5_depthAt : MethodName := ⟨RX5, "depthAt", "(II)I"⟩
abbrev cX5_firstTest : ByteArray := prog_7_method_12_code
def yX5_firstTest : MethodName := ⟨RX5, "firstTest", "(II)I"⟩
abbrev cX5_worstBehind : ByteArray := prog_7_method_13_code
def yX5_worstBehind : MethodName := ⟨RX5, "worstBehind", "(III)I"⟩
abbrev cX5_groupOfFault : ByteArray := prog_7_method_14_code
def yX5_groupOfFault : MethodName := ⟨RX5, "groupOfFault", "(I)I"⟩
abbrev cX5_sizeOfGroup : ByteArray := prog_7_method_15_code
def yX5_sizeOfGroup : MethodName := ⟨RX5, "sizeOfGroup", "(I)I"⟩
def RX6 : String := "NinetyLamps$Reader"
def TX6 : u_T := fun k => match k with
  | 0 => ("NinetyLamps$Reader", "text", "LNinetyLamps$Text;", true)
  | 1 => ("NinetyLamps$Reader", "kinds", "[I", true)
  | 2 => ("NinetyLamps$Reader", "wires", "[I", true)
  | 3 => ("NinetyLamps$Reader", "goals", "[I", true)
  | 4 => ("NinetyLamps$Reader", "numbers", "[I", true)
  | 5 => ("NinetyLamps$Reader", "lines", "I", false)
  | 6 => ("NinetyLamps$Reader", "wide", "I", false)
  | 7 => ("NinetyLamps$Reader", "lamps", "I", false)
  | 8 => ("NinetyLamps$Reader", "limit", "I", false)
  | 9 => ("NinetyLamps$Reader", "at", "I", false)
  | _ => ("NinetyLamps$Reader", "bad", "I", false)
def tyX6 : Nat → FieldType := fun k => match k with
  | 0 => .object "NinetyLamps$Text"
  | 1 => .array .int
  | 2 => .array .int
  | 3 => .array .int
  | 4 => .array .int
  | 5 => .int
  | 6 => .int
  | 7 => .int
  | 8 => .int
  | 9 => .int
  | _ => .int
abbrev wsX60 : List Cond := u_ws RX6 TX6 11
theorem nmX6 : ∀ a, a < 11 → ∀ b, b < 11 → a ≠ b → (TX6 a).2.1 ≠ (TX6 b).2.1 := by decide +kernel
theorem tyX6_ok : ∀ k, k < 11 → parseFieldDescriptor (TX6 k).2.2.1 = some (tyX6 k) := by decide +kernel
abbrev cX6_init : ByteArray := prog_8_method_1_code
def yX6_init : MethodName := ⟨RX6, "<init>", "(LNinetyLamps$Text;)V"⟩
abbrev cX6_read : ByteArray := prog_8_method_2_code
def yX6_read : MethodName := ⟨RX6, "read", "(II)I"⟩
abbrev cX6_goesOn : ByteArray := prog_8_method_3_code
def yX6_goesOn : MethodName := ⟨RX6, "goesOn", "()Z"⟩
abbrev cX6_readLine : ByteArray := prog_8_method_4_code
def yX6_readLine : MethodName := ⟨RX6, "readLine", "()Z"⟩
abbrev cX6_readWidth : ByteArray := prog_8_method_5_code
def yX6_readWidth : MethodName := ⟨RX6, "readWidth", "()Z"⟩
abbrev cX6_readOhms : ByteArray := prog_8_method_6_code
def yX6_readOhms : MethodName := ⟨RX6, "readOhms", "()Z"⟩
abbrev cX6_readLamp : ByteArray := prog_8_method_7_code
def yX6_readLamp : MethodName := ⟨RX6, "readLamp", "()Z"⟩
abbrev cX6_note : ByteArray := prog_8_method_8_code
def yX6_note : MethodName := ⟨RX6, "note", "(IIII)Z"⟩
abbrev cX6_fail : ByteArray := prog_8_method_9_code
def yX6_fail : MethodName := ⟨RX6, "fail", "(I)Z"⟩
abbrev cX6_isAt : ByteArray := prog_8_method_10_code
def yX6_isAt : MethodName := ⟨RX6, "isAt", "(C)Z"⟩
abbrev cX6_isDigit : ByteArray := prog_8_method_11_code
def yX6_isDigit : MethodName := ⟨RX6, "isDigit", "()Z"⟩
abbrev cX6_take : ByteArray := prog_8_method_12_code
def yX6_take : MethodName := ⟨RX6, "take", "(C)Z"⟩
abbrev cX6_takeWire : ByteArray := prog_8_method_13_code
def yX6_takeWire : MethodName := ⟨RX6, "takeWire", "(I)I"⟩
abbrev cX6_takeNumber : ByteArray := prog_8_method_14_code
def yX6_takeNumber : MethodName := ⟨RX6, "takeNumber", "(II)I"⟩
def RX7 : String := "NinetyLamps$Suspects"
def TX7 : u_T := fun k => match k with
  | 0 => ("NinetyLamps$Suspects", "table", "LNinetyLamps$Table;", true)
  | 1 => ("NinetyLamps$Suspects", "board", "LNinetyLamps$Board;", true)
  | 2 => ("NinetyLamps$Suspects", "flow", "LNinetyLamps$Flow;", true)
  | 3 => ("NinetyLamps$Suspects", "notes", "LNinetyLamps$Notes;", true)
  | 4 => ("NinetyLamps$Suspects", "agrees", "[I", true)
  | 5 => ("NinetyLamps$Suspects", "agreeing", "I", false)
  | 6 => ("NinetyLamps$Suspects", "groupGlow", "[J", true)
  | 7 => ("NinetyLamps$Suspects", "groupSize", "[I", true)
  | _ => ("NinetyLamps$Suspects", "groups", "I", false)
def tyX7 : Nat → FieldType := fun k => match k with
  | 0 => .object "NinetyLamps$Table"
  | 1 => .object "NinetyLamps$Board"
  | 2 => .object "NinetyLamps$Flow"
  | 3 => .object "NinetyLamps$Notes"
  | 4 => .array .int
  | 5 => .int
  | 6 => .array .long
  | 7 => .array .int
  | _ => .int
abbrev wsX70 : List Cond := u_ws RX7 TX7 9
theorem nmX7 : ∀ a, a < 9 → ∀ b, b < 9 → a ≠ b → (TX7 a).2.1 ≠ (TX7 b).2.1 := by decide +kernel
theorem tyX7_ok : ∀ k, k < 9 → parseFieldDescriptor (TX7 k).2.2.1 = some (tyX7 k) := by decide +kernel
abbrev cX7_init : ByteArray := prog_9_method_1_code
def yX7_init : MethodName := ⟨RX7, "<init>", "(LNinetyLamps$Table;LNinetyLamps$Flow;LNinetyLamps$Notes;)V"⟩
abbrev cX7_firstTouch : ByteArray := prog_9_method_2_code
def yX7_firstTouch : MethodName := ⟨RX7, "firstTouch", "()I"⟩
abbrev cX7_firstTurned : ByteArray := prog_9_method_3_code
def yX7_firstTurned : MethodName := ⟨RX7, "firstTurned", "()I"⟩
abbrev cX7_size : ByteArray := prog_9_method_4_code
def yX7_size : MethodName := ⟨RX7, "size", "()I"⟩
abbrev cX7_has : ByteArray := prog_9_method_5_code
def yX7_has : MethodName := ⟨RX7, "has", "(I)Z"⟩
abbrev cX7_kindOf : ByteArray := prog_9_method_6_code
def yX7_kindOf : MethodName := ⟨RX7, "kindOf", "(I)I"⟩
abbrev cX7_firstOf : ByteArray := prog_9_method_7_code
def yX7_firstOf : MethodName := ⟨RX7, "firstOf", "(I)I"⟩
abbrev cX7_secondOf : ByteArray := prog_9_method_8_code
def yX7_secondOf : MethodName := ⟨RX7, "secondOf", "(I)I"⟩
abbrev cX7_pairsFrom : ByteArray := prog_9_method_9_code
def yX7_pairsFrom : MethodName := ⟨RX7, "pairsFrom", "(I)I"⟩
abbrev cX7_firstOfPair : ByteArray := prog_9_method_10_code
def yX7_firstOfPair : MethodName := ⟨RX7, "firstOfPair", "(I)I"⟩
abbrev cX7_glowWith : ByteArray := prog_9_method_11_code
def yX7_glowWith : MethodName := ⟨RX7, "glowWith", "(III)J"⟩
abbrev cX7_glowBy : ByteArray := prog_9_method_12_code
def yX7_glowBy : MethodName := ⟨RX7, "glowBy", "(II)J"⟩
abbrev cX7_firstParting : ByteArray := prog_9_method_13_code
def yX7_firstParting : MethodName := ⟨RX7, "firstParting", "(III)I"⟩
abbrev cX7_firstAgainst : ByteArray := prog_9_method_14_code
def yX7_firstAgainst : MethodName := ⟨RX7, "firstAgainst", "(I)I"⟩
abbrev cX7_gather : ByteArray := prog_9_method_15_code
def yX7_gather : MethodName := ⟨RX7, "gather", "()V"⟩
abbrev cX7_leftAtWorst : ByteArray := prog_9_method_16_code
def yX7_leftAtWorst : MethodName := ⟨RX7, "leftAtWorst", "(II)I"⟩
abbrev cX7_joinGroup : ByteArray := prog_9_method_17_code
def yX7_joinGroup : MethodName := ⟨RX7, "joinGroup", "(J)I"⟩
def RX8 : String := "NinetyLamps$Table"
def TX8 : u_T := fun k => match k with
  | 0 => ("NinetyLamps$Table", "board", "LNinetyLamps$Board;", true)
  | 1 => ("NinetyLamps$Table", "flow", "LNinetyLamps$Flow;", true)
  | 2 => ("NinetyLamps$Table", "glow", "[J", true)
  | 3 => ("NinetyLamps$Table", "clean", "[Z", true)
  | 4 => ("NinetyLamps$Table", "slots", "[I", true)
  | 5 => ("NinetyLamps$Table", "size", "I", false)
  | _ => ("NinetyLamps$Table", "fresh", "Z", false)
def tyX8 : Nat → FieldType := fun k => match k with
  | 0 => .object "NinetyLamps$Board"
  | 1 => .object "NinetyLamps$Flow"
  | 2 => .array .long
  | 3 => .array .boolean
  | 4 => .array .int
  | 5 => .int
  | _ => .boolean
abbrev wsX80 : List Cond := u_ws RX8 TX8 7
theorem nmX8 : ∀ a, a < 7 → ∀ b, b < 7 → a ≠ b → (TX8 a).2.1 ≠ (TX8 b).2.1 := by decide +kernel
theorem tyX8_ok : ∀ k, k < 7 → parseFieldDescriptor (TX8 k).2.2.1 = some (tyX8 k) := by decide +kernel
abbrev cX8_init : ByteArray := prog_10_method_1_code
def yX8_init : MethodName := ⟨RX8, "<init>", "(LNinetyLamps$Board;LNinetyLamps$Flow;)V"⟩
abbrev cX8_refresh : ByteArray := prog_10_method_2_code
def yX8_refresh : MethodName := ⟨RX8, "refresh", "()V"⟩
abbrev cX8_isTurn : ByteArray := prog_10_method_3_code
def yX8_isTurn : MethodName := ⟨RX8, "isTurn", "(IJ)Z"⟩
abbrev cX8_newSets : ByteArray := prog_10_method_4_code
def yX8_newSets : MethodName := ⟨RX8, "newSets", "(Z)I"⟩
abbrev cX8_enter : ByteArray := prog_10_method_5_code
def yX8_enter : MethodName := ⟨RX8, "enter", "(I)Z"⟩
abbrev cX8_likeBehind : ByteArray := prog_10_method_6_code
def yX8_likeBehind : MethodName := ⟨RX8, "likeBehind", "(I)J"⟩
def RX9 : String := "NinetyLamps$Text"
def TX9 : u_T := fun k => match k with
  | 0 => ("NinetyLamps$Text", "signs", "[C", true)
  | _ => ("NinetyLamps$Text", "size", "I", false)
def tyX9 : Nat → FieldType := fun k => match k with
  | 0 => .array .char
  | _ => .int
abbrev wsX90 : List Cond := u_ws RX9 TX9 2
theorem nmX9 : ∀ a, a < 2 → ∀ b, b < 2 → a ≠ b → (TX9 a).2.1 ≠ (TX9 b).2.1 := by decide +kernel
theorem tyX9_ok : ∀ k, k < 2 → parseFieldDescriptor (TX9 k).2.2.1 = some (tyX9 k) := by decide +kernel
abbrev cX9_init : ByteArray := prog_11_method_1_code
def yX9_init : MethodName := ⟨RX9, "<init>", "()V"⟩
abbrev cX9_append : ByteArray := prog_11_method_2_code
def yX9_append : MethodName := ⟨RX9, "append", "(I)Z"⟩
def RX10 : String := "NinetyLamps$Told"
def TX10 : u_T := fun k => match k with
  | 0 => ("NinetyLamps$Told", "numbers", "[J", true)
  | _ => ("NinetyLamps$Told", "size", "I", false)
def tyX10 : Nat → FieldType := fun k => match k with
  | 0 => .array .long
  | _ => .int
abbrev wsX100 : List Cond := u_ws RX10 TX10 2
theorem nmX10 : ∀ a, a < 2 → ∀ b, b < 2 → a ≠ b → (TX10 a).2.1 ≠ (TX10 b).2.1 := by decide +kernel
theorem tyX10_ok : ∀ k, k < 2 → parseFieldDescriptor (TX10 k).2.2.1 = some (tyX10 k) := by decide +kernel
abbrev cX10_init : ByteArray := prog_12_method_1_code
def yX10_init : MethodName := ⟨RX10, "<init>", "()V"⟩
abbrev cX10_clear : ByteArray := prog_12_method_2_code
def yX10_clear : MethodName := ⟨RX10, "clear", "()V"⟩
abbrev cX10_add : ByteArray := prog_12_method_3_code
def yX10_add : MethodName := ⟨RX10, "add", "(J)V"⟩
def RX11 : String := "NinetyLamps"
def TX11 : u_T := fun k => match k with
  | 0 => ("NinetyLamps", "board", "LNinetyLamps$Board;", true)
  | 1 => ("NinetyLamps", "text", "LNinetyLamps$Text;", true)
  | 2 => ("NinetyLamps", "reader", "LNinetyLamps$Reader;", true)
  | 3 => ("NinetyLamps", "told", "LNinetyLamps$Told;", true)
  | 4 => ("NinetyLamps", "flow", "LNinetyLamps$Flow;", true)
  | 5 => ("NinetyLamps", "notes", "LNinetyLamps$Notes;", true)
  | 6 => ("NinetyLamps", "table", "LNinetyLamps$Table;", true)
  | 7 => ("NinetyLamps", "parting", "LNinetyLamps$Parting;", true)
  | 8 => ("NinetyLamps", "suspects", "LNinetyLamps$Suspects;", true)
  | 9 => ("NinetyLamps", "plan", "LNinetyLamps$Plan;", true)
  | _ => ("NinetyLamps", "kept", "[LNinetyLamps$Kept;", true)
def tyX11 : Nat → FieldType := fun k => match k with
  | 0 => .object "NinetyLamps$Board"
  | 1 => .object "NinetyLamps$Text"
  | 2 => .object "NinetyLamps$Reader"
  | 3 => .object "NinetyLamps$Told"
  | 4 => .object "NinetyLamps$Flow"
  | 5 => .object "NinetyLamps$Notes"
  | 6 => .object "NinetyLamps$Table"
  | 7 => .object "NinetyLamps$Parting"
  | 8 => .object "NinetyLamps$Suspects"
  | 9 => .object "NinetyLamps$Plan"
  | _ => .array (.object "NinetyLamps$Kept")
abbrev wsX110 : List Cond := u_ws RX11 TX11 11
theorem nmX11 : ∀ a, a < 11 → ∀ b, b < 11 → a ≠ b → (TX11 a).2.1 ≠ (TX11 b).2.1 := by decide +kernel
theorem tyX11_ok : ∀ k, k < 11 → parseFieldDescriptor (TX11 k).2.2.1 = some (tyX11 k) := by decide +kernel
abbrev cX11_init : ByteArray := prog_1_method_1_code
def yX11_init : MethodName := ⟨RX11, "<init>", "()V"⟩
abbrev cX11_sign : ByteArray := prog_1_method_2_code
def yX11_sign : MethodName := ⟨RX11, "sign", "(I)I"⟩
abbrev cX11_end : ByteArray := prog_1_method_3_code
def yX11_end : MethodName := ⟨RX11, "end", "(I)Z"⟩
abbrev cX11_board : ByteArray := prog_1_method_4_code
def yX11_board : MethodName := ⟨RX11, "board", "()I"⟩
abbrev cX11_set : ByteArray := prog_1_method_5_code
def yX11_set : MethodName := ⟨RX11, "set", "(II)I"⟩
abbrev cX11_lamp : ByteArray := prog_1_method_6_code
def yX11_lamp : MethodName := ⟨RX11, "lamp", "(II)I"⟩
abbrev cX11_ohms : ByteArray := prog_1_method_7_code
def yX11_ohms : MethodName := ⟨RX11, "ohms", "(I)I"⟩
abbrev cX11_sheet : ByteArray := prog_1_method_8_code
def yX11_sheet : MethodName := ⟨RX11, "sheet", "(IIII)I"⟩
abbrev cX11_swap : ByteArray := prog_1_method_9_code
def yX11_swap : MethodName := ⟨RX11, "swap", "(II)Z"⟩
abbrev cX11_put : ByteArray := prog_1_method_10_code
def yX11_put : MethodName := ⟨RX11, "put", "(II)I"⟩
abbrev cX11_glows : ByteArray := prog_1_method_11_code
def yX11_glows : MethodName := ⟨RX11, "glows", "()J"⟩
abbrev cX11_ghosts : ByteArray := prog_1_method_12_code
def yX11_ghosts : MethodName := ⟨RX11, "ghosts", "()J"⟩
abbrev cX11_light : ByteArray := prog_1_method_13_code
def yX11_light : MethodName := ⟨RX11, "light", "(I)J"⟩
abbrev cX11_why : ByteArray := prog_1_method_14_code
def yX11_why : MethodName := ⟨RX11, "why", "(I)J"⟩
abbrev cX11_draws : ByteArray := prog_1_method_15_code
def yX11_draws : MethodName := ⟨RX11, "draws", "(I)J"⟩
abbrev cX11_brightest : ByteArray := prog_1_method_16_code
def yX11_brightest : MethodName := ⟨RX11, "brightest", "()I"⟩
abbrev cX11_shows : ByteArray := prog_1_method_17_code
def yX11_shows : MethodName := ⟨RX11, "shows", "(J)I"⟩
abbrev cX11_bars : ByteArray := prog_1_method_18_code
def yX11_bars : MethodName := ⟨RX11, "bars", "(J)I"⟩
abbrev cX11_most : ByteArray := prog_1_method_19_code
def yX11_most : MethodName := ⟨RX11, "most", "()I"⟩
abbrev cX11_sets : ByteArray := prog_1_method_20_code
def yX11_sets : MethodName := ⟨RX11, "sets", "()I"⟩
abbrev cX11_fits : ByteArray := prog_1_method_21_code
def yX11_fits : MethodName := ⟨RX11, "fits", "(II)I"⟩
abbrev cX11_alone : ByteArray := prog_1_method_22_code
def yX11_alone : MethodName := ⟨RX11, "alone", "()J"⟩
abbrev cX11_twins : ByteArray := prog_1_method_23_code
def yX11_twins : MethodName := ⟨RX11, "twins", "()I"⟩
abbrev cX11_range : ByteArray := prog_1_method_24_code
def yX11_range : MethodName := ⟨RX11, "range", "(II)I"⟩
abbrev cX11_picture : ByteArray := prog_1_method_25_code
def yX11_picture : MethodName := ⟨RX11, "picture", "(IJ)I"⟩
abbrev cX11_parted : ByteArray := prog_1_method_26_code
def yX11_parted : MethodName := ⟨RX11, "parted", "(I)I"⟩
abbrev cX11_proof : ByteArray := prog_1_method_27_code
def yX11_proof : MethodName := ⟨RX11, "proof", "(I)I"⟩
abbrev cX11_never : ByteArray := prog_1_method_28_code
def yX11_never : MethodName := ⟨RX11, "never", "(I)J"⟩
abbrev cX11_changes : ByteArray := prog_1_method_29_code
def yX11_changes : MethodName := ⟨RX11, "changes", "(I)I"⟩
abbrev cX11_even : ByteArray := prog_1_method_30_code
def yX11_even : MethodName := ⟨RX11, "even", "(II)J"⟩
abbrev cX11_better : ByteArray := prog_1_method_31_code
def yX11_better : MethodName := ⟨RX11, "better", "(I)I"⟩
abbrev cX11_faults : ByteArray := prog_1_method_32_code
def yX11_faults : MethodName := ⟨RX11, "faults", "()I"⟩
abbrev cX11_fault : ByteArray := prog_1_method_33_code
def yX11_fault : MethodName := ⟨RX11, "fault", "(II)I"⟩
abbrev cX11_would : ByteArray := prog_1_method_34_code
def yX11_would : MethodName := ⟨RX11, "would", "(III)J"⟩
abbrev cX11_tells : ByteArray := prog_1_method_35_code
def yX11_tells : MethodName := ⟨RX11, "tells", "(I)I"⟩
abbrev cX11_hidden : ByteArray := prog_1_method_36_code
def yX11_hidden : MethodName := ⟨RX11, "hidden", "()I"⟩
abbrev cX11_alike : ByteArray := prog_1_method_37_code
def yX11_alike : MethodName := ⟨RX11, "alike", "(II)I"⟩
abbrev cX11_seen : ByteArray := prog_1_method_38_code
def yX11_seen : MethodName := ⟨RX11, "seen", "(IIJ)I"⟩
abbrev cX11_forget : ByteArray := prog_1_method_39_code
def yX11_forget : MethodName := ⟨RX11, "forget", "()I"⟩
abbrev cX11_which : ByteArray := prog_1_method_40_code
def yX11_which : MethodName := ⟨RX11, "which", "()I"⟩
abbrev cX11_judge : ByteArray := prog_1_method_41_code
def yX11_judge : MethodName := ⟨RX11, "judge", "(I)I"⟩
abbrev cX11_next : ByteArray := prog_1_method_42_code
def yX11_next : MethodName := ⟨RX11, "next", "()I"⟩
abbrev cX11_test : ByteArray := prog_1_method_43_code
def yX11_test : MethodName := ⟨RX11, "test", "(II)I"⟩
abbrev cX11_tree : ByteArray := prog_1_method_44_code
def yX11_tree : MethodName := ⟨RX11, "tree", "()I"⟩
abbrev cX11_path : ByteArray := prog_1_method_45_code
def yX11_path : MethodName := ⟨RX11, "path", "(I)I"⟩
abbrev cX11_keep : ByteArray := prog_1_method_46_code
def yX11_keep : MethodName := ⟨RX11, "keep", "(I)Z"⟩
abbrev cX11_again : ByteArray := prog_1_method_47_code
def yX11_again : MethodName := ⟨RX11, "again", "(I)Z"⟩
abbrev cX11_count : ByteArray := prog_1_method_48_code
def yX11_count : MethodName := ⟨RX11, "count", "(I)I"⟩
abbrev cX11_row : ByteArray := prog_1_method_49_code
def yX11_row : MethodName := ⟨RX11, "row", "(I)J"⟩
abbrev cX11_takeLine : ByteArray := prog_1_method_50_code
def yX11_takeLine : MethodName := ⟨RX11, "takeLine", "(I)V"⟩
abbrev cX11_entryAs : ByteArray := prog_1_method_51_code
def yX11_entryAs : MethodName := ⟨RX11, "entryAs", "(II)I"⟩
abbrev cX11_isSearchable : ByteArray := prog_1_method_52_code
def yX11_isSearchable : MethodName := ⟨RX11, "isSearchable", "()Z"⟩
abbrev cX11_openTable : ByteArray := prog_1_method_53_code
def yX11_openTable : MethodName := ⟨RX11, "openTable", "()Z"⟩
abbrev cX11_isPicture : ByteArray := prog_1_method_54_code
def yX11_isPicture : MethodName := ⟨RX11, "isPicture", "(I)Z"⟩
abbrev cX11_openParting : ByteArray := prog_1_method_55_code
def yX11_openParting : MethodName := ⟨RX11, "openParting", "(I)I"⟩
abbrev cX11_partInto : ByteArray := prog_1_method_56_code
def yX11_partInto : MethodName := ⟨RX11, "partInto", "(I)I"⟩
abbrev cX11_partTraded : ByteArray := prog_1_method_57_code
def yX11_partTraded : MethodName := ⟨RX11, "partTraded", "(JII)I"⟩
abbrev cX11_tellTurns : ByteArray := prog_1_method_58_code
def yX11_tellTurns : MethodName := ⟨RX11, "tellTurns", "([II)V"⟩
abbrev cX11_settingsOf : ByteArray := prog_1_method_59_code
def yX11_settingsOf : MethodName := ⟨RX11, "settingsOf", "(I)I"⟩
abbrev cX11_wiresThatAre : ByteArray := prog_1_method_60_code
def yX11_wiresThatAre : MethodName := ⟨RX11, "wiresThatAre", "(III)I"⟩
def RX12 : String := "NinetyLampsModel"
def TX12 : u_T := fun k => match k with
  | 0 => ("NinetyLampsModel", "wide", "I", false)
  | 1 => ("NinetyLampsModel", "lamps", "I", false)
  | 2 => ("NinetyLampsModel", "lampFrom", "[I", true)
  | 3 => ("NinetyLampsModel", "lampTo", "[I", true)
  | 4 => ("NinetyLampsModel", "volts", "[I", true)
  | 5 => ("NinetyLampsModel", "ohm", "[I", true)
  | 6 => ("NinetyLampsModel", "sets", "[I", true)
  | 7 => ("NinetyLampsModel", "shownHigh", "I", false)
  | 8 => ("NinetyLampsModel", "shownLow", "I", false)
  | 9 => ("NinetyLampsModel", "boards", "I", false)
  | 10 => ("NinetyLampsModel", "text", "[B", true)
  | 11 => ("NinetyLampsModel", "typed", "I", false)
  | 12 => ("NinetyLampsModel", "row", "[J", true)
  | 13 => ("NinetyLampsModel", "rowMany", "I", false)
  | 14 => ("NinetyLampsModel", "thrown", "I", false)
  | 15 => ("NinetyLampsModel", "size", "I", false)
  | 16 => ("NinetyLampsModel", "at", "I", false)
  | 17 => ("NinetyLampsModel", "wrong", "I", false)
  | 18 => ("NinetyLampsModel", "line", "[I", true)
  | 19 => ("NinetyLampsModel", "faultA", "I", false)
  | 20 => ("NinetyLampsModel", "faultB", "I", false)
  | 21 => ("NinetyLampsModel", "listFrom", "[I", true)
  | 22 => ("NinetyLampsModel", "list", "[I", true)
  | 23 => ("NinetyLampsModel", "goesTo", "[I", true)
  | 24 => ("NinetyLampsModel", "laidKind", "I", false)
  | 25 => ("NinetyLampsModel", "laidA", "I", false)
  | 26 => ("NinetyLampsModel", "laidB", "I", false)
  | 27 => ("NinetyLampsModel", "high", "I", false)
  | 28 => ("NinetyLampsModel", "low", "I", false)
  | 29 => ("NinetyLampsModel", "ohmsTouch", "I", false)
  | 30 => ("NinetyLampsModel", "light", "[J", true)
  | 31 => ("NinetyLampsModel", "through", "[I", true)
  | 32 => ("NinetyLampsModel", "mostOne", "[J", true)
  | 33 => ("NinetyLampsModel", "drawn", "[J", true)
  | 34 => ("NinetyLampsModel", "path", "[I", true)
  | 35 => ("NinetyLampsModel", "asked", "I", false)
  | 36 => ("NinetyLampsModel", "bestCarry", "J", false)
  | 37 => ("NinetyLampsModel", "bestMany", "I", false)
  | 38 => ("NinetyLampsModel", "bestPath", "[I", true)
  | 39 => ("NinetyLampsModel", "isCounted", "Z", false)
  | 40 => ("NinetyLampsModel", "glow", "[J", true)
  | 41 => ("NinetyLampsModel", "isGhostly", "[Z", true)
  | 42 => ("NinetyLampsModel", "pictures", "[J", true)
  | 43 => ("NinetyLampsModel", "member", "[I", true)
  | 44 => ("NinetyLampsModel", "members", "I", false)
  | 45 => ("NinetyLampsModel", "shownBy", "[I", true)
  | 46 => ("NinetyLampsModel", "fewest", "[I", true)
  | 47 => ("NinetyLampsModel", "firstBy", "[I", true)
  | 48 => ("NinetyLampsModel", "masks", "[I", true)
  | 49 => ("NinetyLampsModel", "masksMany", "[I", true)
  | 50 => ("NinetyLampsModel", "turn", "[I", true)
  | 51 => ("NinetyLampsModel", "turns", "I", false)
  | 52 => ("NinetyLampsModel", "order", "[I", true)
  | 53 => ("NinetyLampsModel", "bestOrder", "[I", true)
  | 54 => ("NinetyLampsModel", "leastChanges", "I", false)
  | 55 => ("NinetyLampsModel", "lightIn", "[J", true)
  | 56 => ("NinetyLampsModel", "slots", "[I", true)
  | 57 => ("NinetyLampsModel", "glowToo", "[J", true)
  | 58 => ("NinetyLampsModel", "seenMany", "I", false)
  | 59 => ("NinetyLampsModel", "seenHigh", "[I", true)
  | 60 => ("NinetyLampsModel", "seenLow", "[I", true)
  | 61 => ("NinetyLampsModel", "seenLamps", "[J", true)
  | 62 => ("NinetyLampsModel", "agreed", "[I", true)
  | 63 => ("NinetyLampsModel", "agreeMany", "I", false)
  | 64 => ("NinetyLampsModel", "glowAll", "[J", true)
  | 65 => ("NinetyLampsModel", "testMany", "I", false)
  | 66 => ("NinetyLampsModel", "testHigh", "[I", true)
  | 67 => ("NinetyLampsModel", "testLow", "[I", true)
  | 68 => ("NinetyLampsModel", "answer", "[J", true)
  | 69 => ("NinetyLampsModel", "depth", "[I", true)
  | 70 => ("NinetyLampsModel", "leader", "[I", true)
  | 71 => ("NinetyLampsModel", "kept", "[I", true)
  | 72 => ("NinetyLampsModel", "keptSets", "[J", true)
  | 73 => ("NinetyLampsModel", "isKept", "[Z", true)
  | _ => ("NinetyLampsModel", "keptBoards", "[I", true)
def tyX12 : Nat → FieldType := fun k => match k with
  | 0 => .int
  | 1 => .int
  | 2 => .array .int
  | 3 => .array .int
  | 4 => .array .int
  | 5 => .array .int
  | 6 => .array .int
  | 7 => .int
  | 8 => .int
  | 9 => .int
  | 10 => .array .byte
  | 11 => .int
  | 12 => .array .long
  | 13 => .int
  | 14 => .int
  | 15 => .int
  | 16 => .int
  | 17 => .int
  | 18 => .array .int
  | 19 => .int
  | 20 => .int
  | 21 => .array .int
  | 22 => .array .int
  | 23 => .array .int
  | 24 => .int
  | 25 => .int
  | 26 => .int
  | 27 => .int
  | 28 => .int
  | 29 => .int
  | 30 => .array .long
  | 31 => .array .int
  | 32 => .array .long
  | 33 => .array .long
  | 34 => .array .int
  | 35 => .int
  | 36 => .long
  | 37 => .int
  | 38 => .array .int
  | 39 => .boolean
  | 40 => .array .long
  | 41 => .array .boolean
  | 42 => .array .long
  | 43 => .array .int
  | 44 => .int
  | 45 => .array .int
  | 46 => .array .int
  | 47 => .array .int
  | 48 => .array .int
  | 49 => .array .int
  | 50 => .array .int
  | 51 => .int
  | 52 => .array .int
  | 53 => .array .int
  | 54 => .int
  | 55 => .array .long
  | 56 => .array .int
  | 57 => .array .long
  | 58 => .int
  | 59 => .array .int
  | 60 => .array .int
  | 61 => .array .long
  | 62 => .array .int
  | 63 => .int
  | 64 => .array .long
  | 65 => .int
  | 66 => .array .int
  | 67 => .array .int
  | 68 => .array .long
  | 69 => .array .int
  | 70 => .array .int
  | 71 => .array .int
  | 72 => .array .long
  | 73 => .array .boolean
  | _ => .array .int
abbrev wsX120 : List Cond := u_ws RX12 TX12 75
theorem nmX12 : ∀ a, a < 75 → ∀ b, b < 75 → a ≠ b → (TX12 a).2.1 ≠ (TX12 b).2.1 := by decide +kernel
theorem tyX12_ok : ∀ k, k < 75 → parseFieldDescriptor (TX12 k).2.2.1 = some (tyX12 k) := by decide +kernel
abbrev cX12_init : ByteArray := prog_14_method_1_code
def yX12_init : MethodName := ⟨RX12, "<init>", "()V"⟩
abbrev cX12_thrown : ByteArray := prog_14_method_2_code
def yX12_thrown : MethodName := ⟨RX12, "thrown", "()I"⟩
abbrev cX12_in : ByteArray := prog_14_method_3_code
def yX12_in : MethodName := ⟨RX12, "in", "(JJJ)Z"⟩
abbrev cX12_has : ByteArray := prog_14_method_4_code
def yX12_has : MethodName := ⟨RX12, "has", "(JI)Z"⟩
abbrev cX12_lost : ByteArray := prog_14_method_5_code
def yX12_lost : MethodName := ⟨RX12, "lost", "()I"⟩
abbrev cX12_tell : ByteArray := prog_14_method_6_code
def yX12_tell : MethodName := ⟨RX12, "tell", "(J)V"⟩
abbrev cX12_isWire : ByteArray := prog_14_method_7_code
def yX12_isWire : MethodName := ⟨RX12, "isWire", "(I)Z"⟩
abbrev cX12_isLamp : ByteArray := prog_14_method_8_code
def yX12_isLamp : MethodName := ⟨RX12, "isLamp", "(I)Z"⟩
abbrev cX12_areLamps : ByteArray := prog_14_method_9_code
def yX12_areLamps : MethodName := ⟨RX12, "areLamps", "(J)Z"⟩
abbrev cX12_isSetting : ByteArray := prog_14_method_10_code
def yX12_isSetting : MethodName := ⟨RX12, "isSetting", "(II)Z"⟩
abbrev cX12_sign : ByteArray := prog_14_method_11_code
def yX12_sign : MethodName := ⟨RX12, "sign", "(I)I"⟩
abbrev cX12_end : ByteArray := prog_14_method_12_code
def yX12_end : MethodName := ⟨RX12, "end", "(I)Z"⟩
abbrev cX12_here : ByteArray := prog_14_method_13_code
def yX12_here : MethodName := ⟨RX12, "here", "()I"⟩
abbrev cX12_fault : ByteArray := prog_14_method_14_code
def yX12_fault : MethodName := ⟨RX12, "fault", "(I)V"⟩
abbrev cX12_passes : ByteArray := prog_14_method_15_code
def yX12_passes : MethodName := ⟨RX12, "passes", "(C)Z"⟩
abbrev cX12_need : ByteArray := prog_14_method_16_code
def yX12_need : MethodName := ⟨RX12, "need", "(C)V"⟩
abbrev cX12_number : ByteArray := prog_14_method_17_code
def yX12_number : MethodName := ⟨RX12, "number", "(III)I"⟩
abbrev cX12_board : ByteArray := prog_14_method_18_code
def yX12_board : MethodName := ⟨RX12, "board", "()I"⟩
abbrev cX12_take : ByteArray := prog_14_method_19_code
def yX12_take : MethodName := ⟨RX12, "take", "(I)V"⟩
abbrev cX12_set : ByteArray := prog_14_method_20_code
def yX12_set : MethodName := ⟨RX12, "set", "(II)I"⟩
abbrev cX12_lamp : ByteArray := prog_14_method_21_code
def yX12_lamp : MethodName := ⟨RX12, "lamp", "(II)I"⟩
abbrev cX12_ohms : ByteArray := prog_14_method_22_code
def yX12_ohms : MethodName := ⟨RX12, "ohms", "(I)I"⟩
abbrev cX12_sheet : ByteArray := prog_14_method_23_code
def yX12_sheet : MethodName := ⟨RX12, "sheet", "(IIII)I"⟩
abbrev cX12_change : ByteArray := prog_14_method_24_code
def yX12_change : MethodName := ⟨RX12, "change", "(II)V"⟩
abbrev cX12_swap : ByteArray := prog_14_method_25_code
def yX12_swap : MethodName := ⟨RX12, "swap", "(II)Z"⟩
abbrev cX12_touchFirst : ByteArray := prog_14_method_26_code
def yX12_touchFirst : MethodName := ⟨RX12, "touchFirst", "()I"⟩
abbrev cX12_turnedFirst : ByteArray := prog_14_method_27_code
def yX12_turnedFirst : MethodName := ⟨RX12, "turnedFirst", "()I"⟩
abbrev cX12_faultMany : ByteArray := prog_14_method_28_code
def yX12_faultMany : MethodName := ⟨RX12, "faultMany", "()I"⟩
abbrev cX12_isFault : ByteArray := prog_14_method_29_code
def yX12_isFault : MethodName := ⟨RX12, "isFault", "(I)Z"⟩
abbrev cX12_kindOf : ByteArray := prog_14_method_30_code
def yX12_kindOf : MethodName := ⟨RX12, "kindOf", "(I)I"⟩
abbrev cX12_findFault : ByteArray := prog_14_method_31_code
def yX12_findFault : MethodName := ⟨RX12, "findFault", "(I)V"⟩
abbrev cX12_lay : ByteArray := prog_14_method_32_code
def yX12_lay : MethodName := ⟨RX12, "lay", "(I)V"⟩
abbrev cX12_begin : ByteArray := prog_14_method_33_code
def yX12_begin : MethodName := ⟨RX12, "begin", "(II)Z"⟩
abbrev cX12_ohmsOf : ByteArray := prog_14_method_34_code
def yX12_ohmsOf : MethodName := ⟨RX12, "ohmsOf", "(I)I"⟩
abbrev cX12_shine : ByteArray := prog_14_method_35_code
def yX12_shine : MethodName := ⟨RX12, "shine", "(II)V"⟩
abbrev cX12_goOn : ByteArray := prog_14_method_36_code
def yX12_goOn : MethodName := ⟨RX12, "goOn", "(IIIII)V"⟩
abbrev cX12_arrive : ByteArray := prog_14_method_37_code
def yX12_arrive : MethodName := ⟨RX12, "arrive", "(IIII)V"⟩
abbrev cX12_isBetter : ByteArray := prog_14_method_38_code
def yX12_isBetter : MethodName := ⟨RX12, "isBetter", "(JI)Z"⟩
abbrev cX12_isBright : ByteArray := prog_14_method_39_code
def yX12_isBright : MethodName := ⟨RX12, "isBright", "(I)Z"⟩
abbrev cX12_glowing : ByteArray := prog_14_method_40_code
def yX12_glowing : MethodName := ⟨RX12, "glowing", "(II)J"⟩
abbrev cX12_askedFor : ByteArray := prog_14_method_41_code
def yX12_askedFor : MethodName := ⟨RX12, "askedFor", "(II)J"⟩
abbrev cX12_glowingWith : ByteArray := prog_14_method_42_code
def yX12_glowingWith : MethodName := ⟨RX12, "glowingWith", "(III)J"⟩
abbrev cX12_put : ByteArray := prog_14_method_43_code
def yX12_put : MethodName := ⟨RX12, "put", "(II)I"⟩
abbrev cX12_glows : ByteArray := prog_14_method_44_code
def yX12_glows : MethodName := ⟨RX12, "glows", "()J"⟩
abbrev cX12_ghosts : ByteArray := prog_14_method_45_code
def yX12_ghosts : MethodName := ⟨RX12, "ghosts", "()J"⟩
abbrev cX12_countAll : ByteArray := prog_14_method_46_code
def yX12_countAll : MethodName := ⟨RX12, "countAll", "(I)V"⟩
abbrev cX12_light : ByteArray := prog_14_method_47_code
def yX12_light : MethodName := ⟨RX12, "light", "(I)J"⟩
abbrev cX12_why : ByteArray := prog_14_method_48_code
def yX12_why : MethodName := ⟨RX12, "why", "(I)J"⟩
abbrev cX12_draws : ByteArray := prog_14_method_49_code
def yX12_draws : MethodName := ⟨RX12, "draws", "(I)J"⟩
abbrev cX12_brightest : ByteArray := prog_14_method_50_code
def yX12_brightest : MethodName := ⟨RX12, "brightest", "()I"⟩
abbrev cX12_settings : ByteArray := prog_14_method_51_code
def yX12_settings : MethodName := ⟨RX12, "settings", "()I"⟩
abbrev cX12_highOf : ByteArray := prog_14_method_52_code
def yX12_highOf : MethodName := ⟨RX12, "highOf", "(I)I"⟩
abbrev cX12_lowOf : ByteArray := prog_14_method_53_code
def yX12_lowOf : MethodName := ⟨RX12, "lowOf", "(I)I"⟩
abbrev cX12_wiresAt : ByteArray := prog_14_method_54_code
def yX12_wiresAt : MethodName := ⟨RX12, "wiresAt", "(II)I"⟩
abbrev cX12_canSearch : ByteArray := prog_14_method_55_code
def yX12_canSearch : MethodName := ⟨RX12, "canSearch", "()Z"⟩
abbrev cX12_findGlow : ByteArray := prog_14_method_56_code
def yX12_findGlow : MethodName := ⟨RX12, "findGlow", "(I[J)V"⟩
abbrev cX12_findAll : ByteArray := prog_14_method_57_code
def yX12_findAll : MethodName := ⟨RX12, "findAll", "()V"⟩
abbrev cX12_shows : ByteArray := prog_14_method_58_code
def yX12_shows : MethodName := ⟨RX12, "shows", "(J)I"⟩
abbrev cX12_bars : ByteArray := prog_14_method_59_code
def yX12_bars : MethodName := ⟨RX12, "bars", "(J)I"⟩
abbrev cX12_most : ByteArray := prog_14_method_60_code
def yX12_most : MethodName := ⟨RX12, "most", "()I"⟩
abbrev cX12_sets : ByteArray := prog_14_method_61_code
def yX12_sets : MethodName := ⟨RX12, "sets", "()I"⟩
abbrev cX12_fits : ByteArray := prog_14_method_62_code
def yX12_fits : MethodName := ⟨RX12, "fits", "(II)I"⟩
abbrev cX12_alone : ByteArray := prog_14_method_63_code
def yX12_alone : MethodName := ⟨RX12, "alone", "()J"⟩
abbrev cX12_twins : ByteArray := prog_14_method_64_code
def yX12_twins : MethodName := ⟨RX12, "twins", "()I"⟩
abbrev cX12_range : ByteArray := prog_14_method_65_code
def yX12_range : MethodName := ⟨RX12, "range", "(II)I"⟩
abbrev cX12_picture : ByteArray := prog_14_method_66_code
def yX12_picture : MethodName := ⟨RX12, "picture", "(IJ)I"⟩
abbrev cX12_isTurn : ByteArray := prog_14_method_67_code
def yX12_isTurn : MethodName := ⟨RX12, "isTurn", "(IJ)Z"⟩
abbrev cX12_refusal : ByteArray := prog_14_method_68_code
def yX12_refusal : MethodName := ⟨RX12, "refusal", "(I)I"⟩
abbrev cX12_findTurns : ByteArray := prog_14_method_69_code
def yX12_findTurns : MethodName := ⟨RX12, "findTurns", "(J)V"⟩
abbrev cX12_findParted : ByteArray := prog_14_method_70_code
def yX12_findParted : MethodName := ⟨RX12, "findParted", "(J)Z"⟩
abbrev cX12_tellTurns : ByteArray := prog_14_method_71_code
def yX12_tellTurns : MethodName := ⟨RX12, "tellTurns", "()V"⟩
abbrev cX12_parted : ByteArray := prog_14_method_72_code
def yX12_parted : MethodName := ⟨RX12, "parted", "(I)I"⟩
abbrev cX12_proof : ByteArray := prog_14_method_73_code
def yX12_proof : MethodName := ⟨RX12, "proof", "(I)I"⟩
abbrev cX12_never : ByteArray := prog_14_method_74_code
def yX12_never : MethodName := ⟨RX12, "never", "(I)J"⟩
abbrev cX12_changed : ByteArray := prog_14_method_75_code
def yX12_changed : MethodName := ⟨RX12, "changed", "(II)I"⟩
abbrev cX12_goOrders : ByteArray := prog_14_method_76_code
def yX12_goOrders : MethodName := ⟨RX12, "goOrders", "(IIII)V"⟩
abbrev cX12_changes : ByteArray := prog_14_method_77_code
def yX12_changes : MethodName := ⟨RX12, "changes", "(I)I"⟩
abbrev cX12_sumOf : ByteArray := prog_14_method_78_code
def yX12_sumOf : MethodName := ⟨RX12, "sumOf", "(I)J"⟩
abbrev cX12_dimmest : ByteArray := prog_14_method_79_code
def yX12_dimmest : MethodName := ⟨RX12, "dimmest", "()I"⟩
abbrev cX12_even : ByteArray := prog_14_method_80_code
def yX12_even : MethodName := ⟨RX12, "even", "(II)J"⟩
abbrev cX12_better : ByteArray := prog_14_method_81_code
def yX12_better : MethodName := ⟨RX12, "better", "(I)I"⟩
abbrev cX12_faults : ByteArray := prog_14_method_82_code
def yX12_faults : MethodName := ⟨RX12, "faults", "()I"⟩
abbrev cX12_fault_ : ByteArray := prog_14_method_83_code
def yX12_fault_ : MethodName := ⟨RX12, "fault", "(II)I"⟩
abbrev cX12_would : ByteArray := prog_14_method_84_code
def yX12_would : MethodName := ⟨RX12, "would", "(III)J"⟩
abbrev cX12_tells : ByteArray := prog_14_method_85_code
def yX12_tells : MethodName := ⟨RX12, "tells", "(I)I"⟩
abbrev cX12_firstUnlike : ByteArray := prog_14_method_86_code
def yX12_firstUnlike : MethodName := ⟨RX12, "firstUnlike", "()I"⟩
abbrev cX12_hidden : ByteArray := prog_14_method_87_code
def yX12_hidden : MethodName := ⟨RX12, "hidden", "()I"⟩
abbrev cX12_alike : ByteArray := prog_14_method_88_code
def yX12_alike : MethodName := ⟨RX12, "alike", "(II)I"⟩
abbrev cX12_seen : ByteArray := prog_14_method_89_code
def yX12_seen : MethodName := ⟨RX12, "seen", "(IIJ)I"⟩
abbrev cX12_forget : ByteArray := prog_14_method_90_code
def yX12_forget : MethodName := ⟨RX12, "forget", "()I"⟩
abbrev cX12_bar : ByteArray := prog_14_method_91_code
def yX12_bar : MethodName := ⟨RX12, "bar", "(I)I"⟩
abbrev cX12_findAgreed : ByteArray := prog_14_method_92_code
def yX12_findAgreed : MethodName := ⟨RX12, "findAgreed", "()V"⟩
abbrev cX12_which : ByteArray := prog_14_method_93_code
def yX12_which : MethodName := ⟨RX12, "which", "()I"⟩
abbrev cX12_judge : ByteArray := prog_14_method_94_code
def yX12_judge : MethodName := ⟨RX12, "judge", "(I)I"⟩
abbrev cX12_next : ByteArray := prog_14_method_95_code
def yX12_next : MethodName := ⟨RX12, "next", "()I"⟩
abbrev cX12_test : ByteArray := prog_14_method_96_code
def yX12_test : MethodName := ⟨RX12, "test", "(II)I"⟩
abbrev cX12_findAnswers : ByteArray := prog_14_method_97_code
def yX12_findAnswers : MethodName := ⟨RX12, "findAnswers", "()V"⟩
abbrev cX12_firstOf : ByteArray := prog_14_method_98_code
def yX12_firstOf : MethodName := ⟨RX12, "firstOf", "(II)I"⟩
abbrev cX12_areAlike : ByteArray := prog_14_method_99_code
def yX12_areAlike : MethodName := ⟨RX12, "areAlike", "(III)Z"⟩
abbrev cX12_parts : ByteArray := prog_14_method_100_code
def yX12_parts : MethodName := ⟨RX12, "parts", "(III)Z"⟩
abbrev cX12_depthOf : ByteArray := prog_14_method_101_code
def yX12_depthOf : MethodName := ⟨RX12, "depthOf", "(II)I"⟩
abbrev cX12_depthBy : ByteArray := prog_14_method_102_code
def yX12_depthBy : MethodName := ⟨RX12, "depthBy", "(III)I"⟩
abbrev cX12_firstTest : ByteArray := prog_14_method_103_code
def yX12_firstTest : MethodName := ⟨RX12, "firstTest", "(II)I"⟩
abbrev cX12_tree : ByteArray := prog_14_method_104_code
def yX12_tree : MethodName := ⟨RX12, "tree", "()I"⟩
abbrev cX12_path : ByteArray := prog_14_method_105_code
def yX12_path : MethodName := ⟨RX12, "path", "(I)I"⟩
abbrev cX12_keep : ByteArray := prog_14_method_106_code
def yX12_keep : MethodName := ⟨RX12, "keep", "(I)Z"⟩
abbrev cX12_again : ByteArray := prog_14_method_107_code
def yX12_again : MethodName := ⟨RX12, "again", "(I)Z"⟩
abbrev cX12_count : ByteArray := prog_14_method_108_code
def yX12_count : MethodName := ⟨RX12, "count", "(I)I"⟩
abbrev cX12_row : ByteArray := prog_14_method_109_code
def yX12_row : MethodName := ⟨RX12, "row", "(I)J"⟩
def RJx145de : String := "java/io/Serializable"
def TJx145de : u_T := fun k => match k with
  | _ => ("", "", "", false)
def tyJx145de : Nat → FieldType := fun k => match k with
  | _ => .int
abbrev wsJx145de0 : List Cond := u_ws RJx145de TJx145de 0
theorem nmJx145de : ∀ a, a < 0 → ∀ b, b < 0 → a ≠ b → (TJx145de a).2.1 ≠ (TJx145de b).2.1 := by decide +kernel
theorem tyJx145de_ok : ∀ k, k < 0 → parseFieldDescriptor (TJx145de k).2.2.1 = some (tyJx145de k) := by decide +kernel
def RJxb160c : String := "java/lang/Comparable"
def TJxb160c : u_T := fun k => match k with
  | _ => ("", "", "", false)
def tyJxb160c : Nat → FieldType := fun k => match k with
  | _ => .int
abbrev wsJxb160c0 : List Cond := u_ws RJxb160c TJxb160c 0
theorem nmJxb160c : ∀ a, a < 0 → ∀ b, b < 0 → a ≠ b → (TJxb160c a).2.1 ≠ (TJxb160c b).2.1 := by decide +kernel
theorem tyJxb160c_ok : ∀ k, k < 0 → parseFieldDescriptor (TJxb160c k).2.2.1 = some (tyJxb160c k) := by decide +kernel
def RJ6 : String := "java/lang/Integer"
def TJ6 : u_T := fun k => match k with
  | _ => ("", "", "", false)
def tyJ6 : Nat → FieldType := fun k => match k with
  | _ => .int
abbrev wsJ60 : List Cond := u_ws RJ6 TJ6 0
theorem nmJ6 : ∀ a, a < 0 → ∀ b, b < 0 → a ≠ b → (TJ6 a).2.1 ≠ (TJ6 b).2.1 := by decide +kernel
theorem tyJ6_ok : ∀ k, k < 0 → parseFieldDescriptor (TJ6 k).2.2.1 = some (tyJ6 k) := by decide +kernel
abbrev cJ6_numberOfTrailingZeros_0f7a4 : ByteArray := prog_17_method_48_code
def yJ6_numberOfTrailingZeros_0f7a4 : MethodName := ⟨RJ6, "numberOfTrailingZeros", "(I)I"⟩
abbrev cJ6_bitCount_0f7a4 : ByteArray := prog_17_method_49_code
def yJ6_bitCount_0f7a4 : MethodName := ⟨RJ6, "bitCount", "(I)I"⟩
def RJ13 : String := "java/lang/Long"
def TJ13 : u_T := fun k => match k with
  | _ => ("", "", "", false)
def tyJ13 : Nat → FieldType := fun k => match k with
  | _ => .int
abbrev wsJ130 : List Cond := u_ws RJ13 TJ13 0
theorem nmJ13 : ∀ a, a < 0 → ∀ b, b < 0 → a ≠ b → (TJ13 a).2.1 ≠ (TJ13 b).2.1 := by decide +kernel
theorem tyJ13_ok : ∀ k, k < 0 → parseFieldDescriptor (TJ13 k).2.2.1 = some (tyJ13 k) := by decide +kernel
abbrev cJ13_numberOfTrailingZeros_95d88 : ByteArray := prog_18_method_49_code
def yJ13_numberOfTrailingZeros_95d88 : MethodName := ⟨RJ13, "numberOfTrailingZeros", "(J)I"⟩
abbrev cJ13_bitCount_95d88 : ByteArray := prog_18_method_50_code
def yJ13_bitCount_95d88 : MethodName := ⟨RJ13, "bitCount", "(J)I"⟩
def RJ9 : String := "java/lang/Math"
def TJ9 : u_T := fun k => match k with
  | _ => ("", "", "", false)
def tyJ9 : Nat → FieldType := fun k => match k with
  | _ => .int
abbrev wsJ90 : List Cond := u_ws RJ9 TJ9 0
theorem nmJ9 : ∀ a, a < 0 → ∀ b, b < 0 → a ≠ b → (TJ9 a).2.1 ≠ (TJ9 b).2.1 := by decide +kernel
theorem tyJ9_ok : ∀ k, k < 0 → parseFieldDescriptor (TJ9 k).2.2.1 = some (tyJ9 k) := by decide +kernel
abbrev cJ9_max_7cf53 : ByteArray := prog_19_method_65_code
def yJ9_max_7cf53 : MethodName := ⟨RJ9, "max", "(II)I"⟩
abbrev cJ9_max_f86c9 : ByteArray := prog_19_method_66_code
def yJ9_max_f86c9 : MethodName := ⟨RJ9, "max", "(JJ)J"⟩
abbrev cJ9_min_7cf53 : ByteArray := prog_19_method_69_code
def yJ9_min_7cf53 : MethodName := ⟨RJ9, "min", "(II)I"⟩
def RJxd2413 : String := "java/lang/Number"
def TJxd2413 : u_T := fun k => match k with
  | _ => ("", "", "", false)
def tyJxd2413 : Nat → FieldType := fun k => match k with
  | _ => .int
abbrev wsJxd24130 : List Cond := u_ws RJxd2413 TJxd2413 0
theorem nmJxd2413 : ∀ a, a < 0 → ∀ b, b < 0 → a ≠ b → (TJxd2413 a).2.1 ≠ (TJxd2413 b).2.1 := by decide +kernel
theorem tyJxd2413_ok : ∀ k, k < 0 → parseFieldDescriptor (TJxd2413 k).2.2.1 = some (tyJxd2413 k) := by decide +kernel
def RJ10 : String := "java/lang/System"
def TJ10 : u_T := fun k => match k with
  | _ => ("", "", "", false)
def tyJ10 : Nat → FieldType := fun k => match k with
  | _ => .int
abbrev wsJ100 : List Cond := u_ws RJ10 TJ10 0
theorem nmJ10 : ∀ a, a < 0 → ∀ b, b < 0 → a ≠ b → (TJ10 a).2.1 ≠ (TJ10 b).2.1 := by decide +kernel
theorem tyJ10_ok : ∀ k, k < 0 → parseFieldDescriptor (TJ10 k).2.2.1 = some (tyJ10 k) := by decide +kernel
def RJxfd54e : String := "java/lang/constant/Constable"
def TJxfd54e : u_T := fun k => match k with
  | _ => ("", "", "", false)
def tyJxfd54e : Nat → FieldType := fun k => match k with
  | _ => .int
abbrev wsJxfd54e0 : List Cond := u_ws RJxfd54e TJxfd54e 0
theorem nmJxfd54e : ∀ a, a < 0 → ∀ b, b < 0 → a ≠ b → (TJxfd54e a).2.1 ≠ (TJxfd54e b).2.1 := by decide +kernel
theorem tyJxfd54e_ok : ∀ k, k < 0 → parseFieldDescriptor (TJxfd54e k).2.2.1 = some (tyJxfd54e k) := by decide +kernel
def RJx3cf43 : String := "java/lang/constant/ConstantDesc"
def TJx3cf43 : u_T := fun k => match k with
  | _ => ("", "", "", false)
def tyJx3cf43 : Nat → FieldType := fun k => match k with
  | _ => .int
abbrev wsJx3cf430 : List Cond := u_ws RJx3cf43 TJx3cf43 0
theorem nmJx3cf43 : ∀ a, a < 0 → ∀ b, b < 0 → a ≠ b → (TJx3cf43 a).2.1 ≠ (TJx3cf43 b).2.1 := by decide +kernel
theorem tyJx3cf43_ok : ∀ k, k < 0 → parseFieldDescriptor (TJx3cf43 k).2.2.1 = some (tyJx3cf43 k) := by decide +kernel
def RJ7 : String := "java/util/Arrays"
def TJ7 : u_T := fun k => match k with
  | _ => ("", "", "", false)
def tyJ7 : Nat → FieldType := fun k => match k with
  | _ => .int
abbrev wsJ70 : List Cond := u_ws RJ7 TJ7 0
theorem nmJ7 : ∀ a, a < 0 → ∀ b, b < 0 → a ≠ b → (TJ7 a).2.1 ≠ (TJ7 b).2.1 := by decide +kernel
theorem tyJ7_ok : ∀ k, k < 0 → parseFieldDescriptor (TJ7 k).2.2.1 = some (tyJ7 k) := by decide +kernel
abbrev cJ7_rangeCheck_23922 : ByteArray := prog_24_method_30_code
def yJ7_rangeCheck_23922 : MethodName := ⟨RJ7, "rangeCheck", "(III)V"⟩
abbrev cJ7_fill_d0a16 : ByteArray := prog_24_method_101_code
def yJ7_fill_d0a16 : MethodName := ⟨RJ7, "fill", "([JJ)V"⟩
abbrev cJ7_fill_53178 : ByteArray := prog_24_method_103_code
def yJ7_fill_53178 : MethodName := ⟨RJ7, "fill", "([II)V"⟩
abbrev cJ7_fill_fda19 : ByteArray := prog_24_method_104_code
def yJ7_fill_fda19 : MethodName := ⟨RJ7, "fill", "([IIII)V"⟩
def RL : String := "NinetyLampsLaw"
abbrev cL_lamp : ByteArray := method_3_code
def yL_lamp : MethodName := ⟨RL, "lamp", "(LNinetyLamps;II[J)I"⟩
abbrev cL_fault : ByteArray := method_4_code
def yL_fault : MethodName := ⟨RL, "fault", "(LNinetyLamps;II[J)I"⟩
abbrev cL_row : ByteArray := method_5_code
def yL_row : MethodName := ⟨RL, "row", "(LNinetyLamps;I[J)I"⟩
abbrev cL_law : ByteArray := code
def yL_law : MethodName := ⟨RL, "law", "([I)Z"⟩
end
section
/-! ===== BEGIN words of one list among another's, by their places ===== -/
theorem goodIn_r {big : List Cond} (ws : List Cond) (ps : List Nat) (hp : ws = ps.filterMap (fun i => big[i]?)) (h : ws.all goodWord = true) : GoodIn big ws := by
  intro w hw
  have h1 := List.all_eq_true.mp h w hw
  rw [hp] at hw
  obtain ⟨i, -, hi⟩ := List.mem_filterMap.mp hw
  have hm : w ∈ big := by first | exact List.mem_of_getElem? hi | exact List.getElem?_mem hi
  exact ⟨hm, good_of_word h1⟩
theorem goodIn_app {big a b : List Cond} (ha : GoodIn big a) (hb : GoodIn big b) : GoodIn big (a ++ b) := fun w h => (List.mem_append.mp h).elim (ha w) (hb w)
theorem goodIn_ca {big a b : List Cond} {c : Cond} (ha : GoodIn big (c :: a)) (hb : GoodIn big b) : GoodIn big (c :: (a ++ b)) := fun w h => (List.mem_cons.mp h).elim (fun e => ha w (List.mem_cons.mpr (Or.inl e))) (fun h => (List.mem_append.mp h).elim (fun h => ha w (List.mem_cons.mpr (Or.inr h))) (hb w))
theorem goodIn_sub {big ws : List Cond} (hm : ∀ w ∈ ws, w ∈ big) (h : ws.all goodWord = true) : GoodIn big ws := fun w hw => ⟨hm w hw, good_of_word (List.all_eq_true.mp h w hw)⟩
/-! ===== END ===== -/

/-! ===== BEGIN exceptions that leave a method, and their catching by the caller (launches without stack traces) ===== -/
section VXA
/-! The laws vx_back, vx_callV, vx_callS, vx_callSW, vx_throw0, vx_throwS follow proofs of the library, with one case more: JvmDerived/Free/Laws.lean (Back.of_free), Shelf42/LK1.lean (callV, callS), Shelf/KitTraced.lean (throwNew0V, throwNewS). -/
/-- where a method has thrown q: the class by its name, the cell, what was written, the world -/
def vx_T (XC : String → State → State → Prop) (st : State) (q : Addr) (t : State) (mc ms : Nat) (free : Addr → Prop) : Prop :=
  ∃ (E : String) (ce : Cell) (L : List Loc), XC E st t ∧ t.heap[q]? = some ce ∧ ce.vm = .none ∧ st.vm.findClass E = some ce.cls ∧ st.WarmedH t.vm ∧ st.sameButNew ({ t with vm := st.vm } : State) L mc ms ∧ ∀ z ∈ L, free z.base
def vx_Q (Qc : Array Value → State → Outcome → State → Prop) (XC : String → State → State → Prop) (mc ms : Nat) (free : Addr → Prop) : Array Value → State → Outcome → State → Prop := fun a st o t =>
  (Qc a st o t ∧ ∃ L, FrameEnd st o t L mc ms ∧ ∀ q ∈ L, free q.base) ∨ ∃ q, o = .threw q ∧ vx_T XC st q t mc ms free
/-- a callee that returns or throws -/
def vx_Met (l : Launch) (y : MethodName) (ws : List Cond) (rm : Room) (Pc : Array Value → State → Prop) (Qc : Array Value → State → Outcome → State → Prop) (XC : String → State → State → Prop) (mc ms : Nat) (free : Addr → Prop) : Prop :=
  MetFree l y (headSpec ws rm) Pc (fun _ _ _ _ _ => True) (vx_Q Qc XC mc ms free)
def vx_Post (XC : String → State → State → Prop) (mc ms : Nat) (free : Addr → Prop) : Pt → Array Value → Addr → Pt → Prop := fun A a q B =>
  ∃ (g : JFrame) (mk : MethodId) (t : State) (L : List Loc) (E : String) (ce : Cell), B.U.heap = t.heap ∧ B.U.vm = t.vm ∧ XC E (A.U.calling g mk a) t ∧ t.heap[q]? = some ce ∧ ce.vm = .none ∧ A.U.vm.findClass E = some ce.cls ∧ B.locs = A.locs ++ L ∧ (∀ z ∈ L, free z.base) ∧ B.cells = A.cells + mc ∧ B.slots = A.slots + ms
def vx_Back (l : Launch) (R : Room) (p : Program) (e : Env) (below : List Frame) (s : State) (sargs : Array Value) (y : MethodName) (len W9 : Nat)
    (Pre : Pt → Array Value → Prop) (Post : Pt → Array Value → Option Value → Pt → Prop) (PostX : Pt → Array Value → Addr → Pt → Prop) : Prop :=
  ∀ (m : MethodId) (meth : Method) (c : Code) (A : Pt) (g : JFrame) (ig : Instr) (mk : MethodId) (a : Array Value),
    Stand p l e R s m sargs below meth c A.U A.locs A.cells A.slots → g.method = m → g.locals.size = c.maxLocals → decode c.code g.pc = .ok (ig, len) →
    2 * g.monitorRoom + (g.stack.map fun v => v.category).sum ≤ W9 → A.U.methodNamed? y = some mk → Pre A a →
    (∃ (v : Option Value) (B : Pt), Stand p l e R s m sargs below meth c B.U B.locs B.cells B.slots ∧ Post A a v B ∧
      Steps p.tables e below (doInvoke e (A.U.setTop g) [] mk a).1 (B.U.setTop { g with pc := g.pc + len, stack := v.toList ++ g.stack })) ∨
    (∃ (q : Addr) (B : Pt), Stand p l e R s m sargs below meth c B.U B.locs B.cells B.slots ∧ PostX A a q B ∧
      Steps p.tables e below (doInvoke e (A.U.setTop g) [] mk a).1 ((B.U.setTop g).pushFrame (.throwing q)))
section Payer
variable {l : Launch} {R : Room} {p : Program} {e : Env} {below : List Frame} {s : State} {sargs : Array Value} {y : MethodName} {len W9 : Nat}
theorem vx_back {ws : List Cond} {rm : Room} {Pc : Array Value → State → Prop} {Qc : Array Value → State → Outcome → State → Prop} {XC : String → State → State → Prop} {mc ms : Nat} {free : Addr → Prop} {bytes : ByteArray} {maxL : Nat} {ret : Option FieldType}
    (hM : vx_Met l y ws rm Pc Qc XC mc ms free) (hblind : FrameBlind Pc) (hrc : rm.cells = mc) (hrs : rm.slots = ms)
    (hframes : rm.frames + 1 ≤ R.frames) (hlocals : W9 + (maxL + 11) + rm.locals ≤ R.locals)
    (hws : ∀ w ∈ ws, ∀ a' U, s.WarmedH U.vm → w.before a' U = true) (hcode : Cond.code y bytes maxL ret ∈ ws) (hinit : ∀ a' U, s.WarmedH U.vm → (Cond.initialized y.cls).before a' U = true) :
    vx_Back l R p e below s sargs y len W9 (PreOf R mc ms Pc) (PostOf Qc mc ms free) (vx_Post XC mc ms free) := by
  intro m meth c A g ig mk a X hg hsize hdg hW hn hp
  have h1 : (headSpec ws rm).pre.before a A.U = true := atoms_intro fun w hw => hws w hw _ _ X.warmed
  have h2 : (Cond.code y bytes maxL ret).before a A.U = true := hws _ hcode _ _ X.warmed
  have h3 : (Cond.initialized y.cls).before a A.U = true := hinit _ _ X.warmed
  have h4 : A.cells + (headSpec ws rm).room.cells ≤ R.cells := by rw [show (headSpec ws rm).room.cells = mc from hrc]; exact hp.1
  have h5 : A.slots + (headSpec ws rm).room.slots ≤ R.slots := by rw [show (headSpec ws rm).room.slots = ms from hrs]; exact hp.2.1
  have hPc : Pc a (A.U.calling g mk a) := hblind _ _ _ _ hp.2.2
  obtain ⟨U, Ls, c0, s0⟩ := A
  dsimp only [Pt.U, Pt.locs, Pt.cells, Pt.slots] at h1 h2 h3 h4 h5 X hn hPc ⊢
  obtain ⟨methY, cY, hmY, hcY, -, hlY, -, -, -, -⟩ := Cond.code_spec hn h2
  obtain ⟨kY, hkY, -⟩ := className_of_methodNamed hn
  have hinitY : kY.init = .initialized := Cond.initialized_spec (findClass_of_methodNamed hn) hkY h3
  have h : At U g.method c below := by rw [hg]; exact X.here
  have hlocals9 : W9 + (maxL + 11) + (headSpec ws rm).room.locals ≤ R.locals := hlocals
  have happ : (headSpec ws rm).appliesLoose y e.platform (U.calling g mk a) = true :=
    Spec.appliesLoose_calling (g := g) h hdg hn hkY hinitY
      (X.room_calling (g := g) (R' := (headSpec ws rm).room) hsize hmY hcY hframes (by rw [hlY]; omega) h4 h5) h1
  obtain ⟨mid, hmid⟩ := h.above
  have hfr : (U.setTop g).frames = (.java g :: mid) ++ below := by rw [State.frames_setTop' g h.top, hmid]; rfl
  obtain ⟨o, s₂, hsteps, -, hend, hq⟩ := Steps.callFree hM p X.admits X.cas X.clock (acts := []) hfr happ hPc trivial
  have hq' : vx_Q Qc XC mc ms free a (U.calling g mk a) o s₂ := hq
  rw [State.frames_setTop' g h.top] at hend
  obtain ⟨g₀, hg0⟩ := Option.isSome_iff_exists.mp h.top
  obtain ⟨r, hr⟩ := State.topJava?_eq_some.mp hg0
  have hr' : (({ U with heap := s₂.heap, slotsUsed := s₂.slotsUsed } : State).setVm s₂.vm).frames = .java g₀ :: r := hr
  rcases hq' with ⟨hqc, L, hfe, hL⟩ | ⟨q, rfl, E, ce, L, hx, hce, hcv, hcl, hW₂, hsm, hL⟩
  · obtain ⟨⟨v, rfl⟩, hW₂, e2, q2, q3, q4, q5, q6⟩ := id hfe
    have e3 : s₂ = ({ (U.calling g mk a).setFrames s₂.frames with heap := s₂.heap, slotsUsed := s₂.slotsUsed } : State).setVm s₂.vm := by
      have : s₂ = ({ s₂ with vm := (U.calling g mk a).vm } : State).setVm s₂.vm := rfl
      rw [e2] at this
      exact this
    obtain ⟨c₂, i₂, len₂, hc₂, hd₂, hf₂⟩ := hend
    have hW' : U.WarmedH s₂.vm := hW₂
    have hcc : c₂ = c := by
      have h1 : s₂.code? g.method = U.code? g.method := by
        rw [State.code?_eq, State.code?_eq, hW'.alike.method?]
      exact Option.some.inj (hc₂.symm.trans (h1.trans h.code))
    subst hcc
    have hlen : len₂ = len := by rw [hdg] at hd₂; cases hd₂; rfl
    subst hlen
    have hs₂ : s₂ = (({ U with heap := s₂.heap, slotsUsed := s₂.slotsUsed } : State).setVm s₂.vm).setTop { g with pc := g.pc + len₂, stack := v.toList ++ g.stack } := by
      refine e3.trans ?_
      rw [hf₂, State.calling_eq h.top, State.setFrames_setFrames, State.setTop_of_frames _ hr', hr]
      rfl
    have hsame : U.sameButNew ({ U with heap := s₂.heap, slotsUsed := s₂.slotsUsed } : State) L mc ms := by
      refine ⟨?_, q2, q3, q4, q5, q6⟩
      obtain ⟨t, ht, -⟩ := State.frames_cons hr
      show ({ U with heap := s₂.heap, slotsUsed := s₂.slotsUsed } : State) = { U.setFrames U.frames with heap := s₂.heap, slotsUsed := s₂.slotsUsed }
      rw [State.setFrames_self ht]
    subst hg
    refine Or.inl ⟨v, ⟨(({ U with heap := s₂.heap, slotsUsed := s₂.slotsUsed } : State).setVm s₂.vm), Ls ++ L, c0 + mc, s0 + ms⟩,
      ⟨X.admits, X.cas, X.clock, X.frames, X.room, X.hears, X.method, X.code, (X.here.setHeapUsed s₂.heap s₂.slotsUsed).setVm hW'.alike, X.tail, State.WarmedH.trans X.warmed hW', X.limits, X.bytes, X.same.trans (hsame.setVm s.vm)⟩,
      ⟨g, mk, s₂, L, rfl, rfl, hqc, rfl, hL, rfl, rfl⟩, ?_⟩
    show Steps p.tables e below _ ((({ U with heap := s₂.heap, slotsUsed := s₂.slotsUsed } : State).setVm s₂.vm).setTop { g with pc := g.pc + len₂, stack := v.toList ++ g.stack })
    rw [← hs₂]
    exact hsteps
  · obtain ⟨e2, q2, q3, q4, q5, q6⟩ := id hsm
    have e3 : s₂ = ({ (U.calling g mk a).setFrames s₂.frames with heap := s₂.heap, slotsUsed := s₂.slotsUsed } : State).setVm s₂.vm := by
      have : s₂ = ({ s₂ with vm := (U.calling g mk a).vm } : State).setVm s₂.vm := rfl
      rw [e2] at this
      exact this
    have hf₂ : s₂.frames = .throwing q :: .java g :: U.frames.tail := hend
    have hW' : U.WarmedH s₂.vm := hW₂
    have hs₂ : s₂ = ((({ U with heap := s₂.heap, slotsUsed := s₂.slotsUsed } : State).setVm s₂.vm).setTop g).pushFrame (.throwing q) := by
      refine e3.trans ?_
      rw [hf₂, State.calling_eq h.top, State.setFrames_setFrames, State.pushFrame, State.frames_setTop _ hr', State.setTop_of_frames _ hr', State.setFrames_setFrames, hr]
      rfl
    have hsame : U.sameButNew ({ U with heap := s₂.heap, slotsUsed := s₂.slotsUsed } : State) L mc ms := by
      refine ⟨?_, q2, q3, q4, q5, q6⟩
      obtain ⟨t, ht, -⟩ := State.frames_cons hr
      show ({ U with heap := s₂.heap, slotsUsed := s₂.slotsUsed } : State) = { U.setFrames U.frames with heap := s₂.heap, slotsUsed := s₂.slotsUsed }
      rw [State.setFrames_self ht]
    subst hg
    refine Or.inr ⟨q, ⟨(({ U with heap := s₂.heap, slotsUsed := s₂.slotsUsed } : State).setVm s₂.vm), Ls ++ L, c0 + mc, s0 + ms⟩,
      ⟨X.admits, X.cas, X.clock, X.frames, X.room, X.hears, X.method, X.code, (X.here.setHeapUsed s₂.heap s₂.slotsUsed).setVm hW'.alike, X.tail, State.WarmedH.trans X.warmed hW', X.limits, X.bytes, X.same.trans (hsame.setVm s.vm)⟩,
      ⟨g, mk, s₂, L, E, ce, rfl, rfl, hx, hce, hcv, hcl, rfl, hL, rfl, rfl⟩, ?_⟩
    show Steps p.tables e below _ (((({ U with heap := s₂.heap, slotsUsed := s₂.slotsUsed } : State).setVm s₂.vm).setTop g).pushFrame (.throwing q))
    rw [← hs₂]
    exact hsteps
end Payer
section Calls
variable {p : Program} {l : Launch} {e : Env} {R : Room} {s : State} {m : MethodId} {args : Array Value} {below : List Frame} {meth : Method} {c : Code} {T : State} {locs : List Loc} {cells slots : Nat}
theorem vx_callV (X : Stand p l e R s m args below meth c T locs cells slots) (hexec : p.tables.exec = Jvm.exec) {own C : String} {index : Nat} {y : MethodName} {bytes : ByteArray} {maxL : Nat} {ret : Option FieldType}
    (hown : s.vm.findClass own = some m.cls) (hlink : (Cond.methodLink own index y).before args s = true) (hinst : (Cond.instanceMethod y).before args s = true) (hsel : (Cond.selects C y y).before args s = true)
    (hcode : (Cond.code y bytes maxL ret).before args s = true) (hy : y.cls ≠ "java/lang/invoke/MethodHandle" ∧ y.cls ≠ "java/lang/invoke/VarHandle")
    {W9 : Nat} {Pre : Pt → Array Value → Prop} {Post : Pt → Array Value → Option Value → Pt → Prop} {PostX : Pt → Array Value → Addr → Pt → Prop} (hK : vx_Back l R p e below s args y 3 W9 Pre Post PostX)
    {b : Addr} {cellB : Cell} (hcell : T.heap[b]? = some cellB) (hobj : cellB.vm.isStatics = false) (hcls : s.vm.findClass C = some cellB.cls)
    {g : JFrame} (hg : g.method = m) (hsize : g.locals.size = c.maxLocals) {argsL rest : List Value} (hlen : ∀ sig, parseMethodDescriptor y.desc = some sig → argsL.length = sig.parameters.length)
    (hstack : g.stack = argsL.reverse ++ .ref b :: rest) (hW : 2 * g.monitorRoom + (rest.map fun v => v.category).sum ≤ W9) (hdg : decode c.code g.pc = .ok (.invokevirtual index, 3))
    (hpre : ∀ vm₁, s.WarmedH vm₁ → Pre ⟨T.setVm vm₁, locs, cells, slots⟩ (Value.ref b :: argsL).toArray) :
    (∃ (v : Option Value) (vm₁ : Vm) (B : Pt), s.WarmedH vm₁ ∧ Stand p l e R s m args below meth c B.U B.locs B.cells B.slots ∧ Post ⟨T.setVm vm₁, locs, cells, slots⟩ (Value.ref b :: argsL).toArray v B ∧
      ∀ target, Steps p.tables e below (B.U.setTop { g with pc := g.pc + 3, stack := v.toList ++ rest }) target → Steps p.tables e below (T.setTop g) target) ∨
    (∃ (q : Addr) (vm₁ : Vm) (B : Pt), s.WarmedH vm₁ ∧ Stand p l e R s m args below meth c B.U B.locs B.cells B.slots ∧ PostX ⟨T.setVm vm₁, locs, cells, slots⟩ (Value.ref b :: argsL).toArray q B ∧
      Steps p.tables e below (T.setTop g) ((B.U.setTop { g with stack := rest }).pushFrame (.throwing q))) := by
  obtain ⟨mk, methM, hnamed, hmethM, hstM, habM⟩ := Cond.instanceMethod_spec hinst
  obtain ⟨methM', cM, hmethM', -, -, -, -, -, -, hsigM⟩ := Cond.code_spec hnamed hcode
  cases hmethM.symm.trans hmethM'
  obtain ⟨c2, r2, m2, q1, q2, q3, q4, kP, hkP, hkPi⟩ := Cond.selects_spec hsel
  cases hcls.symm.trans q1
  cases (State.methodFound?_of_named hnamed hy).symm.trans q2
  cases hnamed.symm.trans q3
  have hselP : selectMethod e.platform s.vm cellB.cls mk = .method mk := by rw [Launch.admits_selectMethod X.admits]; exact q4
  obtain ⟨vm₁, X₁, hstep₁⟩ := X.invokevirtual hexec hown hlink hnamed hmethM hstM hkP hkPi hy (a := b) (cell := cellB) hcell
    (fun z h => by rw [h] at hobj; cases hobj) hselP hmethM habM hkP hkPi (g := g) hg (argsL := argsL) (rest := rest) (hlen _ hsigM) hstack hdg
  rcases hK m meth c ⟨T.setVm vm₁, locs, cells, slots⟩ { g with stack := rest } (.invokevirtual index) mk (Value.ref b :: argsL).toArray X₁ hg hsize hdg hW (X₁.named hnamed) (hpre vm₁ X₁.warmed) with ⟨v, B, X', hpost, hsteps⟩ | ⟨q, B, X', hpost, hsteps⟩
  · exact Or.inl ⟨v, vm₁, B, X₁.warmed, X', hpost, fun target h => hstep₁ _ fun acts => by rw [doInvoke_state]; exact hsteps.trans h⟩
  · exact Or.inr ⟨q, vm₁, B, X₁.warmed, X', hpost, hstep₁ _ fun acts => by rw [doInvoke_state]; exact hsteps⟩
theorem vx_callS (X : Stand p l e R s m args below meth c T locs cells slots) (hexec : p.tables.exec = Jvm.exec) {own : String} {index : Nat} {y : MethodName} {bytes : ByteArray} {maxL : Nat} {ret : Option FieldType}
    (hown : s.vm.findClass own = some m.cls) (hlink : (Cond.methodLink own index y).before args s = true) (hstat : (Cond.static y).before args s = true) (hinit : (Cond.initialized y.cls).before args s = true)
    (hcode : (Cond.code y bytes maxL ret).before args s = true) (hy : y.cls ≠ "java/lang/invoke/MethodHandle" ∧ y.cls ≠ "java/lang/invoke/VarHandle")
    {W9 : Nat} {Pre : Pt → Array Value → Prop} {Post : Pt → Array Value → Option Value → Pt → Prop} {PostX : Pt → Array Value → Addr → Pt → Prop} (hK : vx_Back l R p e below s args y 3 W9 Pre Post PostX)
    {g : JFrame} (hg : g.method = m) (hsize : g.locals.size = c.maxLocals) {argsL rest : List Value} (hlen : ∀ sig, parseMethodDescriptor y.desc = some sig → argsL.length = sig.parameters.length)
    (hstack : g.stack = argsL.reverse ++ rest) (hW : 2 * g.monitorRoom + (rest.map fun v => v.category).sum ≤ W9) (hdg : decode c.code g.pc = .ok (.invokestatic index, 3))
    (hpre : ∀ vm₁, s.WarmedH vm₁ → Pre ⟨T.setVm vm₁, locs, cells, slots⟩ argsL.toArray) :
    (∃ (v : Option Value) (vm₁ : Vm) (B : Pt), s.WarmedH vm₁ ∧ Stand p l e R s m args below meth c B.U B.locs B.cells B.slots ∧ Post ⟨T.setVm vm₁, locs, cells, slots⟩ argsL.toArray v B ∧
      ∀ target, Steps p.tables e below (B.U.setTop { g with pc := g.pc + 3, stack := v.toList ++ rest }) target → Steps p.tables e below (T.setTop g) target) ∨
    (∃ (q : Addr) (vm₁ : Vm) (B : Pt), s.WarmedH vm₁ ∧ Stand p l e R s m args below meth c B.U B.locs B.cells B.slots ∧ PostX ⟨T.setVm vm₁, locs, cells, slots⟩ argsL.toArray q B ∧
      Steps p.tables e below (T.setTop g) ((B.U.setTop { g with stack := rest }).pushFrame (.throwing q))) := by
  obtain ⟨mk, hnamed⟩ := Cond.code_named hcode
  obtain ⟨methM, cM, hmethM, -, -, -, -, -, -, hsigM⟩ := Cond.code_spec hnamed hcode
  have hstatic : methM.isStatic = true := Cond.static_spec hnamed hmethM hstat
  obtain ⟨kP, hkP, -⟩ := className_of_methodNamed hnamed
  have hinitP : kP.init = .initialized := Cond.initialized_spec (findClass_of_methodNamed hnamed) hkP hinit
  obtain ⟨vm₁, X₁, hstep₁⟩ := X.invokestatic hexec hown hlink hnamed hmethM hstatic hkP hinitP hy (g := g) hg (argsL := argsL) (rest := rest) (hlen _ hsigM) hstack hdg
  rcases hK m meth c ⟨T.setVm vm₁, locs, cells, slots⟩ { g with stack := rest } (.invokestatic index) mk argsL.toArray X₁ hg hsize hdg hW (X₁.named hnamed) (hpre vm₁ X₁.warmed) with ⟨v, B, X', hpost, hsteps⟩ | ⟨q, B, X', hpost, hsteps⟩
  · exact Or.inl ⟨v, vm₁, B, X₁.warmed, X', hpost, fun target h => hstep₁ _ fun acts => by rw [doInvoke_state]; exact hsteps.trans h⟩
  · exact Or.inr ⟨q, vm₁, B, X₁.warmed, X', hpost, hstep₁ _ fun acts => by rw [doInvoke_state]; exact hsteps⟩
end Calls
theorem vx_cls {s : State} {T : State} {vm₁ : Vm} {E : String} {k : ClassId} (hW : s.WarmedH vm₁) (h : (T.setVm vm₁).vm.findClass E = some k) : s.vm.findClass E = some k := by
  have h1 : vm₁.findClass E = some k := h
  rw [hW.alike.findClass] at h1
  exact h1
/-- the method's frame g, with q thrown over it -/
def vx_W (p : Program) (l : Launch) (e : Env) (R : Room) (s : State) (m : MethodId) (args : Array Value) (below : List Frame) (meth : Method) (c : Code) (H : Heap) (locs : List Loc) (cells slots : Nat) (Q : State → Prop) (g : JFrame) (q : Addr) : Prop :=
  ∀ T : State, T.heap = H → Stand p l e R s m args below meth c T locs cells slots → ∃ t, Steps p.tables e below ((T.setTop g).pushFrame (.throwing q)) t ∧ Q t
def vx_Run (p : Program) (l : Launch) (e : Env) (R : Room) (s : State) (m : MethodId) (args : Array Value) (below : List Frame) (meth : Method) (c : Code) (H : Heap) (locs : List Loc) (cells slots mc ms : Nat) (g : JFrame) (rest : List Value) (Qa : State → Outcome → State → Prop) (XC : String → State → State → Prop) (free : Addr → Prop) : Prop :=
  ∀ T : State, T.heap = H → Stand p l e R s m args below meth c T locs cells slots →
    (∃ (v : Option Value) (st₀ t T' : State) (L : List Loc), st₀.heap = H ∧ Stand p l e R s m args below meth c T' (locs ++ L) (cells + mc) (slots + ms) ∧ (∀ q ∈ L, free q.base) ∧ T'.heap = t.heap ∧ T'.vm = t.vm ∧ Qa st₀ (.returned v) t ∧
      Goes p e below T g T' { g with pc := g.pc + 3, stack := v.toList ++ rest }) ∨
    (∃ (q : Addr) (st₀ t T' : State) (L : List Loc) (E : String) (ce : Cell), st₀.heap = H ∧ Stand p l e R s m args below meth c T' (locs ++ L) (cells + mc) (slots + ms) ∧ (∀ z ∈ L, free z.base) ∧ T'.heap = t.heap ∧ T'.vm = t.vm ∧ XC E st₀ t ∧ t.heap[q]? = some ce ∧ ce.vm = .none ∧ s.vm.findClass E = some ce.cls ∧
      Steps p.tables e below (T.setTop g) ((T'.setTop { g with stack := rest }).pushFrame (.throwing q)))
def vx_X {S : Type} (px : S → Prop) (B : String → S → State → Prop) (A : Nat → Prop) : String → State → State → Prop := fun E st t => ∃ u : S, px u ∧ B E u t ∧ va_F A st t
section Runs
variable {p : Program} {l : Launch} {e : Env} {R : Room} {s : State} {m : MethodId} {args : Array Value} {below : List Frame} {meth : Method} {c : Code} {H : Heap} {locs : List Loc} {cells slots : Nat}
variable {y : MethodName} {bytes cc : ByteArray} {maxL nL mc ms n index : Nat} {ret : Option FieldType} {ws : List Cond} {rm : Room} {Pc : Array Value → State → Prop} {Qc : Array Value → State → Outcome → State → Prop} {XC : String → State → State → Prop} {free : Addr → Prop} {Ts : List Cond} {own C : String} {b : Addr} {As rest : List Value} {g : JFrame}
theorem vx_callBack (cb : CallB R s args own index y bytes maxL ret ws rm mc ms n) (hM : vx_Met l y ws rm Pc Qc XC mc ms free) (hbl : FrameBlind Pc) : vx_Back l R p e below s args y 3 8 (PreOf R mc ms Pc) (PostOf Qc mc ms free) (vx_Post XC mc ms free) := by
  obtain ⟨hrc, hrs, hfr, hlo, hws, hcw, -, hini, -⟩ := cb
  exact vx_back (bytes := bytes) (maxL := maxL) (ret := ret) hM hbl hrc hrs hfr hlo hws hcw (fun a' U hW => word_at hW (Or.inl (by first | rfl | simp [Cond.onTables, Cond.keeps, Cond.steady])) hini)
theorem vx_runV (S : CallFix p m c cc nL s args Ts own) (hM : vx_Met l y ws rm Pc Qc XC mc ms free) (cw : CallW R s args own C index y bytes maxL ret ws rm mc ms n) (hp : PreV s H C b Pc As)
    (hg : g.method = m) (hn : As.length = n) (hsize : g.locals.size = nL) (hstack : g.stack = As.reverse ++ .ref b :: rest) (hW : 2 * g.monitorRoom + (rest.map fun v => v.category).sum ≤ 8) (hdg : decode cc g.pc = .ok (.invokevirtual index, 3)) (hf : cells + mc ≤ R.cells ∧ slots + ms ≤ R.slots) :
    vx_Run p l e R s m args below meth c H locs cells slots mc ms g rest (Qc (Value.ref b :: As).toArray) XC free := by
  have hK : vx_Back l R p e below s args y 3 8 (PreOf R mc ms Pc) (PostOf Qc mc ms free) (vx_Post XC mc ms free) := vx_callBack cw.1 hM hp.1
  obtain ⟨⟨-, -, -, -, -, -, hcode, -, hy, hlen, hl⟩, hin, hse⟩ := cw
  obtain ⟨hx, hb, hml, ho, -⟩ := S
  obtain ⟨-, ⟨cellB, hcB, hoB, hclB⟩, hPc⟩ := hp
  intro T hT X
  rcases vx_callV X hx (C := C) (bytes := bytes) (maxL := maxL) (ret := ret) ho hl hin hse hcode hy hK (by rw [hT]; exact hcB) hoB hclB hg (hsize.trans hml.symm) (argsL := As) (rest := rest) (fun sig h => hn.trans (hlen sig h)) hstack hW (by rw [hb]; exact hdg)
    (fun vm₁ hW₁ => ⟨hf.1, hf.2, hPc (T.setVm vm₁) hT hW₁⟩) with ⟨v, vm₁, ⟨U', l2, c2, s2⟩, hW₁, X', ⟨g', mk, t, L, e1, e2, hq, h1, hL, h2, h3⟩, st⟩ | ⟨q, vm₁, ⟨U', l2, c2, s2⟩, hW₁, X', ⟨g', mk, t, L, E, ce, e1, e2, hq, hce, hcv, hcl, h1, hL, h2, h3⟩, st⟩
  · dsimp only [Pt.U, Pt.locs, Pt.cells, Pt.slots] at X' e1 e2 h1 h2 h3 st
    subst h1; subst h2; subst h3
    exact Or.inl ⟨v, (T.setVm vm₁).calling g' mk (Value.ref b :: As).toArray, t, U', L, hT, X', hL, e1, e2, hq, st⟩
  · dsimp only [Pt.U, Pt.locs, Pt.cells, Pt.slots] at X' e1 e2 h1 h2 h3 st hcl
    subst h1; subst h2; subst h3
    exact Or.inr ⟨q, (T.setVm vm₁).calling g' mk (Value.ref b :: As).toArray, t, U', L, E, ce, hT, X', hL, e1, e2, hq, hce, hcv, vx_cls hW₁ hcl, st⟩
theorem vx_runS (S : CallFix p m c cc nL s args Ts own) (hM : vx_Met l y ws rm Pc Qc XC mc ms free) (cw : CallB R s args own index y bytes maxL ret ws rm mc ms n ∧ (Cond.static y).before args s = true) (hp : PreS s H Pc As)
    (hg : g.method = m) (hn : As.length = n) (hsize : g.locals.size = nL) (hstack : g.stack = As.reverse ++ rest) (hW : 2 * g.monitorRoom + (rest.map fun v => v.category).sum ≤ 8) (hdg : decode cc g.pc = .ok (.invokestatic index, 3)) (hf : cells + mc ≤ R.cells ∧ slots + ms ≤ R.slots) :
    vx_Run p l e R s m args below meth c H locs cells slots mc ms g rest (Qc As.toArray) XC free := by
  have hK : vx_Back l R p e below s args y 3 8 (PreOf R mc ms Pc) (PostOf Qc mc ms free) (vx_Post XC mc ms free) := vx_callBack cw.1 hM hp.1
  obtain ⟨⟨-, -, -, -, -, -, hcode, hini, hy, hlen, hl⟩, hstt⟩ := cw
  obtain ⟨hx, hb, hml, ho, -⟩ := S
  intro T hT X
  rcases vx_callS X hx (bytes := bytes) (maxL := maxL) (ret := ret) ho hl hstt hini hcode hy hK hg (hsize.trans hml.symm) (argsL := As) (rest := rest) (fun sig h => hn.trans (hlen sig h)) hstack hW (by rw [hb]; exact hdg)
    (fun vm₁ hW₁ => ⟨hf.1, hf.2, hp.2 (T.setVm vm₁) hT hW₁⟩) with ⟨v, vm₁, ⟨U', l2, c2, s2⟩, hW₁, X', ⟨g', mk, t, L, e1, e2, hq, h1, hL, h2, h3⟩, st⟩ | ⟨q, vm₁, ⟨U', l2, c2, s2⟩, hW₁, X', ⟨g', mk, t, L, E, ce, e1, e2, hq, hce, hcv, hcl, h1, hL, h2, h3⟩, st⟩
  · dsimp only [Pt.U, Pt.locs, Pt.cells, Pt.slots] at X' e1 e2 h1 h2 h3 st
    subst h1; subst h2; subst h3
    exact Or.inl ⟨v, (T.setVm vm₁).calling g' mk As.toArray, t, U', L, hT, X', hL, e1, e2, hq, st⟩
  · dsimp only [Pt.U, Pt.locs, Pt.cells, Pt.slots] at X' e1 e2 h1 h2 h3 st hcl
    subst h1; subst h2; subst h3
    exact Or.inr ⟨q, (T.setVm vm₁).calling g' mk As.toArray, t, U', L, E, ce, hT, X', hL, e1, e2, hq, hce, hcv, vx_cls hW₁ hcl, st⟩
end Runs
section Rows
variable {p : Program} {l : Launch} {e : Env} {R : Room} {s : State} {m : MethodId} {args : Array Value} {below : List Frame} {meth : Method} {c : Code} {H : Heap} {locs : List Loc} {cells slots : Nat} {Q : State → Prop}
variable {mc ms : Nat} {free : Addr → Prop} {A0 A1 : Nat → Prop} {H0 : Heap} {a : Array Value} {pc : Nat} {ls : Array Slot} {st0 rest : List Value}
theorem vx_keep {st₀ t T' : State} {L : List Loc} (h0 : st₀.heap = H) (e1 : T'.heap = t.heap) (hS : va_S A0 H0 H locs) (hA : ∀ q, q < H.size → A1 q → A0 q) (hf : ∀ q, free q → A0 q) (hL : ∀ q ∈ L, free q.base) (hF : va_F A1 st₀ t) :
    H.size ≤ T'.heap.size ∧ (∀ q : Nat, q < H.size → ¬ A1 q → T'.heap[q]? = H[q]?) ∧ va_S A0 H0 T'.heap (locs ++ L) := by
  obtain ⟨hz, hk⟩ := hF
  rw [h0] at hz hk
  exact ⟨by rw [e1]; exact hz, fun q h1 h2 => by rw [e1]; exact hk q h1 h2,
    ⟨Nat.le_trans hS.1 (by rw [e1]; exact hz), fun q h1 h2 => by rw [e1, hk q (Nat.lt_of_lt_of_le h1 hS.1) (fun z => h2 (hA q (Nat.lt_of_lt_of_le h1 hS.1) z))]; exact hS.2.1 q h1 h2, fun q hq => by
      rcases List.mem_append.mp hq with h | h
      · exact hS.2.2 q h
      · exact hf _ (hL q h)⟩⟩
theorem vx_calli {S SX : Type} {post : Int32 → S → Prop} {px : SX → Prop} {B : S → State → Prop} {BX : String → SX → State → Prop} {AX : Nat → Prop} (hr : vx_Run p l e R s m args below meth c H locs cells slots mc ms (F0 m pc ls st0) rest (va_Qi post B A1 a) (vx_X px BX AX) free) (hS : va_S A0 H0 H locs) (hA : ∀ q, q < H.size → A1 q → A0 q) (hf : ∀ q, free q → A0 q) (hAX : ∀ q, q < H.size → AX q → A0 q)
    (kx : ∀ (E : String) (ce : Cell) (q9 : Addr) (u : SX) (t : State) (H1 : Heap) (locs1 : List Loc), t.heap = H1 → s.vm.Alike t.vm → px u → BX E u t → H.size ≤ H1.size → (∀ q : Nat, q < H.size → ¬ AX q → H1[q]? = H[q]?) → va_S A0 H0 H1 locs1 → H1[q9]? = some ce → ce.vm = .none → s.vm.findClass E = some ce.cls → vx_W p l e R s m args below meth c H1 locs1 (cells + mc) (slots + ms) Q (F0 m pc ls rest) q9)
    (kk : ∀ (r : Int32) (u : S) (t : State) (H1 : Heap) (locs1 : List Loc), t.heap = H1 → s.vm.Alike t.vm → post r u → B u t → H.size ≤ H1.size → (∀ q : Nat, q < H.size → ¬ A1 q → H1[q]? = H[q]?) → va_S A0 H0 H1 locs1 → W p l e R s m args below meth c H1 locs1 (cells + mc) (slots + ms) Q (F0 m (pc + 3) ls (.int r :: rest))) : W p l e R s m args below meth c H locs cells slots Q (F0 m pc ls st0) := by
  intro T hT X
  rcases hr T hT X with ⟨v, st₀, t, T', L, h0, X', hL, e1, e2, ⟨⟨r, u, hv, hp, hb⟩, hF⟩, st⟩ | ⟨q, st₀, t, T', L, E, ce, h0, X', hL, e1, e2, ⟨u, hp, hb, hF⟩, hce, hcv, hcl, st⟩
  · cases hv
    obtain ⟨k1, k2, k3⟩ := vx_keep h0 e1 hS hA hf hL hF
    obtain ⟨t2, a1, b1⟩ := kk r u t T'.heap (locs ++ L) e1.symm (by rw [← e2]; exact X'.warmed.alike) hp hb k1 k2 k3 T' rfl X'
    exact ⟨t2, st t2 a1, b1⟩
  · obtain ⟨k1, k2, k3⟩ := vx_keep h0 e1 hS hAX hf hL hF
    obtain ⟨t2, a1, b1⟩ := kx E ce q u t T'.heap (locs ++ L) e1.symm (by rw [← e2]; exact X'.warmed.alike) hp hb k1 k2 k3 (by rw [e1]; exact hce) hcv hcl T' rfl X'
    exact ⟨t2, st.trans a1, b1⟩
theorem vx_calll {S SX : Type} {post : Int64 → S → Prop} {px : SX → Prop} {B : S → State → Prop} {BX : String → SX → State → Prop} {AX : Nat → Prop} (hr : vx_Run p l e R s m args below meth c H locs cells slots mc ms (F0 m pc ls st0) rest (va_Ql post B A1 a) (vx_X px BX AX) free) (hS : va_S A0 H0 H locs) (hA : ∀ q, q < H.size → A1 q → A0 q) (hf : ∀ q, free q → A0 q) (hAX : ∀ q, q < H.size → AX q → A0 q)
    (kx : ∀ (E : String) (ce : Cell) (q9 : Addr) (u : SX) (t : State) (H1 : Heap) (locs1 : List Loc), t.heap = H1 → s.vm.Alike t.vm → px u → BX E u t → H.size ≤ H1.size → (∀ q : Nat, q < H.size → ¬ AX q → H1[q]? = H[q]?) → va_S A0 H0 H1 locs1 → H1[q9]? = some ce → ce.vm = .none → s.vm.findClass E = some ce.cls → vx_W p l e R s m args below meth c H1 locs1 (cells + mc) (slots + ms) Q (F0 m pc ls rest) q9)
    (kk : ∀ (r : Int64) (u : S) (t : State) (H1 : Heap) (locs1 : List Loc), t.heap = H1 → s.vm.Alike t.vm → post r u → B u t → H.size ≤ H1.size → (∀ q : Nat, q < H.size → ¬ A1 q → H1[q]? = H[q]?) → va_S A0 H0 H1 locs1 → W p l e R s m args below meth c H1 locs1 (cells + mc) (slots + ms) Q (F0 m (pc + 3) ls (.long r :: rest))) : W p l e R s m args below meth c H locs cells slots Q (F0 m pc ls st0) := by
  intro T hT X
  rcases hr T hT X with ⟨v, st₀, t, T', L, h0, X', hL, e1, e2, ⟨⟨r, u, hv, hp, hb⟩, hF⟩, st⟩ | ⟨q, st₀, t, T', L, E, ce, h0, X', hL, e1, e2, ⟨u, hp, hb, hF⟩, hce, hcv, hcl, st⟩
  · cases hv
    obtain ⟨k1, k2, k3⟩ := vx_keep h0 e1 hS hA hf hL hF
    obtain ⟨t2, a1, b1⟩ := kk r u t T'.heap (locs ++ L) e1.symm (by rw [← e2]; exact X'.warmed.alike) hp hb k1 k2 k3 T' rfl X'
    exact ⟨t2, st t2 a1, b1⟩
  · obtain ⟨k1, k2, k3⟩ := vx_keep h0 e1 hS hAX hf hL hF
    obtain ⟨t2, a1, b1⟩ := kx E ce q u t T'.heap (locs ++ L) e1.symm (by rw [← e2]; exact X'.warmed.alike) hp hb k1 k2 k3 (by rw [e1]; exact hce) hcv hcl T' rfl X'
    exact ⟨t2, st.trans a1, b1⟩
theorem vx_callf {S SX : Type} {post : UInt32 → S → Prop} {px : SX → Prop} {B : S → State → Prop} {BX : String → SX → State → Prop} {AX : Nat → Prop} (hr : vx_Run p l e R s m args below meth c H locs cells slots mc ms (F0 m pc ls st0) rest (va_Qf post B A1 a) (vx_X px BX AX) free) (hS : va_S A0 H0 H locs) (hA : ∀ q, q < H.size → A1 q → A0 q) (hf : ∀ q, free q → A0 q) (hAX : ∀ q, q < H.size → AX q → A0 q)
    (kx : ∀ (E : String) (ce : Cell) (q9 : Addr) (u : SX) (t : State) (H1 : Heap) (locs1 : List Loc), t.heap = H1 → s.vm.Alike t.vm → px u → BX E u t → H.size ≤ H1.size → (∀ q : Nat, q < H.size → ¬ AX q → H1[q]? = H[q]?) → va_S A0 H0 H1 locs1 → H1[q9]? = some ce → ce.vm = .none → s.vm.findClass E = some ce.cls → vx_W p l e R s m args below meth c H1 locs1 (cells + mc) (slots + ms) Q (F0 m pc ls rest) q9)
    (kk : ∀ (r : UInt32) (u : S) (t : State) (H1 : Heap) (locs1 : List Loc), t.heap = H1 → s.vm.Alike t.vm → post r u → B u t → H.size ≤ H1.size → (∀ q : Nat, q < H.size → ¬ A1 q → H1[q]? = H[q]?) → va_S A0 H0 H1 locs1 → W p l e R s m args below meth c H1 locs1 (cells + mc) (slots + ms) Q (F0 m (pc + 3) ls (.float r :: rest))) : W p l e R s m args below meth c H locs cells slots Q (F0 m pc ls st0) := by
  intro T hT X
  rcases hr T hT X with ⟨v, st₀, t, T', L, h0, X', hL, e1, e2, ⟨⟨r, u, hv, hp, hb⟩, hF⟩, st⟩ | ⟨q, st₀, t, T', L, E, ce, h0, X', hL, e1, e2, ⟨u, hp, hb, hF⟩, hce, hcv, hcl, st⟩
  · cases hv
    obtain ⟨k1, k2, k3⟩ := vx_keep h0 e1 hS hA hf hL hF
    obtain ⟨t2, a1, b1⟩ := kk r u t T'.heap (locs ++ L) e1.symm (by rw [← e2]; exact X'.warmed.alike) hp hb k1 k2 k3 T' rfl X'
    exact ⟨t2, st t2 a1, b1⟩
  · obtain ⟨k1, k2, k3⟩ := vx_keep h0 e1 hS hAX hf hL hF
    obtain ⟨t2, a1, b1⟩ := kx E ce q u t T'.heap (locs ++ L) e1.symm (by rw [← e2]; exact X'.warmed.alike) hp hb k1 k2 k3 (by rw [e1]; exact hce) hcv hcl T' rfl X'
    exact ⟨t2, st.trans a1, b1⟩
theorem vx_calld {S SX : Type} {post : UInt64 → S → Prop} {px : SX → Prop} {B : S → State → Prop} {BX : String → SX → State → Prop} {AX : Nat → Prop} (hr : vx_Run p l e R s m args below meth c H locs cells slots mc ms (F0 m pc ls st0) rest (va_Qd post B A1 a) (vx_X px BX AX) free) (hS : va_S A0 H0 H locs) (hA : ∀ q, q < H.size → A1 q → A0 q) (hf : ∀ q, free q → A0 q) (hAX : ∀ q, q < H.size → AX q → A0 q)
    (kx : ∀ (E : String) (ce : Cell) (q9 : Addr) (u : SX) (t : State) (H1 : Heap) (locs1 : List Loc), t.heap = H1 → s.vm.Alike t.vm → px u → BX E u t → H.size ≤ H1.size → (∀ q : Nat, q < H.size → ¬ AX q → H1[q]? = H[q]?) → va_S A0 H0 H1 locs1 → H1[q9]? = some ce → ce.vm = .none → s.vm.findClass E = some ce.cls → vx_W p l e R s m args below meth c H1 locs1 (cells + mc) (slots + ms) Q (F0 m pc ls rest) q9)
    (kk : ∀ (r : UInt64) (u : S) (t : State) (H1 : Heap) (locs1 : List Loc), t.heap = H1 → s.vm.Alike t.vm → post r u → B u t → H.size ≤ H1.size → (∀ q : Nat, q < H.size → ¬ A1 q → H1[q]? = H[q]?) → va_S A0 H0 H1 locs1 → W p l e R s m args below meth c H1 locs1 (cells + mc) (slots + ms) Q (F0 m (pc + 3) ls (.double r :: rest))) : W p l e R s m args below meth c H locs cells slots Q (F0 m pc ls st0) := by
  intro T hT X
  rcases hr T hT X with ⟨v, st₀, t, T', L, h0, X', hL, e1, e2, ⟨⟨r, u, hv, hp, hb⟩, hF⟩, st⟩ | ⟨q, st₀, t, T', L, E, ce, h0, X', hL, e1, e2, ⟨u, hp, hb, hF⟩, hce, hcv, hcl, st⟩
  · cases hv
    obtain ⟨k1, k2, k3⟩ := vx_keep h0 e1 hS hA hf hL hF
    obtain ⟨t2, a1, b1⟩ := kk r u t T'.heap (locs ++ L) e1.symm (by rw [← e2]; exact X'.warmed.alike) hp hb k1 k2 k3 T' rfl X'
    exact ⟨t2, st t2 a1, b1⟩
  · obtain ⟨k1, k2, k3⟩ := vx_keep h0 e1 hS hAX hf hL hF
    obtain ⟨t2, a1, b1⟩ := kx E ce q u t T'.heap (locs ++ L) e1.symm (by rw [← e2]; exact X'.warmed.alike) hp hb k1 k2 k3 (by rw [e1]; exact hce) hcv hcl T' rfl X'
    exact ⟨t2, st.trans a1, b1⟩
theorem vx_callv {S SX : Type} {post : S → Prop} {px : SX → Prop} {B : S → State → Prop} {BX : String → SX → State → Prop} {AX : Nat → Prop} (hr : vx_Run p l e R s m args below meth c H locs cells slots mc ms (F0 m pc ls st0) rest (va_Qv post B A1 a) (vx_X px BX AX) free) (hS : va_S A0 H0 H locs) (hA : ∀ q, q < H.size → A1 q → A0 q) (hf : ∀ q, free q → A0 q) (hAX : ∀ q, q < H.size → AX q → A0 q)
    (kx : ∀ (E : String) (ce : Cell) (q9 : Addr) (u : SX) (t : State) (H1 : Heap) (locs1 : List Loc), t.heap = H1 → s.vm.Alike t.vm → px u → BX E u t → H.size ≤ H1.size → (∀ q : Nat, q < H.size → ¬ AX q → H1[q]? = H[q]?) → va_S A0 H0 H1 locs1 → H1[q9]? = some ce → ce.vm = .none → s.vm.findClass E = some ce.cls → vx_W p l e R s m args below meth c H1 locs1 (cells + mc) (slots + ms) Q (F0 m pc ls rest) q9)
    (kk : ∀ (u : S) (t : State) (H1 : Heap) (locs1 : List Loc), t.heap = H1 → s.vm.Alike t.vm → post u → B u t → H.size ≤ H1.size → (∀ q : Nat, q < H.size → ¬ A1 q → H1[q]? = H[q]?) → va_S A0 H0 H1 locs1 → W p l e R s m args below meth c H1 locs1 (cells + mc) (slots + ms) Q (F0 m (pc + 3) ls (rest))) : W p l e R s m args below meth c H locs cells slots Q (F0 m pc ls st0) := by
  intro T hT X
  rcases hr T hT X with ⟨v, st₀, t, T', L, h0, X', hL, e1, e2, ⟨⟨u, hv, hp, hb⟩, hF⟩, st⟩ | ⟨q, st₀, t, T', L, E, ce, h0, X', hL, e1, e2, ⟨u, hp, hb, hF⟩, hce, hcv, hcl, st⟩
  · cases hv
    obtain ⟨k1, k2, k3⟩ := vx_keep h0 e1 hS hA hf hL hF
    obtain ⟨t2, a1, b1⟩ := kk u t T'.heap (locs ++ L) e1.symm (by rw [← e2]; exact X'.warmed.alike) hp hb k1 k2 k3 T' rfl X'
    exact ⟨t2, st t2 a1, b1⟩
  · obtain ⟨k1, k2, k3⟩ := vx_keep h0 e1 hS hAX hf hL hF
    obtain ⟨t2, a1, b1⟩ := kx E ce q u t T'.heap (locs ++ L) e1.symm (by rw [← e2]; exact X'.warmed.alike) hp hb k1 k2 k3 (by rw [e1]; exact hce) hcv hcl T' rfl X'
    exact ⟨t2, st.trans a1, b1⟩
/-- caught by the row x of this method's table; the rows ahead don't take it -/
theorem vx_catch {own name : String} {E : String} {ce : Cell} {q : Addr} (hown : s.vm.findClass own = some m.cls) (pre : List ExceptionTableEntry) (x : ExceptionTableEntry) (suf : List ExceptionTableEntry) (hsplit : c.exceptionTable.toList = pre ++ x :: suf)
    (hpass : ∀ z ∈ pre, covers z pc = false ∨ (z.catchType ≠ 0 ∧ ∃ nm : String, (Cond.classLink own z.catchType nm).before args s = true ∧ va_Nc E nm s)) (hx : covers x pc = true) (h0 : x.catchType ≠ 0)
    (hlink : (Cond.classLink own x.catchType name).before args s = true) (hcast : (Cond.castable E name).before args s = true) (hcell : H[q]? = some ce) (hv : ce.vm = .none) (hcl : s.vm.findClass E = some ce.cls)
    (kk : W p l e R s m args below meth c H locs cells slots Q (F0 m x.handlerPc ls [.ref q])) : vx_W p l e R s m args below meth c H locs cells slots Q (F0 m pc ls rest) q := by
  intro T hT X
  have hpl : e.platform.magicAccessors = ({} : Platform).magicAccessors := by rw [X.admits.platform]
  obtain ⟨c3, c4, hc3, hc4, hasg⟩ := Cond.castable_spec hcast
  cases Option.some.inj (hc3.symm.trans hcl)
  obtain ⟨c5, hc5, hcl5⟩ := Cond.classLink_spec hown hlink e.platform hpl
  cases Option.some.inj (hc4.symm.trans hc5)
  obtain ⟨vm', X', st⟩ := Stand.thenCaughtThrough X q (g := F0 m pc ls rest) rfl (Steps.refl _) (by rw [hT]; exact hcell) (by rw [hv]; rfl) (by obtain ⟨k9, h9, -⟩ := Vm.findClass_spec hcl; exact ⟨k9, h9⟩) pre x suf hsplit
    (fun z hz => by
      rcases hpass z hz with h | ⟨hz0, nm, hl1, hn1⟩
      · exact Or.inl h
      · obtain ⟨c6, hc6, hcl6⟩ := Cond.classLink_spec hown hl1 e.platform hpl
        obtain ⟨a8, b8, h1, h2, h3⟩ := hn1
        cases Option.some.inj (h1.symm.trans hcl)
        cases Option.some.inj (h2.symm.trans hc6)
        exact Or.inr ⟨hz0, _, hcl6, h3⟩) hx (Or.inr ⟨h0, c4, hcl5, hasg⟩)
  obtain ⟨t, a1, b1⟩ := kk (T.setVm vm') hT X'
  exact ⟨t, st.trans a1, b1⟩
end Rows
section Ends
variable {p : Program} {l : Launch} {e : Env} {R : Room} {s : State} {m : MethodId} {args : Array Value} {below : List Frame} {meth : Method} {c : Code} {H : Heap} {locs : List Loc} {cells slots : Nat} {Q : State → Prop}
variable {mc ms : Nat} {free : Addr → Prop} {A0 A1 : Nat → Prop} {H0 : Heap} {a : Array Value} {ls : Array Slot} {st0 rest : List Value}
variable {Qc : Array Value → State → Outcome → State → Prop} {XC : String → State → State → Prop}
/-- what a body that may throw owes at its end -/
def vx_MQ (below : List Frame) (Qc : Array Value → State → Outcome → State → Prop) (XC : String → State → State → Prop) (a : Array Value) (s : State) (mc ms : Nat) (free : Addr → Prop) : State → Prop := fun t =>
  ∃ o, t.status = .running ∧ Ended t below o ∧ vx_Q Qc XC mc ms free a s o t
theorem vx_ret {g : JFrame} {mc ms : Nat} (k : W p l e R s m args below meth c H locs cells slots (MQ below Qc args s mc ms free) g) : W p l e R s m args below meth c H locs cells slots (vx_MQ below Qc XC args s mc ms free) g := by
  intro T hT X
  obtain ⟨t, a1, o, b1, b2, b3, b4⟩ := k T hT X
  exact ⟨t, a1, o, b1, b2, Or.inl ⟨b3, b4⟩⟩
/-- not caught here: it goes on to the caller -/
theorem vx_widen {g : JFrame} {q : Addr} {k n : Nat} (h1 : cells ≤ k) (h2 : slots ≤ n) (kk : vx_W p l e R s m args below meth c H locs k n Q g q) : vx_W p l e R s m args below meth c H locs cells slots Q g q := fun T hT X => kk T hT (stand_widen X h1 h2)
theorem vx_out {pc : Nat} {E : String} {ce : Cell} {q : Addr} {mc ms : Nat} (hout : ∀ x ∈ c.exceptionTable.toList, covers x pc = false) (hlocks : meth.locks = false) (hcell : H[q]? = some ce) (hv : ce.vm = .none) (hcl : s.vm.findClass E = some ce.cls)
    (hx : ∀ t : State, t.heap = H → s.vm.Alike t.vm → XC E s t) (hf : ∀ z ∈ locs, free z.base) (hc : cells ≤ mc) (hs : slots ≤ ms) :
    vx_W p l e R s m args below meth c H locs cells slots (vx_MQ below Qc XC args s mc ms free) (F0 m pc ls rest) q := by
  intro T hT X
  obtain ⟨st1, hrun, hend, hW, hsm⟩ := X.leaveThrown q (g := F0 m pc ls rest) rfl rfl rfl hout hlocks
  have hcell9 : (T.setFrames (.throwing q :: below)).heap[q]? = some ce := by
    show T.heap[q]? = some ce
    rw [hT]; exact hcell
  exact ⟨_, st1, .threw q, hrun, hend, Or.inr ⟨q, rfl, E, ce, locs, hx _ hT hW.alike, hcell9, hv, hcl, hW, hsm.mono hc hs, hf⟩⟩
theorem vx_frame {U : State} {k n : Nat} (h : s.sameButNew ({ U with vm := s.vm } : State) locs k n) : s.heap.size ≤ U.heap.size ∧ ∀ q : Nat, q < s.heap.size → (∀ z ∈ locs, z.base ≠ q) → U.heap[q]? = s.heap[q]? := by
  obtain ⟨-, h2, -, -, -, h6⟩ := h
  refine ⟨h2, fun q hq hz => ?_⟩
  obtain ⟨c9, e1, e2, e3, e4⟩ := h6 q _ (Array.getElem?_eq_getElem hq)
  have hs : c9.slots = (s.heap[q]).slots := Array.ext_getElem? fun i => e4 i fun hm => hz _ hm rfl
  have h9 : c9 = s.heap[q] := by
    rw [hs] at e2
    exact e2
  have e5 : U.heap[q]? = some c9 := e1
  rw [e5, h9, Array.getElem?_eq_getElem hq]
/-- the words of a throw but the four that speak of the heap -/
def vx_no (w : Cond) : Bool := decide (w ≠ .isRef (.static Bundle.tN "UNASSIGNED_STACK" Bundle.steD)) && decide (w ≠ .isRef (.static Bundle.tN "SUPPRESSED_SENTINEL" Bundle.listD)) && decide (w ≠ .laysStatic Bundle.tN "UNASSIGNED_STACK" Bundle.steD) && decide (w ≠ .laysStatic Bundle.tN "SUPPRESSED_SENTINEL" Bundle.listD)
def vx_at0 (own : String) (ic : Nat) (X : String) (names : List String) : List Cond := (Bundle.ownAtoms0 own ic X names).filter vx_no
def vx_atS (own : String) (ic : Nat) (X : String) (names : List String) : List Cond := (Bundle.ownAtoms own ic X names).filter vx_no
/-- a word that the tables alone decide, or a good one -/
def vx_ot (w : Cond) : Bool := w.onTables || goodWord w
theorem vx_ot_at {args a' : Array Value} {s U : State} {w : Cond} (hW : s.WarmedH U.vm) (hvm : s.vm = U.vm) (hg : vx_ot w = true) (h : w.before args s = true) : w.before a' U = true := by
  simp only [vx_ot, Bool.or_eq_true] at hg
  rcases hg with hg | hg
  · exact va_tabs hg hvm h
  · exact word_at hW (good_of_word hg) h
/-- a list's words: the good ones out of the method's own list, the others by premises of their own -/
theorem vx_hat {args : Array Value} {s : State} {L B : List Cond} (h1 : ∀ w ∈ L.filter goodWord, w.before args s = true) (h2 : ∀ w ∈ L.filter (fun w => !goodWord w), w ∈ B) (h3 : ∀ w ∈ B, w.before args s = true) : ∀ w ∈ L, w.before args s = true := by
  intro w hw
  by_cases g : goodWord w = true
  · exact h1 w (List.mem_filter.mpr ⟨hw, g⟩)
  · refine h3 w (h2 w (List.mem_filter.mpr ⟨hw, ?_⟩))
    show (!goodWord w) = true
    cases hgw : goodWord w
    · rfl
    · exact absurd hgw g
theorem vx_c {args : Array Value} {s : State} {w : Cond} {B : List Cond} (h : w.before args s = true) (t : ∀ w ∈ B, w.before args s = true) : ∀ w' ∈ w :: B, w'.before args s = true := fun w' h' => (List.mem_cons.mp h').elim (fun e => by rw [e]; exact h) (t w')
theorem vx_n {args : Array Value} {s : State} : ∀ w ∈ ([] : List Cond), w.before args s = true := fun _ h => nomatch h
theorem vx_own {args : Array Value} {s : State} {L : List Cond} (h1 : ∀ w ∈ L.filter vx_no, w.before args s = true)
    (hU : (Cond.isRef (.static Bundle.tN "UNASSIGNED_STACK" Bundle.steD)).before args s = true) (hN : (Cond.isRef (.static Bundle.tN "SUPPRESSED_SENTINEL" Bundle.listD)).before args s = true)
    (lU : (Cond.laysStatic Bundle.tN "UNASSIGNED_STACK" Bundle.steD).before args s = true) (lN : (Cond.laysStatic Bundle.tN "SUPPRESSED_SENTINEL" Bundle.listD).before args s = true) : ∀ w ∈ L, w.before args s = true := by
  intro w hw
  by_cases e1 : w = .isRef (.static Bundle.tN "UNASSIGNED_STACK" Bundle.steD)
  · rw [e1]; exact hU
  · by_cases e2 : w = .isRef (.static Bundle.tN "SUPPRESSED_SENTINEL" Bundle.listD)
    · rw [e2]; exact hN
    · by_cases e3 : w = .laysStatic Bundle.tN "UNASSIGNED_STACK" Bundle.steD
      · rw [e3]; exact lU
      · by_cases e4 : w = .laysStatic Bundle.tN "SUPPRESSED_SENTINEL" Bundle.listD
        · rw [e4]; exact lN
        · exact h1 w (List.mem_filter.mpr ⟨hw, by unfold vx_no; rw [decide_eq_true e1, decide_eq_true e2, decide_eq_true e3, decide_eq_true e4]; rfl⟩)
/-- where a static field lies, its class's statics cell in H -/
def vx_L (C n d : String) (A : Nat → Prop) (U : State) (H : Heap) : Prop := ∃ (c : ClassId) (k : Class) (i : Nat) (f : Field) (a : Nat) (cell : Cell), U.vm.findClass C = some c ∧ U.fieldFound? C n d = some (c, k, i, f) ∧ f.isStatic = true ∧ k.statics = some a ∧ H[a]? = some cell ∧ cell.vm.isStatics = true ∧ cell.cls = c ∧ f.slot < cell.slots.size ∧ k.staticTypes[f.slot]? = some f.type ∧ ¬ A a
theorem vx_L.moved {C n d : String} {A : Nat → Prop} {u U : State} {H : Heap} (hvm : u.vm.Alike U.vm) (h : vx_L C n d A u H) : vx_L C n d A U H := by
  obtain ⟨c, k, i, f, a, cell, h1, h2, h3, h4, h5, h6, h7, h8, h9, h10⟩ := h
  obtain ⟨k', hi', he⟩ := State.fieldFound?_setVm hvm h2
  exact ⟨c, k', i, f, a, cell, by rw [hvm.findClass]; exact h1, hi', h3, by rw [he]; exact h4, h5, h6, h7, h8, by rw [he]; exact h9, h10⟩
theorem vx_L.kept {C n d : String} {A : Nat → Prop} {U : State} {H H1 : Heap} (h : vx_L C n d A U H) (hq : ∀ a : Nat, a < H.size → ¬ A a → H1[a]? = H[a]?) : vx_L C n d A U H1 := by
  obtain ⟨c, k, i, f, a, cell, h1, h2, h3, h4, h5, h6, h7, h8, h9, h10⟩ := h
  exact ⟨c, k, i, f, a, cell, h1, h2, h3, h4, by rw [hq a (Array.getElem?_eq_some_iff.mp h5).1 h10]; exact h5, h6, h7, h8, h9, h10⟩
theorem vx_L.narrow {C n d : String} {A B : Nat → Prop} {U : State} {H : Heap} (h : vx_L C n d A U H) (hAB : ∀ q, B q → A q) : vx_L C n d B U H := by
  obtain ⟨c, k, i, f, a, cell, h1, h2, h3, h4, h5, h6, h7, h8, h9, h10⟩ := h
  exact ⟨c, k, i, f, a, cell, h1, h2, h3, h4, h5, h6, h7, h8, h9, fun z => h10 (hAB _ z)⟩
theorem vx_L.word {C n d : String} {A : Nat → Prop} {s : State} {args : Array Value} (h : vx_L C n d A s s.heap) : (Cond.laysStatic C n d).before args s = true := by
  obtain ⟨c, k, i, f, a, cell, h1, h2, h3, h4, h5, h6, h7, h8, h9, -⟩ := h
  show (Cond.laysStatic C n d).holds args s none s [] = true
  exact Cond.laysStatic_of h1 h2 h3 h4 h5 h6 h7 h8 h9
/-- .. and what it holds: null or some reference -/
def vx_Zq (C n d : String) (A : Nat → Prop) (U : State) (H : Heap) : Prop := va_Zq C n d A U H ∧ vx_L C n d A U H
theorem vx_Zq.moved {C n d : String} {A : Nat → Prop} {u U : State} {H : Heap} (hvm : u.vm.Alike U.vm) (h : vx_Zq C n d A u H) : vx_Zq C n d A U H := ⟨va_Zq.moved hvm h.1, vx_L.moved hvm h.2⟩
theorem vx_Zq.kept {C n d : String} {A : Nat → Prop} {U : State} {H H1 : Heap} (h : vx_Zq C n d A U H) (hq : ∀ a : Nat, a < H.size → ¬ A a → H1[a]? = H[a]?) : vx_Zq C n d A U H1 := ⟨va_Zq.kept h.1 hq, vx_L.kept h.2 hq⟩
theorem vx_Zq.narrow {C n d : String} {A B : Nat → Prop} {U : State} {H : Heap} (h : vx_Zq C n d A U H) (hAB : ∀ q, B q → A q) : vx_Zq C n d B U H := ⟨va_Zq.narrow h.1 hAB, vx_L.narrow h.2 hAB⟩
theorem vx_Zqof {args : Array Value} {s : State} {C n d : String} {A : Nat → Prop} (hl : (Cond.laysStatic C n d).before args s = true) (hini : (Cond.initialized C).before args s = true) (h : (Cond.isRef (.static C n d)).before args s = true) (hA : ∀ a : Nat, a < s.heap.size → ¬ A a) : vx_Zq C n d A s s.heap := by
  refine ⟨va_Zqof hl hini h hA, ?_⟩
  obtain ⟨c, k, i, f, a, cell, h1, h2, h3, h4, h5, h6, h7, h8, h9⟩ := Cond.laysStatic_spec hl
  exact ⟨c, k, i, f, a, cell, h1, h2, h3, h4, h5, h6, h7, h8, h9, hA a (Array.getElem?_eq_some_iff.mp h5).1⟩
theorem vx_isRef {C n d : String} {v : Value} {A : Nat → Prop} {s : State} {args : Array Value} (h : va_Z C n d v A s s.heap) (hv : v.isRef = true) : (Cond.isRef (.static C n d)).before args s = true := by
  obtain ⟨cf, kf, fi, f, a, cell, h1, h2, h3, h4, h5, h6, h7, -⟩ := h
  have he : (Term.static C n d).eval args s none [] s = some v := by
    simp [Term.eval, State.fieldNamed?, h1, h2, h4, h5, h6, h7]
  simp only [Cond.before, Cond.holds, Cond.value, he]
  cases v <;> simp_all [Value.isRef]
theorem vx_isRefq {C n d : String} {A : Nat → Prop} {s : State} {args : Array Value} (h : va_Zq C n d A s s.heap) : (Cond.isRef (.static C n d)).before args s = true := by
  rcases h with h | ⟨t, h⟩
  · exact vx_isRef h rfl
  · exact vx_isRef h rfl
/-- the same frame, seen from here: as if the method were called anew in this heap -/
theorem vx_rebase {T : State} (X : Stand p l e R s m args below meth c T locs cells slots) {R' : Room} (hf : R'.frames ≤ R.frames) (hl : R'.locals ≤ R.locals) (hc : cells + R'.cells ≤ R.cells) (hs : slots + R'.slots ≤ R.slots) :
    Stand p l e R' ((T.setVm s.vm).setFrames (.invoking m args :: below)) m args below meth c T [] 0 0 := by
  have htop : (T.setVm s.vm).topJava?.isSome := X.here.top
  have hF : ((T.setVm s.vm).setFrames (.invoking m args :: below)).frames = .invoking m args :: below := State.frames_setFrames _ (State.cur_lt_of_top htop)
  obtain ⟨g₀, hg0⟩ := Option.isSome_iff_exists.mp htop
  obtain ⟨r, hr⟩ := State.topJava?_eq_some.mp hg0
  have hl9 : e.platform.stackLimits (T.setVm s.vm).me = e.platform.stackLimits s.me := X.limits
  have hb9 : (T.setVm s.vm).me.stackBytes = s.me.stackBytes := X.bytes
  refine ⟨X.admits, X.cas, X.clock, hF, ?_, X.hears, X.method, X.code, X.here, X.tail, X.warmed, ?_, ?_, ?_⟩
  · have h := X.room
    have hU : ((T.setVm s.vm).setFrames (.invoking m args :: below)).localsInUse = s.localsInUse := by
      rw [State.localsInUse_invoking hF (meth := meth) (c := c) X.method X.code, State.localsInUse_invoking X.frames X.method X.code]
    simp only [State.hasRoom, Bool.and_eq_true, decide_eq_true_eq] at h ⊢
    obtain ⟨⟨⟨⟨h1, h2, h3, h4, h5, h6⟩, h7⟩, h8⟩, h9⟩ := h
    rw [X.frames, List.length_cons] at h2 h3
    have q1 := X.heapSize
    have q2 := X.used
    simp only [hF, hU, List.length_cons, State.stackLimits_setFrames, State.stackBytes_setFrames, hl9, hb9]
    refine ⟨⟨⟨⟨by omega, by omega, by omega, by omega, by omega, h6⟩, ?_⟩, ?_⟩, X.book⟩
    · show T.heap.size + R'.cells ≤ e.platform.maxCells
      omega
    · show T.slotsUsed + R'.slots ≤ e.platform.maxSlots
      omega
  · rw [State.stackLimits_setFrames]; rfl
  · rw [State.stackBytes_setFrames]; rfl
  · refine ⟨?_, Nat.le_refl _, Nat.le_refl _, ?_, ?_, fun a c9 h9 => ⟨c9, h9, rfl, rfl, fun _ _ => rfl⟩⟩
    · obtain ⟨t, ht, -⟩ := State.frames_cons hr
      show T.setVm s.vm = { ((T.setVm s.vm).setFrames (.invoking m args :: below)).setFrames (T.setVm s.vm).frames with heap := T.heap, slotsUsed := T.slotsUsed }
      rw [State.setFrames_setFrames, State.setFrames_self ht]
      rfl
    · show T.slotsUsed = T.slotsUsed + ((T.heap.toList.drop T.heap.size).map (·.slots.size)).sum
      rw [List.drop_eq_nil_of_le (Nat.le_of_eq Array.length_toList)]
      rfl
    · show ((T.heap.toList.drop T.heap.size).map (·.slots.size)).sum ≤ 0
      rw [List.drop_eq_nil_of_le (Nat.le_of_eq Array.length_toList)]
      exact Nat.le_refl _
/-- 'throw new E()': new; dup; invokespecial; athrow -/
theorem vx_throw0 {cc : ByteArray} {pc : Nat} (hexec : p.tables.exec = Jvm.exec) (hb : c.code = cc) (hl : l.stackTraces = false) {own cls : String} {names : List String} {ik ic mc ms : Nat} {A : Nat → Prop}
    (hown : s.vm.findClass own = some m.cls) (hcls : Bundle.fit cls = true) (hnames : ∀ n ∈ names, Bundle.fit n = true)
    (hk : (Cond.classLink own ik cls).before args s = true) (hini : (Cond.initialized cls).before args s = true) (hat : ∀ w ∈ vx_at0 own ic cls names, w.before args s = true)
    (hgood : ∀ w ∈ Cond.classLink own ik cls :: Cond.initialized cls :: vx_at0 own ic cls names, vx_ot w = true)
    (hU : vx_Zq Bundle.tN "UNASSIGNED_STACK" Bundle.steD A s s.heap) (hN : vx_Zq Bundle.tN "SUPPRESSED_SENTINEL" Bundle.listD A s s.heap) (hS : va_S A s.heap H locs) (hsize : ls.size = c.maxLocals)
    (d0 : decode cc pc = .ok (.new ik, 3)) (d3 : decode cc (pc + 3) = .ok (.dup, 1)) (d4 : decode cc (pc + 4) = .ok (.invokespecial ic, 3)) (d7 : decode cc (pc + 7) = .ok (.athrow, 1))
    (hout : ∀ x ∈ c.exceptionTable.toList, covers x (pc + 7) = false)
    (hRframes : names.length + 3 < R.frames) (hRlocals : (rest.map fun v => v.category).sum + (13 * (names.length + 1) + 42) ≤ R.locals) (hRcells : cells + 1 ≤ R.cells) (hRslots : slots + 6 ≤ R.slots) (hlocks : meth.locks = false)
    (hx : ∀ t : State, s.vm.Alike t.vm → H.size ≤ t.heap.size → (∀ q : Nat, q < H.size → t.heap[q]? = H[q]?) → XC cls s t)
    (hf : ∀ z ∈ locs, free z.base) (hc : cells + 1 ≤ mc) (hs : slots + 6 ≤ ms) :
    W p l e R s m args below meth c H locs cells slots (vx_MQ below Qc XC args s mc ms free) (F0 m pc ls rest) := by
  intro T hT X
  have htr : e.platform.stackTraces = false := (show e.platform.stackTraces = l.stackTraces by rw [X.admits.platform]).trans hl
  have Y := vx_rebase X (R' := { frames := R.frames, locals := R.locals, cells := 1, slots := 6 }) (Nat.le_refl _) (Nat.le_refl _) hRcells hRslots
  obtain ⟨s', hA⟩ : ∃ z, z = (T.setVm s.vm).setFrames (.invoking m args :: below) := ⟨_, rfl⟩
  rw [← hA] at Y
  have hvm : s'.vm = s.vm := by rw [hA]; rfl
  have hhp : s'.heap = H := by rw [hA]; exact hT
  have hW0 : s.WarmedH s'.vm := by rw [hvm]; exact State.WarmedH.refl s
  have hat' : ∀ w ∈ vx_at0 own ic cls names, w.before args s' = true := fun w hw => vx_ot_at hW0 hvm.symm (hgood w (List.mem_cons_of_mem _ (List.mem_cons_of_mem _ hw))) (hat w hw)
  have hk' : (Cond.classLink own ik cls).before args s' = true := vx_ot_at hW0 hvm.symm (hgood _ List.mem_cons_self) hk
  have hini' : (Cond.initialized cls).before args s' = true := vx_ot_at hW0 hvm.symm (hgood _ (List.mem_cons_of_mem _ List.mem_cons_self)) hini
  have hU' : vx_Zq Bundle.tN "UNASSIGNED_STACK" Bundle.steD A s' s'.heap := by rw [hhp]; exact vx_Zq.moved hW0.alike (hU.kept hS.2.1)
  have hN' : vx_Zq Bundle.tN "SUPPRESSED_SENTINEL" Bundle.listD A s' s'.heap := by rw [hhp]; exact vx_Zq.moved hW0.alike (hN.kept hS.2.1)
  have h : ∀ w ∈ Bundle.ownAtoms0 own ic cls names, w.before args s' = true := vx_own hat' (vx_isRefq hU'.1) (vx_isRefq hN'.1) hU'.2.word hN'.2.word
  have hown' : s'.vm.findClass own = some m.cls := by rw [hvm]; exact hown
  have hins : (Cond.instantiable cls 6).before args s' = true := h _ (by simp [Bundle.ownAtoms0])
  obtain ⟨vm₁, cX, kX, hfX, hkX, -, -, X₁, st1⟩ := Y.newCold hexec (own := own) (C := cls) (index := ik) (n := 6) hown' hk' hins hini'
    (g := F0 m pc ls rest) rfl (by rw [hb]; exact d0) (Nat.le_refl _) (Nat.le_refl _)
  generalize hT1 : (T.setVm vm₁).pushCell { cls := cX, slots := kX.instanceTypes.map defaultValue, vm := .none } = T1 at X₁ st1
  have hcat : (Value.ref T.heap.size).category = 1 := rfl
  have hcellA : T1.heap[T.heap.size]? = some (freshCell cX kX) := by rw [← hT1]; exact State.heap_pushCell_size _ _
  have d3' : decode c.code (pc + 3) = .ok (.dup, 1) := by rw [hb]; exact d3
  obtain ⟨U, hsteps, hrun, hend, hW, hsame, ce, hce, hO⟩ := X₁.ctorThrow0 hexec htr (own := own) (cls := cls) (names := names) (ic := ic) hown' hcls hnames h (fun x hx => nomatch hx) hfX hkX hcellA (by rw [hhp, hT]; exact Nat.le_refl _)
    (g := { method := m, pc := pc + 4, locals := ls, stack := .ref T.heap.size :: .ref T.heap.size :: rest, locked := none }) rfl hsize rfl rfl (rest := rest) rfl
    (by rw [hb]; exact d4) (by rw [hb]; exact d7) hout hRframes (by simp only [List.map_cons, List.sum_cons, hcat]; omega) hlocks
  obtain ⟨f1, f2⟩ := vx_frame hsame
  rw [hhp] at f1 f2
  have hWs : s.WarmedH U.vm := State.WarmedH.trans hW0 hW
  have hcl : s.vm.findClass cls = some ce.cls := by
    have h9 := hO.cls
    rw [hvm] at h9
    exact h9
  have hall : s.sameButNew ({ U with vm := s.vm } : State) locs mc ms := by
    subst hA
    obtain ⟨e1, e2⟩ := hsame
    rw [State.setFrames_setFrames] at e1
    have h2 : (T.setVm s.vm).sameButNew ({ U with vm := s.vm } : State) [] (0 + 1) (0 + 6) := ⟨e1, e2⟩
    have h3 := X.same.trans h2
    rw [List.append_nil] at h3
    exact h3.mono hc hs
  refine ⟨U, ?_, .threw T.heap.size, hrun, hend, Or.inr ⟨T.heap.size, rfl, cls, ce, locs, hx U hWs.alike f1 (fun q hq => f2 q hq (fun z hz => nomatch hz)), hce, hO.vm, hcl, hWs, hall, hf⟩⟩
  refine st1 _ ?_
  show Steps p.tables e below (T1.setTop { method := m, pc := pc + 3, locals := ls, stack := .ref T.heap.size :: rest, locked := none }) _
  jvm_step X₁.here [X₁.here.top, hexec, d3', Value.category]
  exact hsteps
/-- 'throw new E("text")': new; dup; ldc; invokespecial; athrow -/
theorem vx_throwS {cc : ByteArray} {pc : Nat} (hexec : p.tables.exec = Jvm.exec) (hb : c.code = cc) (hl : l.stackTraces = false) {own cls text : String} {names : List String} {ik is ic mc ms sa : Nat} {A : Nat → Prop}
    (hown : s.vm.findClass own = some m.cls) (hcls : Bundle.fit cls = true) (hnames : ∀ n ∈ names, Bundle.fit n = true)
    (hk : (Cond.classLink own ik cls).before args s = true) (hini : (Cond.initialized cls).before args s = true) (hstr : vk_R own is text sa s) (hat : ∀ w ∈ vx_atS own ic cls names, w.before args s = true)
    (hgood : ∀ w ∈ Cond.classLink own ik cls :: Cond.initialized cls :: vx_atS own ic cls names, vx_ot w = true)
    (hU : vx_Zq Bundle.tN "UNASSIGNED_STACK" Bundle.steD A s s.heap) (hN : vx_Zq Bundle.tN "SUPPRESSED_SENTINEL" Bundle.listD A s s.heap) (hS : va_S A s.heap H locs) (hsize : ls.size = c.maxLocals)
    (d0 : decode cc pc = .ok (.new ik, 3)) (d3 : decode cc (pc + 3) = .ok (.dup, 1)) (d4 : decode cc (pc + 4) = .ok (.ldc is, 2)) (d6 : decode cc (pc + 6) = .ok (.invokespecial ic, 3)) (d9 : decode cc (pc + 9) = .ok (.athrow, 1))
    (hout : ∀ x ∈ c.exceptionTable.toList, covers x (pc + 9) = false)
    (hRframes : names.length + 3 < R.frames) (hRlocals : (rest.map fun v => v.category).sum + (13 * (names.length + 1) + 43) ≤ R.locals) (hRcells : cells + 1 ≤ R.cells) (hRslots : slots + 6 ≤ R.slots) (hlocks : meth.locks = false)
    (hx : ∀ t : State, s.vm.Alike t.vm → H.size ≤ t.heap.size → (∀ q : Nat, q < H.size → t.heap[q]? = H[q]?) → XC cls s t)
    (hf : ∀ z ∈ locs, free z.base) (hc : cells + 1 ≤ mc) (hs : slots + 6 ≤ ms) :
    W p l e R s m args below meth c H locs cells slots (vx_MQ below Qc XC args s mc ms free) (F0 m pc ls rest) := by
  intro T hT X
  have htr : e.platform.stackTraces = false := (show e.platform.stackTraces = l.stackTraces by rw [X.admits.platform]).trans hl
  have Y := vx_rebase X (R' := { frames := R.frames, locals := R.locals, cells := 1, slots := 6 }) (Nat.le_refl _) (Nat.le_refl _) hRcells hRslots
  obtain ⟨s', hA⟩ : ∃ z, z = (T.setVm s.vm).setFrames (.invoking m args :: below) := ⟨_, rfl⟩
  rw [← hA] at Y
  have hvm : s'.vm = s.vm := by rw [hA]; rfl
  have hhp : s'.heap = H := by rw [hA]; exact hT
  have hW0 : s.WarmedH s'.vm := by rw [hvm]; exact State.WarmedH.refl s
  have hat' : ∀ w ∈ vx_atS own ic cls names, w.before args s' = true := fun w hw => vx_ot_at hW0 hvm.symm (hgood w (List.mem_cons_of_mem _ (List.mem_cons_of_mem _ hw))) (hat w hw)
  have hk' : (Cond.classLink own ik cls).before args s' = true := vx_ot_at hW0 hvm.symm (hgood _ List.mem_cons_self) hk
  have hini' : (Cond.initialized cls).before args s' = true := vx_ot_at hW0 hvm.symm (hgood _ (List.mem_cons_of_mem _ List.mem_cons_self)) hini
  have hU' : vx_Zq Bundle.tN "UNASSIGNED_STACK" Bundle.steD A s' s'.heap := by rw [hhp]; exact vx_Zq.moved hW0.alike (hU.kept hS.2.1)
  have hN' : vx_Zq Bundle.tN "SUPPRESSED_SENTINEL" Bundle.listD A s' s'.heap := by rw [hhp]; exact vx_Zq.moved hW0.alike (hN.kept hS.2.1)
  have h : ∀ w ∈ Bundle.ownAtoms own ic cls names, w.before args s' = true := vx_own hat' (vx_isRefq hU'.1) (vx_isRefq hN'.1) hU'.2.word hN'.2.word
  have hown' : s'.vm.findClass own = some m.cls := by rw [hvm]; exact hown
  have hins : (Cond.instantiable cls 6).before args s' = true := h _ (by simp [Bundle.ownAtoms])
  obtain ⟨vm₁, cX, kX, hfX, hkX, -, -, X₁, st1⟩ := Y.newCold hexec (own := own) (C := cls) (index := ik) (n := 6) hown' hk' hins hini'
    (g := F0 m pc ls rest) rfl (by rw [hb]; exact d0) (Nat.le_refl _) (Nat.le_refl _)
  generalize hT1 : (T.setVm vm₁).pushCell { cls := cX, slots := kX.instanceTypes.map defaultValue, vm := .none } = T1 at X₁ st1
  have hcat : (Value.ref T.heap.size).category = 1 := rfl
  have hcellA : T1.heap[T.heap.size]? = some (freshCell cX kX) := by rw [← hT1]; exact State.heap_pushCell_size _ _
  have d3' : decode c.code (pc + 3) = .ok (.dup, 1) := by rw [hb]; exact d3
  have d4' : decode c.code (pc + 4) = .ok (.ldc is, 2) := by rw [hb]; exact d4
  have hstr' : vk_R own is text sa s' := vk_R.warm hW0 hstr
  obtain ⟨U, hsteps, hrun, hend, hW, hsame, ce, hce, hO⟩ := X₁.ctorThrowS hexec htr (own := own) (cls := cls) (names := names) (ic := ic) hown' hcls hnames h (fun x hx => nomatch hx) hfX hkX hcellA (by rw [hhp, hT]; exact Nat.le_refl _) (msg := .ref sa) rfl
    (g := { method := m, pc := pc + 6, locals := ls, stack := .ref sa :: .ref T.heap.size :: .ref T.heap.size :: rest, locked := none }) rfl hsize rfl rfl (rest := rest) rfl
    (by rw [hb]; exact d6) (by rw [hb]; exact d9) hout hRframes (by simp only [List.map_cons, List.sum_cons, hcat]; omega) hlocks
  obtain ⟨f1, f2⟩ := vx_frame hsame
  rw [hhp] at f1 f2
  have hWs : s.WarmedH U.vm := State.WarmedH.trans hW0 hW
  have hcl : s.vm.findClass cls = some ce.cls := by
    have h9 := hO.cls
    rw [hvm] at h9
    exact h9
  have hall : s.sameButNew ({ U with vm := s.vm } : State) locs mc ms := by
    subst hA
    obtain ⟨e1, e2⟩ := hsame
    rw [State.setFrames_setFrames] at e1
    have h2 : (T.setVm s.vm).sameButNew ({ U with vm := s.vm } : State) [] (0 + 1) (0 + 6) := ⟨e1, e2⟩
    have h3 := X.same.trans h2
    rw [List.append_nil] at h3
    exact h3.mono hc hs
  refine ⟨U, ?_, .threw T.heap.size, hrun, hend, Or.inr ⟨T.heap.size, rfl, cls, ce, locs, hx U hWs.alike f1 (fun q hq => f2 q hq (fun z hz => nomatch hz)), hce, hO.vm, hcl, hWs, hall, hf⟩⟩
  refine st1 _ ?_
  show Steps p.tables e below (T1.setTop { method := m, pc := pc + 3, locals := ls, stack := .ref T.heap.size :: rest, locked := none }) _
  jvm_step X₁.here [X₁.here.top, hexec, d3', Value.category]
  exact X₁.ldcString hexec (own := own) (text := text) (index := is) (a := sa) hown' hstr'.1 hstr'.2
    (g := { method := m, pc := pc + 4, locals := ls, stack := .ref T.heap.size :: .ref T.heap.size :: rest, locked := none }) rfl d4' _ hsteps
/-- 'throw new E("text")', the text by a wide index -/
theorem vx_throwSW {cc : ByteArray} {pc : Nat} (hexec : p.tables.exec = Jvm.exec) (hb : c.code = cc) (hl : l.stackTraces = false) {own cls text : String} {names : List String} {ik is ic mc ms sa : Nat} {A : Nat → Prop}
    (hown : s.vm.findClass own = some m.cls) (hcls : Bundle.fit cls = true) (hnames : ∀ n ∈ names, Bundle.fit n = true)
    (hk : (Cond.classLink own ik cls).before args s = true) (hini : (Cond.initialized cls).before args s = true) (hstr : vk_R own is text sa s) (hat : ∀ w ∈ vx_atS own ic cls names, w.before args s = true)
    (hgood : ∀ w ∈ Cond.classLink own ik cls :: Cond.initialized cls :: vx_atS own ic cls names, vx_ot w = true)
    (hU : vx_Zq Bundle.tN "UNASSIGNED_STACK" Bundle.steD A s s.heap) (hN : vx_Zq Bundle.tN "SUPPRESSED_SENTINEL" Bundle.listD A s s.heap) (hS : va_S A s.heap H locs) (hsize : ls.size = c.maxLocals)
    (d0 : decode cc pc = .ok (.new ik, 3)) (d3 : decode cc (pc + 3) = .ok (.dup, 1)) (d4 : decode cc (pc + 4) = .ok (.ldc_w is, 3)) (d7 : decode cc (pc + 7) = .ok (.invokespecial ic, 3)) (d10 : decode cc (pc + 10) = .ok (.athrow, 1))
    (hout : ∀ x ∈ c.exceptionTable.toList, covers x (pc + 10) = false)
    (hRframes : names.length + 3 < R.frames) (hRlocals : (rest.map fun v => v.category).sum + (13 * (names.length + 1) + 43) ≤ R.locals) (hRcells : cells + 1 ≤ R.cells) (hRslots : slots + 6 ≤ R.slots) (hlocks : meth.locks = false)
    (hx : ∀ t : State, s.vm.Alike t.vm → H.size ≤ t.heap.size → (∀ q : Nat, q < H.size → t.heap[q]? = H[q]?) → XC cls s t)
    (hf : ∀ z ∈ locs, free z.base) (hc : cells + 1 ≤ mc) (hs : slots + 6 ≤ ms) :
    W p l e R s m args below meth c H locs cells slots (vx_MQ below Qc XC args s mc ms free) (F0 m pc ls rest) := by
  intro T hT X
  have htr : e.platform.stackTraces = false := (show e.platform.stackTraces = l.stackTraces by rw [X.admits.platform]).trans hl
  have Y := vx_rebase X (R' := { frames := R.frames, locals := R.locals, cells := 1, slots := 6 }) (Nat.le_refl _) (Nat.le_refl _) hRcells hRslots
  obtain ⟨s', hA⟩ : ∃ z, z = (T.setVm s.vm).setFrames (.invoking m args :: below) := ⟨_, rfl⟩
  rw [← hA] at Y
  have hvm : s'.vm = s.vm := by rw [hA]; rfl
  have hhp : s'.heap = H := by rw [hA]; exact hT
  have hW0 : s.WarmedH s'.vm := by rw [hvm]; exact State.WarmedH.refl s
  have hat' : ∀ w ∈ vx_atS own ic cls names, w.before args s' = true := fun w hw => vx_ot_at hW0 hvm.symm (hgood w (List.mem_cons_of_mem _ (List.mem_cons_of_mem _ hw))) (hat w hw)
  have hk' : (Cond.classLink own ik cls).before args s' = true := vx_ot_at hW0 hvm.symm (hgood _ List.mem_cons_self) hk
  have hini' : (Cond.initialized cls).before args s' = true := vx_ot_at hW0 hvm.symm (hgood _ (List.mem_cons_of_mem _ List.mem_cons_self)) hini
  have hU' : vx_Zq Bundle.tN "UNASSIGNED_STACK" Bundle.steD A s' s'.heap := by rw [hhp]; exact vx_Zq.moved hW0.alike (hU.kept hS.2.1)
  have hN' : vx_Zq Bundle.tN "SUPPRESSED_SENTINEL" Bundle.listD A s' s'.heap := by rw [hhp]; exact vx_Zq.moved hW0.alike (hN.kept hS.2.1)
  have h : ∀ w ∈ Bundle.ownAtoms own ic cls names, w.before args s' = true := vx_own hat' (vx_isRefq hU'.1) (vx_isRefq hN'.1) hU'.2.word hN'.2.word
  have hown' : s'.vm.findClass own = some m.cls := by rw [hvm]; exact hown
  have hins : (Cond.instantiable cls 6).before args s' = true := h _ (by simp [Bundle.ownAtoms])
  obtain ⟨vm₁, cX, kX, hfX, hkX, -, -, X₁, st1⟩ := Y.newCold hexec (own := own) (C := cls) (index := ik) (n := 6) hown' hk' hins hini'
    (g := F0 m pc ls rest) rfl (by rw [hb]; exact d0) (Nat.le_refl _) (Nat.le_refl _)
  generalize hT1 : (T.setVm vm₁).pushCell { cls := cX, slots := kX.instanceTypes.map defaultValue, vm := .none } = T1 at X₁ st1
  have hcat : (Value.ref T.heap.size).category = 1 := rfl
  have hcellA : T1.heap[T.heap.size]? = some (freshCell cX kX) := by rw [← hT1]; exact State.heap_pushCell_size _ _
  have d3' : decode c.code (pc + 3) = .ok (.dup, 1) := by rw [hb]; exact d3
  have d4' : decode c.code (pc + 4) = .ok (.ldc_w is, 3) := by rw [hb]; exact d4
  have hstr' : vk_R own is text sa s' := vk_R.warm hW0 hstr
  obtain ⟨U, hsteps, hrun, hend, hW, hsame, ce, hce, hO⟩ := X₁.ctorThrowS hexec htr (own := own) (cls := cls) (names := names) (ic := ic) hown' hcls hnames h (fun x hx => nomatch hx) hfX hkX hcellA (by rw [hhp, hT]; exact Nat.le_refl _) (msg := .ref sa) rfl
    (g := { method := m, pc := pc + 7, locals := ls, stack := .ref sa :: .ref T.heap.size :: .ref T.heap.size :: rest, locked := none }) rfl hsize rfl rfl (rest := rest) rfl
    (by rw [hb]; exact d7) (by rw [hb]; exact d10) hout hRframes (by simp only [List.map_cons, List.sum_cons, hcat]; omega) hlocks
  obtain ⟨f1, f2⟩ := vx_frame hsame
  rw [hhp] at f1 f2
  have hWs : s.WarmedH U.vm := State.WarmedH.trans hW0 hW
  have hcl : s.vm.findClass cls = some ce.cls := by
    have h9 := hO.cls
    rw [hvm] at h9
    exact h9
  have hall : s.sameButNew ({ U with vm := s.vm } : State) locs mc ms := by
    subst hA
    obtain ⟨e1, e2⟩ := hsame
    rw [State.setFrames_setFrames] at e1
    have h2 : (T.setVm s.vm).sameButNew ({ U with vm := s.vm } : State) [] (0 + 1) (0 + 6) := ⟨e1, e2⟩
    have h3 := X.same.trans h2
    rw [List.append_nil] at h3
    exact h3.mono hc hs
  refine ⟨U, ?_, .threw T.heap.size, hrun, hend, Or.inr ⟨T.heap.size, rfl, cls, ce, locs, hx U hWs.alike f1 (fun q hq => f2 q hq (fun z hz => nomatch hz)), hce, hO.vm, hcl, hWs, hall, hf⟩⟩
  refine st1 _ ?_
  show Steps p.tables e below (T1.setTop { method := m, pc := pc + 3, locals := ls, stack := .ref T.heap.size :: rest, locked := none }) _
  jvm_step X₁.here [X₁.here.top, hexec, d3', Value.category]
  exact X₁.ldcStringW hexec (own := own) (text := text) (index := is) (a := sa) hown' hstr'.1 hstr'.2
    (g := { method := m, pc := pc + 4, locals := ls, stack := .ref T.heap.size :: .ref T.heap.size :: rest, locked := none }) rfl d4' _ hsteps
end Ends
section Bodies
variable {l : Launch}
theorem vx_ofW {y : MethodName} {ws ws' : List Cond} {rm : Room} {Pc : Array Value → State → Prop} {Qc : Array Value → State → Outcome → State → Prop} {XC : String → State → State → Prop} {mc ms : Nat} {free : Addr → Prop} {cc : ByteArray} {maxL : Nat} {ret : Option FieldType}
    (hy : plainName y.cls = true) (hw : ws = Cond.code y cc maxL ret :: ws')
    (body : ∀ p e s m args below meth c s₁, BodyLoose p l y (headSpec ws rm) cc maxL ret e s m args below meth c s₁ → c.maxLocals = maxL → (∀ x ∈ c.exceptionTable.toList, False) → Pc args s →
      W p l e (headSpec ws rm).room s m args below meth c s.heap [] 0 0 (vx_MQ below Qc XC args s mc ms free) (entryFrame m args maxL)) : vx_Met l y ws rm Pc Qc XC mc ms free := by
  refine MetFree.of_bodyS (code := cc) (maxLocals := maxL) (ret := ret) hy ?_ ?_
  · intro args s m h hn
    obtain ⟨meth, c, h1, h2, h3, h4, h5, h6, -, -⟩ := Cond.code_spec hn (atoms_spec (ws := ws) h _ (by rw [hw]; exact List.mem_cons_self))
    exact ⟨meth, c, h1, h2, h3, h4, h5, h6⟩
  · intro p e s m args below meth c s₁ B hml hP _
    have hh0 : s₁.heap = s.heap := by rw [B.state]; rfl
    have ht : ∀ x ∈ c.exceptionTable.toList, False := by
      obtain ⟨meth9, c9, h1, h2, -, -, -, -, h7, -⟩ := Cond.code_spec B.named (atoms_spec (ws := ws) B.pre _ (by rw [hw]; exact List.mem_cons_self))
      cases Option.some.inj (h1.symm.trans B.method)
      cases Option.some.inj (h2.symm.trans (Stand.of_body B).code)
      intro x hx
      rw [Array.isEmpty_iff.mp h7] at hx
      cases hx
    obtain ⟨t, a1, o, b1, b2, b3⟩ := body p e s m args below meth c s₁ B hml ht hP s₁ hh0 (Stand.of_body B)
    exact ⟨t, o, a1, b1, b2, b3⟩
/-- the table of a body with handlers -/
theorem vx_table {p : Program} {x y : MethodName} {S : Spec} {cc bytes : ByteArray} {maxL maxL' : Nat} {ret ret' : Option FieldType} {e : Env} {s s₁ : State} {m : MethodId} {args : Array Value} {below : List Frame} {meth : Method} {c : Code} {hh : List (Nat × Nat × Nat × Nat)}
    (B : BodyLoose p l y S cc maxL ret e s m args below meth c s₁) (h : (Cond.codeWith y bytes maxL' ret' hh).before args s = true) : c.exceptionTable.toList = tableOf hh := by
  obtain ⟨m9, meth9, c9, hn9, h1, h2, -, -, h6, -⟩ := Cond.codeWith_spec h
  cases Option.some.inj (hn9.symm.trans B.named)
  cases Option.some.inj (h1.symm.trans B.method)
  cases Option.some.inj (h2.symm.trans (Stand.of_body B).code)
  rw [← h6, table_eq]
end Bodies
end VXA
/-! ===== END ===== -/
/-! ===== BEGIN a static call of a method with an exception table ===== -/
section VXS
variable {p : Program} {l : Launch} {e : Env} {R : Room} {s : State} {m : MethodId} {args : Array Value} {below : List Frame} {meth : Method} {c : Code} {T : State} {H : Heap} {locs : List Loc} {cells slots : Nat}
abbrev vx_CSW (R : Room) (s : State) (args : Array Value) (own : String) (index : Nat) (y : MethodName) (bytes : ByteArray) (maxL : Nat) (ret : Option FieldType) (hh : List (Nat × Nat × Nat × Nat)) (ws : List Cond) (rm : Room) (mc ms n : Nat) : Prop :=
  (rm.cells = mc ∧ rm.slots = ms ∧ rm.frames + 1 ≤ R.frames ∧ 8 + (maxL + 11) + rm.locals ≤ R.locals ∧ (∀ w ∈ ws, ∀ (a' : Array Value) (U : State), s.WarmedH U.vm → w.before a' U = true) ∧ Cond.codeWith y bytes maxL ret hh ∈ ws) ∧
  (Cond.codeWith y bytes maxL ret hh).before args s = true ∧ (Cond.initialized y.cls).before args s = true ∧ (y.cls ≠ "java/lang/invoke/MethodHandle" ∧ y.cls ≠ "java/lang/invoke/VarHandle") ∧
  (∀ sig, parseMethodDescriptor y.desc = some sig → n = sig.parameters.length) ∧ (Cond.methodLink own index y).before args s = true ∧ (Cond.static y).before args s = true
theorem vx_cwSW {own : String} {index maxL mc ms : Nat} {y : MethodName} {bytes : ByteArray} {ret : Option FieldType} {hh : List (Nat × Nat × Nat × Nat)} {Ts ws ws' : List Cond} {rm : Room} (n : Nat) (ht : ∀ w ∈ Ts, w.before args s = true) (hT : GoodIn Ts (va_wsS own index y ws)) (hw : ws = Cond.codeWith y bytes maxL ret hh :: ws') (hrc : rm.cells = mc) (hrs : rm.slots = ms)
    (hd : y.cls ≠ "java/lang/invoke/MethodHandle" ∧ y.cls ≠ "java/lang/invoke/VarHandle" ∧ (parseMethodDescriptor y.desc).map (fun d => d.parameters.length) = some n) (hR : rm.frames + 1 ≤ R.frames ∧ 8 + (maxL + 11) + rm.locals ≤ R.locals) :
    vx_CSW R s args own index y bytes maxL ret hh ws rm mc ms n := by
  have ok : ∀ w ∈ va_wsS own index y ws, w.before args s = true := fun w h => ht w (hT w h).1
  have hG : GoodIn Ts ws := fun w h => hT w (by unfold va_wsS; exact List.mem_append_right _ h)
  have hc : Cond.codeWith y bytes maxL ret hh ∈ ws := by rw [hw]; exact List.mem_cons_self
  refine ⟨⟨hrc, hrs, hR.1, hR.2, pay_in ht hG, hc⟩, ht _ (hG _ hc).1, ok _ (by simp [va_wsS]), ⟨hd.1, hd.2.1⟩, fun sig h => ?_, ok _ (by simp [va_wsS]), ok _ (by simp [va_wsS])⟩
  have h2 := hd.2.2
  rw [h] at h2
  exact (Option.some.inj h2).symm
theorem vx_callSW (X : Stand p l e R s m args below meth c T locs cells slots) (hexec : p.tables.exec = Jvm.exec) {own : String} {index : Nat} {y : MethodName} {bytes : ByteArray} {maxL : Nat} {ret : Option FieldType} {hh : List (Nat × Nat × Nat × Nat)}
    (hown : s.vm.findClass own = some m.cls) (hlink : (Cond.methodLink own index y).before args s = true) (hstat : (Cond.static y).before args s = true) (hinit : (Cond.initialized y.cls).before args s = true)
    (hcode : (Cond.codeWith y bytes maxL ret hh).before args s = true) (hy : y.cls ≠ "java/lang/invoke/MethodHandle" ∧ y.cls ≠ "java/lang/invoke/VarHandle")
    {W9 : Nat} {Pre : Pt → Array Value → Prop} {Post : Pt → Array Value → Option Value → Pt → Prop} (hK : Back l R p e below s args y 3 W9 Pre Post)
    {g : JFrame} (hg : g.method = m) (hsize : g.locals.size = c.maxLocals) {argsL rest : List Value} (hlen : ∀ sig, parseMethodDescriptor y.desc = some sig → argsL.length = sig.parameters.length)
    (hstack : g.stack = argsL.reverse ++ rest) (hW : 2 * g.monitorRoom + (rest.map fun v => v.category).sum ≤ W9) (hdg : decode c.code g.pc = .ok (.invokestatic index, 3))
    (hpre : ∀ vm₁, s.WarmedH vm₁ → Pre ⟨T.setVm vm₁, locs, cells, slots⟩ argsL.toArray) :
    ∃ (v : Option Value) (vm₁ : Vm) (B : Pt), s.WarmedH vm₁ ∧ Stand p l e R s m args below meth c B.U B.locs B.cells B.slots ∧ Post ⟨T.setVm vm₁, locs, cells, slots⟩ argsL.toArray v B ∧
      ∀ target, Steps p.tables e below (B.U.setTop { g with pc := g.pc + 3, stack := v.toList ++ rest }) target → Steps p.tables e below (T.setTop g) target := by
  obtain ⟨mk, methM, cM, hnamed, hmethM, -, -, -, -, -, -, hsigM⟩ := Cond.codeWith_spec hcode
  have hstatic : methM.isStatic = true := Cond.static_spec hnamed hmethM hstat
  obtain ⟨kP, hkP, -⟩ := className_of_methodNamed hnamed
  have hinitP : kP.init = .initialized := Cond.initialized_spec (findClass_of_methodNamed hnamed) hkP hinit
  obtain ⟨vm₁, X₁, hstep₁⟩ := X.invokestatic hexec hown hlink hnamed hmethM hstatic hkP hinitP hy (g := g) hg (argsL := argsL) (rest := rest) (hlen _ hsigM) hstack hdg
  obtain ⟨v, B, X', hpost, hsteps⟩ := hK m meth c ⟨T.setVm vm₁, locs, cells, slots⟩ { g with stack := rest } (.invokestatic index) mk argsL.toArray X₁ hg hsize hdg hW (X₁.named hnamed) (hpre vm₁ X₁.warmed)
  exact ⟨v, vm₁, B, X₁.warmed, X', hpost, fun target h => hstep₁ _ fun acts => by rw [doInvoke_state]; exact hsteps.trans h⟩
theorem vx_runSW {y : MethodName} {bytes cc : ByteArray} {maxL nL mc ms n index : Nat} {ret : Option FieldType} {hh : List (Nat × Nat × Nat × Nat)} {ws : List Cond} {rm : Room} {Pc : Array Value → State → Prop} {Qc : Array Value → State → Outcome → State → Prop} {free : Addr → Prop} {Ts : List Cond} {own : String} {As rest : List Value} {g : JFrame}
    (S : CallFix p m c cc nL s args Ts own) (hM : Met l y ws rm Pc Qc mc ms free) (cw : vx_CSW R s args own index y bytes maxL ret hh ws rm mc ms n) (hp : PreS s H Pc As)
    (hg : g.method = m) (hn : As.length = n) (hsize : g.locals.size = nL) (hstack : g.stack = As.reverse ++ rest) (hW : 2 * g.monitorRoom + (rest.map fun v => v.category).sum ≤ 8) (hdg : decode cc g.pc = .ok (.invokestatic index, 3)) (hf : cells + mc ≤ R.cells ∧ slots + ms ≤ R.slots) :
    va_Run p l e R s m args below meth c H locs cells slots mc ms g rest (Qc As.toArray) (free) := by
  obtain ⟨⟨hrc, hrs, hfr, hlo, hws, hcw⟩, hcode, hini, hy, hlen, hl, hstt⟩ := cw
  have hK : Back l R p e below s args y 3 8 (PreOf R mc ms Pc) (PostOf Qc mc ms free) := va_backW (hh := hh) (bytes := bytes) (maxL := maxL) (ret := ret) hM hp.1 hrc hrs hfr hlo hws hcw (fun a' U hW => word_at hW (Or.inl (by first | rfl | simp [Cond.onTables, Cond.keeps, Cond.steady])) hini)
  obtain ⟨hx, hb, hml, ho, -⟩ := S
  intro T hT X
  obtain ⟨v, vm₁, ⟨U', l2, c2, s2⟩, hW₁, X', ⟨g', mk, t, L, e1, e2, hq, h1, hL, h2, h3⟩, st⟩ := vx_callSW X hx (hh := hh) (bytes := bytes) (maxL := maxL) (ret := ret) ho hl hstt hini hcode hy hK hg (hsize.trans hml.symm) (argsL := As) (rest := rest) (fun sig h => hn.trans (hlen sig h)) hstack hW (by rw [hb]; exact hdg)
    (fun vm₁ hW₁ => ⟨hf.1, hf.2, hp.2 (T.setVm vm₁) hT hW₁⟩)
  dsimp only [Pt.U, Pt.locs, Pt.cells, Pt.slots] at X' e1 e2 h1 h2 h3 st
  subst h1; subst h2; subst h3
  exact ⟨v, (T.setVm vm₁).calling g' mk As.toArray, t, U', L, hT, X', hL, e1, e2, hq, st⟩
/-- not caught here, past rows that name other classes: it goes on to the caller -/
theorem vx_outP {p : Program} {l : Launch} {e : Env} {R : Room} {s : State} {m : MethodId} {args : Array Value} {below : List Frame} {meth : Method} {c : Code} {H : Heap} {locs : List Loc} {cells slots : Nat} {free : Addr → Prop} {ls : Array Slot} {rest : List Value} {Qc : Array Value → State → Outcome → State → Prop} {XC : String → State → State → Prop}
    {pc : Nat} {own E : String} {ce : Cell} {q : Addr} {mc ms : Nat} (hown : s.vm.findClass own = some m.cls) (hlocks : meth.locks = false)
    (hpass : ∀ z ∈ c.exceptionTable.toList, covers z pc = false ∨ (z.catchType ≠ 0 ∧ ∃ nm : String, (Cond.classLink own z.catchType nm).before args s = true ∧ va_Nc E nm s)) (hcell : H[q]? = some ce) (hv : ce.vm = .none) (hcl : s.vm.findClass E = some ce.cls)
    (hx : ∀ t : State, t.heap = H → s.vm.Alike t.vm → XC E s t) (hf : ∀ z ∈ locs, free z.base) (hc : cells ≤ mc) (hs : slots ≤ ms) :
    vx_W p l e R s m args below meth c H locs cells slots (vx_MQ below Qc XC args s mc ms free) (F0 m pc ls rest) q := by
  intro T hT X
  have hpl : e.platform.magicAccessors = ({} : Platform).magicAccessors := by rw [X.admits.platform]
  obtain ⟨vm', hW', X', st⟩ := Stand.outThrough X hlocks q (g := F0 m pc ls rest) rfl rfl rfl (cell := ce) (by rw [hT]; exact hcell) (by rw [hv]; rfl)
    (by obtain ⟨k9, h9, -⟩ := Vm.findClass_spec hcl; exact ⟨k9, h9⟩) (fun z hz => by
      rcases hpass z hz with h | ⟨hz0, nm, hl1, hn1⟩
      · exact Or.inl h
      · obtain ⟨c6, hc6, hcl6⟩ := Cond.classLink_spec hown hl1 e.platform hpl
        obtain ⟨a8, b8, h1, h2, h3⟩ := hn1
        cases Option.some.inj (h1.symm.trans hcl)
        cases Option.some.inj (h2.symm.trans hc6)
        exact Or.inr ⟨hz0, _, hcl6, h3⟩)
  obtain ⟨g₀, hfr⟩ := X'.frames_eq
  have hcell9 : ((T.setVm vm').setFrames (.throwing q :: below)).heap[q]? = some ce := by
    show T.heap[q]? = some ce
    rw [hT]; exact hcell
  have hend : Ended ((T.setVm vm').setFrames (.throwing q :: below)) below (.threw q) := State.frames_setFrames _ (State.cur_lt_of_frames hfr)
  refine ⟨(T.setVm vm').setFrames (.throwing q :: below), ?_, .threw q, X'.here.running, hend, Or.inr ⟨q, rfl, E, ce, locs, hx _ hT (X'.ends _).1.alike, hcell9, hv, hcl, (X'.ends _).1, (X'.ends _).2.mono hc hs, hf⟩⟩
  rw [X.pushThrowing_eq]
  exact st
/-- a thing of a world lies in the heap -/
theorem vx_lt {D : va_G} {cl : List vw_C} {ws : va_W} {H1 : Heap} (h : va_P D cl ws H1) {k : Nat} {q : Nat × va_E} (hk : ws[k]? = some q) : q.1 < H1.size := (h k q hk).lt
end VXS
/-! ===== END ===== -/
/-! ===== BEGIN methods with a table of their own: called by a name, returning or throwing ===== -/
section VXH
/-! vx_backW, vx_callVX, vx_callSX, vx_callVW, vx_runVW, vx_runVX, vx_runSX, vx_ofWH follow the same proofs as their sisters above (Free/Laws.lean, Shelf42/LK1.lean); vx_outP calls Shelf42/NT130.lean (outThrough). -/
section
variable {l : Launch} {R : Room} {p : Program} {e : Env} {below : List Frame} {s : State} {sargs : Array Value} {y : MethodName} {len W9 : Nat}
theorem vx_backW {ws : List Cond} {rm : Room} {Pc : Array Value → State → Prop} {Qc : Array Value → State → Outcome → State → Prop} {XC : String → State → State → Prop} {mc ms : Nat} {free : Addr → Prop} {bytes : ByteArray} {maxL : Nat} {ret : Option FieldType} {hh : List (Nat × Nat × Nat × Nat)}
    (hM : vx_Met l y ws rm Pc Qc XC mc ms free) (hblind : FrameBlind Pc) (hrc : rm.cells = mc) (hrs : rm.slots = ms)
    (hframes : rm.frames + 1 ≤ R.frames) (hlocals : W9 + (maxL + 11) + rm.locals ≤ R.locals)
    (hws : ∀ w ∈ ws, ∀ a' U, s.WarmedH U.vm → w.before a' U = true) (hcode : Cond.codeWith y bytes maxL ret hh ∈ ws) (hinit : ∀ a' U, s.WarmedH U.vm → (Cond.initialized y.cls).before a' U = true) :
    vx_Back l R p e below s sargs y len W9 (PreOf R mc ms Pc) (PostOf Qc mc ms free) (vx_Post XC mc ms free) := by
  intro m meth c A g ig mk a X hg hsize hdg hW hn hp
  have h1 : (headSpec ws rm).pre.before a A.U = true := atoms_intro fun w hw => hws w hw _ _ X.warmed
  have h2 : (Cond.codeWith y bytes maxL ret hh).before a A.U = true := hws _ hcode _ _ X.warmed
  have h3 : (Cond.initialized y.cls).before a A.U = true := hinit _ _ X.warmed
  have h4 : A.cells + (headSpec ws rm).room.cells ≤ R.cells := by rw [show (headSpec ws rm).room.cells = mc from hrc]; exact hp.1
  have h5 : A.slots + (headSpec ws rm).room.slots ≤ R.slots := by rw [show (headSpec ws rm).room.slots = ms from hrs]; exact hp.2.1
  have hPc : Pc a (A.U.calling g mk a) := hblind _ _ _ _ hp.2.2
  obtain ⟨U, Ls, c0, s0⟩ := A
  dsimp only [Pt.U, Pt.locs, Pt.cells, Pt.slots] at h1 h2 h3 h4 h5 X hn hPc ⊢
  obtain ⟨m9, methY, cY, hn9, hmY, hcY, -, hlY, -⟩ := Cond.codeWith_spec h2
  cases Option.some.inj (hn9.symm.trans hn)
  obtain ⟨kY, hkY, -⟩ := className_of_methodNamed hn
  have hinitY : kY.init = .initialized := Cond.initialized_spec (findClass_of_methodNamed hn) hkY h3
  have h : At U g.method c below := by rw [hg]; exact X.here
  have hlocals9 : W9 + (maxL + 11) + (headSpec ws rm).room.locals ≤ R.locals := hlocals
  have happ : (headSpec ws rm).appliesLoose y e.platform (U.calling g mk a) = true :=
    Spec.appliesLoose_calling (g := g) h hdg hn hkY hinitY
      (X.room_calling (g := g) (R' := (headSpec ws rm).room) hsize hmY hcY hframes (by rw [hlY]; omega) h4 h5) h1
  obtain ⟨mid, hmid⟩ := h.above
  have hfr : (U.setTop g).frames = (.java g :: mid) ++ below := by rw [State.frames_setTop' g h.top, hmid]; rfl
  obtain ⟨o, s₂, hsteps, -, hend, hq⟩ := Steps.callFree hM p X.admits X.cas X.clock (acts := []) hfr happ hPc trivial
  have hq' : vx_Q Qc XC mc ms free a (U.calling g mk a) o s₂ := hq
  rw [State.frames_setTop' g h.top] at hend
  obtain ⟨g₀, hg0⟩ := Option.isSome_iff_exists.mp h.top
  obtain ⟨r, hr⟩ := State.topJava?_eq_some.mp hg0
  have hr' : (({ U with heap := s₂.heap, slotsUsed := s₂.slotsUsed } : State).setVm s₂.vm).frames = .java g₀ :: r := hr
  rcases hq' with ⟨hqc, L, hfe, hL⟩ | ⟨q, rfl, E, ce, L, hx, hce, hcv, hcl, hW₂, hsm, hL⟩
  · obtain ⟨⟨v, rfl⟩, hW₂, e2, q2, q3, q4, q5, q6⟩ := id hfe
    have e3 : s₂ = ({ (U.calling g mk a).setFrames s₂.frames with heap := s₂.heap, slotsUsed := s₂.slotsUsed } : State).setVm s₂.vm := by
      have : s₂ = ({ s₂ with vm := (U.calling g mk a).vm } : State).setVm s₂.vm := rfl
      rw [e2] at this
      exact this
    obtain ⟨c₂, i₂, len₂, hc₂, hd₂, hf₂⟩ := hend
    have hW' : U.WarmedH s₂.vm := hW₂
    have hcc : c₂ = c := by
      have h1 : s₂.code? g.method = U.code? g.method := by
        rw [State.code?_eq, State.code?_eq, hW'.alike.method?]
      exact Option.some.inj (hc₂.symm.trans (h1.trans h.code))
    subst hcc
    have hlen : len₂ = len := by rw [hdg] at hd₂; cases hd₂; rfl
    subst hlen
    have hs₂ : s₂ = (({ U with heap := s₂.heap, slotsUsed := s₂.slotsUsed } : State).setVm s₂.vm).setTop { g with pc := g.pc + len₂, stack := v.toList ++ g.stack } := by
      refine e3.trans ?_
      rw [hf₂, State.calling_eq h.top, State.setFrames_setFrames, State.setTop_of_frames _ hr', hr]
      rfl
    have hsame : U.sameButNew ({ U with heap := s₂.heap, slotsUsed := s₂.slotsUsed } : State) L mc ms := by
      refine ⟨?_, q2, q3, q4, q5, q6⟩
      obtain ⟨t, ht, -⟩ := State.frames_cons hr
      show ({ U with heap := s₂.heap, slotsUsed := s₂.slotsUsed } : State) = { U.setFrames U.frames with heap := s₂.heap, slotsUsed := s₂.slotsUsed }
      rw [State.setFrames_self ht]
    subst hg
    refine Or.inl ⟨v, ⟨(({ U with heap := s₂.heap, slotsUsed := s₂.slotsUsed } : State).setVm s₂.vm), Ls ++ L, c0 + mc, s0 + ms⟩,
      ⟨X.admits, X.cas, X.clock, X.frames, X.room, X.hears, X.method, X.code, (X.here.setHeapUsed s₂.heap s₂.slotsUsed).setVm hW'.alike, X.tail, State.WarmedH.trans X.warmed hW', X.limits, X.bytes, X.same.trans (hsame.setVm s.vm)⟩,
      ⟨g, mk, s₂, L, rfl, rfl, hqc, rfl, hL, rfl, rfl⟩, ?_⟩
    show Steps p.tables e below _ ((({ U with heap := s₂.heap, slotsUsed := s₂.slotsUsed } : State).setVm s₂.vm).setTop { g with pc := g.pc + len₂, stack := v.toList ++ g.stack })
    rw [← hs₂]
    exact hsteps
  · obtain ⟨e2, q2, q3, q4, q5, q6⟩ := id hsm
    have e3 : s₂ = ({ (U.calling g mk a).setFrames s₂.frames with heap := s₂.heap, slotsUsed := s₂.slotsUsed } : State).setVm s₂.vm := by
      have : s₂ = ({ s₂ with vm := (U.calling g mk a).vm } : State).setVm s₂.vm := rfl
      rw [e2] at this
      exact this
    have hf₂ : s₂.frames = .throwing q :: .java g :: U.frames.tail := hend
    have hW' : U.WarmedH s₂.vm := hW₂
    have hs₂ : s₂ = ((({ U with heap := s₂.heap, slotsUsed := s₂.slotsUsed } : State).setVm s₂.vm).setTop g).pushFrame (.throwing q) := by
      refine e3.trans ?_
      rw [hf₂, State.calling_eq h.top, State.setFrames_setFrames, State.pushFrame, State.frames_setTop _ hr', State.setTop_of_frames _ hr', State.setFrames_setFrames, hr]
      rfl
    have hsame : U.sameButNew ({ U with heap := s₂.heap, slotsUsed := s₂.slotsUsed } : State) L mc ms := by
      refine ⟨?_, q2, q3, q4, q5, q6⟩
      obtain ⟨t, ht, -⟩ := State.frames_cons hr
      show ({ U with heap := s₂.heap, slotsUsed := s₂.slotsUsed } : State) = { U.setFrames U.frames with heap := s₂.heap, slotsUsed := s₂.slotsUsed }
      rw [State.setFrames_self ht]
    subst hg
    refine Or.inr ⟨q, ⟨(({ U with heap := s₂.heap, slotsUsed := s₂.slotsUsed } : State).setVm s₂.vm), Ls ++ L, c0 + mc, s0 + ms⟩,
      ⟨X.admits, X.cas, X.clock, X.frames, X.room, X.hears, X.method, X.code, (X.here.setHeapUsed s₂.heap s₂.slotsUsed).setVm hW'.alike, X.tail, State.WarmedH.trans X.warmed hW', X.limits, X.bytes, X.same.trans (hsame.setVm s.vm)⟩,
      ⟨g, mk, s₂, L, E, ce, rfl, rfl, hx, hce, hcv, hcl, rfl, hL, rfl, rfl⟩, ?_⟩
    show Steps p.tables e below _ (((({ U with heap := s₂.heap, slotsUsed := s₂.slotsUsed } : State).setVm s₂.vm).setTop g).pushFrame (.throwing q))
    rw [← hs₂]
    exact hsteps
end
variable {p : Program} {l : Launch} {e : Env} {R : Room} {s : State} {m : MethodId} {args : Array Value} {below : List Frame} {meth : Method} {c : Code} {T : State} {H : Heap} {locs : List Loc} {cells slots : Nat}
theorem vx_callVX (X : Stand p l e R s m args below meth c T locs cells slots) (hexec : p.tables.exec = Jvm.exec) {own C : String} {index : Nat} {y : MethodName} {bytes : ByteArray} {maxL : Nat} {ret : Option FieldType} {hh : List (Nat × Nat × Nat × Nat)}
    (hown : s.vm.findClass own = some m.cls) (hlink : (Cond.methodLink own index y).before args s = true) (hinst : (Cond.instanceMethod y).before args s = true) (hsel : (Cond.selects C y y).before args s = true)
    (hcode : (Cond.codeWith y bytes maxL ret hh).before args s = true) (hy : y.cls ≠ "java/lang/invoke/MethodHandle" ∧ y.cls ≠ "java/lang/invoke/VarHandle")
    {W9 : Nat} {Pre : Pt → Array Value → Prop} {Post : Pt → Array Value → Option Value → Pt → Prop} {PostX : Pt → Array Value → Addr → Pt → Prop} (hK : vx_Back l R p e below s args y 3 W9 Pre Post PostX)
    {b : Addr} {cellB : Cell} (hcell : T.heap[b]? = some cellB) (hobj : cellB.vm.isStatics = false) (hcls : s.vm.findClass C = some cellB.cls)
    {g : JFrame} (hg : g.method = m) (hsize : g.locals.size = c.maxLocals) {argsL rest : List Value} (hlen : ∀ sig, parseMethodDescriptor y.desc = some sig → argsL.length = sig.parameters.length)
    (hstack : g.stack = argsL.reverse ++ .ref b :: rest) (hW : 2 * g.monitorRoom + (rest.map fun v => v.category).sum ≤ W9) (hdg : decode c.code g.pc = .ok (.invokevirtual index, 3))
    (hpre : ∀ vm₁, s.WarmedH vm₁ → Pre ⟨T.setVm vm₁, locs, cells, slots⟩ (Value.ref b :: argsL).toArray) :
    (∃ (v : Option Value) (vm₁ : Vm) (B : Pt), s.WarmedH vm₁ ∧ Stand p l e R s m args below meth c B.U B.locs B.cells B.slots ∧ Post ⟨T.setVm vm₁, locs, cells, slots⟩ (Value.ref b :: argsL).toArray v B ∧
      ∀ target, Steps p.tables e below (B.U.setTop { g with pc := g.pc + 3, stack := v.toList ++ rest }) target → Steps p.tables e below (T.setTop g) target) ∨
    (∃ (q : Addr) (vm₁ : Vm) (B : Pt), s.WarmedH vm₁ ∧ Stand p l e R s m args below meth c B.U B.locs B.cells B.slots ∧ PostX ⟨T.setVm vm₁, locs, cells, slots⟩ (Value.ref b :: argsL).toArray q B ∧
      Steps p.tables e below (T.setTop g) ((B.U.setTop { g with stack := rest }).pushFrame (.throwing q))) := by
  obtain ⟨mk, methM, hnamed, hmethM, hstM, habM⟩ := Cond.instanceMethod_spec hinst
  obtain ⟨m8, methM', cM, hn8, hmethM', -, -, -, -, -, -, hsigM⟩ := Cond.codeWith_spec hcode
  cases Option.some.inj (hn8.symm.trans hnamed)
  cases hmethM.symm.trans hmethM'
  obtain ⟨c2, r2, m2, q1, q2, q3, q4, kP, hkP, hkPi⟩ := Cond.selects_spec hsel
  cases hcls.symm.trans q1
  cases (State.methodFound?_of_named hnamed hy).symm.trans q2
  cases hnamed.symm.trans q3
  have hselP : selectMethod e.platform s.vm cellB.cls mk = .method mk := by rw [Launch.admits_selectMethod X.admits]; exact q4
  obtain ⟨vm₁, X₁, hstep₁⟩ := X.invokevirtual hexec hown hlink hnamed hmethM hstM hkP hkPi hy (a := b) (cell := cellB) hcell
    (fun z h => by rw [h] at hobj; cases hobj) hselP hmethM habM hkP hkPi (g := g) hg (argsL := argsL) (rest := rest) (hlen _ hsigM) hstack hdg
  rcases hK m meth c ⟨T.setVm vm₁, locs, cells, slots⟩ { g with stack := rest } (.invokevirtual index) mk (Value.ref b :: argsL).toArray X₁ hg hsize hdg hW (X₁.named hnamed) (hpre vm₁ X₁.warmed) with ⟨v, B, X', hpost, hsteps⟩ | ⟨q, B, X', hpost, hsteps⟩
  · exact Or.inl ⟨v, vm₁, B, X₁.warmed, X', hpost, fun target h => hstep₁ _ fun acts => by rw [doInvoke_state]; exact hsteps.trans h⟩
  · exact Or.inr ⟨q, vm₁, B, X₁.warmed, X', hpost, hstep₁ _ fun acts => by rw [doInvoke_state]; exact hsteps⟩
theorem vx_callSX (X : Stand p l e R s m args below meth c T locs cells slots) (hexec : p.tables.exec = Jvm.exec) {own : String} {index : Nat} {y : MethodName} {bytes : ByteArray} {maxL : Nat} {ret : Option FieldType} {hh : List (Nat × Nat × Nat × Nat)}
    (hown : s.vm.findClass own = some m.cls) (hlink : (Cond.methodLink own index y).before args s = true) (hstat : (Cond.static y).before args s = true) (hinit : (Cond.initialized y.cls).before args s = true)
    (hcode : (Cond.codeWith y bytes maxL ret hh).before args s = true) (hy : y.cls ≠ "java/lang/invoke/MethodHandle" ∧ y.cls ≠ "java/lang/invoke/VarHandle")
    {W9 : Nat} {Pre : Pt → Array Value → Prop} {Post : Pt → Array Value → Option Value → Pt → Prop} {PostX : Pt → Array Value → Addr → Pt → Prop} (hK : vx_Back l R p e below s args y 3 W9 Pre Post PostX)
    {g : JFrame} (hg : g.method = m) (hsize : g.locals.size = c.maxLocals) {argsL rest : List Value} (hlen : ∀ sig, parseMethodDescriptor y.desc = some sig → argsL.length = sig.parameters.length)
    (hstack : g.stack = argsL.reverse ++ rest) (hW : 2 * g.monitorRoom + (rest.map fun v => v.category).sum ≤ W9) (hdg : decode c.code g.pc = .ok (.invokestatic index, 3))
    (hpre : ∀ vm₁, s.WarmedH vm₁ → Pre ⟨T.setVm vm₁, locs, cells, slots⟩ argsL.toArray) :
    (∃ (v : Option Value) (vm₁ : Vm) (B : Pt), s.WarmedH vm₁ ∧ Stand p l e R s m args below meth c B.U B.locs B.cells B.slots ∧ Post ⟨T.setVm vm₁, locs, cells, slots⟩ argsL.toArray v B ∧
      ∀ target, Steps p.tables e below (B.U.setTop { g with pc := g.pc + 3, stack := v.toList ++ rest }) target → Steps p.tables e below (T.setTop g) target) ∨
    (∃ (q : Addr) (vm₁ : Vm) (B : Pt), s.WarmedH vm₁ ∧ Stand p l e R s m args below meth c B.U B.locs B.cells B.slots ∧ PostX ⟨T.setVm vm₁, locs, cells, slots⟩ argsL.toArray q B ∧
      Steps p.tables e below (T.setTop g) ((B.U.setTop { g with stack := rest }).pushFrame (.throwing q))) := by
  obtain ⟨mk, methM, cM, hnamed, hmethM, -, -, -, -, -, -, hsigM⟩ := Cond.codeWith_spec hcode
  have hstatic : methM.isStatic = true := Cond.static_spec hnamed hmethM hstat
  obtain ⟨kP, hkP, -⟩ := className_of_methodNamed hnamed
  have hinitP : kP.init = .initialized := Cond.initialized_spec (findClass_of_methodNamed hnamed) hkP hinit
  obtain ⟨vm₁, X₁, hstep₁⟩ := X.invokestatic hexec hown hlink hnamed hmethM hstatic hkP hinitP hy (g := g) hg (argsL := argsL) (rest := rest) (hlen _ hsigM) hstack hdg
  rcases hK m meth c ⟨T.setVm vm₁, locs, cells, slots⟩ { g with stack := rest } (.invokestatic index) mk argsL.toArray X₁ hg hsize hdg hW (X₁.named hnamed) (hpre vm₁ X₁.warmed) with ⟨v, B, X', hpost, hsteps⟩ | ⟨q, B, X', hpost, hsteps⟩
  · exact Or.inl ⟨v, vm₁, B, X₁.warmed, X', hpost, fun target h => hstep₁ _ fun acts => by rw [doInvoke_state]; exact hsteps.trans h⟩
  · exact Or.inr ⟨q, vm₁, B, X₁.warmed, X', hpost, hstep₁ _ fun acts => by rw [doInvoke_state]; exact hsteps⟩
theorem vx_callVW (X : Stand p l e R s m args below meth c T locs cells slots) (hexec : p.tables.exec = Jvm.exec) {own C : String} {index : Nat} {y : MethodName} {bytes : ByteArray} {maxL : Nat} {ret : Option FieldType} {hh : List (Nat × Nat × Nat × Nat)}
    (hown : s.vm.findClass own = some m.cls) (hlink : (Cond.methodLink own index y).before args s = true) (hinst : (Cond.instanceMethod y).before args s = true) (hsel : (Cond.selects C y y).before args s = true)
    (hcode : (Cond.codeWith y bytes maxL ret hh).before args s = true) (hy : y.cls ≠ "java/lang/invoke/MethodHandle" ∧ y.cls ≠ "java/lang/invoke/VarHandle")
    {W9 : Nat} {Pre : Pt → Array Value → Prop} {Post : Pt → Array Value → Option Value → Pt → Prop} (hK : Back l R p e below s args y 3 W9 Pre Post)
    {b : Addr} {cellB : Cell} (hcell : T.heap[b]? = some cellB) (hobj : cellB.vm.isStatics = false) (hcls : s.vm.findClass C = some cellB.cls)
    {g : JFrame} (hg : g.method = m) (hsize : g.locals.size = c.maxLocals) {argsL rest : List Value} (hlen : ∀ sig, parseMethodDescriptor y.desc = some sig → argsL.length = sig.parameters.length)
    (hstack : g.stack = argsL.reverse ++ .ref b :: rest) (hW : 2 * g.monitorRoom + (rest.map fun v => v.category).sum ≤ W9) (hdg : decode c.code g.pc = .ok (.invokevirtual index, 3))
    (hpre : ∀ vm₁, s.WarmedH vm₁ → Pre ⟨T.setVm vm₁, locs, cells, slots⟩ (Value.ref b :: argsL).toArray) :
    ∃ (v : Option Value) (vm₁ : Vm) (B : Pt), s.WarmedH vm₁ ∧ Stand p l e R s m args below meth c B.U B.locs B.cells B.slots ∧ Post ⟨T.setVm vm₁, locs, cells, slots⟩ (Value.ref b :: argsL).toArray v B ∧
      ∀ target, Steps p.tables e below (B.U.setTop { g with pc := g.pc + 3, stack := v.toList ++ rest }) target → Steps p.tables e below (T.setTop g) target := by
  obtain ⟨mk, methM, hnamed, hmethM, hstM, habM⟩ := Cond.instanceMethod_spec hinst
  obtain ⟨m8, methM', cM, hn8, hmethM', -, -, -, -, -, -, hsigM⟩ := Cond.codeWith_spec hcode
  cases Option.some.inj (hn8.symm.trans hnamed)
  cases hmethM.symm.trans hmethM'
  obtain ⟨c2, r2, m2, q1, q2, q3, q4, kP, hkP, hkPi⟩ := Cond.selects_spec hsel
  cases hcls.symm.trans q1
  cases (State.methodFound?_of_named hnamed hy).symm.trans q2
  cases hnamed.symm.trans q3
  have hselP : selectMethod e.platform s.vm cellB.cls mk = .method mk := by rw [Launch.admits_selectMethod X.admits]; exact q4
  obtain ⟨vm₁, X₁, hstep₁⟩ := X.invokevirtual hexec hown hlink hnamed hmethM hstM hkP hkPi hy (a := b) (cell := cellB) hcell
    (fun z h => by rw [h] at hobj; cases hobj) hselP hmethM habM hkP hkPi (g := g) hg (argsL := argsL) (rest := rest) (hlen _ hsigM) hstack hdg
  obtain ⟨v, B, X', hpost, hsteps⟩ := hK m meth c ⟨T.setVm vm₁, locs, cells, slots⟩ { g with stack := rest } (.invokevirtual index) mk (Value.ref b :: argsL).toArray X₁ hg hsize hdg hW (X₁.named hnamed) (hpre vm₁ X₁.warmed)
  exact ⟨v, vm₁, B, X₁.warmed, X', hpost, fun target h => hstep₁ _ fun acts => by rw [doInvoke_state]; exact hsteps.trans h⟩
abbrev vx_CVW (R : Room) (s : State) (args : Array Value) (own C : String) (index : Nat) (y : MethodName) (bytes : ByteArray) (maxL : Nat) (ret : Option FieldType) (hh : List (Nat × Nat × Nat × Nat)) (ws : List Cond) (rm : Room) (mc ms n : Nat) : Prop :=
  (rm.cells = mc ∧ rm.slots = ms ∧ rm.frames + 1 ≤ R.frames ∧ 8 + (maxL + 11) + rm.locals ≤ R.locals ∧ (∀ w ∈ ws, ∀ (a' : Array Value) (U : State), s.WarmedH U.vm → w.before a' U = true) ∧ Cond.codeWith y bytes maxL ret hh ∈ ws) ∧
  (Cond.codeWith y bytes maxL ret hh).before args s = true ∧ (Cond.initialized y.cls).before args s = true ∧ (y.cls ≠ "java/lang/invoke/MethodHandle" ∧ y.cls ≠ "java/lang/invoke/VarHandle") ∧
  (∀ sig, parseMethodDescriptor y.desc = some sig → n = sig.parameters.length) ∧ (Cond.methodLink own index y).before args s = true ∧ (Cond.instanceMethod y).before args s = true ∧ (Cond.selects C y y).before args s = true
theorem vx_cwVW {own C : String} {index maxL mc ms : Nat} {y : MethodName} {bytes : ByteArray} {ret : Option FieldType} {hh : List (Nat × Nat × Nat × Nat)} {Ts ws ws' : List Cond} {rm : Room} (n : Nat) (ht : ∀ w ∈ Ts, w.before args s = true) (hT : GoodIn Ts (wsV own index C y ws)) (hw : ws = Cond.codeWith y bytes maxL ret hh :: ws') (hrc : rm.cells = mc) (hrs : rm.slots = ms)
    (hd : y.cls = C ∧ y.cls ≠ "java/lang/invoke/MethodHandle" ∧ y.cls ≠ "java/lang/invoke/VarHandle" ∧ (parseMethodDescriptor y.desc).map (fun d => d.parameters.length) = some n) (hR : rm.frames + 1 ≤ R.frames ∧ 8 + (maxL + 11) + rm.locals ≤ R.locals) :
    vx_CVW R s args own C index y bytes maxL ret hh ws rm mc ms n := by
  obtain ⟨hC, hd⟩ := hd
  subst hC
  have ok : ∀ w ∈ wsV own index y.cls y ws, w.before args s = true := fun w h => ht w (hT w h).1
  have hG : GoodIn Ts ws := fun w h => hT w (by unfold wsV; exact List.mem_append_right _ h)
  have hc : Cond.codeWith y bytes maxL ret hh ∈ ws := by rw [hw]; exact List.mem_cons_self
  refine ⟨⟨hrc, hrs, hR.1, hR.2, pay_in ht hG, hc⟩, ht _ (hG _ hc).1, ok _ (by simp [wsV]), ⟨hd.1, hd.2.1⟩, fun sig h => ?_, ok _ (by simp [wsV]), ok _ (by simp [wsV]), ok _ (by simp [wsV])⟩
  have h2 := hd.2.2
  rw [h] at h2
  exact (Option.some.inj h2).symm
theorem vx_runVW {y : MethodName} {bytes cc : ByteArray} {maxL nL mc ms n index : Nat} {ret : Option FieldType} {hh : List (Nat × Nat × Nat × Nat)} {ws : List Cond} {rm : Room} {Pc : Array Value → State → Prop} {Qc : Array Value → State → Outcome → State → Prop} {free : Addr → Prop} {Ts : List Cond} {own C : String} {b : Addr} {As rest : List Value} {g : JFrame}
    (S : CallFix p m c cc nL s args Ts own) (hM : Met l y ws rm Pc Qc mc ms free) (cw : vx_CVW R s args own C index y bytes maxL ret hh ws rm mc ms n) (hp : PreV s H C b Pc As)
    (hg : g.method = m) (hn : As.length = n) (hsize : g.locals.size = nL) (hstack : g.stack = As.reverse ++ .ref b :: rest) (hW : 2 * g.monitorRoom + (rest.map fun v => v.category).sum ≤ 8) (hdg : decode cc g.pc = .ok (.invokevirtual index, 3)) (hf : cells + mc ≤ R.cells ∧ slots + ms ≤ R.slots) :
    va_Run p l e R s m args below meth c H locs cells slots mc ms g rest (Qc (Value.ref b :: As).toArray) free := by
  obtain ⟨⟨hrc, hrs, hfr, hlo, hws, hcw⟩, hcode, hini, hy, hlen, hl, hin, hse⟩ := cw
  have hK : Back l R p e below s args y 3 8 (PreOf R mc ms Pc) (PostOf Qc mc ms free) := va_backW (hh := hh) (bytes := bytes) (maxL := maxL) (ret := ret) hM hp.1 hrc hrs hfr hlo hws hcw (fun a' U hW => word_at hW (Or.inl (by first | rfl | simp [Cond.onTables, Cond.keeps, Cond.steady])) hini)
  obtain ⟨hx, hb, hml, ho, -⟩ := S
  obtain ⟨-, ⟨cellB, hcB, hoB, hclB⟩, hPc⟩ := hp
  intro T hT X
  obtain ⟨v, vm₁, ⟨U', l2, c2, s2⟩, hW₁, X', ⟨g', mk, t, L, e1, e2, hq, h1, hL, h2, h3⟩, st⟩ := vx_callVW X hx (C := C) (hh := hh) (bytes := bytes) (maxL := maxL) (ret := ret) ho hl hin hse hcode hy hK (by rw [hT]; exact hcB) hoB hclB hg (hsize.trans hml.symm) (argsL := As) (rest := rest) (fun sig h => hn.trans (hlen sig h)) hstack hW (by rw [hb]; exact hdg)
    (fun vm₁ hW₁ => ⟨hf.1, hf.2, hPc (T.setVm vm₁) hT hW₁⟩)
  dsimp only [Pt.U, Pt.locs, Pt.cells, Pt.slots] at X' e1 e2 h1 h2 h3 st
  subst h1; subst h2; subst h3
  exact ⟨v, (T.setVm vm₁).calling g' mk (Value.ref b :: As).toArray, t, U', L, hT, X', hL, e1, e2, hq, st⟩
section
variable {y : MethodName} {bytes cc : ByteArray} {maxL nL mc ms n index : Nat} {ret : Option FieldType} {ws : List Cond} {rm : Room} {Pc : Array Value → State → Prop} {Qc : Array Value → State → Outcome → State → Prop} {XC : String → State → State → Prop} {free : Addr → Prop} {Ts : List Cond} {own C : String} {b : Addr} {As rest : List Value} {g : JFrame}
theorem vx_runVX {hh : List (Nat × Nat × Nat × Nat)} (S : CallFix p m c cc nL s args Ts own) (hM : vx_Met l y ws rm Pc Qc XC mc ms free) (cw : vx_CVW R s args own C index y bytes maxL ret hh ws rm mc ms n) (hp : PreV s H C b Pc As)
    (hg : g.method = m) (hn : As.length = n) (hsize : g.locals.size = nL) (hstack : g.stack = As.reverse ++ .ref b :: rest) (hW : 2 * g.monitorRoom + (rest.map fun v => v.category).sum ≤ 8) (hdg : decode cc g.pc = .ok (.invokevirtual index, 3)) (hf : cells + mc ≤ R.cells ∧ slots + ms ≤ R.slots) :
    vx_Run p l e R s m args below meth c H locs cells slots mc ms g rest (Qc (Value.ref b :: As).toArray) XC free := by
  obtain ⟨⟨hrc, hrs, hfr, hlo, hws, hcw⟩, hcode, hini, hy, hlen, hl, hin, hse⟩ := cw
  have hK : vx_Back l R p e below s args y 3 8 (PreOf R mc ms Pc) (PostOf Qc mc ms free) (vx_Post XC mc ms free) := vx_backW (hh := hh) (bytes := bytes) (maxL := maxL) (ret := ret) hM hp.1 hrc hrs hfr hlo hws hcw (fun a' U hW => word_at hW (Or.inl (by first | rfl | simp [Cond.onTables, Cond.keeps, Cond.steady])) hini)
  obtain ⟨hx, hb, hml, ho, -⟩ := S
  obtain ⟨-, ⟨cellB, hcB, hoB, hclB⟩, hPc⟩ := hp
  intro T hT X
  rcases vx_callVX X hx (C := C) (hh := hh) (bytes := bytes) (maxL := maxL) (ret := ret) ho hl hin hse hcode hy hK (by rw [hT]; exact hcB) hoB hclB hg (hsize.trans hml.symm) (argsL := As) (rest := rest) (fun sig h => hn.trans (hlen sig h)) hstack hW (by rw [hb]; exact hdg)
    (fun vm₁ hW₁ => ⟨hf.1, hf.2, hPc (T.setVm vm₁) hT hW₁⟩) with ⟨v, vm₁, ⟨U', l2, c2, s2⟩, hW₁, X', ⟨g', mk, t, L, e1, e2, hq, h1, hL, h2, h3⟩, st⟩ | ⟨q, vm₁, ⟨U', l2, c2, s2⟩, hW₁, X', ⟨g', mk, t, L, E, ce, e1, e2, hq, hce, hcv, hcl, h1, hL, h2, h3⟩, st⟩
  · dsimp only [Pt.U, Pt.locs, Pt.cells, Pt.slots] at X' e1 e2 h1 h2 h3 st
    subst h1; subst h2; subst h3
    exact Or.inl ⟨v, (T.setVm vm₁).calling g' mk (Value.ref b :: As).toArray, t, U', L, hT, X', hL, e1, e2, hq, st⟩
  · dsimp only [Pt.U, Pt.locs, Pt.cells, Pt.slots] at X' e1 e2 h1 h2 h3 st hcl
    subst h1; subst h2; subst h3
    exact Or.inr ⟨q, (T.setVm vm₁).calling g' mk (Value.ref b :: As).toArray, t, U', L, E, ce, hT, X', hL, e1, e2, hq, hce, hcv, vx_cls hW₁ hcl, st⟩
theorem vx_runSX {hh : List (Nat × Nat × Nat × Nat)} (S : CallFix p m c cc nL s args Ts own) (hM : vx_Met l y ws rm Pc Qc XC mc ms free) (cw : vx_CSW R s args own index y bytes maxL ret hh ws rm mc ms n) (hp : PreS s H Pc As)
    (hg : g.method = m) (hn : As.length = n) (hsize : g.locals.size = nL) (hstack : g.stack = As.reverse ++ rest) (hW : 2 * g.monitorRoom + (rest.map fun v => v.category).sum ≤ 8) (hdg : decode cc g.pc = .ok (.invokestatic index, 3)) (hf : cells + mc ≤ R.cells ∧ slots + ms ≤ R.slots) :
    vx_Run p l e R s m args below meth c H locs cells slots mc ms g rest (Qc As.toArray) XC free := by
  obtain ⟨⟨hrc, hrs, hfr, hlo, hws, hcw⟩, hcode, hini, hy, hlen, hl, hstt⟩ := cw
  have hK : vx_Back l R p e below s args y 3 8 (PreOf R mc ms Pc) (PostOf Qc mc ms free) (vx_Post XC mc ms free) := vx_backW (hh := hh) (bytes := bytes) (maxL := maxL) (ret := ret) hM hp.1 hrc hrs hfr hlo hws hcw (fun a' U hW => word_at hW (Or.inl (by first | rfl | simp [Cond.onTables, Cond.keeps, Cond.steady])) hini)
  obtain ⟨hx, hb, hml, ho, -⟩ := S
  intro T hT X
  rcases vx_callSX X hx (hh := hh) (bytes := bytes) (maxL := maxL) (ret := ret) ho hl hstt hini hcode hy hK hg (hsize.trans hml.symm) (argsL := As) (rest := rest) (fun sig h => hn.trans (hlen sig h)) hstack hW (by rw [hb]; exact hdg)
    (fun vm₁ hW₁ => ⟨hf.1, hf.2, hp.2 (T.setVm vm₁) hT hW₁⟩) with ⟨v, vm₁, ⟨U', l2, c2, s2⟩, hW₁, X', ⟨g', mk, t, L, e1, e2, hq, h1, hL, h2, h3⟩, st⟩ | ⟨q, vm₁, ⟨U', l2, c2, s2⟩, hW₁, X', ⟨g', mk, t, L, E, ce, e1, e2, hq, hce, hcv, hcl, h1, hL, h2, h3⟩, st⟩
  · dsimp only [Pt.U, Pt.locs, Pt.cells, Pt.slots] at X' e1 e2 h1 h2 h3 st
    subst h1; subst h2; subst h3
    exact Or.inl ⟨v, (T.setVm vm₁).calling g' mk As.toArray, t, U', L, hT, X', hL, e1, e2, hq, st⟩
  · dsimp only [Pt.U, Pt.locs, Pt.cells, Pt.slots] at X' e1 e2 h1 h2 h3 st hcl
    subst h1; subst h2; subst h3
    exact Or.inr ⟨q, (T.setVm vm₁).calling g' mk As.toArray, t, U', L, E, ce, hT, X', hL, e1, e2, hq, hce, hcv, vx_cls hW₁ hcl, st⟩
end
end VXH
theorem vx_ofWH {l : Launch} {y : MethodName} {ws ws' : List Cond} {rm : Room} {Pc : Array Value → State → Prop} {Qc : Array Value → State → Outcome → State → Prop} {XC : String → State → State → Prop} {mc ms : Nat} {free : Addr → Prop} {cc : ByteArray} {maxL : Nat} {ret : Option FieldType} {hh : List (Nat × Nat × Nat × Nat)}
    (hy : plainName y.cls = true) (hw : ws = Cond.codeWith y cc maxL ret hh :: ws')
    (body : ∀ p e s m args below meth c s₁, BodyLoose p l y (headSpec ws rm) cc maxL ret e s m args below meth c s₁ → c.maxLocals = maxL → Pc args s →
      W p l e (headSpec ws rm).room s m args below meth c s.heap [] 0 0 (vx_MQ below Qc XC args s mc ms free) (entryFrame m args maxL)) : vx_Met l y ws rm Pc Qc XC mc ms free := by
  refine MetFree.of_bodyS (code := cc) (maxLocals := maxL) (ret := ret) hy ?_ ?_
  · intro args s m h hn
    obtain ⟨m9, meth, c, hn9, h1, h2, h3, h4, -, h5, h6, -⟩ := Cond.codeWith_spec (atoms_spec (ws := ws) h _ (by rw [hw]; exact List.mem_cons_self))
    cases hn.symm.trans hn9
    exact ⟨meth, c, h1, h2, h3, h4, h5, h6⟩
  · intro p e s m args below meth c s₁ B hml hP _
    have hh0 : s₁.heap = s.heap := by rw [B.state]; rfl
    obtain ⟨t, a1, o, b1, b2, b3⟩ := body p e s m args below meth c s₁ B hml hP s₁ hh0 (Stand.of_body B)
    exact ⟨t, o, a1, b1, b2, b3⟩
/-! ===== END ===== -/

/-! ===== BEGIN printed: names, fields, word lists, decode rows ===== -/
end
section
/-! THE WORLD: an abstract heap (kinds of cells, ints, longs) and the judgement G: from a configuration of a method the machine comes to one that E holds of -/
abbrev Kd : Type := Nat × Nat × List Nat
abbrev Hp : Type := List Kd × (Nat → Nat → Int32) × (Nat → Nat → Int64)
abbrev Lv : Type := List (Nat × Value)
def shx : Nat := 1000000
def rfv (ad : Nat → Nat) : Nat → Value
  | 0 => .null
  | k + 1 => .ref (ad k)
def rfo (ad : Nat → Nat) : Nat → Option Nat
  | 0 => none
  | k + 1 => some (ad k)
def cv (ad : Nat → Nat) : Value → Value
  | .ref k => .ref (ad k)
  | v => v
/-- 0 an int of any width, 1 a long, 2 a reference -/
def fk : FieldType → Nat
  | .long => 1
  | .object _ => 2
  | .array _ => 2
  | _ => 0
abbrev cl_all : List vw_C := [(RX0, TX0, 11), (RX1, TX1, 20), (RX2, TX2, 6), (RX3, TX3, 7), (RX4, TX4, 17), (RX5, TX5, 12), (RX6, TX6, 11), (RX7, TX7, 9), (RX8, TX8, 7), (RX9, TX9, 2), (RX10, TX10, 2), (RX11, TX11, 11), (RX12, TX12, 75)]
def ctyp : Nat → Nat → FieldType
  | 0 => tyX0
  | 1 => tyX1
  | 2 => tyX2
  | 3 => tyX3
  | 4 => tyX4
  | 5 => tyX5
  | 6 => tyX6
  | 7 => tyX7
  | 8 => tyX8
  | 9 => tyX9
  | 10 => tyX10
  | 11 => tyX11
  | _ => tyX12
def cnf (c : Nat) : Nat := match cl_all[c]? with
  | some q => q.2.2
  | none => 0
def fvl (ad : Nat → Nat) (Ik : Nat → Int32) (Jk : Nat → Int64) (c : Nat) (rs : List Nat) (j : Nat) : Value := match fk (ctyp c j) with
  | 1 => .long (Jk j)
  | 2 => rfv ad (rs.getD j 0)
  | _ => .int (Ik j)
def flds (ad : Nat → Nat) (Ik : Nat → Int32) (Jk : Nat → Int64) (c : Nat) (rs : List Nat) : List Value := (List.range (cnf c)).map (fvl ad Ik Jk c rs)
/-- kinds: 0 an object (its number in cl_all, its references); 1 int[], 2 long[], 3 byte[], 4 char[], 5 boolean[] (length); 6 an array of Kept (length, references) -/
def cel (gA : Nat → ClassId) (ad : Nat → Nat) (Ik : Nat → Int32) (Jk : Nat → Int64) (kd : Kd) : va_E := match kd.1 with
  | 0 => .inr (kd.2.1, flds ad Ik Jk kd.2.1 kd.2.2)
  | 2 => .inl (gA 2, kd.2.1, .inr (.inl Jk))
  | 6 => .inl (gA 6, kd.2.1, .inr (.inr (.inr (.inr (fun i => rfo ad (kd.2.2.getD i 0))))))
  | t => .inl (gA t, kd.2.1, .inl Ik)
def wsO (gA : Nat → ClassId) (ad : Nat → Nat) (h : Hp) : va_W := h.1.mapIdx (fun k kd => (ad k, cel gA ad (h.2.1 k) (h.2.2 k) kd))
def tysO (gA : Nat → ClassId) : List (ClassId × FieldType) := [(gA 1, .int), (gA 2, .long), (gA 3, .byte), (gA 4, .char), (gA 5, .boolean), (gA 6, .object RX2)]
def ui (I : Nat → Nat → Int32) (k i : Nat) (v : Int32) : Nat → Nat → Int32 := fun a => if a = k then upd (I a) i v else I a
def uj (J : Nat → Nat → Int64) (k i : Nat) (v : Int64) : Nat → Nat → Int64 := fun a => if a = k then vp_updL (J a) i v else J a
theorem ui_k (I : Nat → Nat → Int32) (k i : Nat) (v : Int32) : ui I k i v k = upd (I k) i v := if_pos rfl
theorem ui_ne {I : Nat → Nat → Int32} {k i a : Nat} {v : Int32} (h : a ≠ k) : ui I k i v a = I a := if_neg h
theorem uj_k (I : Nat → Nat → Int64) (k i : Nat) (v : Int64) : uj I k i v k = vp_updL (I k) i v := if_pos rfl
theorem uj_ne {I : Nat → Nat → Int64} {k i a : Nat} {v : Int64} (h : a ≠ k) : uj I k i v a = I a := if_neg h
def lvm (ad : Nat → Nat) (lv : Lv) : Lv := lv.map (fun q => (q.1, cv ad q.2))
theorem cv_cat (ad : Nat → Nat) (v : Value) : (cv ad v).category = v.category := by cases v <;> rfl
theorem wsO_get {gA : Nat → ClassId} {ad : Nat → Nat} {h : Hp} {k : Nat} {kd : Kd} (hz : h.1[k]? = some kd) : (wsO gA ad h)[k]? = some (ad k, cel gA ad (h.2.1 k) (h.2.2 k) kd) := by
  simp [wsO, List.getElem?_mapIdx, hz]
theorem wsO_setI {gA : Nat → ClassId} {ad : Nat → Nat} {Z : List Kd} {I : Nat → Nat → Int32} {J : Nat → Nat → Int64} {k i : Nat} {v : Int32} {kd : Kd} (hz : Z[k]? = some kd) :
    (wsO gA ad (Z, I, J)).set k (ad k, cel gA ad (upd (I k) i v) (J k) kd) = wsO gA ad (Z, ui I k i v, J) := by
  apply List.ext_getElem?
  intro n
  by_cases hn : n = k
  · subst hn
    have hl : n < Z.length := (List.getElem?_eq_some_iff.mp hz).1
    rw [List.getElem?_set_self (by simpa [wsO] using hl), wsO_get hz]
    show _ = some (ad n, cel gA ad (ui I n i v n) (J n) kd)
    rw [ui_k]
  · rw [List.getElem?_set_ne (Ne.symm hn)]
    simp [wsO, List.getElem?_mapIdx, ui_ne hn]
theorem wsO_setJ {gA : Nat → ClassId} {ad : Nat → Nat} {Z : List Kd} {I : Nat → Nat → Int32} {J : Nat → Nat → Int64} {k i : Nat} {v : Int64} {kd : Kd} (hz : Z[k]? = some kd) :
    (wsO gA ad (Z, I, J)).set k (ad k, cel gA ad (I k) (vp_updL (J k) i v) kd) = wsO gA ad (Z, I, uj J k i v) := by
  apply List.ext_getElem?
  intro n
  by_cases hn : n = k
  · subst hn
    have hl : n < Z.length := (List.getElem?_eq_some_iff.mp hz).1
    rw [List.getElem?_set_self (by simpa [wsO] using hl), wsO_get hz]
    show _ = some (ad n, cel gA ad (I n) (uj J n i v n) kd)
    rw [uj_k]
  · rw [List.getElem?_set_ne (Ne.symm hn)]
    simp [wsO, List.getElem?_mapIdx, uj_ne hn]
theorem wsO_setZ {gA : Nat → ClassId} {ad : Nat → Nat} {Z : List Kd} {I : Nat → Nat → Int32} {J : Nat → Nat → Int64} {k : Nat} {kd' : Kd} (hk : k < Z.length) :
    (wsO gA ad (Z, I, J)).set k (ad k, cel gA ad (I k) (J k) kd') = wsO gA ad (Z.set k kd', I, J) := by
  apply List.ext_getElem?
  intro n
  by_cases hn : n = k
  · subst hn
    rw [List.getElem?_set_self (by simpa [wsO] using hk), wsO_get (h := (Z.set n kd', I, J)) (List.getElem?_set_self hk)]
  · rw [List.getElem?_set_ne (Ne.symm hn)]
    simp [wsO, List.getElem?_mapIdx, List.getElem?_set_ne (Ne.symm hn)]
/-- words that hold in every state of the run -/
def qw (w : Cond) : Bool := (w.onTables && w.keepsH) || goodWord w
def wl : List Cond := lw_tbl.filter qw
theorem wl_of {w : Cond} (i : Nat) (h : lw_tbl[i]? = some w) (hq : qw w = true) : w ∈ wl := List.mem_filter.mpr ⟨List.mem_of_getElem? h, hq⟩
theorem wl_warm {args a' : Array Value} {s U : State} (hW : s.WarmedH U.vm) {w : Cond} (hw : w ∈ wl) (h : w.before args s = true) : w.before a' U = true := by
  have hq : qw w = true := (List.mem_filter.mp hw).2
  simp only [qw, Bool.or_eq_true, Bool.and_eq_true] at hq
  rcases hq with hq | hq
  · have h1 := Cond.onTables_warmH (T := U) (args' := a') hW hq.1 hq.2 h
    rwa [State.setVm_self] at h1
  · exact word_at hW (good_of_word hq) h
/-- a method: its name, its bytes, locals, return type, its instructions by their places -/
abbrev MD : Type := MethodName × ByteArray × Nat × Option FieldType × List (Nat × Instr × Nat)
def MOk (M : MD) : Prop := ∀ t ∈ M.2.2.2.2, decode M.2.1 t.1 = .ok (t.2.1, t.2.2)
def shf : Nat → Value := fun k => .int (([0, 27720, 13860, 9240, 6930, 5544, 4620, 3960, 3465, 3080, 2772, 2520] : List Int32).getD k 0)
def Shs (A : Nat → Prop) (t : Nat) (U : State) : Prop := va_Z "NinetyLamps$Flow" "SHARES" "[I" (.ref t) A U U.heap ∧ va_T .int t 12 shf A U U.heap ∧ vx_Zq Bundle.tN "UNASSIGNED_STACK" Bundle.steD A U U.heap ∧ vx_Zq Bundle.tN "SUPPRESSED_SENTINEL" Bundle.listD A U U.heap ∧ va_AO RX2 U
def Ext (n : Nat) (ad : Nat → Nat) (n' : Nat) (ad' : Nat → Nat) : Prop := n ≤ n' ∧ (∀ k, k < n ∨ shx ≤ k → ad' k = ad k) ∧ (n' = n → ad' = ad)
theorem Ext.rf {n : Nat} {ad : Nat → Nat} : Ext n ad n ad := ⟨Nat.le_refl _, fun _ _ => rfl, fun _ => rfl⟩
theorem Ext.tr {n1 n2 n3 : Nat} {a1 a2 a3 : Nat → Nat} (h : Ext n1 a1 n2 a2) (g : Ext n2 a2 n3 a3) : Ext n1 a1 n3 a3 := by
  refine ⟨Nat.le_trans h.1 g.1, fun k hk => ?_, fun e => ?_⟩
  · rw [g.2.1 k (hk.elim (fun q => Or.inl (Nat.lt_of_lt_of_le q h.1)) Or.inr), h.2.1 k hk]
  · have h1 := h.1
    have h2 := g.1
    rw [g.2.2 (by omega), h.2.2 (by omega)]
def Cx (M : MD) (p : Program) (l : Launch) (s : State) (m : MethodId) (args : Array Value) (meth : Method) (c : Code) (A : Nat → Prop) (D : va_G) (gA : Nat → ClassId) (t : Nat) : Prop :=
  p.tables.exec = Jvm.exec ∧ c.code = M.2.1 ∧ meth.sig.returnType = M.2.2.2.1 ∧ c.maxLocals = M.2.2.1 ∧ s.vm.findClass M.1.cls = some m.cls ∧ (∀ w ∈ wl, w.before args s = true) ∧ va_K D cl_all (tysO gA) s ∧ (∀ q, s.heap.size ≤ q → A q) ∧ meth.locks = false ∧ meth.name = M.1.name ∧ MOk M ∧ Shs A t s ∧ l.stackTraces = false
section CX
variable {M : MD} {p : Program} {l : Launch} {s : State} {m : MethodId} {args : Array Value} {meth : Method} {c : Code} {A : Nat → Prop} {D : va_G} {gA : Nat → ClassId} {t : Nat}
theorem Cx.x (C : Cx M p l s m args meth c A D gA t) : p.tables.exec = Jvm.exec := And.left C
theorem Cx.b (C : Cx M p l s m args meth c A D gA t) : c.code = M.2.1 := And.left (And.right C)
theorem Cx.r (C : Cx M p l s m args meth c A D gA t) : meth.sig.returnType = M.2.2.2.1 := And.left (And.right (And.right C))
theorem Cx.ml (C : Cx M p l s m args meth c A D gA t) : c.maxLocals = M.2.2.1 := And.left (And.right (And.right (And.right C)))
theorem Cx.own (C : Cx M p l s m args meth c A D gA t) : s.vm.findClass M.1.cls = some m.cls := And.left (And.right (And.right (And.right (And.right C))))
theorem Cx.ts (C : Cx M p l s m args meth c A D gA t) : ∀ w ∈ wl, w.before args s = true := And.left (And.right (And.right (And.right (And.right (And.right C)))))
theorem Cx.K (C : Cx M p l s m args meth c A D gA t) : va_K D cl_all (tysO gA) s := And.left (And.right (And.right (And.right (And.right (And.right (And.right C))))))
theorem Cx.hA (C : Cx M p l s m args meth c A D gA t) : ∀ q, s.heap.size ≤ q → A q := And.left (And.right (And.right (And.right (And.right (And.right (And.right (And.right C)))))))
theorem Cx.lk (C : Cx M p l s m args meth c A D gA t) : meth.locks = false := And.left (And.right (And.right (And.right (And.right (And.right (And.right (And.right (And.right C))))))))
theorem Cx.nm (C : Cx M p l s m args meth c A D gA t) : meth.name = M.1.name := And.left (And.right (And.right (And.right (And.right (And.right (And.right (And.right (And.right (And.right C)))))))))
theorem Cx.ok (C : Cx M p l s m args meth c A D gA t) : MOk M := And.left (And.right (And.right (And.right (And.right (And.right (And.right (And.right (And.right (And.right (And.right C))))))))))
theorem Cx.sh (C : Cx M p l s m args meth c A D gA t) : Shs A t s := And.left (And.right (And.right (And.right (And.right (And.right (And.right (And.right (And.right (And.right (And.right (And.right C)))))))))))
theorem Cx.tr (C : Cx M p l s m args meth c A D gA t) : l.stackTraces = false := And.right (And.right (And.right (And.right (And.right (And.right (And.right (And.right (And.right (And.right (And.right (And.right C)))))))))))
theorem MOk.at {M : MD} (h : MOk M) {i pc len : Nat} {ins : Instr} (hi : M.2.2.2.2[i]? = some (pc, ins, len)) : decode M.2.1 pc = .ok (ins, len) := h (pc, ins, len) (List.mem_of_getElem? hi)
end CX
def Rp (A : Nat → Prop) (D : va_G) (gA : Nat → ClassId) (s : State) (H : Heap) (locs : List Loc) (ad : Nat → Nat) (h : Hp) : Prop :=
  va_P D cl_all (wsO gA ad h) H ∧ va_D A (wsO gA ad h) ∧ va_S A s.heap H locs
abbrev Ex : Type := Nat × Nat → Nat → Lv → List Value → Hp → Prop
def G (M : MD) (R : Room) (E : Ex) (cs : Nat × Nat) (pc : Nat) (lv : Lv) (st : List Value) (h : Hp) : Prop :=
  ∀ (p : Program) (l : Launch) (e : Env) (s : State) (m : MethodId) (args : Array Value) (below : List Frame) (meth : Method) (c : Code) (Q : State → Prop) (A : Nat → Prop) (D : va_G) (gA : Nat → ClassId) (H : Heap) (locs : List Loc) (ls : Array Slot) (ad : Nat → Nat),
    Cx M p l s m args meth c A D gA (ad shx) → Rp A D gA s H locs ad h → lv_has ls M.2.2.1 (lvm ad lv) →
    (∀ (cs' : Nat × Nat) (pc' : Nat) (lv' : Lv) (st' : List Value) (h' : Hp) (H' : Heap) (locs' : List Loc) (ls' : Array Slot) (ad' : Nat → Nat), E cs' pc' lv' st' h' → Ext h.1.length ad h'.1.length ad' → Rp A D gA s H' locs' ad' h' → lv_has ls' M.2.2.1 (lvm ad' lv') →
      W p l e R s m args below meth c H' locs' cs'.1 cs'.2 Q (F0 m pc' ls' (st'.map (cv ad')))) →
    W p l e R s m args below meth c H locs cs.1 cs.2 Q (F0 m pc ls (st.map (cv ad)))
section GR
variable {M : MD} {R : Room} {E : Ex} {cs : Nat × Nat} {pc : Nat} {lv : Lv} {st : List Value} {h : Hp}
theorem G.exit (he : E cs pc lv st h) : G M R E cs pc lv st h := by
  intro p l e s m args below meth c Q A D gA H locs ls ad C hr hl hE
  exact hE cs pc lv st h H locs ls ad he Ext.rf hr hl
theorem G.tr {E1 : Ex} (g : G M R E1 cs pc lv st h) (k : ∀ cs' pc' lv' st' h', E1 cs' pc' lv' st' h' → G M R E cs' pc' lv' st' h') : G M R E cs pc lv st h := by
  intro p l e s m args below meth c Q A D gA H locs ls ad C hr hl hE
  refine g p l e s m args below meth c Q A D gA H locs ls ad C hr hl fun cs' pc' lv' st' h' H' locs' ls' ad' he hx hr' hl' => ?_
  have hs : ad' shx = ad shx := hx.2.1 _ (Or.inr (Nat.le_refl _))
  exact k cs' pc' lv' st' h' he p l e s m args below meth c Q A D gA H' locs' ls' ad' (by rw [hs]; exact C) hr' hl' (fun cs2 pc2 lv2 st2 h2 H2 l2 ls2 ad2 he2 hx2 hr2 hl2 => hE cs2 pc2 lv2 st2 h2 H2 l2 ls2 ad2 he2 (hx.tr hx2) hr2 hl2)
theorem G.mono {E1 : Ex} (g : G M R E1 cs pc lv st h) (k : ∀ cs' pc' lv' st' h', E1 cs' pc' lv' st' h' → E cs' pc' lv' st' h') : G M R E cs pc lv st h :=
  g.tr fun cs' pc' lv' st' h' he => G.exit (k cs' pc' lv' st' h' he)
/-- a row of the kit that changes the stack alone -/
theorem G.row {pc' : Nat} {st' : List Value} {ins : Instr} {len : Nat} (i : Nat) (hi : M.2.2.2.2[i]? = some (pc, ins, len))
    (row : ∀ (p : Program) (l : Launch) (e : Env) (s : State) (m : MethodId) (args : Array Value) (below : List Frame) (meth : Method) (c : Code) (Q : State → Prop) (H : Heap) (locs : List Loc) (ls : Array Slot) (ad : Nat → Nat), s.vm.findClass M.1.cls = some m.cls → (∀ w ∈ wl, w.before args s = true) → p.tables.exec = Jvm.exec → c.code = M.2.1 → decode M.2.1 pc = .ok (ins, len) →
      W p l e R s m args below meth c H locs cs.1 cs.2 Q (F0 m pc' ls (st'.map (cv ad))) → W p l e R s m args below meth c H locs cs.1 cs.2 Q (F0 m pc ls (st.map (cv ad))))
    (k : G M R E cs pc' lv st' h) : G M R E cs pc lv st h := by
  intro p l e s m args below meth c Q A D gA H locs ls ad C hr hl hE
  exact row p l e s m args below meth c Q H locs ls ad C.own C.ts C.x C.b (C.ok.at hi) (k p l e s m args below meth c Q A D gA H locs ls ad C hr hl hE)
theorem G.sub {lv' : Lv} (ks : List Nat) (hl' : lv_pick lv ks = lv') (k : G M R E cs pc lv' st h) : G M R E cs pc lv st h := by
  intro p l e s m args below meth c Q A D gA H locs ls ad C hr hl hE
  refine k p l e s m args below meth c Q A D gA H locs ls ad C hr (lv_sub hl ks ?_) hE
  subst hl'
  simp [lv_pick, lvm, List.map_filterMap, List.filterMap_map]
end GR
end
section
/-! STEPS OF G: the instructions that touch stack, locals and the place alone -/
section GS
variable {M : MD} {R : Room} {E : Ex} {cs : Nat × Nat} {pc : Nat} {lv : Lv} {st : List Value} {h : Hp}
theorem G.iconst {n : Int} (v : Int32) (i : Nat) (hi : M.2.2.2.2[i]? = some (pc, .iconst n, 1)) (hv : Int32.ofInt n = v) (k : G M R E cs (pc + 1) lv (.int v :: st) h) : G M R E cs pc lv (st) h := G.row i hi (fun p l e s m args below meth c Q H locs ls ad ho ht hx hb hd kk => lv_iconst hx hb hd hv kk) k
theorem G.bipush {n : Int} (v : Int32) (i : Nat) (hi : M.2.2.2.2[i]? = some (pc, .bipush n, 2)) (hv : (Int8.ofInt n).toInt32 = v) (k : G M R E cs (pc + 2) lv (.int v :: st) h) : G M R E cs pc lv (st) h := G.row i hi (fun p l e s m args below meth c Q H locs ls ad ho ht hx hb hd kk => lv_bipush hx hb hd hv kk) k
theorem G.sipush {n : Int} (v : Int32) (i : Nat) (hi : M.2.2.2.2[i]? = some (pc, .sipush n, 3)) (hv : (Int16.ofInt n).toInt32 = v) (k : G M R E cs (pc + 3) lv (.int v :: st) h) : G M R E cs pc lv (st) h := G.row i hi (fun p l e s m args below meth c Q H locs ls ad ho ht hx hb hd kk => lv_sipush hx hb hd hv kk) k
theorem G.lconst {n : Fin 2} (v : Int64) (i : Nat) (hi : M.2.2.2.2[i]? = some (pc, .lconst n, 1)) (hv : Int64.ofNat (n : Nat) = v) (k : G M R E cs (pc + 1) lv (.long v :: st) h) : G M R E cs pc lv (st) h := G.row i hi (fun p l e s m args below meth c Q H locs ls ad ho ht hx hb hd kk => lv_lconst hx hb hd hv kk) k
theorem G.ldc {x : Nat} (v : Int32) (i : Nat) (hi : M.2.2.2.2[i]? = some (pc, .ldc x, 2)) (hc : Cond.constant M.1.cls x v ∈ wl) (k : G M R E cs (pc + 2) lv (.int v :: st) h) : G M R E cs pc lv (st) h := G.row i hi (fun p l e s m args below meth c Q H locs ls ad ho ht hx hb hd kk => lv_ldc hx hb ho (ht _ hc) hd kk) k
theorem G.ldcw {x : Nat} (v : Int32) (i : Nat) (hi : M.2.2.2.2[i]? = some (pc, .ldc_w x, 3)) (hc : Cond.constant M.1.cls x v ∈ wl) (k : G M R E cs (pc + 3) lv (.int v :: st) h) : G M R E cs pc lv (st) h := G.row i hi (fun p l e s m args below meth c Q H locs ls ad ho ht hx hb hd kk => lv_ldcw hx hb ho (ht _ hc) hd kk) k
theorem G.ldc2 {x : Nat} (v : Int64) (i : Nat) (hi : M.2.2.2.2[i]? = some (pc, .ldc2_w x, 3)) (hc : Cond.constantLong M.1.cls x v ∈ wl) (k : G M R E cs (pc + 3) lv (.long v :: st) h) : G M R E cs pc lv (st) h := G.row i hi (fun p l e s m args below meth c Q H locs ls ad ho ht hx hb hd kk => lv_ldc2 hx hb ho (ht _ hc) hd kk) k
theorem G.iadd {x y : Int32} (i : Nat) (hi : M.2.2.2.2[i]? = some (pc, .iadd, 1)) (k : G M R E cs (pc + 1) lv (.int (x + y) :: st) h) : G M R E cs pc lv (.int y :: .int x :: st) h := G.row i hi (fun p l e s m args below meth c Q H locs ls ad ho ht hx hb hd kk => lv_iadd hx hb hd kk) k
theorem G.isub {x y : Int32} (i : Nat) (hi : M.2.2.2.2[i]? = some (pc, .isub, 1)) (k : G M R E cs (pc + 1) lv (.int (x - y) :: st) h) : G M R E cs pc lv (.int y :: .int x :: st) h := G.row i hi (fun p l e s m args below meth c Q H locs ls ad ho ht hx hb hd kk => lv_isub hx hb hd kk) k
theorem G.imul {x y : Int32} (i : Nat) (hi : M.2.2.2.2[i]? = some (pc, .imul, 1)) (k : G M R E cs (pc + 1) lv (.int (x * y) :: st) h) : G M R E cs pc lv (.int y :: .int x :: st) h := G.row i hi (fun p l e s m args below meth c Q H locs ls ad ho ht hx hb hd kk => lv_imul hx hb hd kk) k
theorem G.iand {x y : Int32} (i : Nat) (hi : M.2.2.2.2[i]? = some (pc, .iand, 1)) (k : G M R E cs (pc + 1) lv (.int (x &&& y) :: st) h) : G M R E cs pc lv (.int y :: .int x :: st) h := G.row i hi (fun p l e s m args below meth c Q H locs ls ad ho ht hx hb hd kk => lv_iand hx hb hd kk) k
theorem G.ior {x y : Int32} (i : Nat) (hi : M.2.2.2.2[i]? = some (pc, .ior, 1)) (k : G M R E cs (pc + 1) lv (.int (x ||| y) :: st) h) : G M R E cs pc lv (.int y :: .int x :: st) h := G.row i hi (fun p l e s m args below meth c Q H locs ls ad ho ht hx hb hd kk => lv_ior hx hb hd kk) k
theorem G.ixor {x y : Int32} (i : Nat) (hi : M.2.2.2.2[i]? = some (pc, .ixor, 1)) (k : G M R E cs (pc + 1) lv (.int (x ^^^ y) :: st) h) : G M R E cs pc lv (.int y :: .int x :: st) h := G.row i hi (fun p l e s m args below meth c Q H locs ls ad ho ht hx hb hd kk => lv_ixor hx hb hd kk) k
theorem G.ishl {x y : Int32} (i : Nat) (hi : M.2.2.2.2[i]? = some (pc, .ishl, 1)) (k : G M R E cs (pc + 1) lv (.int (x <<< (y &&& 31)) :: st) h) : G M R E cs pc lv (.int y :: .int x :: st) h := G.row i hi (fun p l e s m args below meth c Q H locs ls ad ho ht hx hb hd kk => lv_ishl hx hb hd kk) k
theorem G.ishr {x y : Int32} (i : Nat) (hi : M.2.2.2.2[i]? = some (pc, .ishr, 1)) (k : G M R E cs (pc + 1) lv (.int (x >>> (y &&& 31)) :: st) h) : G M R E cs pc lv (.int y :: .int x :: st) h := G.row i hi (fun p l e s m args below meth c Q H locs ls ad ho ht hx hb hd kk => lv_ishr hx hb hd kk) k
theorem G.ladd {x y : Int64} (i : Nat) (hi : M.2.2.2.2[i]? = some (pc, .ladd, 1)) (k : G M R E cs (pc + 1) lv (.long (x + y) :: st) h) : G M R E cs pc lv (.long y :: .long x :: st) h := G.row i hi (fun p l e s m args below meth c Q H locs ls ad ho ht hx hb hd kk => lv_ladd hx hb hd kk) k
theorem G.lsub {x y : Int64} (i : Nat) (hi : M.2.2.2.2[i]? = some (pc, .lsub, 1)) (k : G M R E cs (pc + 1) lv (.long (x - y) :: st) h) : G M R E cs pc lv (.long y :: .long x :: st) h := G.row i hi (fun p l e s m args below meth c Q H locs ls ad ho ht hx hb hd kk => lv_lsub hx hb hd kk) k
theorem G.lmul {x y : Int64} (i : Nat) (hi : M.2.2.2.2[i]? = some (pc, .lmul, 1)) (k : G M R E cs (pc + 1) lv (.long (x * y) :: st) h) : G M R E cs pc lv (.long y :: .long x :: st) h := G.row i hi (fun p l e s m args below meth c Q H locs ls ad ho ht hx hb hd kk => lv_lmul hx hb hd kk) k
theorem G.land {x y : Int64} (i : Nat) (hi : M.2.2.2.2[i]? = some (pc, .land, 1)) (k : G M R E cs (pc + 1) lv (.long (x &&& y) :: st) h) : G M R E cs pc lv (.long y :: .long x :: st) h := G.row i hi (fun p l e s m args below meth c Q H locs ls ad ho ht hx hb hd kk => lv_land hx hb hd kk) k
theorem G.lor {x y : Int64} (i : Nat) (hi : M.2.2.2.2[i]? = some (pc, .lor, 1)) (k : G M R E cs (pc + 1) lv (.long (x ||| y) :: st) h) : G M R E cs pc lv (.long y :: .long x :: st) h := G.row i hi (fun p l e s m args below meth c Q H locs ls ad ho ht hx hb hd kk => lv_lor hx hb hd kk) k
theorem G.lxor {x y : Int64} (i : Nat) (hi : M.2.2.2.2[i]? = some (pc, .lxor, 1)) (k : G M R E cs (pc + 1) lv (.long (x ^^^ y) :: st) h) : G M R E cs pc lv (.long y :: .long x :: st) h := G.row i hi (fun p l e s m args below meth c Q H locs ls ad ho ht hx hb hd kk => lv_lxor hx hb hd kk) k
theorem G.idiv {x y : Int32} (i : Nat) (hi : M.2.2.2.2[i]? = some (pc, .idiv, 1)) (hne : ¬ y = 0) (k : G M R E cs (pc + 1) lv (.int (x / y) :: st) h) : G M R E cs pc lv (.int y :: .int x :: st) h := G.row i hi (fun p l e s m args below meth c Q H locs ls ad ho ht hx hb hd kk => lv_idiv hx hb hd hne kk) k
theorem G.irem {x y : Int32} (i : Nat) (hi : M.2.2.2.2[i]? = some (pc, .irem, 1)) (hne : ¬ y = 0) (k : G M R E cs (pc + 1) lv (.int (x - x / y * y) :: st) h) : G M R E cs pc lv (.int y :: .int x :: st) h := G.row i hi (fun p l e s m args below meth c Q H locs ls ad ho ht hx hb hd kk => lv_irem hx hb hd hne kk) k
theorem G.ldiv {x y : Int64} (i : Nat) (hi : M.2.2.2.2[i]? = some (pc, .ldiv, 1)) (hne : ¬ y = 0) (k : G M R E cs (pc + 1) lv (.long (x / y) :: st) h) : G M R E cs pc lv (.long y :: .long x :: st) h := G.row i hi (fun p l e s m args below meth c Q H locs ls ad ho ht hx hb hd kk => lv_ldiv hx hb hd hne kk) k
theorem G.ineg {x : Int32} (i : Nat) (hi : M.2.2.2.2[i]? = some (pc, .ineg, 1)) (k : G M R E cs (pc + 1) lv (.int (-x) :: st) h) : G M R E cs pc lv (.int x :: st) h := G.row i hi (fun p l e s m args below meth c Q H locs ls ad ho ht hx hb hd kk => lv_ineg hx hb hd kk) k
theorem G.iushr {x y : Int32} (i : Nat) (hi : M.2.2.2.2[i]? = some (pc, .iushr, 1)) (k : G M R E cs (pc + 1) lv (.int ((x.toUInt32 >>> (y.toUInt32 &&& Int32.toUInt32 31)).toInt32) :: st) h) : G M R E cs pc lv (.int y :: .int x :: st) h := G.row i hi (fun p l e s m args below meth c Q H locs ls ad ho ht hx hb hd kk => lv_iushr hx hb hd rfl kk) k
theorem G.lushr {x : Int64} {y : Int32} (i : Nat) (hi : M.2.2.2.2[i]? = some (pc, .lushr, 1)) (k : G M R E cs (pc + 1) lv (.long ((x.toUInt64 >>> (y.toInt64.toUInt64 &&& Int64.toUInt64 63)).toInt64) :: st) h) : G M R E cs pc lv (.int y :: .long x :: st) h := G.row i hi (fun p l e s m args below meth c Q H locs ls ad ho ht hx hb hd kk => lv_lushr hx hb hd rfl kk) k
theorem G.lshr {x : Int64} {y : Int32} (i : Nat) (hi : M.2.2.2.2[i]? = some (pc, .lshr, 1)) (k : G M R E cs (pc + 1) lv (.long (x >>> (y.toInt64 &&& 63)) :: st) h) : G M R E cs pc lv (.int y :: .long x :: st) h := G.row i hi (fun p l e s m args below meth c Q H locs ls ad ho ht hx hb hd kk => lv_lshr hx hb hd rfl kk) k
theorem G.lshl {x : Int64} {y : Int32} (i : Nat) (hi : M.2.2.2.2[i]? = some (pc, .lshl, 1)) (k : G M R E cs (pc + 1) lv (.long (x <<< (y.toInt64 &&& 63)) :: st) h) : G M R E cs pc lv (.int y :: .long x :: st) h := G.row i hi (fun p l e s m args below meth c Q H locs ls ad ho ht hx hb hd kk => lv_lshl hx hb hd rfl kk) k
theorem G.i2l {x : Int32} (i : Nat) (hi : M.2.2.2.2[i]? = some (pc, .i2l, 1)) (k : G M R E cs (pc + 1) lv (.long x.toInt64 :: st) h) : G M R E cs pc lv (.int x :: st) h := G.row i hi (fun p l e s m args below meth c Q H locs ls ad ho ht hx hb hd kk => lv_i2l hx hb hd rfl kk) k
theorem G.l2i {x : Int64} (i : Nat) (hi : M.2.2.2.2[i]? = some (pc, .l2i, 1)) (k : G M R E cs (pc + 1) lv (.int x.toInt32 :: st) h) : G M R E cs pc lv (.long x :: st) h := G.row i hi (fun p l e s m args below meth c Q H locs ls ad ho ht hx hb hd kk => lv_l2i hx hb hd rfl kk) k
theorem G.i2b {x : Int32} (i : Nat) (hi : M.2.2.2.2[i]? = some (pc, .i2b, 1)) (k : G M R E cs (pc + 1) lv (.int x.toInt8.toInt32 :: st) h) : G M R E cs pc lv (.int x :: st) h := G.row i hi (fun p l e s m args below meth c Q H locs ls ad ho ht hx hb hd kk => lv_i2b hx hb hd rfl kk) k
theorem G.i2s {x : Int32} (i : Nat) (hi : M.2.2.2.2[i]? = some (pc, .i2s, 1)) (k : G M R E cs (pc + 1) lv (.int x.toInt16.toInt32 :: st) h) : G M R E cs pc lv (.int x :: st) h := G.row i hi (fun p l e s m args below meth c Q H locs ls ad ho ht hx hb hd kk => lv_i2s hx hb hd rfl kk) k
theorem G.i2c {x : Int32} (i : Nat) (hi : M.2.2.2.2[i]? = some (pc, .i2c, 1)) (k : G M R E cs (pc + 1) lv (.int (x.toUInt32 % 65536).toInt32 :: st) h) : G M R E cs pc lv (.int x :: st) h := G.row i hi (fun p l e s m args below meth c Q H locs ls ad ho ht hx hb hd kk => lv_i2c hx hb hd rfl kk) k
theorem G.lcmp {x y : Int64} (i : Nat) (hi : M.2.2.2.2[i]? = some (pc, .lcmp, 1)) (k : G M R E cs (pc + 1) lv (.int (lg_cmp x y) :: st) h) : G M R E cs pc lv (.long y :: .long x :: st) h := G.row i hi (fun p l e s m args below meth c Q H locs ls ad ho ht hx hb hd kk => W.lcmp hx hb hd kk) k
theorem G.dup {va : Value} (i : Nat) (hi : M.2.2.2.2[i]? = some (pc, .dup, 1)) (hva : va.category = 1) (k : G M R E cs (pc + 1) lv (va :: va :: st) h) : G M R E cs pc lv (va :: st) h := G.row i hi (fun p l e s m args below meth c Q H locs ls ad ho ht hx hb hd kk => lv_dup hx hb hd ((cv_cat ad _).trans hva) kk) k
theorem G.pop {va : Value} (i : Nat) (hi : M.2.2.2.2[i]? = some (pc, .pop, 1)) (hva : va.category = 1) (k : G M R E cs (pc + 1) lv (st) h) : G M R E cs pc lv (va :: st) h := G.row i hi (fun p l e s m args below meth c Q H locs ls ad ho ht hx hb hd kk => lv_pop hx hb hd ((cv_cat ad _).trans hva) kk) k
theorem G.dup_x1 {va vb : Value} (i : Nat) (hi : M.2.2.2.2[i]? = some (pc, .dup_x1, 1)) (hva : va.category = 1) (hvb : vb.category = 1) (k : G M R E cs (pc + 1) lv (va :: vb :: va :: st) h) : G M R E cs pc lv (va :: vb :: st) h := G.row i hi (fun p l e s m args below meth c Q H locs ls ad ho ht hx hb hd kk => lv_dup_x1 hx hb hd ((cv_cat ad _).trans hva) ((cv_cat ad _).trans hvb) kk) k
theorem G.dup2_11 {va vb : Value} (i : Nat) (hi : M.2.2.2.2[i]? = some (pc, .dup2, 1)) (hva : va.category = 1) (hvb : vb.category = 1) (k : G M R E cs (pc + 1) lv (va :: vb :: va :: vb :: st) h) : G M R E cs pc lv (va :: vb :: st) h := G.row i hi (fun p l e s m args below meth c Q H locs ls ad ho ht hx hb hd kk => lv_dup2_11 hx hb hd ((cv_cat ad _).trans hva) ((cv_cat ad _).trans hvb) kk) k
theorem G.dup2_2 {va : Value} (i : Nat) (hi : M.2.2.2.2[i]? = some (pc, .dup2, 1)) (hva : va.category = 2) (k : G M R E cs (pc + 1) lv (va :: va :: st) h) : G M R E cs pc lv (va :: st) h := G.row i hi (fun p l e s m args below meth c Q H locs ls ad ho ht hx hb hd kk => lv_dup2_2 hx hb hd ((cv_cat ad _).trans hva) kk) k
theorem G.pop2_2 {va : Value} (i : Nat) (hi : M.2.2.2.2[i]? = some (pc, .pop2, 1)) (hva : va.category = 2) (k : G M R E cs (pc + 1) lv (st) h) : G M R E cs pc lv (va :: st) h := G.row i hi (fun p l e s m args below meth c Q H locs ls ad ho ht hx hb hd kk => lv_pop2_2 hx hb hd ((cv_cat ad _).trans hva) kk) k
theorem lvm_at {ad : Nat → Nat} {lv : Lv} {j x : Nat} {v : Value} (hj : lv[j]? = some (x, v)) : (lvm ad lv)[j]? = some (x, cv ad v) := by
  simp [lvm, List.getElem?_map, hj]
theorem G.go {pc' : Nat} {st' : List Value} (row : ∀ (p : Program) (l : Launch) (e : Env) (s : State) (m : MethodId) (args : Array Value) (below : List Frame) (meth : Method) (c : Code) (Q : State → Prop) (A : Nat → Prop) (D : va_G) (gA : Nat → ClassId) (H : Heap) (locs : List Loc) (ls : Array Slot) (ad : Nat → Nat), Cx M p l s m args meth c A D gA (ad shx) → Rp A D gA s H locs ad h → lv_has ls M.2.2.1 (lvm ad lv) →
      W p l e R s m args below meth c H locs cs.1 cs.2 Q (F0 m pc' ls (st'.map (cv ad))) → W p l e R s m args below meth c H locs cs.1 cs.2 Q (F0 m pc ls (st.map (cv ad))))
    (k : G M R E cs pc' lv st' h) : G M R E cs pc lv st h := by
  intro p l e s m args below meth c Q A D gA H locs ls ad C hr hl hE
  exact row p l e s m args below meth c Q A D gA H locs ls ad C hr hl (k p l e s m args below meth c Q A D gA H locs ls ad C hr hl hE)
theorem G.iload_n {a : Fin 4} {x : Int32} (i j : Nat) (hi : M.2.2.2.2[i]? = some (pc, .iload_n a, 1)) (hj : lv[j]? = some ((a : Nat), .int x)) (k : G M R E cs (pc + 1) lv (.int x :: st) h) : G M R E cs pc lv st h := G.go (fun p l e s m args below meth c Q A D gA H locs ls ad C hr hl kk => lv_iload_n C.x C.b (C.ok.at hi) rfl (lv_at hl j (lvm_at hj)) kk) k
theorem G.iload {a : Nat} {x : Int32} (i j : Nat) (hi : M.2.2.2.2[i]? = some (pc, .iload a, 2)) (hj : lv[j]? = some (a, .int x)) (k : G M R E cs (pc + 2) lv (.int x :: st) h) : G M R E cs pc lv st h := G.go (fun p l e s m args below meth c Q A D gA H locs ls ad C hr hl kk => lv_iload C.x C.b (C.ok.at hi) (lv_at hl j (lvm_at hj)) kk) k
theorem G.lload_n {a : Fin 4} {x : Int64} (i j : Nat) (hi : M.2.2.2.2[i]? = some (pc, .lload_n a, 1)) (hj : lv[j]? = some ((a : Nat), .long x)) (k : G M R E cs (pc + 1) lv (.long x :: st) h) : G M R E cs pc lv st h := G.go (fun p l e s m args below meth c Q A D gA H locs ls ad C hr hl kk => lv_lload_n C.x C.b (C.ok.at hi) rfl (lv_at hl j (lvm_at hj)) kk) k
theorem G.lload {a : Nat} {x : Int64} (i j : Nat) (hi : M.2.2.2.2[i]? = some (pc, .lload a, 2)) (hj : lv[j]? = some (a, .long x)) (k : G M R E cs (pc + 2) lv (.long x :: st) h) : G M R E cs pc lv st h := G.go (fun p l e s m args below meth c Q A D gA H locs ls ad C hr hl kk => lv_lload C.x C.b (C.ok.at hi) (lv_at hl j (lvm_at hj)) kk) k
theorem G.aload_n {a : Fin 4} {x : Nat} (i j : Nat) (hi : M.2.2.2.2[i]? = some (pc, .aload_n a, 1)) (hj : lv[j]? = some ((a : Nat), .ref x)) (k : G M R E cs (pc + 1) lv (.ref x :: st) h) : G M R E cs pc lv st h := G.go (fun p l e s m args below meth c Q A D gA H locs ls ad C hr hl kk => lv_aload_n C.x C.b (C.ok.at hi) rfl (lv_at hl j (lvm_at hj)) kk) k
theorem G.aload {a : Nat} {x : Nat} (i j : Nat) (hi : M.2.2.2.2[i]? = some (pc, .aload a, 2)) (hj : lv[j]? = some (a, .ref x)) (k : G M R E cs (pc + 2) lv (.ref x :: st) h) : G M R E cs pc lv st h := G.go (fun p l e s m args below meth c Q A D gA H locs ls ad C hr hl kk => lv_aload C.x C.b (C.ok.at hi) (lv_at hl j (lvm_at hj)) kk) k
def f1 (a : Nat) : Nat × Value → Bool := fun q => !(q.1 == a) && !(q.1 + 1 == a && q.2.category == 2)
def f2 (a : Nat) : Nat × Value → Bool := fun q => !(q.1 == a) && (!(q.1 == a + 1) && !(q.1 + 1 == a && q.2.category == 2))
theorem lvm_f1 {ad : Nat → Nat} {lv : Lv} {a : Nat} : (lvm ad lv).filter (fun q => !(q.1 == a) && !(q.1 + 1 == a && q.2.category == 2)) = lvm ad (lv.filter (f1 a)) := by
  unfold lvm
  rw [List.filter_map]
  congr 1
  apply List.filter_congr
  intro q _
  simp [f1, cv_cat]
theorem lvm_f2 {ad : Nat → Nat} {lv : Lv} {a : Nat} : (lvm ad lv).filter (fun q => !(q.1 == a) && (!(q.1 == a + 1) && !(q.1 + 1 == a && q.2.category == 2))) = lvm ad (lv.filter (f2 a)) := by
  unfold lvm
  rw [List.filter_map]
  congr 1
  apply List.filter_congr
  intro q _
  simp [f2, cv_cat]
theorem G.istore_n {a : Fin 4} {x : Int32} (lv' : Lv) (i : Nat) (hi : M.2.2.2.2[i]? = some (pc, .istore_n a, 1)) (hn : (a : Nat) < M.2.2.1) (hl' : ((a : Nat), .int x) :: lv.filter (f1 a) = lv') (k : G M R E cs (pc + 1) lv' st h) : G M R E cs pc lv (.int x :: st) h := by
  intro p l e s m args below meth c Q A D gA H locs ls ad C hr hl hE
  exact lv_istore_n (lv' := ((a : Nat), .int x) :: lvm ad (lv.filter (f1 a))) C.x C.b (C.ok.at hi) rfl hl hn (by rw [lvm_f1]) (fun ls' hl2 => k p l e s m args below meth c Q A D gA H locs ls' ad C hr (by rw [← hl']; exact hl2) hE)
theorem G.istore {a : Nat} {x : Int32} (lv' : Lv) (i : Nat) (hi : M.2.2.2.2[i]? = some (pc, .istore a, 2)) (hn : a < M.2.2.1) (hl' : (a, .int x) :: lv.filter (f1 a) = lv') (k : G M R E cs (pc + 2) lv' st h) : G M R E cs pc lv (.int x :: st) h := by
  intro p l e s m args below meth c Q A D gA H locs ls ad C hr hl hE
  exact lv_istore (lv' := (a, .int x) :: lvm ad (lv.filter (f1 a))) C.x C.b (C.ok.at hi) hl hn (by rw [lvm_f1]) (fun ls' hl2 => k p l e s m args below meth c Q A D gA H locs ls' ad C hr (by rw [← hl']; exact hl2) hE)
theorem G.lstore_n {a : Fin 4} {x : Int64} (lv' : Lv) (i : Nat) (hi : M.2.2.2.2[i]? = some (pc, .lstore_n a, 1)) (hn : (a : Nat) + 1 < M.2.2.1) (hl' : ((a : Nat), .long x) :: lv.filter (f2 a) = lv') (k : G M R E cs (pc + 1) lv' st h) : G M R E cs pc lv (.long x :: st) h := by
  intro p l e s m args below meth c Q A D gA H locs ls ad C hr hl hE
  exact lv_lstore_n (lv' := ((a : Nat), .long x) :: lvm ad (lv.filter (f2 a))) C.x C.b (C.ok.at hi) rfl hl hn (by rw [lvm_f2]) (fun ls' hl2 => k p l e s m args below meth c Q A D gA H locs ls' ad C hr (by rw [← hl']; exact hl2) hE)
theorem G.lstore {a : Nat} {x : Int64} (lv' : Lv) (i : Nat) (hi : M.2.2.2.2[i]? = some (pc, .lstore a, 2)) (hn : a + 1 < M.2.2.1) (hl' : (a, .long x) :: lv.filter (f2 a) = lv') (k : G M R E cs (pc + 2) lv' st h) : G M R E cs pc lv (.long x :: st) h := by
  intro p l e s m args below meth c Q A D gA H locs ls ad C hr hl hE
  exact lv_lstore (lv' := (a, .long x) :: lvm ad (lv.filter (f2 a))) C.x C.b (C.ok.at hi) hl hn (by rw [lvm_f2]) (fun ls' hl2 => k p l e s m args below meth c Q A D gA H locs ls' ad C hr (by rw [← hl']; exact hl2) hE)
theorem G.astore_n {a : Fin 4} {x : Nat} (lv' : Lv) (i : Nat) (hi : M.2.2.2.2[i]? = some (pc, .astore_n a, 1)) (hn : (a : Nat) < M.2.2.1) (hl' : ((a : Nat), .ref x) :: lv.filter (f1 a) = lv') (k : G M R E cs (pc + 1) lv' st h) : G M R E cs pc lv (.ref x :: st) h := by
  intro p l e s m args below meth c Q A D gA H locs ls ad C hr hl hE
  exact lv_astore_n (lv' := ((a : Nat), .ref (ad x)) :: lvm ad (lv.filter (f1 a))) C.x C.b (C.ok.at hi) rfl hl hn (by rw [lvm_f1]) (fun ls' hl2 => k p l e s m args below meth c Q A D gA H locs ls' ad C hr (by rw [← hl']; exact hl2) hE)
theorem G.astore {a : Nat} {x : Nat} (lv' : Lv) (i : Nat) (hi : M.2.2.2.2[i]? = some (pc, .astore a, 2)) (hn : a < M.2.2.1) (hl' : (a, .ref x) :: lv.filter (f1 a) = lv') (k : G M R E cs (pc + 2) lv' st h) : G M R E cs pc lv (.ref x :: st) h := by
  intro p l e s m args below meth c Q A D gA H locs ls ad C hr hl hE
  exact lv_astore (lv' := (a, .ref (ad x)) :: lvm ad (lv.filter (f1 a))) C.x C.b (C.ok.at hi) hl hn (by rw [lvm_f1]) (fun ls' hl2 => k p l e s m args below meth c Q A D gA H locs ls' ad C hr (by rw [← hl']; exact hl2) hE)
theorem G.iinc {a : Nat} {n : Int} {x : Int32} (v : Int32) (lv' : Lv) (i j : Nat) (hi : M.2.2.2.2[i]? = some (pc, .iinc a n, 3)) (hj : lv[j]? = some (a, .int x)) (hv : x + Int32.ofInt n = v) (hn : a < M.2.2.1) (hl' : (a, .int v) :: lv.filter (f1 a) = lv') (k : G M R E cs (pc + 3) lv' st h) : G M R E cs pc lv st h := by
  intro p l e s m args below meth c Q A D gA H locs ls ad C hr hl hE
  exact lv_iinc (lv' := (a, .int v) :: lvm ad (lv.filter (f1 a))) C.x C.b (C.ok.at hi) hl (lvm_at hj) hv hn (by rw [lvm_f1]) (fun ls' hl2 => k p l e s m args below meth c Q A D gA H locs ls' ad C hr (by rw [← hl']; exact hl2) hE)
theorem G.iincW {a : Nat} {n : Int} {x : Int32} (v : Int32) (lv' : Lv) (i j : Nat) (hi : M.2.2.2.2[i]? = some (pc, .iinc a n, 6)) (hj : lv[j]? = some (a, .int x)) (hv : x + Int32.ofInt n = v) (hn : a < M.2.2.1) (hl' : (a, .int v) :: lv.filter (f1 a) = lv') (k : G M R E cs (pc + 6) lv' st h) : G M R E cs pc lv st h := by
  intro p l e s m args below meth c Q A D gA H locs ls ad C hr hl hE
  exact lv_iincW (lv' := (a, .int v) :: lvm ad (lv.filter (f1 a))) C.x C.b (C.ok.at hi) hl (lvm_at hj) hv hn (by rw [lvm_f1]) (fun ls' hl2 => k p l e s m args below meth c Q A D gA H locs ls' ad C hr (by rw [← hl']; exact hl2) hE)
theorem G.if_eq {x : Int32} {off : Int} (tgt : Nat) (i : Nat) (hi : M.2.2.2.2[i]? = some (pc, .ifCond .eq off, 3)) (ht : (pc : Int) + off = (tgt : Int)) (kt : x = 0 → G M R E cs tgt lv st h) (kf : ¬ x = 0 → G M R E cs (pc + 3) lv st h) : G M R E cs pc lv (.int x :: st) h := by
  intro p l e s m args below meth c Q A D gA H locs ls ad C hr hl hE
  exact lv_if_eq C.x C.b (C.ok.at hi) ht (fun q => kt q p l e s m args below meth c Q A D gA H locs ls ad C hr hl hE) (fun q => kf q p l e s m args below meth c Q A D gA H locs ls ad C hr hl hE)
theorem G.if_ne {x : Int32} {off : Int} (tgt : Nat) (i : Nat) (hi : M.2.2.2.2[i]? = some (pc, .ifCond .ne off, 3)) (ht : (pc : Int) + off = (tgt : Int)) (kt : ¬ x = 0 → G M R E cs tgt lv st h) (kf : x = 0 → G M R E cs (pc + 3) lv st h) : G M R E cs pc lv (.int x :: st) h := by
  intro p l e s m args below meth c Q A D gA H locs ls ad C hr hl hE
  exact lv_if_ne C.x C.b (C.ok.at hi) ht (fun q => kt q p l e s m args below meth c Q A D gA H locs ls ad C hr hl hE) (fun q => kf q p l e s m args below meth c Q A D gA H locs ls ad C hr hl hE)
theorem G.if_lt {x : Int32} {off : Int} (tgt : Nat) (i : Nat) (hi : M.2.2.2.2[i]? = some (pc, .ifCond .lt off, 3)) (ht : (pc : Int) + off = (tgt : Int)) (kt : x < 0 → G M R E cs tgt lv st h) (kf : ¬ x < 0 → G M R E cs (pc + 3) lv st h) : G M R E cs pc lv (.int x :: st) h := by
  intro p l e s m args below meth c Q A D gA H locs ls ad C hr hl hE
  exact lv_if_lt C.x C.b (C.ok.at hi) ht (fun q => kt q p l e s m args below meth c Q A D gA H locs ls ad C hr hl hE) (fun q => kf q p l e s m args below meth c Q A D gA H locs ls ad C hr hl hE)
theorem G.if_ge {x : Int32} {off : Int} (tgt : Nat) (i : Nat) (hi : M.2.2.2.2[i]? = some (pc, .ifCond .ge off, 3)) (ht : (pc : Int) + off = (tgt : Int)) (kt : 0 ≤ x → G M R E cs tgt lv st h) (kf : ¬ 0 ≤ x → G M R E cs (pc + 3) lv st h) : G M R E cs pc lv (.int x :: st) h := by
  intro p l e s m args below meth c Q A D gA H locs ls ad C hr hl hE
  exact lv_if_ge C.x C.b (C.ok.at hi) ht (fun q => kt q p l e s m args below meth c Q A D gA H locs ls ad C hr hl hE) (fun q => kf q p l e s m args below meth c Q A D gA H locs ls ad C hr hl hE)
theorem G.if_gt {x : Int32} {off : Int} (tgt : Nat) (i : Nat) (hi : M.2.2.2.2[i]? = some (pc, .ifCond .gt off, 3)) (ht : (pc : Int) + off = (tgt : Int)) (kt : 0 < x → G M R E cs tgt lv st h) (kf : ¬ 0 < x → G M R E cs (pc + 3) lv st h) : G M R E cs pc lv (.int x :: st) h := by
  intro p l e s m args below meth c Q A D gA H locs ls ad C hr hl hE
  exact lv_if_gt C.x C.b (C.ok.at hi) ht (fun q => kt q p l e s m args below meth c Q A D gA H locs ls ad C hr hl hE) (fun q => kf q p l e s m args below meth c Q A D gA H locs ls ad C hr hl hE)
theorem G.if_le {x : Int32} {off : Int} (tgt : Nat) (i : Nat) (hi : M.2.2.2.2[i]? = some (pc, .ifCond .le off, 3)) (ht : (pc : Int) + off = (tgt : Int)) (kt : x ≤ 0 → G M R E cs tgt lv st h) (kf : ¬ x ≤ 0 → G M R E cs (pc + 3) lv st h) : G M R E cs pc lv (.int x :: st) h := by
  intro p l e s m args below meth c Q A D gA H locs ls ad C hr hl hE
  exact lv_if_le C.x C.b (C.ok.at hi) ht (fun q => kt q p l e s m args below meth c Q A D gA H locs ls ad C hr hl hE) (fun q => kf q p l e s m args below meth c Q A D gA H locs ls ad C hr hl hE)
theorem G.icmp_eq {x y : Int32} {off : Int} (tgt : Nat) (i : Nat) (hi : M.2.2.2.2[i]? = some (pc, .if_icmp .eq off, 3)) (ht : (pc : Int) + off = (tgt : Int)) (kt : x = y → G M R E cs tgt lv st h) (kf : ¬ x = y → G M R E cs (pc + 3) lv st h) : G M R E cs pc lv (.int y :: .int x :: st) h := by
  intro p l e s m args below meth c Q A D gA H locs ls ad C hr hl hE
  exact lv_icmp_eq C.x C.b (C.ok.at hi) ht (fun q => kt q p l e s m args below meth c Q A D gA H locs ls ad C hr hl hE) (fun q => kf q p l e s m args below meth c Q A D gA H locs ls ad C hr hl hE)
theorem G.icmp_ne {x y : Int32} {off : Int} (tgt : Nat) (i : Nat) (hi : M.2.2.2.2[i]? = some (pc, .if_icmp .ne off, 3)) (ht : (pc : Int) + off = (tgt : Int)) (kt : ¬ x = y → G M R E cs tgt lv st h) (kf : x = y → G M R E cs (pc + 3) lv st h) : G M R E cs pc lv (.int y :: .int x :: st) h := by
  intro p l e s m args below meth c Q A D gA H locs ls ad C hr hl hE
  exact lv_icmp_ne C.x C.b (C.ok.at hi) ht (fun q => kt q p l e s m args below meth c Q A D gA H locs ls ad C hr hl hE) (fun q => kf q p l e s m args below meth c Q A D gA H locs ls ad C hr hl hE)
theorem G.icmp_lt {x y : Int32} {off : Int} (tgt : Nat) (i : Nat) (hi : M.2.2.2.2[i]? = some (pc, .if_icmp .lt off, 3)) (ht : (pc : Int) + off = (tgt : Int)) (kt : x < y → G M R E cs tgt lv st h) (kf : ¬ x < y → G M R E cs (pc + 3) lv st h) : G M R E cs pc lv (.int y :: .int x :: st) h := by
  intro p l e s m args below meth c Q A D gA H locs ls ad C hr hl hE
  exact lv_icmp_lt C.x C.b (C.ok.at hi) ht (fun q => kt q p l e s m args below meth c Q A D gA H locs ls ad C hr hl hE) (fun q => kf q p l e s m args below meth c Q A D gA H locs ls ad C hr hl hE)
theorem G.icmp_ge {x y : Int32} {off : Int} (tgt : Nat) (i : Nat) (hi : M.2.2.2.2[i]? = some (pc, .if_icmp .ge off, 3)) (ht : (pc : Int) + off = (tgt : Int)) (kt : y ≤ x → G M R E cs tgt lv st h) (kf : ¬ y ≤ x → G M R E cs (pc + 3) lv st h) : G M R E cs pc lv (.int y :: .int x :: st) h := by
  intro p l e s m args below meth c Q A D gA H locs ls ad C hr hl hE
  exact lv_icmp_ge C.x C.b (C.ok.at hi) ht (fun q => kt q p l e s m args below meth c Q A D gA H locs ls ad C hr hl hE) (fun q => kf q p l e s m args below meth c Q A D gA H locs ls ad C hr hl hE)
theorem G.icmp_gt {x y : Int32} {off : Int} (tgt : Nat) (i : Nat) (hi : M.2.2.2.2[i]? = some (pc, .if_icmp .gt off, 3)) (ht : (pc : Int) + off = (tgt : Int)) (kt : y < x → G M R E cs tgt lv st h) (kf : ¬ y < x → G M R E cs (pc + 3) lv st h) : G M R E cs pc lv (.int y :: .int x :: st) h := by
  intro p l e s m args below meth c Q A D gA H locs ls ad C hr hl hE
  exact lv_icmp_gt C.x C.b (C.ok.at hi) ht (fun q => kt q p l e s m args below meth c Q A D gA H locs ls ad C hr hl hE) (fun q => kf q p l e s m args below meth c Q A D gA H locs ls ad C hr hl hE)
theorem G.icmp_le {x y : Int32} {off : Int} (tgt : Nat) (i : Nat) (hi : M.2.2.2.2[i]? = some (pc, .if_icmp .le off, 3)) (ht : (pc : Int) + off = (tgt : Int)) (kt : x ≤ y → G M R E cs tgt lv st h) (kf : ¬ x ≤ y → G M R E cs (pc + 3) lv st h) : G M R E cs pc lv (.int y :: .int x :: st) h := by
  intro p l e s m args below meth c Q A D gA H locs ls ad C hr hl hE
  exact lv_icmp_le C.x C.b (C.ok.at hi) ht (fun q => kt q p l e s m args below meth c Q A D gA H locs ls ad C hr hl hE) (fun q => kf q p l e s m args below meth c Q A D gA H locs ls ad C hr hl hE)
theorem G.goto {off : Int} (tgt : Nat) (i : Nat) (hi : M.2.2.2.2[i]? = some (pc, .goto off, 3)) (ht' : (pc : Int) + off = (tgt : Int)) (k : G M R E cs tgt lv st h) : G M R E cs pc lv st h := G.row i hi (fun p l e s m args below meth c Q H locs ls ad ho ht hx hb hd kk => lv_goto hx hb hd ht' kk) k
theorem G.tswOut {dflt lo hi : Int} {offs : Array Int} {len : Nat} {x : Int32} (tgt : Nat) (i : Nat) (hi' : M.2.2.2.2[i]? = some (pc, .tableswitch dflt lo hi offs, len)) (hh : x.toInt < lo ∨ hi < x.toInt) (ht' : (pc : Int) + dflt = (tgt : Int)) (k : G M R E cs tgt lv st h) : G M R E cs pc lv (.int x :: st) h := G.row i hi' (fun p l e s m args below meth c Q H locs ls ad ho ht hx hb hd kk => lv_tableOut hx hb hd hh ht' kk) k
theorem G.tswIn {dflt lo hi off : Int} {offs : Array Int} {len : Nat} {x : Int32} (tgt : Nat) (i : Nat) (hi' : M.2.2.2.2[i]? = some (pc, .tableswitch dflt lo hi offs, len)) (h1 : ¬ x.toInt < lo) (h2 : ¬ hi < x.toInt) (hof : offs[(x.toInt - lo).toNat]? = some off) (ht' : (pc : Int) + off = (tgt : Int)) (k : G M R E cs tgt lv st h) : G M R E cs pc lv (.int x :: st) h := G.row i hi' (fun p l e s m args below meth c Q H locs ls ad ho ht hx hb hd kk => lv_tableIn hx hb hd h1 h2 hof ht' kk) k
end GS
end
section
/-! STEPS OF G: fields and arrays -/
section GH
variable {ad : Nat → Nat} {Ik : Nat → Int32} {Jk : Nat → Int64} {ci j : Nat} {rs : List Nat}
theorem flds_get (hj : j < cnf ci) : (flds ad Ik Jk ci rs)[j]? = some (fvl ad Ik Jk ci rs j) := by simp [flds, hj]
theorem flds_len : (flds ad Ik Jk ci rs).length = cnf ci := by simp [flds]
theorem fvl_0 (ht : fk (ctyp ci j) = 0) : fvl ad Ik Jk ci rs j = .int (Ik j) := by simp [fvl, ht]
theorem fvl_1 (ht : fk (ctyp ci j) = 1) : fvl ad Ik Jk ci rs j = .long (Jk j) := by simp [fvl, ht]
theorem fvl_2 (ht : fk (ctyp ci j) = 2) : fvl ad Ik Jk ci rs j = rfv ad (rs.getD j 0) := by simp [fvl, ht]
theorem flds_ext {vs : List Value} (hl : vs.length = cnf ci) (hv : ∀ n, n < cnf ci → vs[n]? = some (fvl ad Ik Jk ci rs n)) : vs = flds ad Ik Jk ci rs := by
  apply List.ext_getElem?
  intro n
  by_cases hn : n < cnf ci
  · rw [hv n hn, flds_get hn]
  · rw [List.getElem?_eq_none (by omega), List.getElem?_eq_none (by rw [flds_len]; omega)]
theorem flds_setI {v : Int32} (hj : j < cnf ci) (ht : fk (ctyp ci j) = 0) : (flds ad Ik Jk ci rs).set j (.int v) = flds ad (upd Ik j v) Jk ci rs := by
  refine flds_ext (by simp [flds]) fun n hn => ?_
  by_cases h : n = j
  · subst h
    rw [List.getElem?_set_self (by rw [flds_len]; exact hn), fvl_0 ht]
    simp [upd]
  · rw [List.getElem?_set_ne (Ne.symm h), flds_get hn]
    simp [fvl, upd, h]
theorem flds_setJ {v : Int64} (hj : j < cnf ci) (ht : fk (ctyp ci j) = 1) : (flds ad Ik Jk ci rs).set j (.long v) = flds ad Ik (vp_updL Jk j v) ci rs := by
  refine flds_ext (by simp [flds]) fun n hn => ?_
  by_cases h : n = j
  · subst h
    rw [List.getElem?_set_self (by rw [flds_len]; exact hn), fvl_1 ht]
    simp [vp_updL]
  · rw [List.getElem?_set_ne (Ne.symm h), flds_get hn]
    simp [fvl, vp_updL, h]
theorem flds_setR {r : Nat} (hj : j < cnf ci) (ht : fk (ctyp ci j) = 2) (hl : j < rs.length) : (flds ad Ik Jk ci rs).set j (rfv ad r) = flds ad Ik Jk ci (rs.set j r) := by
  refine flds_ext (by simp [flds]) fun n hn => ?_
  by_cases h : n = j
  · subst h
    rw [List.getElem?_set_self (by rw [flds_len]; exact hn), fvl_2 ht]
    simp [List.getD_eq_getElem?_getD, hl]
  · rw [List.getElem?_set_ne (Ne.symm h), flds_get hn]
    simp [fvl, List.getD_eq_getElem?_getD, List.getElem?_set_ne (Ne.symm h)]
end GH
def cokb (q : vw_C) : Bool := (u_ws q.1 q.2.1 q.2.2).all (fun w => decide (w ∈ lw_tbl) && qw w)
theorem cokb_wl {q : vw_C} (h : cokb q = true) : ∀ w ∈ u_ws q.1 q.2.1 q.2.2, w ∈ wl := by
  intro w hw
  have h1 := List.all_eq_true.mp h w hw
  simp only [Bool.and_eq_true, decide_eq_true_eq] at h1
  exact List.mem_filter.mpr h1
def COk (ci : Nat) (q : vw_C) : Prop := (∀ w ∈ u_ws q.1 q.2.1 q.2.2, w ∈ wl) ∧ (∀ k, k < q.2.2 → parseFieldDescriptor (q.2.1 k).2.2.1 = some (ctyp ci k)) ∧ (∀ a, a < q.2.2 → ∀ b, b < q.2.2 → a ≠ b → (q.2.1 a).2.1 ≠ (q.2.1 b).2.1)
theorem ck0 : COk 0 (RX0, TX0, 11) := ⟨cokb_wl (by decide +kernel), tyX0_ok, nmX0⟩
theorem ck1 : COk 1 (RX1, TX1, 20) := ⟨cokb_wl (by decide +kernel), tyX1_ok, nmX1⟩
theorem ck2 : COk 2 (RX2, TX2, 6) := ⟨cokb_wl (by decide +kernel), tyX2_ok, nmX2⟩
theorem ck3 : COk 3 (RX3, TX3, 7) := ⟨cokb_wl (by decide +kernel), tyX3_ok, nmX3⟩
theorem ck4 : COk 4 (RX4, TX4, 17) := ⟨cokb_wl (by decide +kernel), tyX4_ok, nmX4⟩
theorem ck5 : COk 5 (RX5, TX5, 12) := ⟨cokb_wl (by decide +kernel), tyX5_ok, nmX5⟩
theorem ck6 : COk 6 (RX6, TX6, 11) := ⟨cokb_wl (by decide +kernel), tyX6_ok, nmX6⟩
theorem ck7 : COk 7 (RX7, TX7, 9) := ⟨cokb_wl (by decide +kernel), tyX7_ok, nmX7⟩
theorem ck8 : COk 8 (RX8, TX8, 7) := ⟨cokb_wl (by decide +kernel), tyX8_ok, nmX8⟩
theorem ck9 : COk 9 (RX9, TX9, 2) := ⟨cokb_wl (by decide +kernel), tyX9_ok, nmX9⟩
theorem ck10 : COk 10 (RX10, TX10, 2) := ⟨cokb_wl (by decide +kernel), tyX10_ok, nmX10⟩
theorem ck11 : COk 11 (RX11, TX11, 11) := ⟨cokb_wl (by decide +kernel), tyX11_ok, nmX11⟩
theorem ck12 : COk 12 (RX12, TX12, 75) := ⟨cokb_wl (by decide +kernel), tyX12_ok, nmX12⟩
theorem cok {ci : Nat} {q : vw_C} (h : cl_all[ci]? = some q) : COk ci q := by
  match ci, h with
  | 0, h => cases h; exact ck0
  | 1, h => cases h; exact ck1
  | 2, h => cases h; exact ck2
  | 3, h => cases h; exact ck3
  | 4, h => cases h; exact ck4
  | 5, h => cases h; exact ck5
  | 6, h => cases h; exact ck6
  | 7, h => cases h; exact ck7
  | 8, h => cases h; exact ck8
  | 9, h => cases h; exact ck9
  | 10, h => cases h; exact ck10
  | 11, h => cases h; exact ck11
  | 12, h => cases h; exact ck12
  | n + 13, h => simp at h
theorem cnf_of {ci : Nat} {q : vw_C} (h : cl_all[ci]? = some q) : cnf ci = q.2.2 := by simp only [cnf, h]
/-- the link idx of the methods of 'own' is field j of the objects of kind ci -/
def FOk (own : String) (idx ci j : Nat) : Prop := ∃ q : vw_C, cl_all[ci]? = some q ∧ j < q.2.2 ∧ Cond.fieldLink own idx q.1 (q.2.1 j).2.1 (q.2.1 j).2.2.1 ∈ wl ∧ (q.2.1 j).1 = q.1
section GF
variable {M : MD} {R : Room} {E : Ex} {cs : Nat × Nat} {pc : Nat} {lv : Lv} {st : List Value} {h : Hp} {Z : List Kd} {I : Nat → Nat → Int32} {J : Nat → Nat → Int64}
theorem G.getV {idx ci j o : Nat} {rs : List Nat} {v : Value} (i : Nat) (hi : M.2.2.2.2[i]? = some (pc, .getfield idx, 3)) (hf : FOk M.1.cls idx ci j) (hz : h.1[o]? = some (0, ci, rs)) (hv : ∀ ad : Nat → Nat, fvl ad (h.2.1 o) (h.2.2 o) ci rs j = cv ad v)
    (k : G M R E cs (pc + 3) lv (v :: st) h) : G M R E cs pc lv (.ref o :: st) h := by
  refine G.go (fun p l e s m args below meth c Q A D gA H locs ls ad C hr hl kk => ?_) k
  obtain ⟨q, hq, hj, hl1, hl2⟩ := hf
  have hg : (flds ad (h.2.1 o) (h.2.2 o) ci rs)[j]? = some (cv ad v) := by rw [flds_get (by rw [cnf_of hq]; exact hj), hv ad]
  exact va_get C.x C.b C.ts (cok hq).1 C.own C.K hr.1 o (wsO_get hz) hq j hj (C.ts _ hl1) (fun x hx => by rw [← hl2]; exact hx) hg (C.ok.at hi) kk
theorem G.getI {idx ci j o : Nat} {rs : List Nat} (i : Nat) (hi : M.2.2.2.2[i]? = some (pc, .getfield idx, 3)) (hf : FOk M.1.cls idx ci j) (hz : Z[o]? = some (0, ci, rs)) (ht : fk (ctyp ci j) = 0)
    (k : G M R E cs (pc + 3) lv (.int (I o j) :: st) (Z, I, J)) : G M R E cs pc lv (.ref o :: st) (Z, I, J) := G.getV i hi hf hz (fun ad => fvl_0 ht) k
theorem G.getJ {idx ci j o : Nat} {rs : List Nat} (i : Nat) (hi : M.2.2.2.2[i]? = some (pc, .getfield idx, 3)) (hf : FOk M.1.cls idx ci j) (hz : Z[o]? = some (0, ci, rs)) (ht : fk (ctyp ci j) = 1)
    (k : G M R E cs (pc + 3) lv (.long (J o j) :: st) (Z, I, J)) : G M R E cs pc lv (.ref o :: st) (Z, I, J) := G.getV i hi hf hz (fun ad => fvl_1 ht) k
theorem G.getR {idx ci j o r : Nat} {rs : List Nat} (i : Nat) (hi : M.2.2.2.2[i]? = some (pc, .getfield idx, 3)) (hf : FOk M.1.cls idx ci j) (hz : Z[o]? = some (0, ci, rs)) (ht : fk (ctyp ci j) = 2) (hr : rs.getD j 0 = r + 1)
    (k : G M R E cs (pc + 3) lv (.ref r :: st) (Z, I, J)) : G M R E cs pc lv (.ref o :: st) (Z, I, J) := G.getV i hi hf hz (fun ad => by rw [fvl_2 ht, hr]; rfl) k
/-- a store into a field: final ones in a constructor of the same kind alone -/
theorem G.putV {idx ci j o : Nat} {rs : List Nat} {v : Value} {h' : Hp} (i : Nat) (hi : M.2.2.2.2[i]? = some (pc, .putfield idx, 3)) (hf : FOk M.1.cls idx ci j) (hz : h.1[o]? = some (0, ci, rs)) (hn : ∀ ad : Nat → Nat, narrow (ctyp ci j) (cv ad v) = cv ad v) (hfit : ∀ ad : Nat → Nat, fits (ctyp ci j) (cv ad v) = true)
    (hfin : ∀ q : vw_C, cl_all[ci]? = some q → (q.2.1 j).2.2.2 = false ∨ ((q.2.1 j).2.2.2 = true ∧ M.1.name = "<init>" ∧ (q.2.1 j).1 = M.1.cls))
    (hlen : h'.1.length = h.1.length) (hw : ∀ (gA : Nat → ClassId) (ad : Nat → Nat), (wsO gA ad h).set o (ad o, .inr (ci, (flds ad (h.2.1 o) (h.2.2 o) ci rs).set j (cv ad v))) = wsO gA ad h')
    (k : G M R E cs (pc + 3) lv st h') : G M R E cs pc lv (v :: .ref o :: st) h := by
  intro p l e s m args below meth c Q A D gA H locs ls ad C hr hl hE
  obtain ⟨q, hq, hj, hl1, hl2⟩ := hf
  have hk := cok hq
  have kk : ∀ (H1 : Heap) (locs1 : List Loc), va_P D cl_all ((wsO gA ad h).set o (ad o, .inr (ci, (flds ad (h.2.1 o) (h.2.2 o) ci rs).set j (cv ad v)))) H1 → va_D A ((wsO gA ad h).set o (ad o, .inr (ci, (flds ad (h.2.1 o) (h.2.2 o) ci rs).set j (cv ad v)))) → va_S A s.heap H1 locs1 → W p l e R s m args below meth c H1 locs1 cs.1 cs.2 Q (F0 m (pc + 3) ls (st.map (cv ad))) := by
    intro H1 locs1 g1 g2 g3
    rw [hw] at g1 g2
    exact k p l e s m args below meth c Q A D gA H1 locs1 ls ad C ⟨g1, g2, g3⟩ hl (by rw [hlen]; exact hE)
  rcases hfin q hq with h0 | ⟨h0, h1, h2⟩
  · exact va_put C.x C.b C.ts hk.1 (ctyp ci) hk.2.1 hk.2.2 C.own C.K hr.1 hr.2.1 hr.2.2 o (wsO_get hz) hq j hj (C.ts _ hl1) (fun x hx => by rw [← hl2]; exact hx) h0 (hk.2.1 j hj) (hn ad) (hfit ad) (by rw [flds_len, cnf_of hq]; exact hj) (C.ok.at hi) kk
  · exact va_putF C.x C.b C.ts hk.1 (ctyp ci) hk.2.1 hk.2.2 C.own C.K hr.1 hr.2.1 hr.2.2 o (wsO_get hz) hq j hj (C.ts _ hl1) (fun x hx => by rw [← hl2]; exact hx) h0 (C.nm.trans h1) h2 (hk.2.1 j hj) (hn ad) (hfit ad) (by rw [flds_len, cnf_of hq]; exact hj) (C.ok.at hi) kk
end GF
end
section
/-! STEPS OF G: stores into fields, arrays, the static table, making -/
section GA
variable {M : MD} {R : Room} {E : Ex} {cs : Nat × Nat} {pc : Nat} {lv : Lv} {st : List Value} {h : Hp} {Z : List Kd} {I : Nat → Nat → Int32} {J : Nat → Nat → Int64}
theorem cnf_j {own : String} {idx ci j : Nat} (hf : FOk own idx ci j) : j < cnf ci := by
  obtain ⟨q, hq, hj, -⟩ := hf
  rw [cnf_of hq]
  exact hj
abbrev FinOk (M : MD) (ci j : Nat) : Prop := ∀ q : vw_C, cl_all[ci]? = some q → (q.2.1 j).2.2.2 = false ∨ ((q.2.1 j).2.2.2 = true ∧ M.1.name = "<init>" ∧ (q.2.1 j).1 = M.1.cls)
theorem G.putI {idx ci j o : Nat} {rs : List Nat} {v : Int32} (i : Nat) (hi : M.2.2.2.2[i]? = some (pc, .putfield idx, 3)) (hf : FOk M.1.cls idx ci j) (hz : Z[o]? = some (0, ci, rs)) (ht : fk (ctyp ci j) = 0) (hn : narrow (ctyp ci j) (.int v) = .int v) (hfit : fits (ctyp ci j) (.int v) = true) (hfin : FinOk M ci j)
    (k : G M R E cs (pc + 3) lv st (Z, ui I o j v, J)) : G M R E cs pc lv (.int v :: .ref o :: st) (Z, I, J) :=
  G.putV (h' := (Z, ui I o j v, J)) i hi hf hz (fun _ => hn) (fun _ => hfit) hfin rfl (fun gA ad => by
    show (wsO gA ad (Z, I, J)).set o (ad o, .inr (ci, (flds ad (I o) (J o) ci rs).set j (.int v))) = _
    rw [flds_setI (cnf_j hf) ht]; exact wsO_setI hz) k
theorem G.putJ {idx ci j o : Nat} {rs : List Nat} {v : Int64} (i : Nat) (hi : M.2.2.2.2[i]? = some (pc, .putfield idx, 3)) (hf : FOk M.1.cls idx ci j) (hz : Z[o]? = some (0, ci, rs)) (ht : fk (ctyp ci j) = 1) (hn : narrow (ctyp ci j) (.long v) = .long v) (hfit : fits (ctyp ci j) (.long v) = true) (hfin : FinOk M ci j)
    (k : G M R E cs (pc + 3) lv st (Z, I, uj J o j v)) : G M R E cs pc lv (.long v :: .ref o :: st) (Z, I, J) :=
  G.putV (h' := (Z, I, uj J o j v)) i hi hf hz (fun _ => hn) (fun _ => hfit) hfin rfl (fun gA ad => by
    show (wsO gA ad (Z, I, J)).set o (ad o, .inr (ci, (flds ad (I o) (J o) ci rs).set j (.long v))) = _
    rw [flds_setJ (cnf_j hf) ht]; exact wsO_setJ hz) k
theorem G.putR {idx ci j o r : Nat} {rs : List Nat} (i : Nat) (hi : M.2.2.2.2[i]? = some (pc, .putfield idx, 3)) (hf : FOk M.1.cls idx ci j) (hz : Z[o]? = some (0, ci, rs)) (ht : fk (ctyp ci j) = 2) (hn : ∀ a : Nat, narrow (ctyp ci j) (.ref a) = .ref a) (hfit : ∀ a : Nat, fits (ctyp ci j) (.ref a) = true) (hfin : FinOk M ci j) (hl : j < rs.length)
    (k : G M R E cs (pc + 3) lv st (Z.set o (0, ci, rs.set j (r + 1)), I, J)) : G M R E cs pc lv (.ref r :: .ref o :: st) (Z, I, J) :=
  G.putV (h' := (Z.set o (0, ci, rs.set j (r + 1)), I, J)) i hi hf hz (fun ad => hn (ad r)) (fun ad => hfit (ad r)) hfin (List.length_set ..) (fun gA ad => by
    show (wsO gA ad (Z, I, J)).set o (ad o, .inr (ci, (flds ad (I o) (J o) ci rs).set j (rfv ad (r + 1)))) = _
    rw [flds_setR (cnf_j hf) ht hl]; exact wsO_setZ (kd' := (0, ci, rs.set j (r + 1))) (List.getElem?_eq_some_iff.mp hz).1) k
-- loads
theorem G.iald {o n : Nat} {rs : List Nat} {x : Int32} (i : Nat) (hi : M.2.2.2.2[i]? = some (pc, .iaload, 1)) (hz : Z[o]? = some (1, n, rs)) (hin : vp_in x n) (k : G M R E cs (pc + 1) lv (.int (I o x.toNatClampNeg) :: st) (Z, I, J)) : G M R E cs pc lv (.int x :: .ref o :: st) (Z, I, J) :=
  G.go (fun p l e s m args below meth c Q A D gA H locs ls ad C hr hl kk => va_iald C.x C.b C.K hr.1 o 0 (wsO_get (gA := gA) (ad := ad) (h := (Z, I, J)) hz) rfl hin (C.ok.at hi) kk) k
theorem G.bald {o n : Nat} {rs : List Nat} {x : Int32} (i : Nat) (hi : M.2.2.2.2[i]? = some (pc, .baload, 1)) (hz : Z[o]? = some (3, n, rs)) (hin : vp_in x n) (k : G M R E cs (pc + 1) lv (.int (I o x.toNatClampNeg) :: st) (Z, I, J)) : G M R E cs pc lv (.int x :: .ref o :: st) (Z, I, J) :=
  G.go (fun p l e s m args below meth c Q A D gA H locs ls ad C hr hl kk => va_bald C.x C.b C.K hr.1 o 2 (wsO_get (gA := gA) (ad := ad) (h := (Z, I, J)) hz) rfl hin (C.ok.at hi) kk) k
theorem G.zald {o n : Nat} {rs : List Nat} {x : Int32} (i : Nat) (hi : M.2.2.2.2[i]? = some (pc, .baload, 1)) (hz : Z[o]? = some (5, n, rs)) (hin : vp_in x n) (k : G M R E cs (pc + 1) lv (.int (I o x.toNatClampNeg) :: st) (Z, I, J)) : G M R E cs pc lv (.int x :: .ref o :: st) (Z, I, J) :=
  G.go (fun p l e s m args below meth c Q A D gA H locs ls ad C hr hl kk => va_zald C.x C.b C.K hr.1 o 4 (wsO_get (gA := gA) (ad := ad) (h := (Z, I, J)) hz) rfl hin (C.ok.at hi) kk) k
theorem G.cald {o n : Nat} {rs : List Nat} {x : Int32} (i : Nat) (hi : M.2.2.2.2[i]? = some (pc, .caload, 1)) (hz : Z[o]? = some (4, n, rs)) (hin : vp_in x n) (k : G M R E cs (pc + 1) lv (.int (I o x.toNatClampNeg) :: st) (Z, I, J)) : G M R E cs pc lv (.int x :: .ref o :: st) (Z, I, J) :=
  G.go (fun p l e s m args below meth c Q A D gA H locs ls ad C hr hl kk => va_cald C.x C.b C.K hr.1 o 3 (wsO_get (gA := gA) (ad := ad) (h := (Z, I, J)) hz) rfl hin (C.ok.at hi) kk) k
theorem G.lald {o n : Nat} {rs : List Nat} {x : Int32} (i : Nat) (hi : M.2.2.2.2[i]? = some (pc, .laload, 1)) (hz : Z[o]? = some (2, n, rs)) (hin : vp_in x n) (k : G M R E cs (pc + 1) lv (.long (J o x.toNatClampNeg) :: st) (Z, I, J)) : G M R E cs pc lv (.int x :: .ref o :: st) (Z, I, J) :=
  G.go (fun p l e s m args below meth c Q A D gA H locs ls ad C hr hl kk => va_lald C.x C.b C.K hr.1 o 1 (wsO_get (gA := gA) (ad := ad) (h := (Z, I, J)) hz) rfl hin (C.ok.at hi) kk) k
theorem G.aald {o n r : Nat} {rs : List Nat} {x : Int32} (i : Nat) (hi : M.2.2.2.2[i]? = some (pc, .aaload, 1)) (hz : Z[o]? = some (6, n, rs)) (hin : vp_in x n) (hr' : rs.getD x.toNatClampNeg 0 = r + 1) (k : G M R E cs (pc + 1) lv (.ref r :: st) (Z, I, J)) : G M R E cs pc lv (.int x :: .ref o :: st) (Z, I, J) :=
  G.go (fun p l e s m args below meth c Q A D gA H locs ls ad C hr hl kk => va_aldq C.x C.b C.K hr.1 o 5 (wsO_get (gA := gA) (ad := ad) (h := (Z, I, J)) hz) rfl hin (C.ok.at hi) (by
    show W p l e R s m args below meth c H locs cs.1 cs.2 Q (F0 m (pc + 1) ls (va_rf (rfo ad (rs.getD x.toNatClampNeg 0)) :: _))
    rw [hr']; exact kk)) k
-- stores
theorem G.iast {o n : Nat} {rs : List Nat} {x v : Int32} (i : Nat) (hi : M.2.2.2.2[i]? = some (pc, .iastore, 1)) (hz : Z[o]? = some (1, n, rs)) (hin : vp_in x n) (k : G M R E cs (pc + 1) lv st (Z, ui I o x.toNatClampNeg v, J)) : G M R E cs pc lv (.int v :: .int x :: .ref o :: st) (Z, I, J) := by
  intro p l e s m args below meth c Q A D gA H locs ls ad C hr hl hE
  refine va_iast C.x C.b C.K hr.1 hr.2.1 hr.2.2 o 0 (wsO_get (gA := gA) (ad := ad) (h := (Z, I, J)) hz) rfl hin (C.ok.at hi) fun H1 locs1 g1 g2 g3 => ?_
  have hw := wsO_setI (gA := gA) (ad := ad) (I := I) (J := J) (i := x.toNatClampNeg) (v := v) hz
  exact k p l e s m args below meth c Q A D gA H1 locs1 ls ad C ⟨by rw [← hw]; exact g1, by rw [← hw]; exact g2, g3⟩ hl hE
theorem G.bast {o n : Nat} {rs : List Nat} {x v : Int32} (i : Nat) (hi : M.2.2.2.2[i]? = some (pc, .bastore, 1)) (hz : Z[o]? = some (3, n, rs)) (hin : vp_in x n) (k : G M R E cs (pc + 1) lv st (Z, ui I o x.toNatClampNeg (vp_nar .byte v), J)) : G M R E cs pc lv (.int v :: .int x :: .ref o :: st) (Z, I, J) := by
  intro p l e s m args below meth c Q A D gA H locs ls ad C hr hl hE
  refine va_bast C.x C.b C.K hr.1 hr.2.1 hr.2.2 o 2 (wsO_get (gA := gA) (ad := ad) (h := (Z, I, J)) hz) rfl hin (C.ok.at hi) fun H1 locs1 g1 g2 g3 => ?_
  have hw := wsO_setI (gA := gA) (ad := ad) (I := I) (J := J) (i := x.toNatClampNeg) (v := vp_nar .byte v) hz
  exact k p l e s m args below meth c Q A D gA H1 locs1 ls ad C ⟨by rw [← hw]; exact g1, by rw [← hw]; exact g2, g3⟩ hl hE
theorem G.zast {o n : Nat} {rs : List Nat} {x v : Int32} (i : Nat) (hi : M.2.2.2.2[i]? = some (pc, .bastore, 1)) (hz : Z[o]? = some (5, n, rs)) (hin : vp_in x n) (k : G M R E cs (pc + 1) lv st (Z, ui I o x.toNatClampNeg (vp_nar .boolean v), J)) : G M R E cs pc lv (.int v :: .int x :: .ref o :: st) (Z, I, J) := by
  intro p l e s m args below meth c Q A D gA H locs ls ad C hr hl hE
  refine va_zast C.x C.b C.K hr.1 hr.2.1 hr.2.2 o 4 (wsO_get (gA := gA) (ad := ad) (h := (Z, I, J)) hz) rfl hin (C.ok.at hi) fun H1 locs1 g1 g2 g3 => ?_
  have hw := wsO_setI (gA := gA) (ad := ad) (I := I) (J := J) (i := x.toNatClampNeg) (v := vp_nar .boolean v) hz
  exact k p l e s m args below meth c Q A D gA H1 locs1 ls ad C ⟨by rw [← hw]; exact g1, by rw [← hw]; exact g2, g3⟩ hl hE
theorem G.cast {o n : Nat} {rs : List Nat} {x v : Int32} (i : Nat) (hi : M.2.2.2.2[i]? = some (pc, .castore, 1)) (hz : Z[o]? = some (4, n, rs)) (hin : vp_in x n) (k : G M R E cs (pc + 1) lv st (Z, ui I o x.toNatClampNeg (vp_nar .char v), J)) : G M R E cs pc lv (.int v :: .int x :: .ref o :: st) (Z, I, J) := by
  intro p l e s m args below meth c Q A D gA H locs ls ad C hr hl hE
  refine va_cast C.x C.b C.K hr.1 hr.2.1 hr.2.2 o 3 (wsO_get (gA := gA) (ad := ad) (h := (Z, I, J)) hz) rfl hin (C.ok.at hi) fun H1 locs1 g1 g2 g3 => ?_
  have hw := wsO_setI (gA := gA) (ad := ad) (I := I) (J := J) (i := x.toNatClampNeg) (v := vp_nar .char v) hz
  exact k p l e s m args below meth c Q A D gA H1 locs1 ls ad C ⟨by rw [← hw]; exact g1, by rw [← hw]; exact g2, g3⟩ hl hE
theorem G.last {o n : Nat} {rs : List Nat} {x : Int32} {v : Int64} (i : Nat) (hi : M.2.2.2.2[i]? = some (pc, .lastore, 1)) (hz : Z[o]? = some (2, n, rs)) (hin : vp_in x n) (k : G M R E cs (pc + 1) lv st (Z, I, uj J o x.toNatClampNeg v)) : G M R E cs pc lv (.long v :: .int x :: .ref o :: st) (Z, I, J) := by
  intro p l e s m args below meth c Q A D gA H locs ls ad C hr hl hE
  refine va_last C.x C.b C.K hr.1 hr.2.1 hr.2.2 o 1 (wsO_get (gA := gA) (ad := ad) (h := (Z, I, J)) hz) rfl hin (C.ok.at hi) fun H1 locs1 g1 g2 g3 => ?_
  have hw := wsO_setJ (gA := gA) (ad := ad) (I := I) (J := J) (i := x.toNatClampNeg) (v := v) hz
  exact k p l e s m args below meth c Q A D gA H1 locs1 ls ad C ⟨by rw [← hw]; exact g1, by rw [← hw]; exact g2, g3⟩ hl hE
theorem G.aast {o n r ci : Nat} {rs rs2 : List Nat} {x : Int32} (i : Nat) (hi : M.2.2.2.2[i]? = some (pc, .aastore, 1)) (hz : Z[o]? = some (6, n, rs)) (hz2 : Z[r]? = some (0, 2, rs2)) (hin : vp_in x n) (hl' : x.toNatClampNeg < rs.length) (k : G M R E cs (pc + 1) lv st (Z.set o (6, n, rs.set x.toNatClampNeg (r + 1)), I, J)) : G M R E cs pc lv (.ref r :: .int x :: .ref o :: st) (Z, I, J) := by
  intro p l e s m args below meth c Q A D gA H locs ls ad C hr hl hE
  refine va_astq C.x C.b C.K hr.1 hr.2.1 hr.2.2 o 5 r 2 (r := (RX2, TX2, 6)) (wsO_get (gA := gA) (ad := ad) (h := (Z, I, J)) hz) rfl (wsO_get (gA := gA) (ad := ad) (h := (Z, I, J)) hz2) rfl hin (C.ok.at hi) fun H1 locs1 g1 g2 g3 => ?_
  have hf : (va_up (fun i => rfo ad (rs.getD i 0)) x.toNatClampNeg (some (ad r))) = fun i => rfo ad ((rs.set x.toNatClampNeg (r + 1)).getD i 0) := by
    funext q
    by_cases hq : q = x.toNatClampNeg
    · subst hq
      simp [va_up, List.getD_eq_getElem?_getD, hl', rfo]
    · simp [va_up, List.getD_eq_getElem?_getD, List.getElem?_set_ne (Ne.symm hq), hq]
  have hw := wsO_setZ (gA := gA) (ad := ad) (I := I) (J := J) (k := o) (kd' := (6, n, rs.set x.toNatClampNeg (r + 1))) (List.getElem?_eq_some_iff.mp hz).1
  have hw2 : (ad o, (Sum.inl (gA 6, n, .inr (.inr (.inr (.inr (va_up (fun i => rfo ad (rs.getD i 0)) x.toNatClampNeg (some (ad r))))))) : va_E)) = (ad o, cel gA ad (I o) (J o) (6, n, rs.set x.toNatClampNeg (r + 1))) := by
    rw [hf]; rfl
  rw [hw2, hw] at g1 g2
  exact k p l e s m args below meth c Q A D gA H1 locs1 ls ad C ⟨g1, g2, g3⟩ hl (by show _; rw [List.length_set]; exact hE)
theorem cel_t {gA : Nat → ClassId} {ad : Nat → Nat} {Ik : Nat → Int32} {Jk : Nat → Int64} {t n : Nat} {rs : List Nat} (h0 : 1 ≤ t) : ∃ x : vp_A, cel gA ad Ik Jk (t, n, rs) = .inl (gA t, x) ∧ x.1 = n := by
  match t, h0 with
  | 1, _ => exact ⟨_, rfl, rfl⟩
  | 2, _ => exact ⟨_, rfl, rfl⟩
  | 3, _ => exact ⟨_, rfl, rfl⟩
  | 4, _ => exact ⟨_, rfl, rfl⟩
  | 5, _ => exact ⟨_, rfl, rfl⟩
  | 6, _ => exact ⟨_, rfl, rfl⟩
  | t + 7, _ => exact ⟨_, rfl, rfl⟩
theorem G.alen {o t n : Nat} {rs : List Nat} (v : Int32) (i : Nat) (hi : M.2.2.2.2[i]? = some (pc, .arraylength, 1)) (hz : h.1[o]? = some (t, n, rs)) (h0 : 1 ≤ t) (h6 : t ≤ 6) (hv : Int32.ofNat n = v) (k : G M R E cs (pc + 1) lv (.int v :: st) h) : G M R E cs pc lv (.ref o :: st) h := by
  refine G.go (fun p l e s m args below meth c Q A D gA H locs ls ad C hr hl kk => ?_) k
  obtain ⟨x, hx, hx1⟩ := cel_t (gA := gA) (ad := ad) (Ik := h.2.1 o) (Jk := h.2.2 o) (n := n) (rs := rs) h0
  have hg := wsO_get (gA := gA) (ad := ad) hz
  rw [hx] at hg
  obtain ⟨ty, hty⟩ : ∃ ty, (tysO gA)[t - 1]? = some (gA t, ty) := by
    match t, h0, h6 with
    | 1, _, _ => exact ⟨_, rfl⟩
    | 2, _, _ => exact ⟨_, rfl⟩
    | 3, _, _ => exact ⟨_, rfl⟩
    | 4, _, _ => exact ⟨_, rfl⟩
    | 5, _, _ => exact ⟨_, rfl⟩
    | 6, _, _ => exact ⟨_, rfl⟩
  exact va_alen C.x C.b C.K hr.1 o (t - 1) hg hty (by rw [hx1]; exact hv) (C.ok.at hi) kk
-- the static table
def shI (k : Nat) : Int32 := ([0, 27720, 13860, 9240, 6930, 5544, 4620, 3960, 3465, 3080, 2772, 2520] : List Int32).getD k 0
theorem G.gets {idx : Nat} (i : Nat) (hi : M.2.2.2.2[i]? = some (pc, .getstatic idx, 3)) (hf : Cond.fieldLink M.1.cls idx "NinetyLamps$Flow" "SHARES" "[I" ∈ wl) (k : G M R E cs (pc + 3) lv (.ref shx :: st) h) : G M R E cs pc lv st h :=
  G.go (fun p l e s m args below meth c Q A D gA H locs ls ad C hr hl kk => va_gets C.x C.b C.sh.1 hr.2.2 C.own (C.ts _ hf) (fun _ h => h) (C.ok.at hi) kk) k
theorem G.shld {x : Int32} (i : Nat) (hi : M.2.2.2.2[i]? = some (pc, .iaload, 1)) (hin : vp_in x 12) (k : G M R E cs (pc + 1) lv (.int (shI x.toNatClampNeg) :: st) h) : G M R E cs pc lv (.int x :: .ref shx :: st) h :=
  G.go (fun p l e s m args below meth c Q A D gA H locs ls ad C hr hl kk => va_ti C.x C.b C.sh.2.1 hr.2.2 hin rfl (C.ok.at hi) kk) k
theorem G.shlen (i : Nat) (hi : M.2.2.2.2[i]? = some (pc, .arraylength, 1)) (k : G M R E cs (pc + 1) lv (.int 12 :: st) h) : G M R E cs pc lv (.ref shx :: st) h :=
  G.go (fun p l e s m args below meth c Q A D gA H locs ls ad C hr hl kk => va_tlen C.x C.b C.sh.2.1 hr.2.2 (by decide) (C.ok.at hi) kk) k
end GA
end
section
/-! CONTRACTS OF METHODS over the whole world, calls, ends -/
def rmd (d mc ms : Nat) : Room := { frames := d, cells := mc, slots := ms, locals := 64 * d }
abbrev cdw (M : MD) : Cond := Cond.code M.1 M.2.1 M.2.2.1 M.2.2.2.1
def Pm (D : va_G) (gA : Nat → ClassId) (ad : Nat → Nat) (sz : Nat) (h : Hp) (U : State) : Prop :=
  U.heap.size = sz ∧ (∀ w ∈ wl, w.before #[] U = true) ∧ va_K D cl_all (tysO gA) U ∧ va_P D cl_all (wsO gA ad h) U.heap ∧ va_D (fun _ => True) (wsO gA ad h) ∧ Shs (va_A (wsO gA ad h) sz) (ad shx) U
def Qm (D : va_G) (gA : Nat → ClassId) (ad : Nat → Nat) (sz : Nat) (h : Hp) (Q : Option Value → Hp → Prop) : Array Value → State → Outcome → State → Prop := fun _ st oc t =>
  (∃ (r : Option Value) (h' : Hp) (ad' : Nat → Nat), oc = .returned (r.map (cv ad')) ∧ Q r h' ∧ Ext h.1.length ad h'.1.length ad' ∧ va_P D cl_all (wsO gA ad' h') t.heap ∧ va_D (va_A (wsO gA ad h) sz) (wsO gA ad' h')) ∧ va_F (va_A (wsO gA ad h) sz) st t
def GM (M : MD) (d mc ms : Nat) (av : List Value) (h : Hp) (Q : Option Value → Hp → Prop) : Prop :=
  ∀ (l : Launch) (D : va_G) (gA : Nat → ClassId) (ad : Nat → Nat) (sz : Nat), l.stackTraces = false → Met l M.1 [cdw M] (rmd d mc ms) (va_Pc (av.map (cv ad)) (Pm D gA ad sz h)) (Qm D gA ad sz h Q) mc ms (va_A (wsO gA ad h) sz)
theorem Shs.to {A B : Nat → Prop} {t : Nat} {u U : State} (h : Shs A t u) (hW : u.WarmedH U.vm) (hk : ∀ a : Nat, a < u.heap.size → ¬ A a → U.heap[a]? = u.heap[a]?) (hAB : ∀ q, B q → A q) : Shs B t U :=
  ⟨((h.1.kept hk).moved hW.alike).narrow hAB, ((h.2.1.kept hk).moved hW.alike).narrow hAB, ((h.2.2.1.kept hk).moved hW.alike).narrow hAB, ((h.2.2.2.1.kept hk).moved hW.alike).narrow hAB, h.2.2.2.2.moved hW.alike⟩
theorem Pm.to {D : va_G} {gA : Nat → ClassId} {ad : Nat → Nat} {sz : Nat} {h : Hp} {u U : State} (g : Pm D gA ad sz h u) (hW : u.WarmedH U.vm) (hh : U.heap = u.heap) : Pm D gA ad sz h U :=
  ⟨by rw [hh]; exact g.1, fun w hw => wl_warm hW hw (g.2.1 w hw), g.2.2.1.moved hW.alike, by rw [hh]; exact g.2.2.2.1, g.2.2.2.2.1, g.2.2.2.2.2.to hW (fun _ _ _ => by rw [hh]) (fun _ h => h)⟩
theorem Pm.blind {av : List Value} {D : va_G} {gA : Nat → ClassId} {ad : Nat → Nat} {sz : Nat} {h : Hp} : FrameBlind (va_Pc av (Pm D gA ad sz h)) :=
  fun a U g mk q => ⟨q.1, q.2.to (U := U.calling g mk a) (State.WarmedH.refl U) rfl⟩
section GC
variable {M : MD} {R : Room} {E : Ex} {cs : Nat × Nat} {pc : Nat} {lv : Lv} {st : List Value} {h : Hp}
/-- what the callee finds -/
theorem Pm.call {p : Program} {l : Launch} {s : State} {m : MethodId} {args : Array Value} {meth : Method} {c : Code} {A : Nat → Prop} {D : va_G} {gA : Nat → ClassId} {H : Heap} {locs : List Loc} {ad : Nat → Nat} (C : Cx M p l s m args meth c A D gA (ad shx)) (hr : Rp A D gA s H locs ad h) {U : State} (hU : U.heap = H) (hW : s.WarmedH U.vm) : Pm D gA ad H.size h U := by
  have hAB : ∀ q, va_A (wsO gA ad h) H.size q → A q := by
    intro q hq
    rcases hq with ⟨k, e, hk⟩ | hq
    · exact hr.2.1.2 k _ hk
    · exact C.hA q (Nat.le_trans hr.2.2.1 hq)
  refine ⟨by rw [hU], fun w hw => wl_warm hW hw (C.ts w hw), C.K.moved hW.alike, by rw [hU]; exact hr.1, hr.2.1.weaken (fun _ _ _ _ => trivial), C.sh.to hW (fun a ha hn => by rw [hU]; exact hr.2.2.2.1 a ha hn) hAB⟩
def okr (n : Nat) : Value → Bool
  | .ref k => decide (k < n) || decide (shx ≤ k)
  | _ => true
def vld (n : Nat) (lv : Lv) (st : List Value) : Bool := lv.all (fun q => okr n q.2) && st.all (okr n)
theorem cv_ok {n n' : Nat} {ad ad' : Nat → Nat} (hx : Ext n ad n' ad') {v : Value} (hv : okr n v = true) : cv ad' v = cv ad v := by
  cases v <;> try rfl
  rename_i k
  simp only [okr, Bool.or_eq_true, decide_eq_true_eq] at hv
  show Value.ref (ad' k) = Value.ref (ad k)
  rw [hx.2.1 k hv]
theorem vld_lv {n n' : Nat} {ad ad' : Nat → Nat} {lv : Lv} {st : List Value} (hx : Ext n ad n' ad') (hv : vld n lv st = true ∨ n' = n) : lvm ad' lv = lvm ad lv ∧ st.map (cv ad') = st.map (cv ad) := by
  rcases hv with hv | hv
  · simp only [vld, Bool.and_eq_true, List.all_eq_true] at hv
    exact ⟨List.map_congr_left fun q hq => by rw [cv_ok hx (hv.1 q hq)], List.map_congr_left fun q hq => cv_ok hx (hv.2 q hq)⟩
  · rw [hx.2.2 hv]
    exact ⟨rfl, rfl⟩
/-- behind a call -/
theorem G.ran {p : Program} {l : Launch} {e : Env} {s : State} {m : MethodId} {args : Array Value} {below : List Frame} {meth : Method} {c : Code} {Q' : State → Prop} {A : Nat → Prop} {D : va_G} {gA : Nat → ClassId} {H : Heap} {locs : List Loc} {ls : Array Slot} {ad : Nat → Nat} {mc ms : Nat} {st0 : List Value} {a : Array Value} {Q : Option Value → Hp → Prop}
    (C : Cx M p l s m args meth c A D gA (ad shx)) (hr : Rp A D gA s H locs ad h) (hl : lv_has ls M.2.2.1 (lvm ad lv))
    (hE : ∀ (cs' : Nat × Nat) (pc' : Nat) (lv' : Lv) (st' : List Value) (h' : Hp) (H' : Heap) (locs' : List Loc) (ls' : Array Slot) (ad' : Nat → Nat), E cs' pc' lv' st' h' → Ext h.1.length ad h'.1.length ad' → Rp A D gA s H' locs' ad' h' → lv_has ls' M.2.2.1 (lvm ad' lv') →
      W p l e R s m args below meth c H' locs' cs'.1 cs'.2 Q' (F0 m pc' ls' (st'.map (cv ad'))))
    (hv : vld h.1.length lv st = true ∨ ∀ v h', Q v h' → h'.1.length = h.1.length)
    (run : va_Run p l e R s m args below meth c H locs cs.1 cs.2 mc ms (F0 m pc ls st0) (st.map (cv ad)) (Qm D gA ad H.size h Q a) (va_A (wsO gA ad h) H.size))
    (k : ∀ v h', Q v h' → G M R E (cs.1 + mc, cs.2 + ms) (pc + 3) lv (v.toList ++ st) h') : W p l e R s m args below meth c H locs cs.1 cs.2 Q' (F0 m pc ls st0) := by
  intro T hT X
  obtain ⟨v, st₀, t, T', L, h0, X', hL, e1, e2, ⟨⟨r, h', ad', hv', hq, hx, hP', hD'⟩, hz, hk⟩, stp⟩ := run T hT X
  have hAB : ∀ q, va_A (wsO gA ad h) H.size q → A q := by
    intro q hq
    rcases hq with ⟨k, e, hk⟩ | hq
    · exact hr.2.1.2 k _ hk
    · exact C.hA q (Nat.le_trans hr.2.2.1 hq)
  rw [h0] at hz hk
  have hS : va_S A s.heap T'.heap (locs ++ L) := ⟨Nat.le_trans hr.2.2.1 (by rw [e1]; exact hz), fun q h1 h2 => by rw [e1, hk q (Nat.lt_of_lt_of_le h1 hr.2.2.1) (fun z => h2 (hAB q z))]; exact hr.2.2.2.1 q h1 h2, fun q hq => by
      rcases List.mem_append.mp hq with h | h
      · exact hr.2.2.2.2 q h
      · exact hAB _ (hL q h)⟩
  cases hv'
  have hvv := vld_lv (lv := lv) (st := st) hx (hv.imp id (fun z => z r h' hq))
  have hs : ad' shx = ad shx := hx.2.1 _ (Or.inr (Nat.le_refl _))
  have kk := k r h' hq p l e s m args below meth c Q' A D gA T'.heap (locs ++ L) ls ad' (by rw [hs]; exact C) ⟨by rw [e1]; exact hP', hD'.weaken (fun _ q _ z => hAB _ z), hS⟩ (by rw [hvv.1]; exact hl) (fun cs2 pc2 lv2 st2 h2 H2 l2 ls2 ad2 he2 hx2 hr2 hl2 => hE cs2 pc2 lv2 st2 h2 H2 l2 ls2 ad2 he2 (hx.tr hx2) hr2 hl2)
  have hst : ((r.toList ++ st).map (cv ad')) = (r.map (cv ad')).toList ++ st.map (cv ad) := by
    rw [List.map_append, hvv.2]
    cases r <;> rfl
  rw [hst] at kk
  obtain ⟨t2, a1, b1⟩ := kk T' rfl X'
  exact ⟨t2, stp t2 a1, b1⟩
def dOk (M' : MD) (n : Nat) : Prop := M'.1.cls ≠ "java/lang/invoke/MethodHandle" ∧ M'.1.cls ≠ "java/lang/invoke/VarHandle" ∧ (parseMethodDescriptor M'.1.desc).map (fun d => d.parameters.length) = some n
def VOk (own : String) (idx : Nat) (M' : MD) (n : Nat) : Prop := GoodIn wl (wsV own idx M'.1.cls M'.1 [cdw M']) ∧ dOk M' n
def SOk (own : String) (idx : Nat) (M' : MD) (n : Nat) : Prop := GoodIn wl (va_wsS own idx M'.1 [cdw M']) ∧ dOk M' n
def IOk (own : String) (idx : Nat) (M' : MD) (n : Nat) : Prop := GoodIn wl [cdw M'] ∧ Cond.initialized M'.1.cls ∈ wl ∧ Cond.methodLink own idx M'.1 ∈ wl ∧ Cond.instanceMethod M'.1 ∈ wl ∧ M'.1.name = "<init>" ∧ M'.2.2.2.1 = none ∧ dOk M' n
def SNOk (own : String) (idx : Nat) (M' : MD) (n : Nat) : Prop := ∃ host : String, GoodIn wl [cdw M'] ∧ Cond.initialized M'.1.cls ∈ wl ∧ Cond.methodLinkNest own idx M'.1 host ∈ wl ∧ Cond.static M'.1 ∈ wl ∧ dOk M' n
def INOk (own : String) (idx : Nat) (M' : MD) (n : Nat) : Prop := ∃ host : String, GoodIn wl [cdw M'] ∧ Cond.initialized M'.1.cls ∈ wl ∧ Cond.methodLinkNest own idx M'.1 host ∈ wl ∧ Cond.instanceMethod M'.1 ∈ wl ∧ M'.1.name = "<init>" ∧ M'.2.2.2.1 = none ∧ dOk M' n
abbrev rOk (R : Room) (cs : Nat × Nat) (M' : MD) (d mc ms : Nat) (st : List Value) : Prop := (d + 1 ≤ R.frames ∧ 8 + (M'.2.2.1 + 11) + 64 * d ≤ R.locals) ∧ (cs.1 + mc ≤ R.cells ∧ cs.2 + ms ≤ R.slots) ∧ (st.map fun v => v.category).sum ≤ 8
theorem cat_sum (ad : Nat → Nat) (st : List Value) : ((st.map (cv ad)).map fun v => v.category).sum = (st.map fun v => v.category).sum := by
  rw [List.map_map]
  congr 1
  exact List.map_congr_left fun v _ => cv_cat ad v
theorem G.callV {idx n d mc ms b ci : Nat} {M' : MD} {av rs : List Value} {rr : List Nat} {Q : Option Value → Hp → Prop} (i : Nat) (hi : M.2.2.2.2[i]? = some (pc, .invokevirtual idx, 3)) (ho : VOk M.1.cls idx M' n) (hn : av.length = n) (hrs : av.reverse = rs) {qc : vw_C} (hq : cl_all[ci]? = some qc) (hqc : qc.1 = M'.1.cls) (hz : h.1[b]? = some (0, ci, rr)) (hR : rOk R cs M' d mc ms st)
    (hM : GM M' d mc ms (.ref b :: av) h Q) (hv : vld h.1.length lv st = true ∨ ∀ v h', Q v h' → h'.1.length = h.1.length) (k : ∀ v h', Q v h' → G M R E (cs.1 + mc, cs.2 + ms) (pc + 3) lv (v.toList ++ st) h') : G M R E cs pc lv (rs ++ .ref b :: st) h := by
  subst hrs
  intro p l e s m args below meth c Q' A D gA H locs ls ad C hr hl hE
  have hrun := va_runV (p := p) (l := l) (e := e) (R := R) (s := s) (m := m) (args := args) (below := below) (meth := meth) (c := c) (H := H) (locs := locs) (cells := cs.1) (slots := cs.2) (cc := M.2.1) (nL := M.2.2.1) (Ts := wl) (b := ad b) (As := av.map (cv ad)) (rest := st.map (cv ad)) (g := F0 m pc ls ((av.reverse ++ .ref b :: st).map (cv ad))) (n := n) (index := idx)
    ⟨C.x, C.b, C.ml, C.own, C.ts⟩ (hM l D gA ad H.size C.tr) (cwV (ws' := []) n C.ts ho.1 rfl rfl rfl ⟨rfl, ho.2⟩ hR.1)
    ⟨Pm.blind, by
      obtain ⟨cell, q1, q2, q3⟩ := va_recv C.K hr.1 hq (wsO_get hz)
      exact ⟨cell, q1, q2, by rw [← hqc]; exact q3⟩, fun U hU hW => ⟨rfl, Pm.call C hr hU hW⟩⟩
    rfl (by rw [List.length_map]; exact hn) hl.1 (by show (av.reverse ++ .ref b :: st).map (cv ad) = _; simp [cv]) (lv_room (by rw [cat_sum]; exact hR.2.2)) (C.ok.at hi) hR.2.1
  exact G.ran C hr hl hE hv hrun k
theorem G.callS {idx n d mc ms : Nat} {M' : MD} {av rs : List Value} {Q : Option Value → Hp → Prop} (i : Nat) (hi : M.2.2.2.2[i]? = some (pc, .invokestatic idx, 3)) (ho : SOk M.1.cls idx M' n) (hn : av.length = n) (hrs : av.reverse = rs) (hR : rOk R cs M' d mc ms st)
    (hM : GM M' d mc ms av h Q) (hv : vld h.1.length lv st = true ∨ ∀ v h', Q v h' → h'.1.length = h.1.length) (k : ∀ v h', Q v h' → G M R E (cs.1 + mc, cs.2 + ms) (pc + 3) lv (v.toList ++ st) h') : G M R E cs pc lv (rs ++ st) h := by
  subst hrs
  intro p l e s m args below meth c Q' A D gA H locs ls ad C hr hl hE
  have hrun := va_runS (p := p) (l := l) (e := e) (R := R) (s := s) (m := m) (args := args) (below := below) (meth := meth) (c := c) (H := H) (locs := locs) (cells := cs.1) (slots := cs.2) (cc := M.2.1) (nL := M.2.2.1) (Ts := wl) (As := av.map (cv ad)) (rest := st.map (cv ad)) (g := F0 m pc ls ((av.reverse ++ st).map (cv ad))) (n := n) (index := idx)
    ⟨C.x, C.b, C.ml, C.own, C.ts⟩ (hM l D gA ad H.size C.tr) (va_cwS (ws' := []) n C.ts ho.1 rfl rfl rfl ho.2 hR.1)
    ⟨Pm.blind, fun U hU hW => ⟨rfl, Pm.call C hr hU hW⟩⟩
    rfl (by rw [List.length_map]; exact hn) hl.1 (by show (av.reverse ++ st).map (cv ad) = _; simp) (lv_room (by rw [cat_sum]; exact hR.2.2)) (C.ok.at hi) hR.2.1
  exact G.ran C hr hl hE hv hrun k
theorem G.callSN {idx n d mc ms : Nat} {M' : MD} {av rs : List Value} {Q : Option Value → Hp → Prop} (i : Nat) (hi : M.2.2.2.2[i]? = some (pc, .invokestatic idx, 3)) (ho : SNOk M.1.cls idx M' n) (hn : av.length = n) (hrs : av.reverse = rs) (hR : rOk R cs M' d mc ms st)
    (hM : GM M' d mc ms av h Q) (hv : vld h.1.length lv st = true ∨ ∀ v h', Q v h' → h'.1.length = h.1.length) (k : ∀ v h', Q v h' → G M R E (cs.1 + mc, cs.2 + ms) (pc + 3) lv (v.toList ++ st) h') : G M R E cs pc lv (rs ++ st) h := by
  subst hrs
  intro p l e s m args below meth c Q' A D gA H locs ls ad C hr hl hE
  obtain ⟨host, o1, o2, o3, o4, o5⟩ := ho
  have hrun := va_runSN (p := p) (l := l) (e := e) (R := R) (s := s) (m := m) (args := args) (below := below) (meth := meth) (c := c) (H := H) (locs := locs) (cells := cs.1) (slots := cs.2) (cc := M.2.1) (nL := M.2.2.1) (Ts := wl) (As := av.map (cv ad)) (rest := st.map (cv ad)) (g := F0 m pc ls ((av.reverse ++ st).map (cv ad))) (n := n) (index := idx)
    ⟨C.x, C.b, C.ml, C.own, C.ts⟩ (hM l D gA ad H.size C.tr) ⟨va_cnB (ws' := []) n C.ts o1 rfl rfl rfl (va_Nw.of rfl (C.ts _ o3)) (C.ts _ o2) o5 hR.1, C.ts _ o4, trivial⟩
    ⟨Pm.blind, fun U hU hW => ⟨rfl, Pm.call C hr hU hW⟩⟩
    rfl (by rw [List.length_map]; exact hn) hl.1 (by show (av.reverse ++ st).map (cv ad) = _; simp) (lv_room (by rw [cat_sum]; exact hR.2.2)) (C.ok.at hi) hR.2.1
  exact G.ran C hr hl hE hv hrun k
theorem G.callI {idx n d mc ms b : Nat} {M' : MD} {av rs : List Value} {Q : Option Value → Hp → Prop} (i : Nat) (hi : M.2.2.2.2[i]? = some (pc, .invokespecial idx, 3)) (ho : IOk M.1.cls idx M' n) (hn : av.length = n) (hrs : av.reverse = rs) (hR : rOk R cs M' d mc ms st)
    (hM : GM M' d mc ms (.ref b :: av) h Q) (hv : vld h.1.length lv st = true ∨ ∀ v h', Q v h' → h'.1.length = h.1.length) (k : ∀ v h', Q v h' → G M R E (cs.1 + mc, cs.2 + ms) (pc + 3) lv (v.toList ++ st) h') : G M R E cs pc lv (rs ++ .ref b :: st) h := by
  subst hrs
  intro p l e s m args below meth c Q' A D gA H locs ls ad C hr hl hE
  obtain ⟨o1, o2, o3, o4, o5, o6, o7⟩ := ho
  have hw : [cdw M'] = Cond.code M'.1 M'.2.1 M'.2.2.1 none :: [] := by rw [← o6]
  have hrun := va_runI (p := p) (l := l) (e := e) (R := R) (s := s) (m := m) (args := args) (below := below) (meth := meth) (c := c) (H := H) (locs := locs) (cells := cs.1) (slots := cs.2) (cc := M.2.1) (nL := M.2.2.1) (Ts := wl) (b := ad b) (As := av.map (cv ad)) (rest := st.map (cv ad)) (g := F0 m pc ls ((av.reverse ++ .ref b :: st).map (cv ad))) (n := n) (index := idx)
    ⟨C.x, C.b, C.ml, C.own, C.ts⟩ (hM l D gA ad H.size C.tr) (cwI (ws' := []) n C.ts o1 hw rfl rfl (C.ts _ o2) (C.ts _ o3) (C.ts _ o4) o5 o7 hR.1)
    ⟨Pm.blind, fun U hU hW => ⟨rfl, Pm.call C hr hU hW⟩⟩
    rfl (by rw [List.length_map]; exact hn) hl.1 (by show (av.reverse ++ .ref b :: st).map (cv ad) = _; simp [cv]) (lv_room (by rw [cat_sum]; exact hR.2.2)) (C.ok.at hi) hR.2.1
  exact G.ran C hr hl hE hv hrun k
theorem G.callIN {idx n d mc ms b : Nat} {M' : MD} {av rs : List Value} {Q : Option Value → Hp → Prop} (i : Nat) (hi : M.2.2.2.2[i]? = some (pc, .invokespecial idx, 3)) (ho : INOk M.1.cls idx M' n) (hn : av.length = n) (hrs : av.reverse = rs) (hR : rOk R cs M' d mc ms st)
    (hM : GM M' d mc ms (.ref b :: av) h Q) (hv : vld h.1.length lv st = true ∨ ∀ v h', Q v h' → h'.1.length = h.1.length) (k : ∀ v h', Q v h' → G M R E (cs.1 + mc, cs.2 + ms) (pc + 3) lv (v.toList ++ st) h') : G M R E cs pc lv (rs ++ .ref b :: st) h := by
  subst hrs
  intro p l e s m args below meth c Q' A D gA H locs ls ad C hr hl hE
  obtain ⟨host, o1, o2, o3, o4, o5, o6, o7⟩ := ho
  have hw : [cdw M'] = Cond.code M'.1 M'.2.1 M'.2.2.1 none :: [] := by rw [← o6]
  have hrun := va_runIN (p := p) (l := l) (e := e) (R := R) (s := s) (m := m) (args := args) (below := below) (meth := meth) (c := c) (H := H) (locs := locs) (cells := cs.1) (slots := cs.2) (cc := M.2.1) (nL := M.2.2.1) (Ts := wl) (b := ad b) (As := av.map (cv ad)) (rest := st.map (cv ad)) (g := F0 m pc ls ((av.reverse ++ .ref b :: st).map (cv ad))) (n := n) (index := idx)
    ⟨C.x, C.b, C.ml, C.own, C.ts⟩ (hM l D gA ad H.size C.tr) ⟨va_cnB (ws' := []) n C.ts o1 hw rfl rfl (va_Nw.of rfl (C.ts _ o3)) (C.ts _ o2) o7 hR.1, o5, C.ts _ o4⟩
    ⟨Pm.blind, fun U hU hW => ⟨rfl, Pm.call C hr hU hW⟩⟩
    rfl (by rw [List.length_map]; exact hn) hl.1 (by show (av.reverse ++ .ref b :: st).map (cv ad) = _; simp [cv]) (lv_room (by rw [cat_sum]; exact hR.2.2)) (C.ok.at hi) hR.2.1
  exact G.ran C hr hl hE hv hrun k
theorem G.objI {idx b : Nat} (i : Nat) (hi : M.2.2.2.2[i]? = some (pc, .invokespecial idx, 3)) (hw1 : Cond.methodLink M.1.cls idx objectInit ∈ wl) (hw2 : Cond.instanceMethod objectInit ∈ wl) (hw3 : Cond.code objectInit ⟨#[0xb1]⟩ 1 none ∈ wl) (hf : 1 ≤ R.frames) (hlo : 20 ≤ R.locals) (hs : (st.map fun v => v.category).sum ≤ 8) (k : G M R E cs (pc + 3) lv st h) : G M R E cs pc lv (.ref b :: st) h :=
  G.go (fun p l e s m args below meth c Q A D gA H locs ls ad C hr hl kk => W.objInit C.x C.b C.own (C.ts _ hw1) (C.ts _ hw2) (C.ts _ hw3) rfl (by rw [C.ml]; exact hl.1) rfl (C.ok.at hi) hf (by
    have := lv_room (m := m) (pc := pc) (ls := ls) (rest := (Value.ref b :: st).map (cv ad)) (st := st.map (cv ad)) (by rw [cat_sum]; exact hs)
    exact Nat.le_trans (Nat.add_le_add_right this 12) hlo) kk) k
/-- the ends of a method -/
def Rt (M : MD) (mc ms : Nat) (Q : Option Value → Hp → Prop) : Ex := fun cs pc _ st h => cs.1 ≤ mc ∧ cs.2 ≤ ms ∧ ∃ i : Nat,
  (M.2.2.2.2[i]? = some (pc, .return_, 1) ∧ M.2.2.2.1 = none ∧ st = [] ∧ Q none h) ∨
  (∃ (ty : FieldType) (v : Int32), M.2.2.2.2[i]? = some (pc, .ireturn, 1) ∧ M.2.2.2.1 = some ty ∧ narrow ty (.int v) = .int v ∧ st = [.int v] ∧ Q (some (.int v)) h) ∨
  (∃ v : Int64, M.2.2.2.2[i]? = some (pc, .lreturn, 1) ∧ M.2.2.2.1 = some .long ∧ st = [.long v] ∧ Q (some (.long v)) h)
theorem G.vret {mc ms : Nat} {Q : Option Value → Hp → Prop} (i : Nat) (hi : M.2.2.2.2[i]? = some (pc, .return_, 1)) (hr : M.2.2.2.1 = none) (h1 : cs.1 ≤ mc) (h2 : cs.2 ≤ ms) (hq : Q none h) : G M R (Rt M mc ms Q) cs pc lv [] h := G.exit ⟨h1, h2, i, Or.inl ⟨hi, hr, rfl, hq⟩⟩
theorem G.iret {mc ms : Nat} {Q : Option Value → Hp → Prop} {ty : FieldType} {v : Int32} (i : Nat) (hi : M.2.2.2.2[i]? = some (pc, .ireturn, 1)) (hr : M.2.2.2.1 = some ty) (hn : narrow ty (.int v) = .int v) (h1 : cs.1 ≤ mc) (h2 : cs.2 ≤ ms) (hq : Q (some (.int v)) h) : G M R (Rt M mc ms Q) cs pc lv [.int v] h := G.exit ⟨h1, h2, i, Or.inr (Or.inl ⟨ty, v, hi, hr, hn, rfl, hq⟩)⟩
theorem G.lret {mc ms : Nat} {Q : Option Value → Hp → Prop} {v : Int64} (i : Nat) (hi : M.2.2.2.2[i]? = some (pc, .lreturn, 1)) (hr : M.2.2.2.1 = some .long) (h1 : cs.1 ≤ mc) (h2 : cs.2 ≤ ms) (hq : Q (some (.long v)) h) : G M R (Rt M mc ms Q) cs pc lv [.long v] h := G.exit ⟨h1, h2, i, Or.inr (Or.inr ⟨v, hi, hr, rfl, hq⟩)⟩
theorem lv_args_m (ad : Nat → Nat) : ∀ (av : List Value) (n : Nat), lv_args n (av.map (cv ad)) = lvm ad (lv_args n av)
  | [], n => rfl
  | v :: vs, n => by
    simp only [List.map_cons, lv_args, cv_cat, lvm]
    rw [lv_args_m ad vs]
    rfl
theorem lg_sl_m (ad : Nat → Nat) : ∀ (av : List Value), (lg_sl (av.map (cv ad))).length = (lg_sl av).length
  | [] => rfl
  | v :: vs => by
    have ih := lg_sl_m ad vs
    simp only [lg_sl, List.map_cons, List.flatMap_cons, List.length_append, cv_cat] at ih ⊢
    rw [ih]
    by_cases hc : v.category = 2 <;> simp [hc]
theorem GM.of {d mc ms : Nat} {av : List Value} {Q : Option Value → Hp → Prop} (hok : MOk M) (hpl : plainName M.1.cls = true) (hlen : (lg_sl av).length ≤ M.2.2.1) (g : G M (rmd d mc ms) (Rt M mc ms Q) (0, 0) 0 (lv_args 0 av) [] h) : GM M d mc ms av h Q := by
  intro l D gA ad sz htr
  refine Met.ofW (cc := M.2.1) (maxL := M.2.2.1) (ret := M.2.2.2.1) (ws' := []) hpl rfl ?_
  intro p e s m args below meth c s₁ B hml hv
  obtain ⟨rfl, hsz, hw, hK, hP, hD, hS⟩ := hv
  subst hsz
  have hlk : meth.locks = false := B.notSynchronized
  have C : Cx M p l s m (av.map (cv ad)).toArray meth c (va_A (wsO gA ad h) s.heap.size) D gA (ad shx) := ⟨B.exec, B.bytes, B.returns, hml, findClass_of_methodNamed B.named, fun w h9 => wl_warm (State.WarmedH.refl s) h9 (hw w h9), hK, fun q hq => Or.inr hq, hlk, (name_of_methodNamed B.named B.method).1, hok, hS, htr⟩
  have hl := lv_entry (av.map (cv ad)) (n := M.2.2.1) (by rw [lg_sl_m]; exact hlen)
  rw [lg_entry_eq]
  rw [lv_args_m] at hl
  refine g p l e s m _ below meth c _ _ D gA s.heap [] _ ad C ⟨hP, hD.self, va_S.rf⟩ hl ?_
  intro cs' pc' lv' st' h' H' locs' ls' ad' hE hx hr' hl'
  obtain ⟨h1, h2, i, hE⟩ := hE
  refine W.widen (k := mc) (n := ms) h1 h2 ?_
  have hf : ∀ q ∈ locs', va_A (wsO gA ad h) s.heap.size q.base := hr'.2.2.2.2
  rcases hE with ⟨hi, hret, rfl, hq⟩ | ⟨ty, v, hi, hret, hn, rfl, hq⟩ | ⟨v, hi, hret, rfl, hq⟩
  · exact W.vret B.exec B.bytes (B.returns.trans hret) (fun t ht hW => ⟨⟨none, h', ad', rfl, hq, hx, by rw [ht]; exact hr'.1, hr'.2.1⟩, hr'.2.2.F ht⟩) hf (hok.at hi) hlk
  · exact W.zret B.exec B.bytes (B.returns.trans hret) hn (fun t ht hW => ⟨⟨some (.int v), h', ad', rfl, hq, hx, by rw [ht]; exact hr'.1, hr'.2.1⟩, hr'.2.2.F ht⟩) hf (hok.at hi) hlk
  · exact W.lret B.exec B.bytes (B.returns.trans hret) (fun t ht hW => ⟨⟨some (.long v), h', ad', rfl, hq, hx, by rw [ht]; exact hr'.1, hr'.2.1⟩, hr'.2.2.F ht⟩) hf (hok.at hi) hlk
end GC
end
section
/-! STEPS OF G: making objects and arrays; arraycopy -/
def uf (I : Nat → Nat → Int32) (k : Nat) (f : Nat → Int32) : Nat → Nat → Int32 := fun a => if a = k then f else I a
def ufj (J : Nat → Nat → Int64) (k : Nat) (f : Nat → Int64) : Nat → Nat → Int64 := fun a => if a = k then f else J a
theorem wsO_setF {gA : Nat → ClassId} {ad : Nat → Nat} {Z : List Kd} {I : Nat → Nat → Int32} {J : Nat → Nat → Int64} {k : Nat} {f : Nat → Int32} {kd : Kd} (hz : Z[k]? = some kd) :
    (wsO gA ad (Z, I, J)).set k (ad k, cel gA ad f (J k) kd) = wsO gA ad (Z, uf I k f, J) := by
  apply List.ext_getElem?
  intro n
  by_cases hn : n = k
  · subst hn
    have hl : n < Z.length := (List.getElem?_eq_some_iff.mp hz).1
    rw [List.getElem?_set_self (by simpa [wsO] using hl), wsO_get hz]
    simp [uf]
  · rw [List.getElem?_set_ne (Ne.symm hn)]
    simp [wsO, List.getElem?_mapIdx, uf, hn]
theorem wsO_setFj {gA : Nat → ClassId} {ad : Nat → Nat} {Z : List Kd} {I : Nat → Nat → Int32} {J : Nat → Nat → Int64} {k : Nat} {f : Nat → Int64} {kd : Kd} (hz : Z[k]? = some kd) :
    (wsO gA ad (Z, I, J)).set k (ad k, cel gA ad (I k) f kd) = wsO gA ad (Z, I, ufj J k f) := by
  apply List.ext_getElem?
  intro n
  by_cases hn : n = k
  · subst hn
    have hl : n < Z.length := (List.getElem?_eq_some_iff.mp hz).1
    rw [List.getElem?_set_self (by simpa [wsO] using hl), wsO_get hz]
    simp [ufj]
  · rw [List.getElem?_set_ne (Ne.symm hn)]
    simp [wsO, List.getElem?_mapIdx, ufj, hn]
def zok (Z : List Kd) : Bool := Z.all (fun kd => kd.2.2.all (fun r => decide (r ≤ Z.length))) && decide (Z.length < shx)
theorem rfv_ok {n n' : Nat} {ad ad' : Nat → Nat} (hx : Ext n ad n' ad') {r : Nat} (h : r ≤ n) : rfv ad' r = rfv ad r := by
  cases r with
  | zero => rfl
  | succ k => simp only [rfv]; rw [hx.2.1 k (Or.inl h)]
theorem rfo_ok {n n' : Nat} {ad ad' : Nat → Nat} (hx : Ext n ad n' ad') {r : Nat} (h : r ≤ n) : rfo ad' r = rfo ad r := by
  cases r with
  | zero => rfl
  | succ k => simp only [rfo]; rw [hx.2.1 k (Or.inl h)]
theorem getD_le {rs : List Nat} {n j : Nat} (h : rs.all (fun r => decide (r ≤ n)) = true) : rs.getD j 0 ≤ n := by
  rw [List.getD_eq_getElem?_getD]
  cases hj : rs[j]? with
  | none => exact Nat.zero_le _
  | some r => exact of_decide_eq_true (List.all_eq_true.mp h r (List.mem_of_getElem? hj))
theorem cel_ok {gA : Nat → ClassId} {n n' : Nat} {ad ad' : Nat → Nat} {Ik : Nat → Int32} {Jk : Nat → Int64} (hx : Ext n ad n' ad') {kd : Kd} (h : kd.2.2.all (fun r => decide (r ≤ n)) = true) : cel gA ad' Ik Jk kd = cel gA ad Ik Jk kd := by
  obtain ⟨t, m, rs⟩ := kd
  match t with
  | 0 =>
    show Sum.inr (m, flds ad' Ik Jk m rs) = Sum.inr (m, flds ad Ik Jk m rs)
    have hf : flds ad' Ik Jk m rs = flds ad Ik Jk m rs := by
      refine List.map_congr_left fun j _ => ?_
      unfold fvl
      rw [rfv_ok hx (getD_le h)]
    rw [hf]
  | 1 => rfl
  | 2 => rfl
  | 3 => rfl
  | 4 => rfl
  | 5 => rfl
  | 6 =>
    have hf : (fun i => rfo ad' (rs.getD i 0)) = (fun i => rfo ad (rs.getD i 0)) := by
      funext i
      exact rfo_ok hx (getD_le h)
    show Sum.inl (gA 6, m, Sum.inr (Sum.inr (Sum.inr (Sum.inr (fun i => rfo ad' (rs.getD i 0)))))) = _
    rw [hf]
    rfl
  | t + 7 => rfl
def adN (ad : Nat → Nat) (n q : Nat) : Nat → Nat := fun k => if k = n then q else ad k
theorem adN_ext {ad : Nat → Nat} {n q : Nat} (hn : n < shx) : Ext n ad (n + 1) (adN ad n q) :=
  ⟨Nat.le_succ n, fun k hk => if_neg (by rcases hk with h | h <;> omega), fun h => absurd h (by omega)⟩
theorem wsO_new {gA : Nat → ClassId} {ad : Nat → Nat} {Z : List Kd} {I : Nat → Nat → Int32} {J : Nat → Nat → Int64} {kd : Kd} {q : Nat} (hz : zok Z = true) (hkd : kd.2.2.all (fun r => decide (r ≤ 0)) = true) :
    wsO gA (adN ad Z.length q) (Z ++ [kd], uf I Z.length (fun _ => 0), ufj J Z.length (fun _ => 0)) = wsO gA ad (Z, I, J) ++ [(q, cel gA ad (fun _ => 0) (fun _ => 0) kd)] := by
  simp only [zok, Bool.and_eq_true, decide_eq_true_eq] at hz
  have hx : Ext Z.length ad (Z.length + 1) (adN ad Z.length q) := adN_ext hz.2
  unfold wsO
  rw [List.mapIdx_append]
  congr 1
  · apply List.ext_getElem?
    intro n
    simp only [List.getElem?_mapIdx]
    cases hn : Z[n]? with
    | none => rfl
    | some k0 =>
      have hl : n < Z.length := (List.getElem?_eq_some_iff.mp hn).1
      have hne : n ≠ Z.length := by omega
      simp only [Option.map_some, uf, ufj, if_neg hne]
      rw [cel_ok hx (List.all_eq_true.mp hz.1 k0 (List.mem_of_getElem? hn)), hx.2.1 n (Or.inl hl)]
  · simp only [List.mapIdx_cons, List.mapIdx_nil, Nat.zero_add, uf, ufj, adN, if_true]
    rw [cel_ok (n := 0) (n' := Z.length + 1) (ad := ad) (ad' := adN ad Z.length q) ⟨Nat.zero_le _, fun k hk => ?_, fun h => absurd h (by omega)⟩ hkd]
    exact hx.2.1 k (by rcases hk with h | h; omega; exact Or.inr h)
theorem RA_inj {s : State} {a b : ClassId} {ty : FieldType} (ha : va_RA s a ty) (hb : va_RA s b ty) : a = b := by
  cases ty with
  | object C =>
    obtain ⟨kA, comp, h1, h2, h3, h4⟩ := ha
    obtain ⟨kB, comp', g1, g2, g3, g4⟩ := hb
    exact Option.some.inj (h4.symm.trans g4)
  | _ => exact Option.some.inj (Eq.trans (Eq.symm ha) hb)
section GN
variable {M : MD} {R : Room} {E : Ex} {cs : Nat × Nat} {pc : Nat} {lv : Lv} {st : List Value} {Z : List Kd} {I : Nat → Nat → Int32} {J : Nat → Nat → Int64}
theorem G.newa {atype : ArrayType} {ty : FieldType} {n : Int32} (t N : Nat) (i : Nat) (hi : M.2.2.2.2[i]? = some (pc, .newarray atype, 2)) (hw : Cond.arrayClass (newarray.typeOf atype) ∈ wl) (hty : newarray.typeOf atype = ty) (htt : ∀ gA : Nat → ClassId, (tysO gA)[t - 1]? = some (gA t, ty))
    (hcel : ∀ (gA : Nat → ClassId) (ad : Nat → Nat) (cA : ClassId), ∃ a0 : vp_A, cel gA ad (fun _ => 0) (fun _ => 0) (t, N, []) = .inl (gA t, a0) ∧ vp_cell cA a0 = arrV cA N (fun _ => defaultValue ty)) (hn : ¬ n < 0) (hN : n.toNatClampNeg = N) (hb : N * componentBytes ty ≤ 536870912) (hz : zok Z = true) (hv : vld Z.length lv st = true) (hc1 : cs.1 + 1 ≤ R.cells) (hc2 : cs.2 + N ≤ R.slots)
    (k : G M R E (cs.1 + 1, cs.2 + N) (pc + 2) lv (.ref Z.length :: st) (Z ++ [(t, N, [])], uf I Z.length (fun _ => 0), ufj J Z.length (fun _ => 0))) : G M R E cs pc lv (.int n :: st) (Z, I, J) := by
  intro p l e s m args below meth c Q A D gA H locs ls ad C hr hl hE
  obtain ⟨a0, ha0, -⟩ := hcel gA ad (gA t)
  have hac : ∀ cA : ClassId, vp_cell cA a0 = arrV cA N (fun _ => defaultValue ty) := fun cA => by
    obtain ⟨a1, ha1, ha2⟩ := hcel gA ad cA
    rw [ha0] at ha1
    cases Sum.inl.inj ha1
    exact ha2
  refine va_newa C.x C.b (C.ts _ hw) hty C.K hr.1 hr.2.1 hr.2.2 C.hA hac hn hN hb hc1 hc2 (C.ok.at hi) fun q cA H1 hK1 hP1 hD1 hS1 => ?_
  have hzz := hz
  simp only [zok, Bool.and_eq_true, decide_eq_true_eq] at hz
  have hx : Ext Z.length ad (Z.length + 1) (adN ad Z.length q) := adN_ext hz.2
  have h1 : va_RA s cA ty := (hK1.2 (tysO gA).length (cA, _) (by simp)).2
  have h2 : va_RA s (gA t) ty := (C.K.2 (t - 1) _ (htt gA)).2
  cases RA_inj h1 h2
  rw [← ha0, ← wsO_new (q := q) hzz rfl] at hP1 hD1
  have hvv := vld_lv (lv := lv) (st := st) hx (Or.inl hv)
  have hs : adN ad Z.length q shx = ad shx := hx.2.1 _ (Or.inr (Nat.le_refl _))
  have kk := k p l e s m args below meth c Q A D gA H1 locs ls (adN ad Z.length q) (by rw [hs]; exact C) ⟨hP1, hD1, hS1⟩ (by rw [hvv.1]; exact hl) (fun cs2 pc2 lv2 st2 h2 H2 l2 ls2 ad2 he2 hx2 hr2 hl2 => hE cs2 pc2 lv2 st2 h2 H2 l2 ls2 ad2 he2 (hx.tr (by simpa using hx2)) hr2 hl2)
  rw [List.map_cons, hvv.2] at kk
  have e1 : cv (adN ad Z.length q) (.ref Z.length) = .ref q := by show Value.ref (adN ad Z.length q Z.length) = _; simp [adN]
  rw [e1] at kk
  exact kk
theorem G.new {idx : Nat} (ci N : Nat) {qc : vw_C} (i : Nat) (hi : M.2.2.2.2[i]? = some (pc, .new idx, 3)) (hq : cl_all[ci]? = some qc) (hN : qc.2.2 = N) (hw1 : Cond.classLink M.1.cls idx qc.1 ∈ wl) (hw2 : Cond.instantiable qc.1 N ∈ wl) (hw3 : Cond.initialized qc.1 ∈ wl) (hdf : ∀ j, j < N → defaultValue (ctyp ci j) = fvl id (fun _ => 0) (fun _ => 0) ci (List.replicate N 0) j)
    (hz : zok Z = true) (hv : vld Z.length lv st = true) (hc1 : cs.1 + 1 ≤ R.cells) (hc2 : cs.2 + N ≤ R.slots)
    (k : G M R E (cs.1 + 1, cs.2 + N) (pc + 3) lv (.ref Z.length :: st) (Z ++ [(0, ci, List.replicate N 0)], uf I Z.length (fun _ => 0), ufj J Z.length (fun _ => 0))) : G M R E cs pc lv st (Z, I, J) := by
  intro p l e s m args below meth c Q A D gA H locs ls ad C hr hl hE
  subst hN
  have hk := cok hq
  refine va_new (ci := ci) (fs := flds ad (fun _ => 0) (fun _ => 0) ci (List.replicate qc.2.2 0)) C.x C.b C.ts hk.1 (ctyp ci) hk.2.1 C.own (C.ts _ hw1) (C.ts _ hw2) (C.ts _ hw3) C.K hr.1 hr.2.1 hr.2.2 C.hA hq (fun j hj => ?_) hc1 hc2 (C.ok.at hi) fun q H1 hP1 hD1 hS1 => ?_
  · rw [vp_V, List.getD_eq_getElem?_getD, flds_get (by rw [cnf_of hq]; exact hj), hdf j hj]
    have h0 : (List.replicate qc.2.2 0).getD j 0 = 0 := by simp [List.getD_eq_getElem?_getD, hj]
    simp only [fvl, h0, rfv, Option.getD_some]
  have hzz := hz
  simp only [zok, Bool.and_eq_true, decide_eq_true_eq] at hz
  have hx : Ext Z.length ad (Z.length + 1) (adN ad Z.length q) := adN_ext hz.2
  have hcl : (.inr (ci, flds ad (fun _ => 0) (fun _ => 0) ci (List.replicate qc.2.2 0)) : va_E) = cel gA ad (fun _ => 0) (fun _ => 0) (0, ci, List.replicate qc.2.2 0) := rfl
  rw [hcl, ← wsO_new (q := q) hzz (by simp)] at hP1 hD1
  have hvv := vld_lv (lv := lv) (st := st) hx (Or.inl hv)
  have hs : adN ad Z.length q shx = ad shx := hx.2.1 _ (Or.inr (Nat.le_refl _))
  have kk := k p l e s m args below meth c Q A D gA H1 locs ls (adN ad Z.length q) (by rw [hs]; exact C) ⟨hP1, hD1, hS1⟩ (by rw [hvv.1]; exact hl) (fun cs2 pc2 lv2 st2 h2 H2 l2 ls2 ad2 he2 hx2 hr2 hl2 => hE cs2 pc2 lv2 st2 h2 H2 l2 ls2 ad2 he2 (hx.tr (by simpa using hx2)) hr2 hl2)
  rw [List.map_cons, hvv.2] at kk
  have e1 : cv (adN ad Z.length q) (.ref Z.length) = .ref q := by show Value.ref (adN ad Z.length q Z.length) = _; simp [adN]
  rw [e1] at kk
  exact kk
theorem G.newq {idx : Nat} {n : Int32} (N : Nat) (i : Nat) (hi : M.2.2.2.2[i]? = some (pc, .anewarray idx, 3)) (hw1 : Cond.classLink M.1.cls idx RX2 ∈ wl) (hn : ¬ n < 0) (hN : n.toNatClampNeg = N) (hb : N * 4 ≤ 536870912)
    (hz : zok Z = true) (hv : vld Z.length lv st = true) (hc1 : cs.1 + 1 ≤ R.cells) (hc2 : cs.2 + N ≤ R.slots)
    (k : G M R E (cs.1 + 1, cs.2 + N) (pc + 3) lv (.ref Z.length :: st) (Z ++ [(6, N, List.replicate N 0)], uf I Z.length (fun _ => 0), ufj J Z.length (fun _ => 0))) : G M R E cs pc lv (.int n :: st) (Z, I, J) := by
  intro p l e s m args below meth c Q A D gA H locs ls ad C hr hl hE
  refine va_newq C.x C.b C.own (C.ts _ hw1) C.sh.2.2.2.2 C.K hr.1 hr.2.1 hr.2.2 C.hA hn hN hb hc1 hc2 (C.ok.at hi) fun q cA H1 hK1 hP1 hD1 hS1 => ?_
  have hzz := hz
  simp only [zok, Bool.and_eq_true, decide_eq_true_eq] at hz
  have hx : Ext Z.length ad (Z.length + 1) (adN ad Z.length q) := adN_ext hz.2
  have h1 : va_RA s cA (.object RX2) := (hK1.2 (tysO gA).length (cA, _) (by simp)).2
  have h2 : va_RA s (gA 6) (.object RX2) := (C.K.2 5 _ rfl).2
  cases RA_inj h1 h2
  have hcl : (.inl (gA 6, N, .inr (.inr (.inr (.inr (fun _ => none))))) : va_E) = cel gA ad (fun _ => 0) (fun _ => 0) (6, N, List.replicate N 0) := by
    have hf : (fun i => rfo ad ((List.replicate N 0).getD i 0)) = (fun _ => none) := by
      funext j
      have h0 : (List.replicate N 0).getD j 0 = 0 := by
        rw [List.getD_eq_getElem?_getD, List.getElem?_replicate]
        by_cases hj : j < N <;> simp [hj]
      rw [h0]
      rfl
    show _ = (.inl (gA 6, N, .inr (.inr (.inr (.inr (fun i => rfo ad ((List.replicate N 0).getD i 0)))))) : va_E)
    rw [hf]
  rw [hcl, ← wsO_new (q := q) hzz (by simp)] at hP1 hD1
  have hvv := vld_lv (lv := lv) (st := st) hx (Or.inl hv)
  have hs : adN ad Z.length q shx = ad shx := hx.2.1 _ (Or.inr (Nat.le_refl _))
  have kk := k p l e s m args below meth c Q A D gA H1 locs ls (adN ad Z.length q) (by rw [hs]; exact C) ⟨hP1, hD1, hS1⟩ (by rw [hvv.1]; exact hl) (fun cs2 pc2 lv2 st2 h2 H2 l2 ls2 ad2 he2 hx2 hr2 hl2 => hE cs2 pc2 lv2 st2 h2 H2 l2 ls2 ad2 he2 (hx.tr (by simpa using hx2)) hr2 hl2)
  rw [List.map_cons, hvv.2] at kk
  have e1 : cv (adN ad Z.length q) (.ref Z.length) = .ref q := by show Value.ref (adN ad Z.length q Z.length) = _; simp [adN]
  rw [e1] at kk
  exact kk
theorem G.copyi {idx o0 o1 n0 n1 : Nat} {r0 r1 : List Nat} {sp dp n : Int32} (i : Nat) (hi : M.2.2.2.2[i]? = some (pc, .invokestatic idx, 3)) (hw1 : Cond.methodLink M.1.cls idx arraycopyName ∈ wl) (hw2 : Cond.native arraycopyName ∈ wl) (hw3 : Cond.static arraycopyName ∈ wl) (hw4 : Cond.initialized "java/lang/System" ∈ wl)
    (hz0 : Z[o0]? = some (1, n0, r0)) (hz1 : Z[o1]? = some (1, n1, r1)) (h1 : ¬ sp < 0) (h2 : ¬ dp < 0) (h3 : ¬ n < 0) (h4 : sp.toNatClampNeg + n.toNatClampNeg ≤ n0) (h5 : dp.toNatClampNeg + n.toNatClampNeg ≤ n1) (hf : 1 ≤ R.frames) (hlo : 8 + (nativeFrameWords "java/lang/System" "arraycopy" 5 + 11) ≤ R.locals) (hs : (st.map fun v => v.category).sum ≤ 8)
    (k : G M R E cs (pc + 3) lv st (Z, uf I o1 (va_cpy (I o0) (I o1) sp.toNatClampNeg dp.toNatClampNeg n.toNatClampNeg), J)) : G M R E cs pc lv (.int n :: .int dp :: .ref o1 :: .int sp :: .ref o0 :: st) (Z, I, J) := by
  intro p l e s m args below meth c Q A D gA H locs ls ad C hr hl hE
  refine va_copyi C.x C.b (C.ml.trans hl.1.symm) C.own (C.ts _ hw1) (C.ts _ hw2) (C.ts _ hw3) (C.ts _ hw4) C.K hr.1 hr.2.1 hr.2.2 o0 o1 0 0 (wsO_get (gA := gA) (ad := ad) (h := (Z, I, J)) hz0) (wsO_get (gA := gA) (ad := ad) (h := (Z, I, J)) hz1) rfl rfl rfl h1 h2 h3 h4 h5 (fun _ _ => rfl) hf (by
    have := cat_sum ad st
    exact Nat.le_trans (Nat.add_le_add_right (by rw [this]; exact hs) _) hlo) (C.ok.at hi) fun H1 locs1 g1 g2 g3 => ?_
  have hw := wsO_setF (gA := gA) (ad := ad) (I := I) (J := J) (f := va_cpy (I o0) (I o1) sp.toNatClampNeg dp.toNatClampNeg n.toNatClampNeg) hz1
  exact k p l e s m args below meth c Q A D gA H1 locs1 ls ad C ⟨by rw [← hw]; exact g1, by rw [← hw]; exact g2, g3⟩ hl hE
theorem G.copyl {idx o0 o1 n0 n1 : Nat} {r0 r1 : List Nat} {sp dp n : Int32} (i : Nat) (hi : M.2.2.2.2[i]? = some (pc, .invokestatic idx, 3)) (hw1 : Cond.methodLink M.1.cls idx arraycopyName ∈ wl) (hw2 : Cond.native arraycopyName ∈ wl) (hw3 : Cond.static arraycopyName ∈ wl) (hw4 : Cond.initialized "java/lang/System" ∈ wl)
    (hz0 : Z[o0]? = some (2, n0, r0)) (hz1 : Z[o1]? = some (2, n1, r1)) (h1 : ¬ sp < 0) (h2 : ¬ dp < 0) (h3 : ¬ n < 0) (h4 : sp.toNatClampNeg + n.toNatClampNeg ≤ n0) (h5 : dp.toNatClampNeg + n.toNatClampNeg ≤ n1) (hf : 1 ≤ R.frames) (hlo : 8 + (nativeFrameWords "java/lang/System" "arraycopy" 5 + 11) ≤ R.locals) (hs : (st.map fun v => v.category).sum ≤ 8)
    (k : G M R E cs (pc + 3) lv st (Z, I, ufj J o1 (va_cpy (J o0) (J o1) sp.toNatClampNeg dp.toNatClampNeg n.toNatClampNeg))) : G M R E cs pc lv (.int n :: .int dp :: .ref o1 :: .int sp :: .ref o0 :: st) (Z, I, J) := by
  intro p l e s m args below meth c Q A D gA H locs ls ad C hr hl hE
  refine va_copyl C.x C.b (C.ml.trans hl.1.symm) C.own (C.ts _ hw1) (C.ts _ hw2) (C.ts _ hw3) (C.ts _ hw4) C.K hr.1 hr.2.1 hr.2.2 o0 o1 1 1 (wsO_get (gA := gA) (ad := ad) (h := (Z, I, J)) hz0) (wsO_get (gA := gA) (ad := ad) (h := (Z, I, J)) hz1) rfl rfl rfl h1 h2 h3 h4 h5 (fun _ _ => rfl) hf (by
    have := cat_sum ad st
    exact Nat.le_trans (Nat.add_le_add_right (by rw [this]; exact hs) _) hlo) (C.ok.at hi) fun H1 locs1 g1 g2 g3 => ?_
  have hw := wsO_setFj (gA := gA) (ad := ad) (I := I) (J := J) (f := va_cpy (J o0) (J o1) sp.toNatClampNeg dp.toNatClampNeg n.toNatClampNeg) hz1
  exact k p l e s m args below meth c Q A D gA H1 locs1 ls ad C ⟨by rw [← hw]; exact g1, by rw [← hw]; exact g2, g3⟩ hl hE
end GN
end
section
/-! the methods: names, bytes, locals, answers, instructions -/
def mokb (M : MD) : Bool := M.2.2.2.2.all (fun t => decide (decode M.2.1 t.1 = .ok (t.2.1, t.2.2)))
theorem mok_of {M : MD} (h : mokb M = true) : MOk M := fun t ht => of_decide_eq_true (List.all_eq_true.mp h t ht)
def mX0_init : MD := (yX0_init, cX0_init, 1, none, [(0, .aload_n 0, 1), (1, .invokespecial 3, 3), (4, .aload_n 0, 1), (5, .iconst 4, 1), (6, .putfield 9, 3), (9, .aload_n 0, 1), (10, .iconst 0, 1), (11, .putfield 15, 3), (14, .aload_n 0, 1), (15, .iconst 5, 1), (16, .putfield 18, 3), (19, .aload_n 0, 1), (20, .iconst 2, 1), (21, .putfield 21, 3), (24, .aload_n 0, 1), (25, .iconst 0, 1), (26, .putfield 24, 3), (29, .aload_n 0, 1), (30, .bipush 10, 2), (32, .newarray .int, 2), (34, .dup, 1), (35, .iconst 0, 1), (36, .iconst 1, 1), (37, .iastore, 1), (38, .dup, 1), (39, .iconst 1, 1), (40, .iconst 1, 1), (41, .iastore, 1), (42, .dup, 1), (43, .iconst 2, 1), (44, .iconst 1, 1), (45, .iastore, 1), (46, .dup, 1), (47, .iconst 3, 1), (48, .iconst 1, 1), (49, .iastore, 1), (50, .dup, 1), (51, .iconst 4, 1), (52, .iconst 1, 1), (53, .iastore, 1), (54, .dup, 1), (55, .iconst 5, 1), (56, .iconst 1, 1), (57, .iastore, 1), (58, .dup, 1), (59, .bipush 6, 2), (61, .iconst 1, 1), (62, .iastore, 1), (63, .dup, 1), (64, .bipush 7, 2), (66, .iconst 1, 1), (67, .iastore, 1), (68, .dup, 1), (69, .bipush 8, 2), (71, .iconst 1, 1), (72, .iastore, 1), (73, .dup, 1), (74, .bipush 9, 2), (76, .iconst 1, 1), (77, .iastore, 1), (78, .putfield 27, 3), (81, .aload_n 0, 1), (82, .bipush 64, 2), (84, .newarray .int, 2), (86, .putfield 31, 3), (89, .aload_n 0, 1), (90, .bipush 64, 2), (92, .newarray .int, 2), (94, .putfield 34, 3), (97, .aload_n 0, 1), (98, .bipush 64, 2), (100, .newarray .int, 2), (102, .putfield 37, 3), (105, .aload_n 0, 1), (106, .bipush 10, 2), (108, .newarray .long, 2), (110, .putfield 40, 3), (113, .aload_n 0, 1), (114, .bipush 10, 2), (116, .newarray .long, 2), (118, .putfield 44, 3), (121, .return_, 1)])
set_option maxRecDepth 100000 in
theorem okX0_init : MOk mX0_init := mok_of (by decide +kernel)
def mX0_hasWire : MD := (yX0_hasWire, cX0_hasWire, 2, some .boolean, [(0, .iload_n 1, 1), (1, .ifCond .lt 15, 3), (4, .iload_n 1, 1), (5, .aload_n 0, 1), (6, .getfield 9, 3), (9, .if_icmp .ge 7, 3), (12, .iconst 1, 1), (13, .goto 4, 3), (16, .iconst 0, 1), (17, .ireturn, 1)])
set_option maxRecDepth 100000 in
theorem okX0_hasWire : MOk mX0_hasWire := mok_of (by decide +kernel)
def mX0_hasLamp : MD := (yX0_hasLamp, cX0_hasLamp, 2, some .boolean, [(0, .iload_n 1, 1), (1, .ifCond .lt 15, 3), (4, .iload_n 1, 1), (5, .aload_n 0, 1), (6, .getfield 15, 3), (9, .if_icmp .ge 7, 3), (12, .iconst 1, 1), (13, .goto 4, 3), (16, .iconst 0, 1), (17, .ireturn, 1)])
set_option maxRecDepth 100000 in
theorem okX0_hasLamp : MOk mX0_hasLamp := mok_of (by decide +kernel)
def mX0_hasPair : MD := (yX0_hasPair, cX0_hasPair, 3, some .boolean, [(0, .aload_n 0, 1), (1, .iload_n 1, 1), (2, .invokevirtual 47, 3), (5, .ifCond .eq 20, 3), (8, .aload_n 0, 1), (9, .iload_n 2, 1), (10, .invokevirtual 47, 3), (13, .ifCond .eq 12, 3), (16, .iload_n 1, 1), (17, .iload_n 2, 1), (18, .if_icmp .eq 7, 3), (21, .iconst 1, 1), (22, .goto 4, 3), (25, .iconst 0, 1), (26, .ireturn, 1)])
set_option maxRecDepth 100000 in
theorem okX0_hasPair : MOk mX0_hasPair := mok_of (by decide +kernel)
def mX0_hasLamps : MD := (yX0_hasLamps, cX0_hasLamps, 3, some .boolean, [(0, .lload_n 1, 1), (1, .aload_n 0, 1), (2, .getfield 15, 3), (5, .lushr, 1), (6, .lconst 0, 1), (7, .lcmp, 1), (8, .ifCond .ne 7, 3), (11, .iconst 1, 1), (12, .goto 4, 3), (15, .iconst 0, 1), (16, .ireturn, 1)])
set_option maxRecDepth 100000 in
theorem okX0_hasLamps : MOk mX0_hasLamps := mok_of (by decide +kernel)
def mX0_hasSetting : MD := (yX0_hasSetting, cX0_hasSetting, 3, some .boolean, [(0, .iload_n 1, 1), (1, .iload_n 2, 1), (2, .iand, 1), (3, .ifCond .ne 18, 3), (6, .iload_n 1, 1), (7, .iload_n 2, 1), (8, .ior, 1), (9, .aload_n 0, 1), (10, .getfield 9, 3), (13, .iushr, 1), (14, .ifCond .ne 7, 3), (17, .iconst 1, 1), (18, .goto 4, 3), (21, .iconst 0, 1), (22, .ireturn, 1)])
set_option maxRecDepth 100000 in
theorem okX0_hasSetting : MOk mX0_hasSetting := mok_of (by decide +kernel)
def mX0_startAnew : MD := (yX0_startAnew, cX0_startAnew, 2, none, [(0, .aload_n 0, 1), (1, .iload_n 1, 1), (2, .putfield 9, 3), (5, .aload_n 0, 1), (6, .iconst 0, 1), (7, .putfield 15, 3), (10, .aload_n 0, 1), (11, .invokevirtual 51, 3), (14, .return_, 1)])
set_option maxRecDepth 100000 in
theorem okX0_startAnew : MOk mX0_startAnew := mok_of (by decide +kernel)
def mX0_add : MD := (yX0_add, cX0_add, 4, none, [(0, .aload_n 0, 1), (1, .getfield 15, 3), (4, .bipush 60, 2), (6, .if_icmp .ge 89, 3), (9, .aload_n 0, 1), (10, .iload_n 1, 1), (11, .invokevirtual 54, 3), (14, .ifCond .eq 81, 3), (17, .aload_n 0, 1), (18, .iload_n 2, 1), (19, .invokevirtual 54, 3), (22, .ifCond .eq 73, 3), (25, .aload_n 0, 1), (26, .getfield 31, 3), (29, .aload_n 0, 1), (30, .getfield 15, 3), (33, .iload_n 1, 1), (34, .iastore, 1), (35, .aload_n 0, 1), (36, .getfield 34, 3), (39, .aload_n 0, 1), (40, .getfield 15, 3), (43, .iload_n 2, 1), (44, .iastore, 1), (45, .aload_n 0, 1), (46, .getfield 37, 3), (49, .aload_n 0, 1), (50, .getfield 15, 3), (53, .iload_n 3, 1), (54, .iastore, 1), (55, .aload_n 0, 1), (56, .getfield 40, 3), (59, .iload_n 1, 1), (60, .dup2, 1), (61, .laload, 1), (62, .lconst 1, 1), (63, .aload_n 0, 1), (64, .getfield 15, 3), (67, .lshl, 1), (68, .lor, 1), (69, .lastore, 1), (70, .aload_n 0, 1), (71, .getfield 44, 3), (74, .iload_n 2, 1), (75, .dup2, 1), (76, .laload, 1), (77, .lconst 1, 1), (78, .aload_n 0, 1), (79, .getfield 15, 3), (82, .lshl, 1), (83, .lor, 1), (84, .lastore, 1), (85, .aload_n 0, 1), (86, .dup, 1), (87, .getfield 15, 3), (90, .iconst 1, 1), (91, .iadd, 1), (92, .putfield 15, 3), (95, .return_, 1)])
set_option maxRecDepth 100000 in
theorem okX0_add : MOk mX0_add := mok_of (by decide +kernel)
def mX0_resist : MD := (yX0_resist, cX0_resist, 3, none, [(0, .aload_n 0, 1), (1, .iload_n 1, 1), (2, .invokevirtual 54, 3), (5, .ifCond .eq 10, 3), (8, .aload_n 0, 1), (9, .getfield 27, 3), (12, .iload_n 1, 1), (13, .iload_n 2, 1), (14, .iastore, 1), (15, .return_, 1)])
set_option maxRecDepth 100000 in
theorem okX0_resist : MOk mX0_resist := mok_of (by decide +kernel)
def mX0_trade : MD := (yX0_trade, cX0_trade, 5, none, [(0, .aload_n 0, 1), (1, .getfield 31, 3), (4, .iload_n 1, 1), (5, .iaload, 1), (6, .istore_n 3, 1), (7, .aload_n 0, 1), (8, .getfield 31, 3), (11, .iload_n 1, 1), (12, .aload_n 0, 1), (13, .getfield 31, 3), (16, .iload_n 2, 1), (17, .iaload, 1), (18, .iastore, 1), (19, .aload_n 0, 1), (20, .getfield 31, 3), (23, .iload_n 2, 1), (24, .iload_n 3, 1), (25, .iastore, 1), (26, .aload_n 0, 1), (27, .getfield 34, 3), (30, .iload_n 1, 1), (31, .iaload, 1), (32, .istore 4, 2), (34, .aload_n 0, 1), (35, .getfield 34, 3), (38, .iload_n 1, 1), (39, .aload_n 0, 1), (40, .getfield 34, 3), (43, .iload_n 2, 1), (44, .iaload, 1), (45, .iastore, 1), (46, .aload_n 0, 1), (47, .getfield 34, 3), (50, .iload_n 2, 1), (51, .iload 4, 2), (53, .iastore, 1), (54, .aload_n 0, 1), (55, .invokevirtual 51, 3), (58, .return_, 1)])
set_option maxRecDepth 100000 in
theorem okX0_trade : MOk mX0_trade := mok_of (by decide +kernel)
def mX0_rewire : MD := (yX0_rewire, cX0_rewire, 2, none, [(0, .aload_n 0, 1), (1, .getfield 40, 3), (4, .lconst 0, 1), (5, .invokestatic 57, 3), (8, .aload_n 0, 1), (9, .getfield 44, 3), (12, .lconst 0, 1), (13, .invokestatic 57, 3), (16, .iconst 0, 1), (17, .istore_n 1, 1), (18, .iload_n 1, 1), (19, .aload_n 0, 1), (20, .getfield 15, 3), (23, .if_icmp .ge 43, 3), (26, .aload_n 0, 1), (27, .getfield 40, 3), (30, .aload_n 0, 1), (31, .getfield 31, 3), (34, .iload_n 1, 1), (35, .iaload, 1), (36, .dup2, 1), (37, .laload, 1), (38, .lconst 1, 1), (39, .iload_n 1, 1), (40, .lshl, 1), (41, .lor, 1), (42, .lastore, 1), (43, .aload_n 0, 1), (44, .getfield 44, 3), (47, .aload_n 0, 1), (48, .getfield 34, 3), (51, .iload_n 1, 1), (52, .iaload, 1), (53, .dup2, 1), (54, .laload, 1), (55, .lconst 1, 1), (56, .iload_n 1, 1), (57, .lshl, 1), (58, .lor, 1), (59, .lastore, 1), (60, .iinc 1 1, 3), (63, .goto (-45), 3), (66, .return_, 1)])
set_option maxRecDepth 100000 in
theorem okX0_rewire : MOk mX0_rewire := mok_of (by decide +kernel)
def mX0_asked : MD := (yX0_asked, cX0_asked, 8, some .long, [(0, .lconst 0, 1), (1, .lstore_n 3, 1), (2, .lconst 0, 1), (3, .lstore 5, 2), (5, .iconst 0, 1), (6, .istore 7, 2), (8, .iload 7, 2), (10, .aload_n 0, 1), (11, .getfield 9, 3), (14, .if_icmp .ge 57, 3), (17, .lload_n 3, 1), (18, .iload_n 1, 1), (19, .iload 7, 2), (21, .iushr, 1), (22, .iconst 1, 1), (23, .iand, 1), (24, .ifCond .eq 13, 3), (27, .aload_n 0, 1), (28, .getfield 40, 3), (31, .iload 7, 2), (33, .laload, 1), (34, .goto 4, 3), (37, .lconst 0, 1), (38, .lor, 1), (39, .lstore_n 3, 1), (40, .lload 5, 2), (42, .iload_n 2, 1), (43, .iload 7, 2), (45, .iushr, 1), (46, .iconst 1, 1), (47, .iand, 1), (48, .ifCond .eq 13, 3), (51, .aload_n 0, 1), (52, .getfield 44, 3), (55, .iload 7, 2), (57, .laload, 1), (58, .goto 4, 3), (61, .lconst 0, 1), (62, .lor, 1), (63, .lstore 5, 2), (65, .iinc 7 1, 3), (68, .goto (-60), 3), (71, .lload_n 3, 1), (72, .lload 5, 2), (74, .land, 1), (75, .lreturn, 1)])
set_option maxRecDepth 100000 in
theorem okX0_asked : MOk mX0_asked := mok_of (by decide +kernel)
def mX1_init : MD := (yX1_init, cX1_init, 2, none, [(0, .aload_n 0, 1), (1, .invokespecial 3, 3), (4, .aload_n 0, 1), (5, .bipush 10, 2), (7, .newarray .int, 2), (9, .putfield 9, 3), (12, .aload_n 0, 1), (13, .bipush 10, 2), (15, .newarray .long, 2), (17, .putfield 15, 3), (20, .aload_n 0, 1), (21, .bipush 10, 2), (23, .newarray .long, 2), (25, .putfield 19, 3), (28, .aload_n 0, 1), (29, .bipush 64, 2), (31, .newarray .long, 2), (33, .putfield 22, 3), (36, .aload_n 0, 1), (37, .bipush 10, 2), (39, .newarray .long, 2), (41, .putfield 25, 3), (44, .aload_n 0, 1), (45, .iconst 3, 1), (46, .newarray .int, 2), (48, .putfield 28, 3), (51, .aload_n 0, 1), (52, .iconst 3, 1), (53, .newarray .int, 2), (55, .putfield 31, 3), (58, .aload_n 0, 1), (59, .iconst (-1), 1), (60, .putfield 34, 3), (63, .aload_n 0, 1), (64, .iconst (-1), 1), (65, .putfield 38, 3), (68, .aload_n 0, 1), (69, .iconst (-1), 1), (70, .putfield 41, 3), (73, .aload_n 0, 1), (74, .iconst (-1), 1), (75, .putfield 44, 3), (78, .aload_n 0, 1), (79, .aload_n 1, 1), (80, .putfield 47, 3), (83, .return_, 1)])
set_option maxRecDepth 100000 in
theorem okX1_init : MOk mX1_init := mok_of (by decide +kernel)
def mX1_glowing : MD := (yX1_glowing, cX1_glowing, 3, some .long, [(0, .aload_n 0, 1), (1, .iload_n 1, 1), (2, .iload_n 2, 1), (3, .invokevirtual 51, 3), (6, .aload_n 0, 1), (7, .invokevirtual 55, 3), (10, .lreturn, 1)])
set_option maxRecDepth 100000 in
theorem okX1_glowing : MOk mX1_glowing := mok_of (by decide +kernel)
def mX1_watch : MD := (yX1_watch, cX1_watch, 4, none, [(0, .aload_n 0, 1), (1, .iconst 0, 1), (2, .putfield 59, 3), (5, .aload_n 0, 1), (6, .lconst 0, 1), (7, .putfield 62, 3), (10, .aload_n 0, 1), (11, .iconst 0, 1), (12, .putfield 66, 3), (15, .aload_n 0, 1), (16, .iload_n 1, 1), (17, .putfield 44, 3), (20, .aload_n 0, 1), (21, .iload_n 2, 1), (22, .iload_n 3, 1), (23, .invokevirtual 51, 3), (26, .aload_n 0, 1), (27, .invokevirtual 55, 3), (30, .pop2, 1), (31, .aload_n 0, 1), (32, .iconst (-1), 1), (33, .putfield 44, 3), (36, .return_, 1)])
set_option maxRecDepth 100000 in
theorem okX1_watch : MOk mX1_watch := mok_of (by decide +kernel)
def mX1_lay : MD := (yX1_lay, cX1_lay, 4, none, [(0, .aload_n 0, 1), (1, .iload_n 1, 1), (2, .putfield 69, 3), (5, .aload_n 0, 1), (6, .iload_n 2, 1), (7, .putfield 72, 3), (10, .aload_n 0, 1), (11, .iconst (-1), 1), (12, .putfield 34, 3), (15, .aload_n 0, 1), (16, .iconst (-1), 1), (17, .putfield 38, 3), (20, .iconst 0, 1), (21, .istore_n 3, 1), (22, .iload_n 3, 1), (23, .aload_n 0, 1), (24, .getfield 47, 3), (27, .getfield 75, 3), (30, .if_icmp .ge 54, 3), (33, .aload_n 0, 1), (34, .getfield 9, 3), (37, .iload_n 3, 1), (38, .aload_n 0, 1), (39, .getfield 47, 3), (42, .getfield 80, 3), (45, .iload_n 3, 1), (46, .iaload, 1), (47, .iastore, 1), (48, .aload_n 0, 1), (49, .getfield 15, 3), (52, .iload_n 3, 1), (53, .aload_n 0, 1), (54, .getfield 47, 3), (57, .getfield 81, 3), (60, .iload_n 3, 1), (61, .laload, 1), (62, .lastore, 1), (63, .aload_n 0, 1), (64, .getfield 19, 3), (67, .iload_n 3, 1), (68, .aload_n 0, 1), (69, .getfield 47, 3), (72, .getfield 82, 3), (75, .iload_n 3, 1), (76, .laload, 1), (77, .lastore, 1), (78, .iinc 3 1, 3), (81, .goto (-59), 3), (84, .return_, 1)])
set_option maxRecDepth 100000 in
theorem okX1_lay : MOk mX1_lay := mok_of (by decide +kernel)
def mX1_cut : MD := (yX1_cut, cX1_cut, 2, none, [(0, .aload_n 0, 1), (1, .getfield 15, 3), (4, .iload_n 1, 1), (5, .lconst 0, 1), (6, .lastore, 1), (7, .aload_n 0, 1), (8, .getfield 19, 3), (11, .iload_n 1, 1), (12, .lconst 0, 1), (13, .lastore, 1), (14, .return_, 1)])
set_option maxRecDepth 100000 in
theorem okX1_cut : MOk mX1_cut := mok_of (by decide +kernel)
def mX1_join : MD := (yX1_join, cX1_join, 7, none, [(0, .iconst 1, 1), (1, .iload_n 1, 1), (2, .ishl, 1), (3, .istore_n 3, 1), (4, .iload_n 3, 1), (5, .iconst 1, 1), (6, .iload_n 2, 1), (7, .ishl, 1), (8, .ior, 1), (9, .istore 4, 2), (11, .aload_n 0, 1), (12, .getfield 69, 3), (15, .iload 4, 2), (17, .iand, 1), (18, .ifCond .eq 19, 3), (21, .aload_n 0, 1), (22, .getfield 72, 3), (25, .iload 4, 2), (27, .iand, 1), (28, .ifCond .eq 9, 3), (31, .aload_n 0, 1), (32, .iconst 0, 1), (33, .putfield 69, 3), (36, .return_, 1), (37, .aload_n 0, 1), (38, .getfield 69, 3), (41, .aload_n 0, 1), (42, .getfield 72, 3), (45, .ior, 1), (46, .iload_n 3, 1), (47, .iand, 1), (48, .ifCond .ne 15, 3), (51, .aload_n 0, 1), (52, .getfield 9, 3), (55, .iload_n 1, 1), (56, .aload_n 0, 1), (57, .getfield 9, 3), (60, .iload_n 2, 1), (61, .iaload, 1), (62, .iastore, 1), (63, .aload_n 0, 1), (64, .aload_n 0, 1), (65, .getfield 69, 3), (68, .iload 4, 2), (70, .iand, 1), (71, .ifCond .ne 10, 3), (74, .aload_n 0, 1), (75, .getfield 69, 3), (78, .goto 14, 3), (81, .aload_n 0, 1), (82, .getfield 69, 3), (85, .iload 4, 2), (87, .iconst (-1), 1), (88, .ixor, 1), (89, .iand, 1), (90, .iload_n 3, 1), (91, .ior, 1), (92, .putfield 69, 3), (95, .aload_n 0, 1), (96, .aload_n 0, 1), (97, .getfield 72, 3), (100, .iload 4, 2), (102, .iand, 1), (103, .ifCond .ne 10, 3), (106, .aload_n 0, 1), (107, .getfield 72, 3), (110, .goto 14, 3), (113, .aload_n 0, 1), (114, .getfield 72, 3), (117, .iload 4, 2), (119, .iconst (-1), 1), (120, .ixor, 1), (121, .iand, 1), (122, .iload_n 3, 1), (123, .ior, 1), (124, .putfield 72, 3), (127, .aload_n 0, 1), (128, .getfield 15, 3), (131, .iload_n 1, 1), (132, .laload, 1), (133, .aload_n 0, 1), (134, .getfield 19, 3), (137, .iload_n 2, 1), (138, .laload, 1), (139, .land, 1), (140, .aload_n 0, 1), (141, .getfield 15, 3), (144, .iload_n 2, 1), (145, .laload, 1), (146, .aload_n 0, 1), (147, .getfield 19, 3), (150, .iload_n 1, 1), (151, .laload, 1), (152, .land, 1), (153, .lor, 1), (154, .lstore 5, 2), (156, .aload_n 0, 1), (157, .getfield 15, 3), (160, .iload_n 1, 1), (161, .aload_n 0, 1), (162, .getfield 15, 3), (165, .iload_n 1, 1), (166, .laload, 1), (167, .aload_n 0, 1), (168, .getfield 15, 3), (171, .iload_n 2, 1), (172, .laload, 1), (173, .lor, 1), (174, .lload 5, 2), (176, .ldc2_w 83, 3), (179, .lxor, 1), (180, .land, 1), (181, .lastore, 1), (182, .aload_n 0, 1), (183, .getfield 19, 3), (186, .iload_n 1, 1), (187, .aload_n 0, 1), (188, .getfield 19, 3), (191, .iload_n 1, 1), (192, .laload, 1), (193, .aload_n 0, 1), (194, .getfield 19, 3), (197, .iload_n 2, 1), (198, .laload, 1), (199, .lor, 1), (200, .lload 5, 2), (202, .ldc2_w 83, 3), (205, .lxor, 1), (206, .land, 1), (207, .lastore, 1), (208, .aload_n 0, 1), (209, .getfield 15, 3), (212, .iload_n 2, 1), (213, .lconst 0, 1), (214, .lastore, 1), (215, .aload_n 0, 1), (216, .getfield 19, 3), (219, .iload_n 2, 1), (220, .lconst 0, 1), (221, .lastore, 1), (222, .aload_n 0, 1), (223, .iload_n 2, 1), (224, .putfield 38, 3), (227, .aload_n 0, 1), (228, .iload_n 1, 1), (229, .putfield 41, 3), (232, .return_, 1)])
set_option maxRecDepth 100000 in
theorem okX1_join : MOk mX1_join := mok_of (by decide +kernel)
def mX1_turn : MD := (yX1_turn, cX1_turn, 6, none, [(0, .aload_n 0, 1), (1, .getfield 47, 3), (4, .getfield 85, 3), (7, .iload_n 1, 1), (8, .iaload, 1), (9, .istore_n 2, 1), (10, .aload_n 0, 1), (11, .getfield 47, 3), (14, .getfield 88, 3), (17, .iload_n 1, 1), (18, .iaload, 1), (19, .istore_n 3, 1), (20, .lconst 1, 1), (21, .iload_n 1, 1), (22, .lshl, 1), (23, .lstore 4, 2), (25, .aload_n 0, 1), (26, .getfield 15, 3), (29, .iload_n 2, 1), (30, .dup2, 1), (31, .laload, 1), (32, .lload 4, 2), (34, .ldc2_w 83, 3), (37, .lxor, 1), (38, .land, 1), (39, .lastore, 1), (40, .aload_n 0, 1), (41, .getfield 19, 3), (44, .iload_n 3, 1), (45, .dup2, 1), (46, .laload, 1), (47, .lload 4, 2), (49, .ldc2_w 83, 3), (52, .lxor, 1), (53, .land, 1), (54, .lastore, 1), (55, .aload_n 0, 1), (56, .getfield 15, 3), (59, .iload_n 3, 1), (60, .dup2, 1), (61, .laload, 1), (62, .lload 4, 2), (64, .lor, 1), (65, .lastore, 1), (66, .aload_n 0, 1), (67, .getfield 19, 3), (70, .iload_n 2, 1), (71, .dup2, 1), (72, .laload, 1), (73, .lload 4, 2), (75, .lor, 1), (76, .lastore, 1), (77, .aload_n 0, 1), (78, .iload_n 1, 1), (79, .putfield 34, 3), (82, .return_, 1)])
set_option maxRecDepth 100000 in
theorem okX1_turn : MOk mX1_turn := mok_of (by decide +kernel)
def mX1_run : MD := (yX1_run, cX1_run, 2, some .long, [(0, .aload_n 0, 1), (1, .invokevirtual 91, 3), (4, .aload_n 0, 1), (5, .getfield 69, 3), (8, .ifCond .eq 10, 3), (11, .aload_n 0, 1), (12, .getfield 72, 3), (15, .ifCond .ne 5, 3), (18, .lconst 0, 1), (19, .lreturn, 1), (20, .aload_n 0, 1), (21, .lconst 0, 1), (22, .putfield 94, 3), (25, .aload_n 0, 1), (26, .lconst 0, 1), (27, .putfield 97, 3), (30, .iconst 0, 1), (31, .istore_n 1, 1), (32, .iload_n 1, 1), (33, .aload_n 0, 1), (34, .getfield 47, 3), (37, .getfield 75, 3), (40, .if_icmp .ge 64, 3), (43, .aload_n 0, 1), (44, .getfield 72, 3), (47, .iload_n 1, 1), (48, .iushr, 1), (49, .iconst 1, 1), (50, .iand, 1), (51, .ifCond .eq 21, 3), (54, .aload_n 0, 1), (55, .dup, 1), (56, .getfield 94, 3), (59, .aload_n 0, 1), (60, .getfield 19, 3), (63, .iload_n 1, 1), (64, .laload, 1), (65, .lor, 1), (66, .putfield 94, 3), (69, .goto 29, 3), (72, .aload_n 0, 1), (73, .getfield 69, 3), (76, .iload_n 1, 1), (77, .iushr, 1), (78, .iconst 1, 1), (79, .iand, 1), (80, .ifCond .ne 18, 3), (83, .aload_n 0, 1), (84, .dup, 1), (85, .getfield 97, 3), (88, .aload_n 0, 1), (89, .getfield 19, 3), (92, .iload_n 1, 1), (93, .laload, 1), (94, .lor, 1), (95, .putfield 97, 3), (98, .iinc 1 1, 3), (101, .goto (-69), 3), (104, .iconst 0, 1), (105, .istore_n 1, 1), (106, .iload_n 1, 1), (107, .aload_n 0, 1), (108, .getfield 47, 3), (111, .getfield 75, 3), (114, .if_icmp .ge 28, 3), (117, .aload_n 0, 1), (118, .getfield 69, 3), (121, .iload_n 1, 1), (122, .iushr, 1), (123, .iconst 1, 1), (124, .iand, 1), (125, .ifCond .eq 11, 3), (128, .aload_n 0, 1), (129, .iload_n 1, 1), (130, .iload_n 1, 1), (131, .iconst 0, 1), (132, .iconst 0, 1), (133, .invokevirtual 100, 3), (136, .iinc 1 1, 3), (139, .goto (-33), 3), (142, .aload_n 0, 1), (143, .invokevirtual 104, 3), (146, .lreturn, 1)])
set_option maxRecDepth 100000 in
theorem okX1_run : MOk mX1_run := mok_of (by decide +kernel)
def mX1_putOut : MD := (yX1_putOut, cX1_putOut, 2, none, [(0, .aload_n 0, 1), (1, .getfield 107, 3), (4, .invokestatic 110, 3), (7, .istore_n 1, 1), (8, .iload_n 1, 1), (9, .ifCond .le 37, 3), (12, .aload_n 0, 1), (13, .getfield 22, 3), (16, .aload_n 0, 1), (17, .getfield 107, 3), (20, .invokestatic 116, 3), (23, .lconst 0, 1), (24, .lastore, 1), (25, .aload_n 0, 1), (26, .dup, 1), (27, .getfield 107, 3), (30, .aload_n 0, 1), (31, .getfield 107, 3), (34, .lconst 1, 1), (35, .lsub, 1), (36, .land, 1), (37, .putfield 107, 3), (40, .iinc 1 (-1), 3), (43, .goto (-35), 3), (46, .aload_n 0, 1), (47, .getfield 25, 3), (50, .lconst 0, 1), (51, .invokestatic 119, 3), (54, .return_, 1)])
set_option maxRecDepth 100000 in
theorem okX1_putOut : MOk mX1_putOut := mok_of (by decide +kernel)
def mX1_follow : MD := (yX1_follow, cX1_follow, 11, none, [(0, .iload_n 3, 1), (1, .aload_n 0, 1), (2, .getfield 47, 3), (5, .getfield 125, 3), (8, .if_icmp .ge 12, 3), (11, .iload_n 3, 1), (12, .aload_n 0, 1), (13, .getfield 28, 3), (16, .arraylength, 1), (17, .if_icmp .lt 4, 3), (20, .return_, 1), (21, .iload_n 3, 1), (22, .iconst 1, 1), (23, .iadd, 1), (24, .aload_n 0, 1), (25, .getfield 47, 3), (28, .getfield 125, 3), (31, .if_icmp .lt 7, 3), (34, .iconst 1, 1), (35, .goto 4, 3), (38, .iconst 0, 1), (39, .istore 5, 2), (41, .aload_n 0, 1), (42, .getfield 15, 3), (45, .iload_n 2, 1), (46, .laload, 1), (47, .iload 5, 2), (49, .ifCond .eq 10, 3), (52, .aload_n 0, 1), (53, .getfield 94, 3), (56, .goto 12, 3), (59, .aload_n 0, 1), (60, .getfield 94, 3), (63, .aload_n 0, 1), (64, .getfield 97, 3), (67, .lor, 1), (68, .land, 1), (69, .lstore 6, 2), (71, .lload 6, 2), (73, .invokestatic 110, 3), (76, .istore 8, 2), (78, .iload 8, 2), (80, .ifCond .le 120, 3), (83, .lload 6, 2), (85, .invokestatic 116, 3), (88, .istore 9, 2), (90, .lload 6, 2), (92, .lload 6, 2), (94, .lconst 1, 1), (95, .lsub, 1), (96, .land, 1), (97, .lstore 6, 2), (99, .iload 4, 2), (101, .aload_n 0, 1), (102, .getfield 47, 3), (105, .getfield 128, 3), (108, .iload 9, 2), (110, .iaload, 1), (111, .iadd, 1), (112, .istore 10, 2), (114, .iload 10, 2), (116, .aload_n 0, 1), (117, .getfield 47, 3), (120, .getfield 131, 3), (123, .if_icmp .lt 6, 3), (126, .goto 68, 3), (129, .aload_n 0, 1), (130, .getfield 28, 3), (133, .iload_n 3, 1), (134, .iload 9, 2), (136, .iastore, 1), (137, .aload_n 0, 1), (138, .getfield 94, 3), (141, .iload 9, 2), (143, .lushr, 1), (144, .lconst 1, 1), (145, .land, 1), (146, .lconst 0, 1), (147, .lcmp, 1), (148, .ifCond .eq 30, 3), (151, .aload_n 0, 1), (152, .iload_n 1, 1), (153, .aload_n 0, 1), (154, .iload 9, 2), (156, .invokevirtual 134, 3), (159, .iload_n 3, 1), (160, .iconst 1, 1), (161, .iadd, 1), (162, .aload_n 0, 1), (163, .getfield 47, 3), (166, .getfield 131, 3), (169, .iload 10, 2), (171, .isub, 1), (172, .invokevirtual 138, 3), (175, .goto 19, 3), (178, .aload_n 0, 1), (179, .iload_n 1, 1), (180, .aload_n 0, 1), (181, .iload 9, 2), (183, .invokevirtual 134, 3), (186, .iload_n 3, 1), (187, .iconst 1, 1), (188, .iadd, 1), (189, .iload 10, 2), (191, .invokevirtual 100, 3), (194, .iinc 8 (-1), 3), (197, .goto (-119), 3), (200, .return_, 1)])
set_option maxRecDepth 100000 in
theorem okX1_follow : MOk mX1_follow := mok_of (by decide +kernel)
def mX1_goalOf : MD := (yX1_goalOf, cX1_goalOf, 3, some .int, [(0, .iload_n 1, 1), (1, .aload_n 0, 1), (2, .getfield 34, 3), (5, .if_icmp .ne 15, 3), (8, .aload_n 0, 1), (9, .getfield 47, 3), (12, .getfield 85, 3), (15, .iload_n 1, 1), (16, .iaload, 1), (17, .goto 12, 3), (20, .aload_n 0, 1), (21, .getfield 47, 3), (24, .getfield 88, 3), (27, .iload_n 1, 1), (28, .iaload, 1), (29, .istore_n 2, 1), (30, .iload_n 2, 1), (31, .aload_n 0, 1), (32, .getfield 38, 3), (35, .if_icmp .ne 10, 3), (38, .aload_n 0, 1), (39, .getfield 41, 3), (42, .goto 4, 3), (45, .iload_n 2, 1), (46, .ireturn, 1)])
set_option maxRecDepth 100000 in
theorem okX1_goalOf : MOk mX1_goalOf := mok_of (by decide +kernel)
def mX1_carry : MD := (yX1_carry, cX1_carry, 10, none, [(0, .aload_n 0, 1), (1, .getfield 9, 3), (4, .iload_n 1, 1), (5, .iaload, 1), (6, .aload_n 0, 1), (7, .getfield 9, 3), (10, .iload_n 2, 1), (11, .iaload, 1), (12, .iadd, 1), (13, .iload_n 3, 1), (14, .iadd, 1), (15, .istore 5, 2), (17, .iload 5, 2), (19, .iconst 1, 1), (20, .if_icmp .lt 12, 3), (23, .iload 5, 2), (25, .getstatic 141, 3), (28, .arraylength, 1), (29, .if_icmp .lt 4, 3), (32, .return_, 1), (33, .iload 4, 2), (35, .i2l, 1), (36, .getstatic 141, 3), (39, .iload 5, 2), (41, .iaload, 1), (42, .i2l, 1), (43, .lmul, 1), (44, .lstore 6, 2), (46, .iconst 0, 1), (47, .istore 8, 2), (49, .iconst 0, 1), (50, .istore 9, 2), (52, .iload 9, 2), (54, .iload_n 3, 1), (55, .if_icmp .ge 68, 3), (58, .aload_n 0, 1), (59, .getfield 22, 3), (62, .aload_n 0, 1), (63, .getfield 28, 3), (66, .iload 9, 2), (68, .iaload, 1), (69, .dup2, 1), (70, .laload, 1), (71, .lload 6, 2), (73, .ladd, 1), (74, .lastore, 1), (75, .aload_n 0, 1), (76, .dup, 1), (77, .getfield 107, 3), (80, .lconst 1, 1), (81, .aload_n 0, 1), (82, .getfield 28, 3), (85, .iload 9, 2), (87, .iaload, 1), (88, .lshl, 1), (89, .lor, 1), (90, .putfield 107, 3), (93, .iload 8, 2), (95, .aload_n 0, 1), (96, .getfield 28, 3), (99, .iload 9, 2), (101, .iaload, 1), (102, .aload_n 0, 1), (103, .getfield 44, 3), (106, .if_icmp .ne 7, 3), (109, .iconst 1, 1), (110, .goto 4, 3), (113, .iconst 0, 1), (114, .ior, 1), (115, .istore 8, 2), (117, .iinc 9 1, 3), (120, .goto (-68), 3), (123, .aload_n 0, 1), (124, .getfield 25, 3), (127, .iload_n 1, 1), (128, .dup2, 1), (129, .laload, 1), (130, .lload 6, 2), (132, .ladd, 1), (133, .lastore, 1), (134, .aload_n 0, 1), (135, .getfield 25, 3), (138, .iload_n 2, 1), (139, .dup2, 1), (140, .laload, 1), (141, .lload 6, 2), (143, .ladd, 1), (144, .lastore, 1), (145, .iload 8, 2), (147, .ifCond .eq 10, 3), (150, .aload_n 0, 1), (151, .iload_n 3, 1), (152, .lload 6, 2), (154, .invokevirtual 144, 3), (157, .return_, 1)])
set_option maxRecDepth 100000 in
theorem okX1_carry : MOk mX1_carry := mok_of (by decide +kernel)
def mX1_noteWay : MD := (yX1_noteWay, cX1_noteWay, 5, none, [(0, .aload_n 0, 1), (1, .dup, 1), (2, .getfield 59, 3), (5, .iconst 1, 1), (6, .iadd, 1), (7, .putfield 59, 3), (10, .lload_n 2, 1), (11, .aload_n 0, 1), (12, .getfield 62, 3), (15, .lcmp, 1), (16, .ifCond .lt 20, 3), (19, .lload_n 2, 1), (20, .aload_n 0, 1), (21, .getfield 62, 3), (24, .lcmp, 1), (25, .ifCond .ne 12, 3), (28, .aload_n 0, 1), (29, .iload_n 1, 1), (30, .invokevirtual 148, 3), (33, .ifCond .ne 4, 3), (36, .return_, 1), (37, .aload_n 0, 1), (38, .lload_n 2, 1), (39, .putfield 62, 3), (42, .aload_n 0, 1), (43, .iload_n 1, 1), (44, .putfield 66, 3), (47, .iconst 0, 1), (48, .istore 4, 2), (50, .iload 4, 2), (52, .iload_n 1, 1), (53, .if_icmp .ge 23, 3), (56, .aload_n 0, 1), (57, .getfield 31, 3), (60, .iload 4, 2), (62, .aload_n 0, 1), (63, .getfield 28, 3), (66, .iload 4, 2), (68, .iaload, 1), (69, .iastore, 1), (70, .iinc 4 1, 3), (73, .goto (-23), 3), (76, .return_, 1)])
set_option maxRecDepth 100000 in
theorem okX1_noteWay : MOk mX1_noteWay := mok_of (by decide +kernel)
def mX1_isLessWay : MD := (yX1_isLessWay, cX1_isLessWay, 3, some .boolean, [(0, .iload_n 1, 1), (1, .aload_n 0, 1), (2, .getfield 66, 3), (5, .if_icmp .eq 17, 3), (8, .iload_n 1, 1), (9, .aload_n 0, 1), (10, .getfield 66, 3), (13, .if_icmp .ge 7, 3), (16, .iconst 1, 1), (17, .goto 4, 3), (20, .iconst 0, 1), (21, .ireturn, 1), (22, .iconst 0, 1), (23, .istore_n 2, 1), (24, .iload_n 2, 1), (25, .iload_n 1, 1), (26, .if_icmp .ge 45, 3), (29, .aload_n 0, 1), (30, .getfield 28, 3), (33, .iload_n 2, 1), (34, .iaload, 1), (35, .aload_n 0, 1), (36, .getfield 31, 3), (39, .iload_n 2, 1), (40, .iaload, 1), (41, .if_icmp .eq 24, 3), (44, .aload_n 0, 1), (45, .getfield 28, 3), (48, .iload_n 2, 1), (49, .iaload, 1), (50, .aload_n 0, 1), (51, .getfield 31, 3), (54, .iload_n 2, 1), (55, .iaload, 1), (56, .if_icmp .ge 7, 3), (59, .iconst 1, 1), (60, .goto 4, 3), (63, .iconst 0, 1), (64, .ireturn, 1), (65, .iinc 2 1, 3), (68, .goto (-44), 3), (71, .iconst 0, 1), (72, .ireturn, 1)])
set_option maxRecDepth 100000 in
theorem okX1_isLessWay : MOk mX1_isLessWay := mok_of (by decide +kernel)
def mX1_bright : MD := (yX1_bright, cX1_bright, 4, some .long, [(0, .aload_n 0, 1), (1, .getfield 47, 3), (4, .getfield 152, 3), (7, .ifCond .ne 8, 3), (10, .aload_n 0, 1), (11, .getfield 107, 3), (14, .lreturn, 1), (15, .lconst 0, 1), (16, .lstore_n 1, 1), (17, .iconst 0, 1), (18, .istore_n 3, 1), (19, .iload_n 3, 1), (20, .aload_n 0, 1), (21, .getfield 47, 3), (24, .getfield 155, 3), (27, .if_icmp .ge 41, 3), (30, .aload_n 0, 1), (31, .getfield 22, 3), (34, .iload_n 3, 1), (35, .laload, 1), (36, .ldc2_w 158, 3), (39, .lmul, 1), (40, .aload_n 0, 1), (41, .getfield 47, 3), (44, .getfield 152, 3), (47, .i2l, 1), (48, .ldc2_w 160, 3), (51, .lmul, 1), (52, .lcmp, 1), (53, .ifCond .lt 9, 3), (56, .lload_n 1, 1), (57, .lconst 1, 1), (58, .iload_n 3, 1), (59, .lshl, 1), (60, .lor, 1), (61, .lstore_n 1, 1), (62, .iinc 3 1, 3), (65, .goto (-46), 3), (68, .lload_n 1, 1), (69, .lreturn, 1)])
set_option maxRecDepth 100000 in
theorem okX1_bright : MOk mX1_bright := mok_of (by decide +kernel)
def mX2_init : MD := (yX2_init, cX2_init, 1, none, [(0, .aload_n 0, 1), (1, .invokespecial 3, 3), (4, .aload_n 0, 1), (5, .iconst 0, 1), (6, .putfield 9, 3), (9, .aload_n 0, 1), (10, .iconst 0, 1), (11, .putfield 15, 3), (14, .aload_n 0, 1), (15, .bipush 64, 2), (17, .newarray .int, 2), (19, .putfield 19, 3), (22, .aload_n 0, 1), (23, .bipush 64, 2), (25, .newarray .int, 2), (27, .putfield 23, 3), (30, .aload_n 0, 1), (31, .bipush 64, 2), (33, .newarray .int, 2), (35, .putfield 26, 3), (38, .aload_n 0, 1), (39, .new 29, 3), (42, .dup, 1), (43, .invokespecial 31, 3), (46, .putfield 32, 3), (49, .return_, 1)])
set_option maxRecDepth 100000 in
theorem okX2_init : MOk mX2_init := mok_of (by decide +kernel)
def mX2_take : MD := (yX2_take, cX2_take, 3, none, [(0, .aload_n 0, 1), (1, .iconst 1, 1), (2, .putfield 9, 3), (5, .aload_n 0, 1), (6, .aload_n 1, 1), (7, .getfield 36, 3), (10, .putfield 15, 3), (13, .aload_n 1, 1), (14, .getfield 39, 3), (17, .iconst 0, 1), (18, .aload_n 0, 1), (19, .getfield 19, 3), (22, .iconst 0, 1), (23, .bipush 64, 2), (25, .invokestatic 40, 3), (28, .aload_n 1, 1), (29, .getfield 46, 3), (32, .iconst 0, 1), (33, .aload_n 0, 1), (34, .getfield 23, 3), (37, .iconst 0, 1), (38, .bipush 64, 2), (40, .invokestatic 40, 3), (43, .aload_n 1, 1), (44, .getfield 47, 3), (47, .iconst 0, 1), (48, .aload_n 0, 1), (49, .getfield 26, 3), (52, .iconst 0, 1), (53, .bipush 64, 2), (55, .invokestatic 40, 3), (58, .aload_n 0, 1), (59, .getfield 32, 3), (62, .aload_n 2, 1), (63, .invokevirtual 48, 3), (66, .return_, 1)])
set_option maxRecDepth 100000 in
theorem okX2_take : MOk mX2_take := mok_of (by decide +kernel)
def mX2_give : MD := (yX2_give, cX2_give, 3, none, [(0, .aload_n 1, 1), (1, .aload_n 0, 1), (2, .getfield 15, 3), (5, .putfield 36, 3), (8, .aload_n 0, 1), (9, .getfield 19, 3), (12, .iconst 0, 1), (13, .aload_n 1, 1), (14, .getfield 39, 3), (17, .iconst 0, 1), (18, .bipush 64, 2), (20, .invokestatic 40, 3), (23, .aload_n 0, 1), (24, .getfield 23, 3), (27, .iconst 0, 1), (28, .aload_n 1, 1), (29, .getfield 46, 3), (32, .iconst 0, 1), (33, .bipush 64, 2), (35, .invokestatic 40, 3), (38, .aload_n 0, 1), (39, .getfield 26, 3), (42, .iconst 0, 1), (43, .aload_n 1, 1), (44, .getfield 47, 3), (47, .iconst 0, 1), (48, .bipush 64, 2), (50, .invokestatic 40, 3), (53, .aload_n 1, 1), (54, .invokevirtual 52, 3), (57, .aload_n 2, 1), (58, .aload_n 0, 1), (59, .getfield 32, 3), (62, .invokevirtual 48, 3), (65, .return_, 1)])
set_option maxRecDepth 100000 in
theorem okX2_give : MOk mX2_give := mok_of (by decide +kernel)
def mX3_init : MD := (yX3_init, cX3_init, 1, none, [(0, .aload_n 0, 1), (1, .invokespecial 3, 3), (4, .aload_n 0, 1), (5, .iconst 0, 1), (6, .putfield 9, 3), (9, .aload_n 0, 1), (10, .iconst 0, 1), (11, .putfield 15, 3), (14, .aload_n 0, 1), (15, .iconst 4, 1), (16, .newarray .long, 2), (18, .putfield 18, 3), (21, .aload_n 0, 1), (22, .iconst 0, 1), (23, .putfield 22, 3), (26, .aload_n 0, 1), (27, .bipush 12, 2), (29, .newarray .int, 2), (31, .putfield 25, 3), (34, .aload_n 0, 1), (35, .bipush 12, 2), (37, .newarray .int, 2), (39, .putfield 29, 3), (42, .aload_n 0, 1), (43, .bipush 12, 2), (45, .newarray .long, 2), (47, .putfield 32, 3), (50, .return_, 1)])
set_option maxRecDepth 100000 in
theorem okX3_init : MOk mX3_init := mok_of (by decide +kernel)
def mX3_clear : MD := (yX3_clear, cX3_clear, 1, none, [(0, .aload_n 0, 1), (1, .iconst 0, 1), (2, .putfield 9, 3), (5, .aload_n 0, 1), (6, .iconst 0, 1), (7, .putfield 15, 3), (10, .aload_n 0, 1), (11, .iconst 0, 1), (12, .putfield 22, 3), (15, .aload_n 0, 1), (16, .getfield 18, 3), (19, .lconst 0, 1), (20, .invokestatic 35, 3), (23, .return_, 1)])
set_option maxRecDepth 100000 in
theorem okX3_clear : MOk mX3_clear := mok_of (by decide +kernel)
def mX3_addSeen : MD := (yX3_addSeen, cX3_addSeen, 5, some .boolean, [(0, .aload_n 0, 1), (1, .getfield 22, 3), (4, .bipush 12, 2), (6, .if_icmp .lt 5, 3), (9, .iconst 0, 1), (10, .ireturn, 1), (11, .aload_n 0, 1), (12, .getfield 25, 3), (15, .aload_n 0, 1), (16, .getfield 22, 3), (19, .iload_n 1, 1), (20, .iastore, 1), (21, .aload_n 0, 1), (22, .getfield 29, 3), (25, .aload_n 0, 1), (26, .getfield 22, 3), (29, .iload_n 2, 1), (30, .iastore, 1), (31, .aload_n 0, 1), (32, .getfield 32, 3), (35, .aload_n 0, 1), (36, .getfield 22, 3), (39, .lload_n 3, 1), (40, .lastore, 1), (41, .aload_n 0, 1), (42, .dup, 1), (43, .getfield 22, 3), (46, .iconst 1, 1), (47, .iadd, 1), (48, .putfield 22, 3), (51, .iconst 1, 1), (52, .ireturn, 1)])
set_option maxRecDepth 100000 in
theorem okX3_addSeen : MOk mX3_addSeen := mok_of (by decide +kernel)
def mX3_copyFrom : MD := (yX3_copyFrom, cX3_copyFrom, 2, none, [(0, .aload_n 0, 1), (1, .aload_n 1, 1), (2, .getfield 9, 3), (5, .putfield 9, 3), (8, .aload_n 0, 1), (9, .aload_n 1, 1), (10, .getfield 15, 3), (13, .putfield 15, 3), (16, .aload_n 0, 1), (17, .aload_n 1, 1), (18, .getfield 22, 3), (21, .putfield 22, 3), (24, .aload_n 1, 1), (25, .getfield 18, 3), (28, .iconst 0, 1), (29, .aload_n 0, 1), (30, .getfield 18, 3), (33, .iconst 0, 1), (34, .iconst 4, 1), (35, .invokestatic 41, 3), (38, .aload_n 1, 1), (39, .getfield 25, 3), (42, .iconst 0, 1), (43, .aload_n 0, 1), (44, .getfield 25, 3), (47, .iconst 0, 1), (48, .bipush 12, 2), (50, .invokestatic 41, 3), (53, .aload_n 1, 1), (54, .getfield 29, 3), (57, .iconst 0, 1), (58, .aload_n 0, 1), (59, .getfield 29, 3), (62, .iconst 0, 1), (63, .bipush 12, 2), (65, .invokestatic 41, 3), (68, .aload_n 1, 1), (69, .getfield 32, 3), (72, .iconst 0, 1), (73, .aload_n 0, 1), (74, .getfield 32, 3), (77, .iconst 0, 1), (78, .bipush 12, 2), (80, .invokestatic 41, 3), (83, .return_, 1)])
set_option maxRecDepth 100000 in
theorem okX3_copyFrom : MOk mX3_copyFrom := mok_of (by decide +kernel)
def mX4_init : MD := (yX4_init, cX4_init, 3, none, [(0, .aload_n 0, 1), (1, .invokespecial 3, 3), (4, .aload_n 0, 1), (5, .bipush 12, 2), (7, .newarray .int, 2), (9, .putfield 9, 3), (12, .aload_n 0, 1), (13, .sipush 2187, 3), (16, .newarray .int, 2), (18, .putfield 15, 3), (21, .aload_n 0, 1), (22, .sipush 924, 3), (25, .newarray .int, 2), (27, .putfield 18, 3), (30, .aload_n 0, 1), (31, .sipush 4096, 3), (34, .newarray .int, 2), (36, .putfield 21, 3), (39, .aload_n 0, 1), (40, .bipush 12, 2), (42, .newarray .int, 2), (44, .putfield 24, 3), (47, .aload_n 0, 1), (48, .bipush 12, 2), (50, .newarray .int, 2), (52, .putfield 27, 3), (55, .aload_n 0, 1), (56, .bipush 12, 2), (58, .newarray .int, 2), (60, .putfield 30, 3), (63, .aload_n 0, 1), (64, .bipush 12, 2), (66, .newarray .int, 2), (68, .putfield 33, 3), (71, .aload_n 0, 1), (72, .bipush 12, 2), (74, .newarray .int, 2), (76, .putfield 36, 3), (79, .aload_n 0, 1), (80, .sipush 144, 3), (83, .newarray .long, 2), (85, .putfield 39, 3), (88, .aload_n 0, 1), (89, .bipush 12, 2), (91, .newarray .long, 2), (93, .putfield 43, 3), (96, .aload_n 0, 1), (97, .aload_n 1, 1), (98, .putfield 46, 3), (101, .aload_n 0, 1), (102, .aload_n 2, 1), (103, .putfield 50, 3), (106, .return_, 1)])
set_option maxRecDepth 100000 in
theorem okX4_init : MOk mX4_init := mok_of (by decide +kernel)
def mX4_open : MD := (yX4_open, cX4_open, 4, none, [(0, .aload_n 0, 1), (1, .iconst 0, 1), (2, .putfield 54, 3), (5, .iconst 0, 1), (6, .istore_n 3, 1), (7, .iload_n 3, 1), (8, .bipush 60, 2), (10, .if_icmp .ge 48, 3), (13, .aload_n 0, 1), (14, .getfield 54, 3), (17, .bipush 12, 2), (19, .if_icmp .ge 39, 3), (22, .lload_n 1, 1), (23, .iload_n 3, 1), (24, .lushr, 1), (25, .lconst 1, 1), (26, .land, 1), (27, .lconst 0, 1), (28, .lcmp, 1), (29, .ifCond .eq 23, 3), (32, .aload_n 0, 1), (33, .getfield 9, 3), (36, .aload_n 0, 1), (37, .getfield 54, 3), (40, .iload_n 3, 1), (41, .iastore, 1), (42, .aload_n 0, 1), (43, .dup, 1), (44, .getfield 54, 3), (47, .iconst 1, 1), (48, .iadd, 1), (49, .putfield 54, 3), (52, .iinc 3 1, 3), (55, .goto (-48), 3), (58, .iconst 0, 1), (59, .istore_n 3, 1), (60, .iload_n 3, 1), (61, .aload_n 0, 1), (62, .getfield 46, 3), (65, .getfield 58, 3), (68, .if_icmp .ge 44, 3), (71, .aload_n 0, 1), (72, .getfield 15, 3), (75, .iload_n 3, 1), (76, .aload_n 0, 1), (77, .getfield 46, 3), (80, .iload_n 3, 1), (81, .lload_n 1, 1), (82, .invokevirtual 63, 3), (85, .ifCond .eq 19, 3), (88, .aload_n 0, 1), (89, .aload_n 0, 1), (90, .getfield 46, 3), (93, .getfield 67, 3), (96, .iload_n 3, 1), (97, .laload, 1), (98, .invokevirtual 70, 3), (101, .goto 4, 3), (104, .iconst 0, 1), (105, .iastore, 1), (106, .iinc 3 1, 3), (109, .goto (-49), 3), (112, .return_, 1)])
set_option maxRecDepth 100000 in
theorem okX4_open : MOk mX4_open := mok_of (by decide +kernel)
def mX4_numbered : MD := (yX4_numbered, cX4_numbered, 5, some .int, [(0, .iconst 0, 1), (1, .istore_n 3, 1), (2, .iconst 0, 1), (3, .istore 4, 2), (5, .iload 4, 2), (7, .aload_n 0, 1), (8, .getfield 54, 3), (11, .if_icmp .ge 27, 3), (14, .iload_n 3, 1), (15, .lload_n 1, 1), (16, .aload_n 0, 1), (17, .getfield 9, 3), (20, .iload 4, 2), (22, .iaload, 1), (23, .lushr, 1), (24, .lconst 1, 1), (25, .land, 1), (26, .l2i, 1), (27, .iload 4, 2), (29, .ishl, 1), (30, .ior, 1), (31, .istore_n 3, 1), (32, .iinc 4 1, 3), (35, .goto (-30), 3), (38, .iload_n 3, 1), (39, .ireturn, 1)])
set_option maxRecDepth 100000 in
theorem okX4_numbered : MOk mX4_numbered := mok_of (by decide +kernel)
def mX4_part : MD := (yX4_part, cX4_part, 2, some .int, [(0, .aload_n 0, 1), (1, .invokevirtual 74, 3), (4, .iconst 1, 1), (5, .aload_n 0, 1), (6, .getfield 54, 3), (9, .ishl, 1), (10, .iconst 1, 1), (11, .isub, 1), (12, .istore_n 1, 1), (13, .aload_n 0, 1), (14, .getfield 21, 3), (17, .iconst 0, 1), (18, .iload_n 1, 1), (19, .iconst 1, 1), (20, .iadd, 1), (21, .iconst (-1), 1), (22, .invokestatic 77, 3), (25, .aload_n 0, 1), (26, .aload_n 0, 1), (27, .iload_n 1, 1), (28, .iconst 0, 1), (29, .invokevirtual 83, 3), (32, .putfield 87, 3), (35, .aload_n 0, 1), (36, .getfield 87, 3), (39, .bipush 99, 2), (41, .if_icmp .lt 11, 3), (44, .aload_n 0, 1), (45, .iconst 0, 1), (46, .putfield 87, 3), (49, .bipush (-2), 2), (51, .ireturn, 1), (52, .aload_n 0, 1), (53, .iload_n 1, 1), (54, .invokevirtual 90, 3), (57, .aload_n 0, 1), (58, .getfield 87, 3), (61, .ireturn, 1)])
set_option maxRecDepth 100000 in
theorem okX4_part : MOk mX4_part := mok_of (by decide +kernel)
def mX4_findWidest : MD := (yX4_findWidest, cX4_findWidest, 2, none, [(0, .aload_n 0, 1), (1, .iconst 0, 1), (2, .putfield 94, 3), (5, .iconst 0, 1), (6, .istore_n 1, 1), (7, .iload_n 1, 1), (8, .aload_n 0, 1), (9, .getfield 46, 3), (12, .getfield 58, 3), (15, .if_icmp .ge 28, 3), (18, .aload_n 0, 1), (19, .getfield 15, 3), (22, .iload_n 1, 1), (23, .iaload, 1), (24, .ifCond .eq 13, 3), (27, .aload_n 0, 1), (28, .aload_n 0, 1), (29, .getfield 15, 3), (32, .iload_n 1, 1), (33, .iaload, 1), (34, .invokevirtual 97, 3), (37, .iinc 1 1, 3), (40, .goto (-33), 3), (43, .return_, 1)])
set_option maxRecDepth 100000 in
theorem okX4_findWidest : MOk mX4_findWidest := mok_of (by decide +kernel)
def mX4_addWidest : MD := (yX4_addWidest, cX4_addWidest, 4, none, [(0, .iconst 0, 1), (1, .istore_n 2, 1), (2, .iload_n 2, 1), (3, .aload_n 0, 1), (4, .getfield 94, 3), (7, .if_icmp .ge 23, 3), (10, .iload_n 1, 1), (11, .aload_n 0, 1), (12, .getfield 18, 3), (15, .iload_n 2, 1), (16, .iaload, 1), (17, .iconst (-1), 1), (18, .ixor, 1), (19, .iand, 1), (20, .ifCond .ne 4, 3), (23, .return_, 1), (24, .iinc 2 1, 3), (27, .goto (-25), 3), (30, .iconst 0, 1), (31, .istore_n 2, 1), (32, .iconst 0, 1), (33, .istore_n 3, 1), (34, .iload_n 3, 1), (35, .aload_n 0, 1), (36, .getfield 94, 3), (39, .if_icmp .ge 37, 3), (42, .aload_n 0, 1), (43, .getfield 18, 3), (46, .iload_n 3, 1), (47, .iaload, 1), (48, .iload_n 1, 1), (49, .iconst (-1), 1), (50, .ixor, 1), (51, .iand, 1), (52, .ifCond .eq 18, 3), (55, .aload_n 0, 1), (56, .getfield 18, 3), (59, .iload_n 2, 1), (60, .aload_n 0, 1), (61, .getfield 18, 3), (64, .iload_n 3, 1), (65, .iaload, 1), (66, .iastore, 1), (67, .iinc 2 1, 3), (70, .iinc 3 1, 3), (73, .goto (-39), 3), (76, .iload_n 2, 1), (77, .aload_n 0, 1), (78, .getfield 18, 3), (81, .arraylength, 1), (82, .if_icmp .ge 13, 3), (85, .aload_n 0, 1), (86, .getfield 18, 3), (89, .iload_n 2, 1), (90, .iload_n 1, 1), (91, .iastore, 1), (92, .iinc 2 1, 3), (95, .aload_n 0, 1), (96, .iload_n 2, 1), (97, .putfield 94, 3), (100, .return_, 1)])
set_option maxRecDepth 100000 in
theorem okX4_addWidest : MOk mX4_addWidest := mok_of (by decide +kernel)
def mX4_fewestFor : MD := (yX4_fewestFor, cX4_fewestFor, 6, some .int, [(0, .iload_n 1, 1), (1, .ifCond .ne 5, 3), (4, .iconst 0, 1), (5, .ireturn, 1), (6, .aload_n 0, 1), (7, .getfield 21, 3), (10, .iload_n 1, 1), (11, .iaload, 1), (12, .iconst (-1), 1), (13, .if_icmp .ne 9, 3), (16, .iload_n 2, 1), (17, .bipush 12, 2), (19, .if_icmp .le 10, 3), (22, .aload_n 0, 1), (23, .getfield 21, 3), (26, .iload_n 1, 1), (27, .iaload, 1), (28, .ireturn, 1), (29, .iload_n 1, 1), (30, .iload_n 1, 1), (31, .ineg, 1), (32, .iand, 1), (33, .istore_n 3, 1), (34, .bipush 99, 2), (36, .istore 4, 2), (38, .iconst 0, 1), (39, .istore 5, 2), (41, .iload 5, 2), (43, .aload_n 0, 1), (44, .getfield 94, 3), (47, .if_icmp .ge 48, 3), (50, .aload_n 0, 1), (51, .getfield 18, 3), (54, .iload 5, 2), (56, .iaload, 1), (57, .iload_n 3, 1), (58, .iand, 1), (59, .ifCond .eq 30, 3), (62, .iload 4, 2), (64, .aload_n 0, 1), (65, .iload_n 1, 1), (66, .aload_n 0, 1), (67, .getfield 18, 3), (70, .iload 5, 2), (72, .iaload, 1), (73, .iconst (-1), 1), (74, .ixor, 1), (75, .iand, 1), (76, .iload_n 2, 1), (77, .iconst 1, 1), (78, .iadd, 1), (79, .invokevirtual 83, 3), (82, .iconst 1, 1), (83, .iadd, 1), (84, .invokestatic 100, 3), (87, .istore 4, 2), (89, .iinc 5 1, 3), (92, .goto (-51), 3), (95, .aload_n 0, 1), (96, .getfield 21, 3), (99, .iload_n 1, 1), (100, .iload 4, 2), (102, .iastore, 1), (103, .iload 4, 2), (105, .ireturn, 1)])
set_option maxRecDepth 100000 in
theorem okX4_fewestFor : MOk mX4_fewestFor := mok_of (by decide +kernel)
def mX4_choose : MD := (yX4_choose, cX4_choose, 6, none, [(0, .iload_n 1, 1), (1, .istore_n 2, 1), (2, .iconst 0, 1), (3, .istore_n 3, 1), (4, .iconst 0, 1), (5, .istore 4, 2), (7, .iload 4, 2), (9, .aload_n 0, 1), (10, .getfield 46, 3), (13, .getfield 58, 3), (16, .if_icmp .ge 68, 3), (19, .iload_n 3, 1), (20, .aload_n 0, 1), (21, .getfield 87, 3), (24, .if_icmp .ge 60, 3), (27, .iload_n 2, 1), (28, .aload_n 0, 1), (29, .getfield 15, 3), (32, .iload 4, 2), (34, .iaload, 1), (35, .iconst (-1), 1), (36, .ixor, 1), (37, .iand, 1), (38, .istore 5, 2), (40, .iload 5, 2), (42, .iload_n 2, 1), (43, .if_icmp .eq 35, 3), (46, .aload_n 0, 1), (47, .iload 5, 2), (49, .iconst 0, 1), (50, .invokevirtual 83, 3), (53, .aload_n 0, 1), (54, .getfield 87, 3), (57, .iload_n 3, 1), (58, .isub, 1), (59, .iconst 1, 1), (60, .isub, 1), (61, .if_icmp .ne 17, 3), (64, .aload_n 0, 1), (65, .getfield 27, 3), (68, .iload_n 3, 1), (69, .iload 4, 2), (71, .iastore, 1), (72, .iinc 3 1, 3), (75, .iload 5, 2), (77, .istore_n 2, 1), (78, .iinc 4 1, 3), (81, .goto (-74), 3), (84, .return_, 1)])
set_option maxRecDepth 100000 in
theorem okX4_choose : MOk mX4_choose := mok_of (by decide +kernel)
def mX4_mostApart : MD := (yX4_mostApart, cX4_mostApart, 6, some .long, [(0, .iconst 0, 1), (1, .istore_n 1, 1), (2, .iconst 0, 1), (3, .istore_n 2, 1), (4, .aload_n 0, 1), (5, .invokevirtual 105, 3), (8, .iconst 0, 1), (9, .istore_n 3, 1), (10, .iload_n 3, 1), (11, .iconst 1, 1), (12, .aload_n 0, 1), (13, .getfield 54, 3), (16, .ishl, 1), (17, .if_icmp .ge 32, 3), (20, .iload_n 3, 1), (21, .invokestatic 108, 3), (24, .iload_n 1, 1), (25, .if_icmp .le 18, 3), (28, .aload_n 0, 1), (29, .iload_n 3, 1), (30, .invokevirtual 114, 3), (33, .ifCond .eq 10, 3), (36, .iload_n 3, 1), (37, .invokestatic 108, 3), (40, .istore_n 1, 1), (41, .iload_n 3, 1), (42, .istore_n 2, 1), (43, .iinc 3 1, 3), (46, .goto (-36), 3), (49, .lconst 0, 1), (50, .lstore_n 3, 1), (51, .iconst 0, 1), (52, .istore 5, 2), (54, .iload 5, 2), (56, .aload_n 0, 1), (57, .getfield 54, 3), (60, .if_icmp .ge 27, 3), (63, .lload_n 3, 1), (64, .iload_n 2, 1), (65, .iload 5, 2), (67, .iushr, 1), (68, .iconst 1, 1), (69, .iand, 1), (70, .i2l, 1), (71, .aload_n 0, 1), (72, .getfield 9, 3), (75, .iload 5, 2), (77, .iaload, 1), (78, .lshl, 1), (79, .lor, 1), (80, .lstore_n 3, 1), (81, .iinc 5 1, 3), (84, .goto (-30), 3), (87, .lload_n 3, 1), (88, .lreturn, 1)])
set_option maxRecDepth 100000 in
theorem okX4_mostApart : MOk mX4_mostApart := mok_of (by decide +kernel)
def mX4_findNear : MD := (yX4_findNear, cX4_findNear, 3, none, [(0, .aload_n 0, 1), (1, .getfield 24, 3), (4, .iconst 0, 1), (5, .invokestatic 118, 3), (8, .iconst 0, 1), (9, .istore_n 1, 1), (10, .iload_n 1, 1), (11, .aload_n 0, 1), (12, .getfield 46, 3), (15, .getfield 58, 3), (18, .if_icmp .ge 66, 3), (21, .iconst 0, 1), (22, .istore_n 2, 1), (23, .iload_n 2, 1), (24, .aload_n 0, 1), (25, .getfield 54, 3), (28, .if_icmp .ge 50, 3), (31, .aload_n 0, 1), (32, .getfield 15, 3), (35, .iload_n 1, 1), (36, .iaload, 1), (37, .ifCond .eq 41, 3), (40, .aload_n 0, 1), (41, .getfield 24, 3), (44, .iload_n 2, 1), (45, .dup2, 1), (46, .iaload, 1), (47, .aload_n 0, 1), (48, .getfield 15, 3), (51, .iload_n 1, 1), (52, .iaload, 1), (53, .iload_n 2, 1), (54, .iushr, 1), (55, .iconst 1, 1), (56, .iand, 1), (57, .ifCond .eq 12, 3), (60, .aload_n 0, 1), (61, .getfield 15, 3), (64, .iload_n 1, 1), (65, .iaload, 1), (66, .goto 4, 3), (69, .iconst 0, 1), (70, .ior, 1), (71, .iastore, 1), (72, .iinc 2 1, 3), (75, .goto (-52), 3), (78, .iinc 1 1, 3), (81, .goto (-71), 3), (84, .return_, 1)])
set_option maxRecDepth 100000 in
theorem okX4_findNear : MOk mX4_findNear := mok_of (by decide +kernel)
def mX4_isApart : MD := (yX4_isApart, cX4_isApart, 3, some .boolean, [(0, .iconst 0, 1), (1, .istore_n 2, 1), (2, .iload_n 2, 1), (3, .aload_n 0, 1), (4, .getfield 54, 3), (7, .if_icmp .ge 36, 3), (10, .iload_n 1, 1), (11, .iload_n 2, 1), (12, .iushr, 1), (13, .iconst 1, 1), (14, .iand, 1), (15, .ifCond .eq 22, 3), (18, .aload_n 0, 1), (19, .getfield 24, 3), (22, .iload_n 2, 1), (23, .iaload, 1), (24, .iload_n 1, 1), (25, .iand, 1), (26, .iconst 1, 1), (27, .iload_n 2, 1), (28, .ishl, 1), (29, .iconst (-1), 1), (30, .ixor, 1), (31, .iand, 1), (32, .ifCond .eq 5, 3), (35, .iconst 0, 1), (36, .ireturn, 1), (37, .iinc 2 1, 3), (40, .goto (-38), 3), (43, .iconst 1, 1), (44, .ireturn, 1)])
set_option maxRecDepth 100000 in
theorem okX4_isApart : MOk mX4_isApart := mok_of (by decide +kernel)
def mX4_putInOrder : MD := (yX4_putInOrder, cX4_putInOrder, 1, some .int, [(0, .aload_n 0, 1), (1, .bipush 43, 2), (3, .putfield 121, 3), (6, .aload_n 0, 1), (7, .iconst 0, 1), (8, .iconst 0, 1), (9, .iconst 0, 1), (10, .iconst 0, 1), (11, .invokevirtual 124, 3), (14, .aload_n 0, 1), (15, .getfield 121, 3), (18, .ireturn, 1)])
set_option maxRecDepth 100000 in
theorem okX4_putInOrder : MOk mX4_putInOrder := mok_of (by decide +kernel)
def mX4_tryOrder : MD := (yX4_tryOrder, cX4_tryOrder, 7, none, [(0, .iload 4, 2), (2, .aload_n 0, 1), (3, .getfield 121, 3), (6, .if_icmp .ge 9, 3), (9, .iload_n 1, 1), (10, .bipush 6, 2), (12, .if_icmp .le 4, 3), (15, .return_, 1), (16, .iload_n 1, 1), (17, .aload_n 0, 1), (18, .getfield 87, 3), (21, .if_icmp .ne 27, 3), (24, .aload_n 0, 1), (25, .iload 4, 2), (27, .putfield 121, 3), (30, .aload_n 0, 1), (31, .getfield 33, 3), (34, .iconst 0, 1), (35, .aload_n 0, 1), (36, .getfield 30, 3), (39, .iconst 0, 1), (40, .aload_n 0, 1), (41, .getfield 87, 3), (44, .invokestatic 128, 3), (47, .return_, 1), (48, .iconst 0, 1), (49, .istore 5, 2), (51, .iload 5, 2), (53, .aload_n 0, 1), (54, .getfield 87, 3), (57, .if_icmp .ge 69, 3), (60, .iload_n 2, 1), (61, .iload 5, 2), (63, .iushr, 1), (64, .iconst 1, 1), (65, .iand, 1), (66, .ifCond .ne 54, 3), (69, .aload_n 0, 1), (70, .getfield 33, 3), (73, .iload_n 1, 1), (74, .aload_n 0, 1), (75, .getfield 27, 3), (78, .iload 5, 2), (80, .iaload, 1), (81, .iastore, 1), (82, .iload_n 3, 1), (83, .aload_n 0, 1), (84, .getfield 27, 3), (87, .iload 5, 2), (89, .iaload, 1), (90, .invokestatic 134, 3), (93, .istore 6, 2), (95, .aload_n 0, 1), (96, .iload_n 1, 1), (97, .iconst 1, 1), (98, .iadd, 1), (99, .iload_n 2, 1), (100, .iconst 1, 1), (101, .iload 5, 2), (103, .ishl, 1), (104, .ior, 1), (105, .aload_n 0, 1), (106, .getfield 27, 3), (109, .iload 5, 2), (111, .iaload, 1), (112, .iload 4, 2), (114, .iload 6, 2), (116, .iadd, 1), (117, .invokevirtual 124, 3), (120, .iinc 5 1, 3), (123, .goto (-72), 3), (126, .return_, 1)])
set_option maxRecDepth 100000 in
theorem okX4_tryOrder : MOk mX4_tryOrder := mok_of (by decide +kernel)
def mX4_differing : MD := (yX4_differing, cX4_differing, 6, some .int, [(0, .iload_n 0, 1), (1, .istore_n 2, 1), (2, .iload_n 1, 1), (3, .istore_n 3, 1), (4, .iconst 0, 1), (5, .istore 4, 2), (7, .iconst 0, 1), (8, .istore 5, 2), (10, .iload 5, 2), (12, .bipush 7, 2), (14, .if_icmp .ge 36, 3), (17, .iload 4, 2), (19, .iload_n 2, 1), (20, .iconst 3, 1), (21, .irem, 1), (22, .iload_n 3, 1), (23, .iconst 3, 1), (24, .irem, 1), (25, .if_icmp .eq 7, 3), (28, .iconst 1, 1), (29, .goto 4, 3), (32, .iconst 0, 1), (33, .iadd, 1), (34, .istore 4, 2), (36, .iload_n 2, 1), (37, .iconst 3, 1), (38, .idiv, 1), (39, .istore_n 2, 1), (40, .iload_n 3, 1), (41, .iconst 3, 1), (42, .idiv, 1), (43, .istore_n 3, 1), (44, .iinc 5 1, 3), (47, .goto (-37), 3), (50, .iload 4, 2), (52, .ireturn, 1)])
set_option maxRecDepth 100000 in
theorem okX4_differing : MOk mX4_differing := mok_of (by decide +kernel)
def mX4_giveSlots : MD := (yX4_giveSlots, cX4_giveSlots, 5, some .long, [(0, .iconst 0, 1), (1, .istore_n 2, 1), (2, .iload_n 2, 1), (3, .aload_n 0, 1), (4, .getfield 87, 3), (7, .if_icmp .ge 16, 3), (10, .aload_n 0, 1), (11, .getfield 36, 3), (14, .iload_n 2, 1), (15, .iconst 1, 1), (16, .iastore, 1), (17, .iinc 2 1, 3), (20, .goto (-18), 3), (23, .aload_n 0, 1), (24, .getfield 43, 3), (27, .lconst 0, 1), (28, .invokestatic 137, 3), (31, .aload_n 0, 1), (32, .invokevirtual 140, 3), (35, .aload_n 0, 1), (36, .getfield 54, 3), (39, .ifCond .ne 5, 3), (42, .lconst 0, 1), (43, .lreturn, 1), (44, .aload_n 0, 1), (45, .getfield 87, 3), (48, .istore_n 2, 1), (49, .iload_n 2, 1), (50, .iload_n 1, 1), (51, .if_icmp .ge 68, 3), (54, .aload_n 0, 1), (55, .aload_n 0, 1), (56, .invokevirtual 143, 3), (59, .invokevirtual 147, 3), (62, .istore_n 3, 1), (63, .aload_n 0, 1), (64, .getfield 36, 3), (67, .iload_n 3, 1), (68, .dup2, 1), (69, .iaload, 1), (70, .iconst 1, 1), (71, .iadd, 1), (72, .iastore, 1), (73, .iconst 0, 1), (74, .istore 4, 2), (76, .iload 4, 2), (78, .aload_n 0, 1), (79, .getfield 54, 3), (82, .if_icmp .ge 31, 3), (85, .aload_n 0, 1), (86, .getfield 43, 3), (89, .iload 4, 2), (91, .dup2, 1), (92, .laload, 1), (93, .aload_n 0, 1), (94, .getfield 39, 3), (97, .iload_n 3, 1), (98, .bipush 12, 2), (100, .imul, 1), (101, .iload 4, 2), (103, .iadd, 1), (104, .laload, 1), (105, .ladd, 1), (106, .lastore, 1), (107, .iinc 4 1, 3), (110, .goto (-34), 3), (113, .iinc 2 1, 3), (116, .goto (-67), 3), (119, .aload_n 0, 1), (120, .getfield 43, 3), (123, .aload_n 0, 1), (124, .invokevirtual 143, 3), (127, .laload, 1), (128, .lreturn, 1)])
set_option maxRecDepth 100000 in
theorem okX4_giveSlots : MOk mX4_giveSlots := mok_of (by decide +kernel)
def mX4_takeLights : MD := (yX4_takeLights, cX4_takeLights, 4, none, [(0, .aload_n 0, 1), (1, .getfield 46, 3), (4, .getfield 150, 3), (7, .getfield 154, 3), (10, .istore_n 1, 1), (11, .iconst 0, 1), (12, .istore_n 2, 1), (13, .iload_n 2, 1), (14, .aload_n 0, 1), (15, .getfield 87, 3), (18, .if_icmp .ge 103, 3), (21, .aload_n 0, 1), (22, .getfield 50, 3), (25, .iconst 1, 1), (26, .aload_n 0, 1), (27, .getfield 27, 3), (30, .iload_n 2, 1), (31, .iaload, 1), (32, .iload_n 1, 1), (33, .invokestatic 159, 3), (36, .iconst 2, 1), (37, .aload_n 0, 1), (38, .getfield 27, 3), (41, .iload_n 2, 1), (42, .iaload, 1), (43, .iload_n 1, 1), (44, .invokestatic 159, 3), (47, .invokevirtual 163, 3), (50, .pop2, 1), (51, .iconst 0, 1), (52, .istore_n 3, 1), (53, .iload_n 3, 1), (54, .aload_n 0, 1), (55, .getfield 54, 3), (58, .if_icmp .ge 57, 3), (61, .aload_n 0, 1), (62, .getfield 39, 3), (65, .iload_n 2, 1), (66, .bipush 12, 2), (68, .imul, 1), (69, .iload_n 3, 1), (70, .iadd, 1), (71, .aload_n 0, 1), (72, .getfield 50, 3), (75, .getfield 169, 3), (78, .aload_n 0, 1), (79, .getfield 9, 3), (82, .iload_n 3, 1), (83, .iaload, 1), (84, .laload, 1), (85, .lastore, 1), (86, .aload_n 0, 1), (87, .getfield 43, 3), (90, .iload_n 3, 1), (91, .dup2, 1), (92, .laload, 1), (93, .aload_n 0, 1), (94, .getfield 50, 3), (97, .getfield 169, 3), (100, .aload_n 0, 1), (101, .getfield 9, 3), (104, .iload_n 3, 1), (105, .iaload, 1), (106, .laload, 1), (107, .ladd, 1), (108, .lastore, 1), (109, .iinc 3 1, 3), (112, .goto (-59), 3), (115, .iinc 2 1, 3), (118, .goto (-105), 3), (121, .return_, 1)])
set_option maxRecDepth 100000 in
theorem okX4_takeLights : MOk mX4_takeLights := mok_of (by decide +kernel)
def mX4_dimmest : MD := (yX4_dimmest, cX4_dimmest, 3, some .int, [(0, .iconst 0, 1), (1, .istore_n 1, 1), (2, .iconst 1, 1), (3, .istore_n 2, 1), (4, .iload_n 2, 1), (5, .aload_n 0, 1), (6, .getfield 54, 3), (9, .if_icmp .ge 31, 3), (12, .aload_n 0, 1), (13, .getfield 43, 3), (16, .iload_n 2, 1), (17, .laload, 1), (18, .aload_n 0, 1), (19, .getfield 43, 3), (22, .iload_n 1, 1), (23, .laload, 1), (24, .lcmp, 1), (25, .ifCond .ge 7, 3), (28, .iload_n 2, 1), (29, .goto 4, 3), (32, .iload_n 1, 1), (33, .istore_n 1, 1), (34, .iinc 2 1, 3), (37, .goto (-33), 3), (40, .iload_n 1, 1), (41, .ireturn, 1)])
set_option maxRecDepth 100000 in
theorem okX4_dimmest : MOk mX4_dimmest := mok_of (by decide +kernel)
def mX4_brightestTurn : MD := (yX4_brightestTurn, cX4_brightestTurn, 4, some .int, [(0, .iconst 0, 1), (1, .istore_n 2, 1), (2, .iconst 1, 1), (3, .istore_n 3, 1), (4, .iload_n 3, 1), (5, .aload_n 0, 1), (6, .getfield 87, 3), (9, .if_icmp .ge 37, 3), (12, .aload_n 0, 1), (13, .getfield 39, 3), (16, .iload_n 3, 1), (17, .bipush 12, 2), (19, .imul, 1), (20, .iload_n 1, 1), (21, .iadd, 1), (22, .laload, 1), (23, .aload_n 0, 1), (24, .getfield 39, 3), (27, .iload_n 2, 1), (28, .bipush 12, 2), (30, .imul, 1), (31, .iload_n 1, 1), (32, .iadd, 1), (33, .laload, 1), (34, .lcmp, 1), (35, .ifCond .le 5, 3), (38, .iload_n 3, 1), (39, .istore_n 2, 1), (40, .iinc 3 1, 3), (43, .goto (-39), 3), (46, .iload_n 2, 1), (47, .ireturn, 1)])
set_option maxRecDepth 100000 in
theorem okX4_brightestTurn : MOk mX4_brightestTurn := mok_of (by decide +kernel)
def mX5_init : MD := (yX5_init, cX5_init, 2, none, [(0, .aload_n 0, 1), (1, .invokespecial 3, 3), (4, .aload_n 0, 1), (5, .bipush 8, 2), (7, .newarray .int, 2), (9, .putfield 9, 3), (12, .aload_n 0, 1), (13, .bipush 8, 2), (15, .newarray .int, 2), (17, .putfield 15, 3), (20, .aload_n 0, 1), (21, .iconst 0, 1), (22, .putfield 18, 3), (25, .aload_n 0, 1), (26, .bipush 116, 2), (28, .newarray .int, 2), (30, .putfield 22, 3), (33, .aload_n 0, 1), (34, .iconst 0, 1), (35, .putfield 25, 3), (38, .aload_n 0, 1), (39, .sipush 928, 3), (42, .newarray .long, 2), (44, .putfield 28, 3), (47, .aload_n 0, 1), (48, .bipush 116, 2), (50, .newarray .int, 2), (52, .putfield 32, 3), (55, .aload_n 0, 1), (56, .bipush 116, 2), (58, .newarray .int, 2), (60, .putfield 35, 3), (63, .aload_n 0, 1), (64, .sipush 256, 3), (67, .newarray .int, 2), (69, .putfield 38, 3), (72, .aload_n 0, 1), (73, .iconst 0, 1), (74, .newarray .int, 2), (76, .putfield 41, 3), (79, .aload_n 0, 1), (80, .iconst 0, 1), (81, .newarray .int, 2), (83, .putfield 44, 3), (86, .aload_n 0, 1), (87, .aload_n 1, 1), (88, .putfield 47, 3), (91, .return_, 1)])
set_option maxRecDepth 100000 in
theorem okX5_init : MOk mX5_init := mok_of (by decide +kernel)
def mX5_addTest : MD := (yX5_addTest, cX5_addTest, 3, some .boolean, [(0, .aload_n 0, 1), (1, .getfield 18, 3), (4, .bipush 8, 2), (6, .if_icmp .lt 5, 3), (9, .iconst 0, 1), (10, .ireturn, 1), (11, .aload_n 0, 1), (12, .getfield 9, 3), (15, .aload_n 0, 1), (16, .getfield 18, 3), (19, .iload_n 1, 1), (20, .iastore, 1), (21, .aload_n 0, 1), (22, .getfield 15, 3), (25, .aload_n 0, 1), (26, .getfield 18, 3), (29, .iload_n 2, 1), (30, .iastore, 1), (31, .aload_n 0, 1), (32, .dup, 1), (33, .getfield 18, 3), (36, .iconst 1, 1), (37, .iadd, 1), (38, .putfield 18, 3), (41, .iconst 1, 1), (42, .ireturn, 1)])
set_option maxRecDepth 100000 in
theorem okX5_addTest : MOk mX5_addTest := mok_of (by decide +kernel)
def mX5_grow : MD := (yX5_grow, cX5_grow, 2, none, [(0, .aload_n 0, 1), (1, .getfield 41, 3), (4, .arraylength, 1), (5, .ifCond .ne 21, 3), (8, .aload_n 0, 1), (9, .sipush 29696, 3), (12, .newarray .int, 2), (14, .putfield 41, 3), (17, .aload_n 0, 1), (18, .sipush 29696, 3), (21, .newarray .int, 2), (23, .putfield 44, 3), (26, .aload_n 0, 1), (27, .iconst 0, 1), (28, .putfield 25, 3), (31, .iconst 0, 1), (32, .istore_n 1, 1), (33, .iload_n 1, 1), (34, .aload_n 0, 1), (35, .getfield 47, 3), (38, .getfield 51, 3), (41, .if_icmp .ge 28, 3), (44, .aload_n 0, 1), (45, .getfield 22, 3), (48, .iload_n 1, 1), (49, .aload_n 0, 1), (50, .aload_n 0, 1), (51, .getfield 47, 3), (54, .getfield 56, 3), (57, .iload_n 1, 1), (58, .iaload, 1), (59, .invokevirtual 59, 3), (62, .iastore, 1), (63, .iinc 1 1, 3), (66, .goto (-33), 3), (69, .aload_n 0, 1), (70, .getfield 38, 3), (73, .iconst 0, 1), (74, .iconst 1, 1), (75, .iastore, 1), (76, .iconst 0, 1), (77, .istore_n 1, 1), (78, .iload_n 1, 1), (79, .aload_n 0, 1), (80, .getfield 25, 3), (83, .if_icmp .ge 20, 3), (86, .aload_n 0, 1), (87, .getfield 41, 3), (90, .iconst 0, 1), (91, .iload_n 1, 1), (92, .invokestatic 63, 3), (95, .iconst 0, 1), (96, .iastore, 1), (97, .iinc 1 1, 3), (100, .goto (-22), 3), (103, .iconst 1, 1), (104, .istore_n 1, 1), (105, .iload_n 1, 1), (106, .iconst 1, 1), (107, .aload_n 0, 1), (108, .getfield 18, 3), (111, .ishl, 1), (112, .if_icmp .ge 14, 3), (115, .aload_n 0, 1), (116, .iload_n 1, 1), (117, .invokevirtual 67, 3), (120, .iinc 1 1, 3), (123, .goto (-18), 3), (126, .iconst 1, 1), (127, .aload_n 0, 1), (128, .getfield 18, 3), (131, .ishl, 1), (132, .iconst 1, 1), (133, .isub, 1), (134, .istore_n 1, 1), (135, .iload_n 1, 1), (136, .ifCond .lt 14, 3), (139, .aload_n 0, 1), (140, .iload_n 1, 1), (141, .invokevirtual 71, 3), (144, .iinc 1 (-1), 3), (147, .goto (-12), 3), (150, .return_, 1)])
set_option maxRecDepth 100000 in
theorem okX5_grow : MOk mX5_grow := mok_of (by decide +kernel)
def mX5_findGroup : MD := (yX5_findGroup, cX5_findGroup, 4, some .int, [(0, .aload_n 0, 1), (1, .getfield 25, 3), (4, .bipush 8, 2), (6, .imul, 1), (7, .istore_n 2, 1), (8, .iconst 0, 1), (9, .istore_n 3, 1), (10, .iload_n 3, 1), (11, .aload_n 0, 1), (12, .getfield 18, 3), (15, .if_icmp .ge 37, 3), (18, .aload_n 0, 1), (19, .getfield 28, 3), (22, .iload_n 2, 1), (23, .iload_n 3, 1), (24, .iadd, 1), (25, .aload_n 0, 1), (26, .getfield 47, 3), (29, .iload_n 1, 1), (30, .aload_n 0, 1), (31, .getfield 9, 3), (34, .iload_n 3, 1), (35, .iaload, 1), (36, .aload_n 0, 1), (37, .getfield 15, 3), (40, .iload_n 3, 1), (41, .iaload, 1), (42, .invokevirtual 74, 3), (45, .lastore, 1), (46, .iinc 3 1, 3), (49, .goto (-39), 3), (52, .iconst 0, 1), (53, .istore_n 3, 1), (54, .iload_n 3, 1), (55, .aload_n 0, 1), (56, .getfield 25, 3), (59, .if_icmp .ge 23, 3), (62, .aload_n 0, 1), (63, .iload_n 3, 1), (64, .bipush 8, 2), (66, .imul, 1), (67, .iload_n 2, 1), (68, .invokevirtual 78, 3), (71, .ifCond .eq 5, 3), (74, .iload_n 3, 1), (75, .ireturn, 1), (76, .iinc 3 1, 3), (79, .goto (-25), 3), (82, .aload_n 0, 1), (83, .dup, 1), (84, .getfield 25, 3), (87, .iconst 1, 1), (88, .iadd, 1), (89, .putfield 25, 3), (92, .aload_n 0, 1), (93, .getfield 25, 3), (96, .iconst 1, 1), (97, .isub, 1), (98, .ireturn, 1)])
set_option maxRecDepth 100000 in
theorem okX5_findGroup : MOk mX5_findGroup := mok_of (by decide +kernel)
def mX5_isSameRow : MD := (yX5_isSameRow, cX5_isSameRow, 4, some .boolean, [(0, .iconst 0, 1), (1, .istore_n 3, 1), (2, .iload_n 3, 1), (3, .aload_n 0, 1), (4, .getfield 18, 3), (7, .if_icmp .ge 31, 3), (10, .aload_n 0, 1), (11, .getfield 28, 3), (14, .iload_n 1, 1), (15, .iload_n 3, 1), (16, .iadd, 1), (17, .laload, 1), (18, .aload_n 0, 1), (19, .getfield 28, 3), (22, .iload_n 2, 1), (23, .iload_n 3, 1), (24, .iadd, 1), (25, .laload, 1), (26, .lcmp, 1), (27, .ifCond .eq 5, 3), (30, .iconst 0, 1), (31, .ireturn, 1), (32, .iinc 3 1, 3), (35, .goto (-33), 3), (38, .iconst 1, 1), (39, .ireturn, 1)])
set_option maxRecDepth 100000 in
theorem okX5_isSameRow : MOk mX5_isSameRow := mok_of (by decide +kernel)
def mX5_place : MD := (yX5_place, cX5_place, 2, some .int, [(0, .iload_n 0, 1), (1, .bipush 116, 2), (3, .imul, 1), (4, .iload_n 1, 1), (5, .iadd, 1), (6, .ireturn, 1)])
set_option maxRecDepth 100000 in
theorem okX5_place : MOk mX5_place := mok_of (by decide +kernel)
def mX5_partCells : MD := (yX5_partCells, cX5_partCells, 7, none, [(0, .iload_n 1, 1), (1, .invokestatic 82, 3), (4, .istore_n 2, 1), (5, .iload_n 1, 1), (6, .iconst 1, 1), (7, .iload_n 2, 1), (8, .ishl, 1), (9, .iconst (-1), 1), (10, .ixor, 1), (11, .iand, 1), (12, .iconst 0, 1), (13, .invokestatic 63, 3), (16, .istore_n 3, 1), (17, .aload_n 0, 1), (18, .getfield 38, 3), (21, .iload_n 1, 1), (22, .iconst 1, 1), (23, .iload_n 2, 1), (24, .ishl, 1), (25, .iconst (-1), 1), (26, .ixor, 1), (27, .iand, 1), (28, .iaload, 1), (29, .aload_n 0, 1), (30, .getfield 25, 3), (33, .if_icmp .ne 7, 3), (36, .iconst 1, 1), (37, .goto 4, 3), (40, .iconst 0, 1), (41, .istore 4, 2), (43, .aload_n 0, 1), (44, .getfield 38, 3), (47, .iload_n 1, 1), (48, .iconst 0, 1), (49, .iastore, 1), (50, .iconst 0, 1), (51, .istore 5, 2), (53, .iload 5, 2), (55, .aload_n 0, 1), (56, .getfield 25, 3), (59, .if_icmp .ge 90, 3), (62, .iload 4, 2), (64, .ifCond .eq 8, 3), (67, .iload 5, 2), (69, .goto 12, 3), (72, .aload_n 0, 1), (73, .getfield 41, 3), (76, .iload_n 3, 1), (77, .iload 5, 2), (79, .iadd, 1), (80, .iaload, 1), (81, .istore 6, 2), (83, .iload 6, 2), (85, .iload 5, 2), (87, .if_icmp .ge 22, 3), (90, .aload_n 0, 1), (91, .iload 6, 2), (93, .iload 5, 2), (95, .iload_n 3, 1), (96, .iload_n 2, 1), (97, .invokevirtual 87, 3), (100, .ifCond .ne 9, 3), (103, .iinc 6 1, 3), (106, .goto (-23), 3), (109, .aload_n 0, 1), (110, .getfield 41, 3), (113, .iload_n 1, 1), (114, .iload 5, 2), (116, .invokestatic 63, 3), (119, .iload 6, 2), (121, .iastore, 1), (122, .aload_n 0, 1), (123, .getfield 38, 3), (126, .iload_n 1, 1), (127, .dup2, 1), (128, .iaload, 1), (129, .iload 6, 2), (131, .iload 5, 2), (133, .if_icmp .ne 7, 3), (136, .iconst 1, 1), (137, .goto 4, 3), (140, .iconst 0, 1), (141, .iadd, 1), (142, .iastore, 1), (143, .iinc 5 1, 3), (146, .goto (-93), 3), (149, .return_, 1)])
set_option maxRecDepth 100000 in
theorem okX5_partCells : MOk mX5_partCells := mok_of (by decide +kernel)
def mX5_isOneCell : MD := (yX5_isOneCell, cX5_isOneCell, 5, some .boolean, [(0, .aload_n 0, 1), (1, .getfield 41, 3), (4, .iload_n 3, 1), (5, .iload_n 1, 1), (6, .iadd, 1), (7, .iaload, 1), (8, .aload_n 0, 1), (9, .getfield 41, 3), (12, .iload_n 3, 1), (13, .iload_n 2, 1), (14, .iadd, 1), (15, .iaload, 1), (16, .if_icmp .ne 35, 3), (19, .aload_n 0, 1), (20, .getfield 28, 3), (23, .iload_n 1, 1), (24, .bipush 8, 2), (26, .imul, 1), (27, .iload 4, 2), (29, .iadd, 1), (30, .laload, 1), (31, .aload_n 0, 1), (32, .getfield 28, 3), (35, .iload_n 2, 1), (36, .bipush 8, 2), (38, .imul, 1), (39, .iload 4, 2), (41, .iadd, 1), (42, .laload, 1), (43, .lcmp, 1), (44, .ifCond .ne 7, 3), (47, .iconst 1, 1), (48, .goto 4, 3), (51, .iconst 0, 1), (52, .ireturn, 1)])
set_option maxRecDepth 100000 in
theorem okX5_isOneCell : MOk mX5_isOneCell := mok_of (by decide +kernel)
def mX5_reckonDepths : MD := (yX5_reckonDepths, cX5_reckonDepths, 4, none, [(0, .iload_n 1, 1), (1, .iconst 0, 1), (2, .invokestatic 63, 3), (5, .istore_n 2, 1), (6, .aload_n 0, 1), (7, .getfield 32, 3), (10, .iconst 0, 1), (11, .invokestatic 91, 3), (14, .iconst 0, 1), (15, .istore_n 3, 1), (16, .iload_n 3, 1), (17, .aload_n 0, 1), (18, .getfield 25, 3), (21, .if_icmp .ge 26, 3), (24, .aload_n 0, 1), (25, .getfield 32, 3), (28, .aload_n 0, 1), (29, .getfield 41, 3), (32, .iload_n 2, 1), (33, .iload_n 3, 1), (34, .iadd, 1), (35, .iaload, 1), (36, .dup2, 1), (37, .iaload, 1), (38, .iconst 1, 1), (39, .iadd, 1), (40, .iastore, 1), (41, .iinc 3 1, 3), (44, .goto (-28), 3), (47, .iconst 0, 1), (48, .istore_n 3, 1), (49, .iload_n 3, 1), (50, .aload_n 0, 1), (51, .getfield 25, 3), (54, .if_icmp .ge 33, 3), (57, .aload_n 0, 1), (58, .getfield 44, 3), (61, .iload_n 2, 1), (62, .iload_n 3, 1), (63, .iadd, 1), (64, .aload_n 0, 1), (65, .getfield 32, 3), (68, .iload_n 3, 1), (69, .iaload, 1), (70, .iconst 1, 1), (71, .if_icmp .le 8, 3), (74, .bipush 8, 2), (76, .goto 4, 3), (79, .iconst 0, 1), (80, .iastore, 1), (81, .iinc 3 1, 3), (84, .goto (-35), 3), (87, .iconst 0, 1), (88, .istore_n 3, 1), (89, .iload_n 3, 1), (90, .aload_n 0, 1), (91, .getfield 18, 3), (94, .if_icmp .ge 40, 3), (97, .aload_n 0, 1), (98, .getfield 38, 3), (101, .iload_n 1, 1), (102, .iaload, 1), (103, .aload_n 0, 1), (104, .getfield 25, 3), (107, .if_icmp .ge 27, 3), (110, .iload_n 1, 1), (111, .iload_n 3, 1), (112, .iushr, 1), (113, .iconst 1, 1), (114, .iand, 1), (115, .ifCond .ne 13, 3), (118, .aload_n 0, 1), (119, .iload_n 2, 1), (120, .iload_n 1, 1), (121, .iconst 1, 1), (122, .iload_n 3, 1), (123, .ishl, 1), (124, .ior, 1), (125, .invokevirtual 97, 3), (128, .iinc 3 1, 3), (131, .goto (-42), 3), (134, .return_, 1)])
set_option maxRecDepth 100000 in
theorem okX5_reckonDepths : MOk mX5_reckonDepths := mok_of (by decide +kernel)
def mX5_tryTest : MD := (yX5_tryTest, cX5_tryTest, 5, none, [(0, .aload_n 0, 1), (1, .getfield 35, 3), (4, .iconst 0, 1), (5, .invokestatic 91, 3), (8, .iconst 0, 1), (9, .istore_n 3, 1), (10, .iload_n 3, 1), (11, .aload_n 0, 1), (12, .getfield 25, 3), (15, .if_icmp .ge 42, 3), (18, .aload_n 0, 1), (19, .getfield 41, 3), (22, .iload_n 1, 1), (23, .iload_n 3, 1), (24, .iadd, 1), (25, .iaload, 1), (26, .istore 4, 2), (28, .aload_n 0, 1), (29, .getfield 35, 3), (32, .iload 4, 2), (34, .aload_n 0, 1), (35, .getfield 35, 3), (38, .iload 4, 2), (40, .iaload, 1), (41, .aload_n 0, 1), (42, .iload_n 2, 1), (43, .iload_n 3, 1), (44, .invokevirtual 101, 3), (47, .invokestatic 104, 3), (50, .iastore, 1), (51, .iinc 3 1, 3), (54, .goto (-44), 3), (57, .iconst 0, 1), (58, .istore_n 3, 1), (59, .iload_n 3, 1), (60, .aload_n 0, 1), (61, .getfield 25, 3), (64, .if_icmp .ge 46, 3), (67, .aload_n 0, 1), (68, .getfield 32, 3), (71, .iload_n 3, 1), (72, .iaload, 1), (73, .iconst 1, 1), (74, .if_icmp .le 30, 3), (77, .aload_n 0, 1), (78, .getfield 44, 3), (81, .iload_n 1, 1), (82, .iload_n 3, 1), (83, .iadd, 1), (84, .aload_n 0, 1), (85, .getfield 44, 3), (88, .iload_n 1, 1), (89, .iload_n 3, 1), (90, .iadd, 1), (91, .iaload, 1), (92, .iconst 1, 1), (93, .aload_n 0, 1), (94, .getfield 35, 3), (97, .iload_n 3, 1), (98, .iaload, 1), (99, .iadd, 1), (100, .invokestatic 109, 3), (103, .iastore, 1), (104, .iinc 3 1, 3), (107, .goto (-48), 3), (110, .return_, 1)])
set_option maxRecDepth 100000 in
theorem okX5_tryTest : MOk mX5_tryTest := mok_of (by decide +kernel)
def mX5_depthAt : MD := (yX5_depthAt, cX5_depthAt, 3, some .int, [(0, .aload_n 0, 1), (1, .getfield 44, 3), (4, .iload_n 1, 1), (5, .aload_n 0, 1), (6, .getfield 41, 3), (9, .iload_n 1, 1), (10, .iload_n 2, 1), (11, .invokestatic 63, 3), (14, .iaload, 1), (15, .invokestatic 63, 3), (18, .iaload, 1), (19, .ireturn, 1)])
set_option maxRecDepth 100000 in
theorem okX5_depthAt : MOk mX5_depthAt := mok_of (by decide +kernel)
def mX5_firstTest : MD := (yX5_firstTest, cX5_firstTest, 5, some .int, [(0, .aload_n 0, 1), (1, .iload_n 1, 1), (2, .iload_n 2, 1), (3, .invokevirtual 101, 3), (6, .istore_n 3, 1), (7, .iconst 0, 1), (8, .istore 4, 2), (10, .iload 4, 2), (12, .aload_n 0, 1), (13, .getfield 18, 3), (16, .if_icmp .ge 39, 3), (19, .iload_n 3, 1), (20, .ifCond .le 35, 3), (23, .iload_n 1, 1), (24, .iload 4, 2), (26, .iushr, 1), (27, .iconst 1, 1), (28, .iand, 1), (29, .ifCond .ne 20, 3), (32, .iconst 1, 1), (33, .aload_n 0, 1), (34, .iload_n 1, 1), (35, .iload 4, 2), (37, .iload_n 2, 1), (38, .invokevirtual 112, 3), (41, .iadd, 1), (42, .iload_n 3, 1), (43, .if_icmp .ne 6, 3), (46, .iload 4, 2), (48, .ireturn, 1), (49, .iinc 4 1, 3), (52, .goto (-42), 3), (55, .iconst (-1), 1), (56, .ireturn, 1)])
set_option maxRecDepth 100000 in
theorem okX5_firstTest : MOk mX5_firstTest := mok_of (by decide +kernel)
def mX5_worstBehind : MD := (yX5_worstBehind, cX5_worstBehind, 7, some .int, [(0, .iload_n 1, 1), (1, .iconst 0, 1), (2, .invokestatic 63, 3), (5, .istore 4, 2), (7, .iconst 0, 1), (8, .istore 5, 2), (10, .iconst 0, 1), (11, .istore 6, 2), (13, .iload 6, 2), (15, .aload_n 0, 1), (16, .getfield 25, 3), (19, .if_icmp .ge 49, 3), (22, .aload_n 0, 1), (23, .getfield 41, 3), (26, .iload 4, 2), (28, .iload 6, 2), (30, .iadd, 1), (31, .iaload, 1), (32, .aload_n 0, 1), (33, .getfield 41, 3), (36, .iload 4, 2), (38, .iload_n 3, 1), (39, .iadd, 1), (40, .iaload, 1), (41, .if_icmp .ne 21, 3), (44, .iload 5, 2), (46, .aload_n 0, 1), (47, .iload_n 1, 1), (48, .iconst 1, 1), (49, .iload_n 2, 1), (50, .ishl, 1), (51, .ior, 1), (52, .iload 6, 2), (54, .invokevirtual 101, 3), (57, .invokestatic 104, 3), (60, .istore 5, 2), (62, .iinc 6 1, 3), (65, .goto (-52), 3), (68, .iload 5, 2), (70, .ireturn, 1)])
set_option maxRecDepth 100000 in
theorem okX5_worstBehind : MOk mX5_worstBehind := mok_of (by decide +kernel)
def mX5_groupOfFault : MD := (yX5_groupOfFault, cX5_groupOfFault, 3, some .int, [(0, .iconst 0, 1), (1, .istore_n 2, 1), (2, .iload_n 2, 1), (3, .aload_n 0, 1), (4, .getfield 47, 3), (7, .getfield 51, 3), (10, .if_icmp .ge 29, 3), (13, .aload_n 0, 1), (14, .getfield 47, 3), (17, .getfield 56, 3), (20, .iload_n 2, 1), (21, .iaload, 1), (22, .iload_n 1, 1), (23, .if_icmp .ne 10, 3), (26, .aload_n 0, 1), (27, .getfield 22, 3), (30, .iload_n 2, 1), (31, .iaload, 1), (32, .ireturn, 1), (33, .iinc 2 1, 3), (36, .goto (-34), 3), (39, .iconst 0, 1), (40, .ireturn, 1)])
set_option maxRecDepth 100000 in
theorem okX5_groupOfFault : MOk mX5_groupOfFault := mok_of (by decide +kernel)
def mX5_sizeOfGroup : MD := (yX5_sizeOfGroup, cX5_sizeOfGroup, 4, some .int, [(0, .iconst 0, 1), (1, .istore_n 2, 1), (2, .iconst 0, 1), (3, .istore_n 3, 1), (4, .iload_n 3, 1), (5, .aload_n 0, 1), (6, .getfield 47, 3), (9, .getfield 51, 3), (12, .if_icmp .ge 27, 3), (15, .iload_n 2, 1), (16, .aload_n 0, 1), (17, .getfield 22, 3), (20, .iload_n 3, 1), (21, .iaload, 1), (22, .iload_n 1, 1), (23, .if_icmp .ne 7, 3), (26, .iconst 1, 1), (27, .goto 4, 3), (30, .iconst 0, 1), (31, .iadd, 1), (32, .istore_n 2, 1), (33, .iinc 3 1, 3), (36, .goto (-32), 3), (39, .iload_n 2, 1), (40, .ireturn, 1)])
set_option maxRecDepth 100000 in
theorem okX5_sizeOfGroup : MOk mX5_sizeOfGroup := mok_of (by decide +kernel)
def mX6_init : MD := (yX6_init, cX6_init, 2, none, [(0, .aload_n 0, 1), (1, .invokespecial 3, 3), (4, .aload_n 0, 1), (5, .bipush 76, 2), (7, .newarray .int, 2), (9, .putfield 11, 3), (12, .aload_n 0, 1), (13, .bipush 76, 2), (15, .newarray .int, 2), (17, .putfield 15, 3), (20, .aload_n 0, 1), (21, .bipush 76, 2), (23, .newarray .int, 2), (25, .putfield 18, 3), (28, .aload_n 0, 1), (29, .bipush 76, 2), (31, .newarray .int, 2), (33, .putfield 21, 3), (36, .aload_n 0, 1), (37, .aload_n 1, 1), (38, .putfield 24, 3), (41, .return_, 1)])
set_option maxRecDepth 100000 in
theorem okX6_init : MOk mX6_init := mok_of (by decide +kernel)
def mX6_read : MD := (yX6_read, cX6_read, 5, some .int, [(0, .aload_n 0, 1), (1, .iload_n 1, 1), (2, .putfield 28, 3), (5, .aload_n 0, 1), (6, .iload_n 2, 1), (7, .putfield 32, 3), (10, .aload_n 0, 1), (11, .iconst 0, 1), (12, .putfield 35, 3), (15, .aload_n 0, 1), (16, .iconst 0, 1), (17, .putfield 38, 3), (20, .aload_n 0, 1), (21, .iconst (-1), 1), (22, .putfield 41, 3), (25, .aload_n 0, 1), (26, .aload_n 0, 1), (27, .getfield 24, 3), (30, .getfield 44, 3), (33, .bipush 76, 2), (35, .invokestatic 49, 3), (38, .putfield 55, 3), (41, .aload_n 0, 1), (42, .getfield 24, 3), (45, .getfield 44, 3), (48, .ifCond .le 7, 3), (51, .iconst 1, 1), (52, .goto 4, 3), (55, .iconst 0, 1), (56, .istore_n 3, 1), (57, .iconst 0, 1), (58, .istore 4, 2), (60, .iload 4, 2), (62, .bipush 76, 2), (64, .if_icmp .ge 33, 3), (67, .iload_n 3, 1), (68, .ifCond .eq 29, 3), (71, .aload_n 0, 1), (72, .invokevirtual 58, 3), (75, .ifCond .eq 14, 3), (78, .aload_n 0, 1), (79, .invokevirtual 62, 3), (82, .ifCond .eq 7, 3), (85, .iconst 1, 1), (86, .goto 4, 3), (89, .iconst 0, 1), (90, .istore_n 3, 1), (91, .iinc 4 1, 3), (94, .goto (-34), 3), (97, .aload_n 0, 1), (98, .getfield 41, 3), (101, .iconst (-1), 1), (102, .if_icmp .ne 21, 3), (105, .aload_n 0, 1), (106, .getfield 24, 3), (109, .getfield 44, 3), (112, .bipush 76, 2), (114, .if_icmp .le 9, 3), (117, .aload_n 0, 1), (118, .bipush 76, 2), (120, .putfield 41, 3), (123, .aload_n 0, 1), (124, .getfield 41, 3), (127, .ireturn, 1)])
set_option maxRecDepth 100000 in
theorem okX6_read : MOk mX6_read := mok_of (by decide +kernel)
def mX6_goesOn : MD := (yX6_goesOn, cX6_goesOn, 1, some .boolean, [(0, .aload_n 0, 1), (1, .getfield 38, 3), (4, .aload_n 0, 1), (5, .getfield 55, 3), (8, .if_icmp .ge 16, 3), (11, .aload_n 0, 1), (12, .bipush 59, 2), (14, .invokevirtual 65, 3), (17, .ifCond .eq 7, 3), (20, .iconst 1, 1), (21, .goto 4, 3), (24, .iconst 0, 1), (25, .ireturn, 1)])
set_option maxRecDepth 100000 in
theorem okX6_goesOn : MOk mX6_goesOn := mok_of (by decide +kernel)
def mX6_readLine : MD := (yX6_readLine, cX6_readLine, 1, some .boolean, [(0, .aload_n 0, 1), (1, .bipush 119, 2), (3, .invokevirtual 69, 3), (6, .ifCond .eq 8, 3), (9, .aload_n 0, 1), (10, .invokevirtual 72, 3), (13, .ireturn, 1), (14, .aload_n 0, 1), (15, .bipush 114, 2), (17, .invokevirtual 69, 3), (20, .ifCond .eq 10, 3), (23, .aload_n 0, 1), (24, .invokevirtual 75, 3), (27, .goto 7, 3), (30, .aload_n 0, 1), (31, .invokevirtual 78, 3), (34, .ireturn, 1)])
set_option maxRecDepth 100000 in
theorem okX6_readLine : MOk mX6_readLine := mok_of (by decide +kernel)
def mX6_readWidth : MD := (yX6_readWidth, cX6_readWidth, 2, some .boolean, [(0, .aload_n 0, 1), (1, .dup, 1), (2, .getfield 38, 3), (5, .iconst 1, 1), (6, .iadd, 1), (7, .putfield 38, 3), (10, .aload_n 0, 1), (11, .iconst 2, 1), (12, .bipush 10, 2), (14, .invokevirtual 81, 3), (17, .istore_n 1, 1), (18, .iload_n 1, 1), (19, .iconst (-1), 1), (20, .if_icmp .ne 5, 3), (23, .iconst 0, 1), (24, .ireturn, 1), (25, .aload_n 0, 1), (26, .iload_n 1, 1), (27, .putfield 28, 3), (30, .aload_n 0, 1), (31, .iconst 0, 1), (32, .putfield 32, 3), (35, .aload_n 0, 1), (36, .iconst 0, 1), (37, .iconst (-1), 1), (38, .iconst (-1), 1), (39, .iload_n 1, 1), (40, .invokevirtual 84, 3), (43, .ireturn, 1)])
set_option maxRecDepth 100000 in
theorem okX6_readWidth : MOk mX6_readWidth := mok_of (by decide +kernel)
def mX6_readOhms : MD := (yX6_readOhms, cX6_readOhms, 3, some .boolean, [(0, .aload_n 0, 1), (1, .dup, 1), (2, .getfield 38, 3), (5, .iconst 1, 1), (6, .iadd, 1), (7, .putfield 38, 3), (10, .aload_n 0, 1), (11, .iconst (-1), 1), (12, .invokevirtual 88, 3), (15, .istore_n 1, 1), (16, .iload_n 1, 1), (17, .iconst (-1), 1), (18, .if_icmp .eq 12, 3), (21, .aload_n 0, 1), (22, .bipush 44, 2), (24, .invokevirtual 65, 3), (27, .ifCond .ne 5, 3), (30, .iconst 0, 1), (31, .ireturn, 1), (32, .aload_n 0, 1), (33, .iconst 0, 1), (34, .iconst 4, 1), (35, .invokevirtual 81, 3), (38, .istore_n 2, 1), (39, .iload_n 2, 1), (40, .iconst (-1), 1), (41, .if_icmp .eq 18, 3), (44, .aload_n 0, 1), (45, .iconst 1, 1), (46, .iload_n 1, 1), (47, .iconst (-1), 1), (48, .iload_n 2, 1), (49, .invokevirtual 84, 3), (52, .ifCond .eq 7, 3), (55, .iconst 1, 1), (56, .goto 4, 3), (59, .iconst 0, 1), (60, .ireturn, 1)])
set_option maxRecDepth 100000 in
theorem okX6_readOhms : MOk mX6_readOhms := mok_of (by decide +kernel)
def mX6_readLamp : MD := (yX6_readLamp, cX6_readLamp, 4, some .boolean, [(0, .aload_n 0, 1), (1, .getfield 32, 3), (4, .bipush 60, 2), (6, .if_icmp .lt 12, 3), (9, .aload_n 0, 1), (10, .aload_n 0, 1), (11, .getfield 38, 3), (14, .invokevirtual 92, 3), (17, .ireturn, 1), (18, .aload_n 0, 1), (19, .iconst (-1), 1), (20, .invokevirtual 88, 3), (23, .istore_n 1, 1), (24, .iload_n 1, 1), (25, .iconst (-1), 1), (26, .if_icmp .eq 12, 3), (29, .aload_n 0, 1), (30, .bipush 62, 2), (32, .invokevirtual 65, 3), (35, .ifCond .ne 5, 3), (38, .iconst 0, 1), (39, .ireturn, 1), (40, .aload_n 0, 1), (41, .iload_n 1, 1), (42, .invokevirtual 88, 3), (45, .istore_n 2, 1), (46, .iload_n 2, 1), (47, .iconst (-1), 1), (48, .if_icmp .eq 12, 3), (51, .aload_n 0, 1), (52, .bipush 42, 2), (54, .invokevirtual 65, 3), (57, .ifCond .ne 5, 3), (60, .iconst 0, 1), (61, .ireturn, 1), (62, .aload_n 0, 1), (63, .iconst 1, 1), (64, .bipush 9, 2), (66, .invokevirtual 81, 3), (69, .istore_n 3, 1), (70, .iload_n 3, 1), (71, .iconst (-1), 1), (72, .if_icmp .ne 5, 3), (75, .iconst 0, 1), (76, .ireturn, 1), (77, .aload_n 0, 1), (78, .dup, 1), (79, .getfield 32, 3), (82, .iconst 1, 1), (83, .iadd, 1), (84, .putfield 32, 3), (87, .aload_n 0, 1), (88, .iconst 2, 1), (89, .iload_n 1, 1), (90, .iload_n 2, 1), (91, .iload_n 3, 1), (92, .invokevirtual 84, 3), (95, .ireturn, 1)])
set_option maxRecDepth 100000 in
theorem okX6_readLamp : MOk mX6_readLamp := mok_of (by decide +kernel)
def mX6_note : MD := (yX6_note, cX6_note, 5, some .boolean, [(0, .aload_n 0, 1), (1, .getfield 35, 3), (4, .aload_n 0, 1), (5, .getfield 11, 3), (8, .arraylength, 1), (9, .if_icmp .lt 12, 3), (12, .aload_n 0, 1), (13, .aload_n 0, 1), (14, .getfield 38, 3), (17, .invokevirtual 92, 3), (20, .ireturn, 1), (21, .aload_n 0, 1), (22, .getfield 11, 3), (25, .aload_n 0, 1), (26, .getfield 35, 3), (29, .iload_n 1, 1), (30, .iastore, 1), (31, .aload_n 0, 1), (32, .getfield 15, 3), (35, .aload_n 0, 1), (36, .getfield 35, 3), (39, .iload_n 2, 1), (40, .iastore, 1), (41, .aload_n 0, 1), (42, .getfield 18, 3), (45, .aload_n 0, 1), (46, .getfield 35, 3), (49, .iload_n 3, 1), (50, .iastore, 1), (51, .aload_n 0, 1), (52, .getfield 21, 3), (55, .aload_n 0, 1), (56, .getfield 35, 3), (59, .iload 4, 2), (61, .iastore, 1), (62, .aload_n 0, 1), (63, .dup, 1), (64, .getfield 35, 3), (67, .iconst 1, 1), (68, .iadd, 1), (69, .putfield 35, 3), (72, .iconst 1, 1), (73, .ireturn, 1)])
set_option maxRecDepth 100000 in
theorem okX6_note : MOk mX6_note := mok_of (by decide +kernel)
def mX6_fail : MD := (yX6_fail, cX6_fail, 2, some .boolean, [(0, .aload_n 0, 1), (1, .iload_n 1, 1), (2, .putfield 41, 3), (5, .iconst 0, 1), (6, .ireturn, 1)])
set_option maxRecDepth 100000 in
theorem okX6_fail : MOk mX6_fail := mok_of (by decide +kernel)
def mX6_isAt : MD := (yX6_isAt, cX6_isAt, 2, some .boolean, [(0, .aload_n 0, 1), (1, .getfield 38, 3), (4, .aload_n 0, 1), (5, .getfield 55, 3), (8, .if_icmp .ge 23, 3), (11, .aload_n 0, 1), (12, .getfield 24, 3), (15, .getfield 96, 3), (18, .aload_n 0, 1), (19, .getfield 38, 3), (22, .caload, 1), (23, .iload_n 1, 1), (24, .if_icmp .ne 7, 3), (27, .iconst 1, 1), (28, .goto 4, 3), (31, .iconst 0, 1), (32, .ireturn, 1)])
set_option maxRecDepth 100000 in
theorem okX6_isAt : MOk mX6_isAt := mok_of (by decide +kernel)
def mX6_isDigit : MD := (yX6_isDigit, cX6_isDigit, 1, some .boolean, [(0, .aload_n 0, 1), (1, .getfield 38, 3), (4, .aload_n 0, 1), (5, .getfield 55, 3), (8, .if_icmp .ge 41, 3), (11, .aload_n 0, 1), (12, .getfield 24, 3), (15, .getfield 96, 3), (18, .aload_n 0, 1), (19, .getfield 38, 3), (22, .caload, 1), (23, .bipush 48, 2), (25, .if_icmp .lt 24, 3), (28, .aload_n 0, 1), (29, .getfield 24, 3), (32, .getfield 96, 3), (35, .aload_n 0, 1), (36, .getfield 38, 3), (39, .caload, 1), (40, .bipush 57, 2), (42, .if_icmp .gt 7, 3), (45, .iconst 1, 1), (46, .goto 4, 3), (49, .iconst 0, 1), (50, .ireturn, 1)])
set_option maxRecDepth 100000 in
theorem okX6_isDigit : MOk mX6_isDigit := mok_of (by decide +kernel)
def mX6_take : MD := (yX6_take, cX6_take, 2, some .boolean, [(0, .aload_n 0, 1), (1, .iload_n 1, 1), (2, .invokevirtual 69, 3), (5, .ifCond .ne 12, 3), (8, .aload_n 0, 1), (9, .aload_n 0, 1), (10, .getfield 38, 3), (13, .invokevirtual 92, 3), (16, .ireturn, 1), (17, .aload_n 0, 1), (18, .dup, 1), (19, .getfield 38, 3), (22, .iconst 1, 1), (23, .iadd, 1), (24, .putfield 38, 3), (27, .iconst 1, 1), (28, .ireturn, 1)])
set_option maxRecDepth 100000 in
theorem okX6_take : MOk mX6_take := mok_of (by decide +kernel)
def mX6_takeWire : MD := (yX6_takeWire, cX6_takeWire, 3, some .int, [(0, .aload_n 0, 1), (1, .invokevirtual 100, 3), (4, .ifCond .eq 21, 3), (7, .aload_n 0, 1), (8, .getfield 24, 3), (11, .getfield 96, 3), (14, .aload_n 0, 1), (15, .getfield 38, 3), (18, .caload, 1), (19, .bipush 48, 2), (21, .isub, 1), (22, .goto 4, 3), (25, .iconst (-1), 1), (26, .istore_n 2, 1), (27, .iload_n 2, 1), (28, .iconst (-1), 1), (29, .if_icmp .eq 16, 3), (32, .iload_n 2, 1), (33, .aload_n 0, 1), (34, .getfield 28, 3), (37, .if_icmp .ge 8, 3), (40, .iload_n 2, 1), (41, .iload_n 1, 1), (42, .if_icmp .ne 14, 3), (45, .aload_n 0, 1), (46, .aload_n 0, 1), (47, .getfield 38, 3), (50, .invokevirtual 92, 3), (53, .pop, 1), (54, .iconst (-1), 1), (55, .ireturn, 1), (56, .aload_n 0, 1), (57, .dup, 1), (58, .getfield 38, 3), (61, .iconst 1, 1), (62, .iadd, 1), (63, .putfield 38, 3), (66, .iload_n 2, 1), (67, .ireturn, 1)])
set_option maxRecDepth 100000 in
theorem okX6_takeWire : MOk mX6_takeWire := mok_of (by decide +kernel)
def mX6_takeNumber : MD := (yX6_takeNumber, cX6_takeNumber, 4, some .int, [(0, .aload_n 0, 1), (1, .invokevirtual 100, 3), (4, .ifCond .ne 14, 3), (7, .aload_n 0, 1), (8, .aload_n 0, 1), (9, .getfield 38, 3), (12, .invokevirtual 92, 3), (15, .pop, 1), (16, .iconst (-1), 1), (17, .ireturn, 1), (18, .aload_n 0, 1), (19, .getfield 24, 3), (22, .getfield 96, 3), (25, .aload_n 0, 1), (26, .getfield 38, 3), (29, .caload, 1), (30, .bipush 48, 2), (32, .isub, 1), (33, .istore_n 3, 1), (34, .aload_n 0, 1), (35, .dup, 1), (36, .getfield 38, 3), (39, .iconst 1, 1), (40, .iadd, 1), (41, .putfield 38, 3), (44, .aload_n 0, 1), (45, .invokevirtual 100, 3), (48, .ifCond .eq 34, 3), (51, .iload_n 3, 1), (52, .bipush 10, 2), (54, .imul, 1), (55, .aload_n 0, 1), (56, .getfield 24, 3), (59, .getfield 96, 3), (62, .aload_n 0, 1), (63, .getfield 38, 3), (66, .caload, 1), (67, .iadd, 1), (68, .bipush 48, 2), (70, .isub, 1), (71, .istore_n 3, 1), (72, .aload_n 0, 1), (73, .dup, 1), (74, .getfield 38, 3), (77, .iconst 1, 1), (78, .iadd, 1), (79, .putfield 38, 3), (82, .iload_n 3, 1), (83, .iload_n 1, 1), (84, .if_icmp .lt 8, 3), (87, .iload_n 3, 1), (88, .iload_n 2, 1), (89, .if_icmp .le 16, 3), (92, .aload_n 0, 1), (93, .aload_n 0, 1), (94, .getfield 38, 3), (97, .iconst 1, 1), (98, .isub, 1), (99, .invokevirtual 92, 3), (102, .pop, 1), (103, .iconst (-1), 1), (104, .ireturn, 1), (105, .iload_n 3, 1), (106, .ireturn, 1)])
set_option maxRecDepth 100000 in
theorem okX6_takeNumber : MOk mX6_takeNumber := mok_of (by decide +kernel)
def mX7_init : MD := (yX7_init, cX7_init, 4, none, [(0, .aload_n 0, 1), (1, .invokespecial 3, 3), (4, .aload_n 0, 1), (5, .bipush 116, 2), (7, .newarray .int, 2), (9, .putfield 9, 3), (12, .aload_n 0, 1), (13, .iconst 0, 1), (14, .putfield 15, 3), (17, .aload_n 0, 1), (18, .bipush 116, 2), (20, .newarray .long, 2), (22, .putfield 19, 3), (25, .aload_n 0, 1), (26, .bipush 116, 2), (28, .newarray .int, 2), (30, .putfield 23, 3), (33, .aload_n 0, 1), (34, .iconst 0, 1), (35, .putfield 26, 3), (38, .aload_n 0, 1), (39, .aload_n 1, 1), (40, .putfield 29, 3), (43, .aload_n 0, 1), (44, .aload_n 1, 1), (45, .getfield 33, 3), (48, .putfield 39, 3), (51, .aload_n 0, 1), (52, .aload_n 2, 1), (53, .putfield 40, 3), (56, .aload_n 0, 1), (57, .aload_n 3, 1), (58, .putfield 44, 3), (61, .return_, 1)])
set_option maxRecDepth 100000 in
theorem okX7_init : MOk mX7_init := mok_of (by decide +kernel)
def mX7_firstTouch : MD := (yX7_firstTouch, cX7_firstTouch, 1, some .int, [(0, .iconst 1, 1), (1, .aload_n 0, 1), (2, .getfield 39, 3), (5, .getfield 48, 3), (8, .iadd, 1), (9, .ireturn, 1)])
set_option maxRecDepth 100000 in
theorem okX7_firstTouch : MOk mX7_firstTouch := mok_of (by decide +kernel)
def mX7_firstTurned : MD := (yX7_firstTurned, cX7_firstTurned, 1, some .int, [(0, .aload_n 0, 1), (1, .invokevirtual 53, 3), (4, .aload_n 0, 1), (5, .getfield 39, 3), (8, .getfield 48, 3), (11, .aload_n 0, 1), (12, .getfield 39, 3), (15, .getfield 48, 3), (18, .iconst 1, 1), (19, .isub, 1), (20, .imul, 1), (21, .iconst 2, 1), (22, .idiv, 1), (23, .iadd, 1), (24, .ireturn, 1)])
set_option maxRecDepth 100000 in
theorem okX7_firstTurned : MOk mX7_firstTurned := mok_of (by decide +kernel)
def mX7_size : MD := (yX7_size, cX7_size, 1, some .int, [(0, .aload_n 0, 1), (1, .invokevirtual 57, 3), (4, .aload_n 0, 1), (5, .getfield 39, 3), (8, .getfield 60, 3), (11, .iadd, 1), (12, .ireturn, 1)])
set_option maxRecDepth 100000 in
theorem okX7_size : MOk mX7_size := mok_of (by decide +kernel)
def mX7_has : MD := (yX7_has, cX7_has, 2, some .boolean, [(0, .iload_n 1, 1), (1, .ifCond .lt 15, 3), (4, .iload_n 1, 1), (5, .aload_n 0, 1), (6, .invokevirtual 63, 3), (9, .if_icmp .ge 7, 3), (12, .iconst 1, 1), (13, .goto 4, 3), (16, .iconst 0, 1), (17, .ireturn, 1)])
set_option maxRecDepth 100000 in
theorem okX7_has : MOk mX7_has := mok_of (by decide +kernel)
def mX7_kindOf : MD := (yX7_kindOf, cX7_kindOf, 2, some .int, [(0, .iload_n 1, 1), (1, .ifCond .ne 5, 3), (4, .iconst 0, 1), (5, .ireturn, 1), (6, .iload_n 1, 1), (7, .aload_n 0, 1), (8, .invokevirtual 53, 3), (11, .if_icmp .ge 5, 3), (14, .iconst 1, 1), (15, .ireturn, 1), (16, .iload_n 1, 1), (17, .aload_n 0, 1), (18, .invokevirtual 57, 3), (21, .if_icmp .ge 7, 3), (24, .iconst 2, 1), (25, .goto 4, 3), (28, .iconst 3, 1), (29, .ireturn, 1)])
set_option maxRecDepth 100000 in
theorem okX7_kindOf : MOk mX7_kindOf := mok_of (by decide +kernel)
def mX7_firstOf : MD := (yX7_firstOf, cX7_firstOf, 2, some .int, [(0, .iload_n 1, 1), (1, .ifCond .ne 5, 3), (4, .iconst (-1), 1), (5, .ireturn, 1), (6, .iload_n 1, 1), (7, .aload_n 0, 1), (8, .invokevirtual 53, 3), (11, .if_icmp .ge 7, 3), (14, .iload_n 1, 1), (15, .iconst 1, 1), (16, .isub, 1), (17, .ireturn, 1), (18, .iload_n 1, 1), (19, .aload_n 0, 1), (20, .invokevirtual 57, 3), (23, .if_icmp .ge 11, 3), (26, .aload_n 0, 1), (27, .iload_n 1, 1), (28, .invokevirtual 66, 3), (31, .goto 9, 3), (34, .iload_n 1, 1), (35, .aload_n 0, 1), (36, .invokevirtual 57, 3), (39, .isub, 1), (40, .ireturn, 1)])
set_option maxRecDepth 100000 in
theorem okX7_firstOf : MOk mX7_firstOf := mok_of (by decide +kernel)
def mX7_secondOf : MD := (yX7_secondOf, cX7_secondOf, 2, some .int, [(0, .aload_n 0, 1), (1, .iload_n 1, 1), (2, .invokevirtual 70, 3), (5, .iconst 2, 1), (6, .if_icmp .ne 17, 3), (9, .iload_n 1, 1), (10, .aload_n 0, 1), (11, .aload_n 0, 1), (12, .iload_n 1, 1), (13, .invokevirtual 66, 3), (16, .invokevirtual 73, 3), (19, .isub, 1), (20, .goto 4, 3), (23, .iconst (-1), 1), (24, .ireturn, 1)])
set_option maxRecDepth 100000 in
theorem okX7_secondOf : MOk mX7_secondOf := mok_of (by decide +kernel)
def mX7_pairsFrom : MD := (yX7_pairsFrom, cX7_pairsFrom, 2, some .int, [(0, .aload_n 0, 1), (1, .invokevirtual 53, 3), (4, .iload_n 1, 1), (5, .iconst 2, 1), (6, .aload_n 0, 1), (7, .getfield 39, 3), (10, .getfield 48, 3), (13, .imul, 1), (14, .iload_n 1, 1), (15, .isub, 1), (16, .iconst 1, 1), (17, .isub, 1), (18, .imul, 1), (19, .iconst 2, 1), (20, .idiv, 1), (21, .iadd, 1), (22, .iload_n 1, 1), (23, .isub, 1), (24, .iconst 1, 1), (25, .isub, 1), (26, .ireturn, 1)])
set_option maxRecDepth 100000 in
theorem okX7_pairsFrom : MOk mX7_pairsFrom := mok_of (by decide +kernel)
def mX7_firstOfPair : MD := (yX7_firstOfPair, cX7_firstOfPair, 4, some .int, [(0, .iconst 0, 1), (1, .istore_n 2, 1), (2, .iconst 1, 1), (3, .istore_n 3, 1), (4, .iload_n 3, 1), (5, .aload_n 0, 1), (6, .getfield 39, 3), (9, .getfield 48, 3), (12, .iconst 1, 1), (13, .isub, 1), (14, .if_icmp .ge 22, 3), (17, .iload_n 1, 1), (18, .aload_n 0, 1), (19, .iload_n 3, 1), (20, .invokevirtual 73, 3), (23, .isub, 1), (24, .iload_n 3, 1), (25, .if_icmp .le 5, 3), (28, .iload_n 3, 1), (29, .istore_n 2, 1), (30, .iinc 3 1, 3), (33, .goto (-29), 3), (36, .iload_n 2, 1), (37, .ireturn, 1)])
set_option maxRecDepth 100000 in
theorem okX7_firstOfPair : MOk mX7_firstOfPair := mok_of (by decide +kernel)
def mX7_glowWith : MD := (yX7_glowWith, cX7_glowWith, 4, some .long, [(0, .aload_n 0, 1), (1, .getfield 40, 3), (4, .iload_n 2, 1), (5, .iload_n 3, 1), (6, .invokevirtual 76, 3), (9, .aload_n 0, 1), (10, .iload_n 1, 1), (11, .invokevirtual 70, 3), (14, .tableswitch 76 1 3 #[26, 41, 61], 26), (40, .aload_n 0, 1), (41, .getfield 40, 3), (44, .aload_n 0, 1), (45, .iload_n 1, 1), (46, .invokevirtual 82, 3), (49, .invokevirtual 85, 3), (52, .goto 38, 3), (55, .aload_n 0, 1), (56, .getfield 40, 3), (59, .aload_n 0, 1), (60, .iload_n 1, 1), (61, .invokevirtual 82, 3), (64, .aload_n 0, 1), (65, .iload_n 1, 1), (66, .invokevirtual 89, 3), (69, .invokevirtual 92, 3), (72, .goto 18, 3), (75, .aload_n 0, 1), (76, .getfield 40, 3), (79, .aload_n 0, 1), (80, .iload_n 1, 1), (81, .invokevirtual 82, 3), (84, .invokevirtual 95, 3), (87, .goto 3, 3), (90, .aload_n 0, 1), (91, .getfield 40, 3), (94, .invokevirtual 98, 3), (97, .lreturn, 1)])
set_option maxRecDepth 100000 in
theorem okX7_glowWith : MOk mX7_glowWith := mok_of (by decide +kernel)
def mX7_glowBy : MD := (yX7_glowBy, cX7_glowBy, 5, some .long, [(0, .iload_n 1, 1), (1, .ifCond .ne 13, 3), (4, .aload_n 0, 1), (5, .getfield 29, 3), (8, .getfield 102, 3), (11, .iload_n 2, 1), (12, .laload, 1), (13, .lreturn, 1), (14, .iconst 1, 1), (15, .iload_n 2, 1), (16, .aload_n 0, 1), (17, .getfield 39, 3), (20, .getfield 48, 3), (23, .invokestatic 105, 3), (26, .istore_n 3, 1), (27, .iconst 2, 1), (28, .iload_n 2, 1), (29, .aload_n 0, 1), (30, .getfield 39, 3), (33, .getfield 48, 3), (36, .invokestatic 105, 3), (39, .istore 4, 2), (41, .iload_n 3, 1), (42, .ifCond .eq 8, 3), (45, .iload 4, 2), (47, .ifCond .ne 7, 3), (50, .lconst 0, 1), (51, .goto 11, 3), (54, .aload_n 0, 1), (55, .iload_n 1, 1), (56, .iload_n 3, 1), (57, .iload 4, 2), (59, .invokevirtual 109, 3), (62, .lreturn, 1)])
set_option maxRecDepth 100000 in
theorem okX7_glowBy : MOk mX7_glowBy := mok_of (by decide +kernel)
def mX7_firstParting : MD := (yX7_firstParting, cX7_firstParting, 5, some .int, [(0, .iload_n 3, 1), (1, .istore 4, 2), (3, .iload 4, 2), (5, .aload_n 0, 1), (6, .getfield 29, 3), (9, .getfield 113, 3), (12, .if_icmp .ge 35, 3), (15, .iload_n 1, 1), (16, .iload_n 2, 1), (17, .if_icmp .eq 30, 3), (20, .aload_n 0, 1), (21, .iload_n 1, 1), (22, .iload 4, 2), (24, .invokevirtual 115, 3), (27, .aload_n 0, 1), (28, .iload_n 2, 1), (29, .iload 4, 2), (31, .invokevirtual 115, 3), (34, .lcmp, 1), (35, .ifCond .eq 6, 3), (38, .iload 4, 2), (40, .ireturn, 1), (41, .iinc 4 1, 3), (44, .goto (-41), 3), (47, .iconst (-1), 1), (48, .ireturn, 1)])
set_option maxRecDepth 100000 in
theorem okX7_firstParting : MOk mX7_firstParting := mok_of (by decide +kernel)
def mX7_firstAgainst : MD := (yX7_firstAgainst, cX7_firstAgainst, 3, some .int, [(0, .iconst 0, 1), (1, .istore_n 2, 1), (2, .iload_n 2, 1), (3, .aload_n 0, 1), (4, .getfield 44, 3), (7, .getfield 119, 3), (10, .if_icmp .ge 47, 3), (13, .aload_n 0, 1), (14, .iload_n 1, 1), (15, .aload_n 0, 1), (16, .getfield 44, 3), (19, .getfield 124, 3), (22, .iload_n 2, 1), (23, .iaload, 1), (24, .aload_n 0, 1), (25, .getfield 44, 3), (28, .getfield 127, 3), (31, .iload_n 2, 1), (32, .iaload, 1), (33, .invokevirtual 109, 3), (36, .aload_n 0, 1), (37, .getfield 44, 3), (40, .getfield 130, 3), (43, .iload_n 2, 1), (44, .laload, 1), (45, .lcmp, 1), (46, .ifCond .eq 5, 3), (49, .iload_n 2, 1), (50, .ireturn, 1), (51, .iinc 2 1, 3), (54, .goto (-52), 3), (57, .bipush (-2), 2), (59, .ireturn, 1)])
set_option maxRecDepth 100000 in
theorem okX7_firstAgainst : MOk mX7_firstAgainst := mok_of (by decide +kernel)
def mX7_gather : MD := (yX7_gather, cX7_gather, 3, none, [(0, .aload_n 0, 1), (1, .iconst 0, 1), (2, .putfield 15, 3), (5, .aload_n 0, 1), (6, .invokevirtual 63, 3), (9, .istore_n 1, 1), (10, .iconst 0, 1), (11, .istore_n 2, 1), (12, .iload_n 2, 1), (13, .iload_n 1, 1), (14, .if_icmp .ge 51, 3), (17, .aload_n 0, 1), (18, .getfield 15, 3), (21, .aload_n 0, 1), (22, .getfield 9, 3), (25, .arraylength, 1), (26, .if_icmp .ge 39, 3), (29, .aload_n 0, 1), (30, .iload_n 2, 1), (31, .invokevirtual 133, 3), (34, .bipush (-2), 2), (36, .if_icmp .ne 23, 3), (39, .aload_n 0, 1), (40, .getfield 9, 3), (43, .aload_n 0, 1), (44, .getfield 15, 3), (47, .iload_n 2, 1), (48, .iastore, 1), (49, .aload_n 0, 1), (50, .dup, 1), (51, .getfield 15, 3), (54, .iconst 1, 1), (55, .iadd, 1), (56, .putfield 15, 3), (59, .iinc 2 1, 3), (62, .goto (-50), 3), (65, .return_, 1)])
set_option maxRecDepth 100000 in
theorem okX7_gather : MOk mX7_gather := mok_of (by decide +kernel)
def mX7_leftAtWorst : MD := (yX7_leftAtWorst, cX7_leftAtWorst, 5, some .int, [(0, .aload_n 0, 1), (1, .iconst 0, 1), (2, .putfield 26, 3), (5, .iconst 0, 1), (6, .istore_n 3, 1), (7, .iconst 0, 1), (8, .istore 4, 2), (10, .iload 4, 2), (12, .aload_n 0, 1), (13, .getfield 15, 3), (16, .if_icmp .ge 35, 3), (19, .iload_n 3, 1), (20, .iload_n 2, 1), (21, .if_icmp .ge 30, 3), (24, .iload_n 3, 1), (25, .aload_n 0, 1), (26, .aload_n 0, 1), (27, .aload_n 0, 1), (28, .getfield 9, 3), (31, .iload 4, 2), (33, .iaload, 1), (34, .iload_n 1, 1), (35, .invokevirtual 115, 3), (38, .invokevirtual 136, 3), (41, .invokestatic 140, 3), (44, .istore_n 3, 1), (45, .iinc 4 1, 3), (48, .goto (-38), 3), (51, .iload_n 3, 1), (52, .ireturn, 1)])
set_option maxRecDepth 100000 in
theorem okX7_leftAtWorst : MOk mX7_leftAtWorst := mok_of (by decide +kernel)
def mX7_joinGroup : MD := (yX7_joinGroup, cX7_joinGroup, 4, some .int, [(0, .iconst 0, 1), (1, .istore_n 3, 1), (2, .iload_n 3, 1), (3, .aload_n 0, 1), (4, .getfield 26, 3), (7, .if_icmp .ge 37, 3), (10, .aload_n 0, 1), (11, .getfield 19, 3), (14, .iload_n 3, 1), (15, .laload, 1), (16, .lload_n 1, 1), (17, .lcmp, 1), (18, .ifCond .ne 20, 3), (21, .aload_n 0, 1), (22, .getfield 23, 3), (25, .iload_n 3, 1), (26, .dup2, 1), (27, .iaload, 1), (28, .iconst 1, 1), (29, .iadd, 1), (30, .iastore, 1), (31, .aload_n 0, 1), (32, .getfield 23, 3), (35, .iload_n 3, 1), (36, .iaload, 1), (37, .ireturn, 1), (38, .iinc 3 1, 3), (41, .goto (-39), 3), (44, .aload_n 0, 1), (45, .getfield 26, 3), (48, .aload_n 0, 1), (49, .getfield 19, 3), (52, .arraylength, 1), (53, .if_icmp .ge 33, 3), (56, .aload_n 0, 1), (57, .getfield 19, 3), (60, .aload_n 0, 1), (61, .getfield 26, 3), (64, .lload_n 1, 1), (65, .lastore, 1), (66, .aload_n 0, 1), (67, .getfield 23, 3), (70, .aload_n 0, 1), (71, .getfield 26, 3), (74, .iconst 1, 1), (75, .iastore, 1), (76, .aload_n 0, 1), (77, .dup, 1), (78, .getfield 26, 3), (81, .iconst 1, 1), (82, .iadd, 1), (83, .putfield 26, 3), (86, .iconst 1, 1), (87, .ireturn, 1)])
set_option maxRecDepth 100000 in
theorem okX7_joinGroup : MOk mX7_joinGroup := mok_of (by decide +kernel)
def mX8_init : MD := (yX8_init, cX8_init, 3, none, [(0, .aload_n 0, 1), (1, .invokespecial 3, 3), (4, .aload_n 0, 1), (5, .sipush 2187, 3), (8, .newarray .long, 2), (10, .putfield 9, 3), (13, .aload_n 0, 1), (14, .sipush 2187, 3), (17, .newarray .boolean, 2), (19, .putfield 15, 3), (22, .aload_n 0, 1), (23, .sipush 4096, 3), (26, .newarray .int, 2), (28, .putfield 19, 3), (31, .aload_n 0, 1), (32, .iconst 0, 1), (33, .putfield 23, 3), (36, .aload_n 0, 1), (37, .iconst 0, 1), (38, .putfield 27, 3), (41, .aload_n 0, 1), (42, .aload_n 1, 1), (43, .putfield 31, 3), (46, .aload_n 0, 1), (47, .aload_n 2, 1), (48, .putfield 35, 3), (51, .return_, 1)])
set_option maxRecDepth 100000 in
theorem okX8_init : MOk mX8_init := mok_of (by decide +kernel)
def mX8_refresh : MD := (yX8_refresh, cX8_refresh, 4, none, [(0, .aload_n 0, 1), (1, .getfield 27, 3), (4, .ifCond .eq 4, 3), (7, .return_, 1), (8, .aload_n 0, 1), (9, .aload_n 0, 1), (10, .getfield 31, 3), (13, .getfield 39, 3), (16, .invokestatic 44, 3), (19, .sipush 2187, 3), (22, .invokestatic 48, 3), (25, .putfield 23, 3), (28, .iconst 0, 1), (29, .istore_n 1, 1), (30, .iload_n 1, 1), (31, .aload_n 0, 1), (32, .getfield 23, 3), (35, .if_icmp .ge 93, 3), (38, .iconst 1, 1), (39, .iload_n 1, 1), (40, .aload_n 0, 1), (41, .getfield 31, 3), (44, .getfield 39, 3), (47, .invokestatic 54, 3), (50, .istore_n 2, 1), (51, .iconst 2, 1), (52, .iload_n 1, 1), (53, .aload_n 0, 1), (54, .getfield 31, 3), (57, .getfield 39, 3), (60, .invokestatic 54, 3), (63, .istore_n 3, 1), (64, .aload_n 0, 1), (65, .getfield 35, 3), (68, .iload_n 2, 1), (69, .iload_n 3, 1), (70, .invokevirtual 58, 3), (73, .aload_n 0, 1), (74, .getfield 9, 3), (77, .iload_n 1, 1), (78, .aload_n 0, 1), (79, .getfield 35, 3), (82, .invokevirtual 64, 3), (85, .lastore, 1), (86, .aload_n 0, 1), (87, .getfield 15, 3), (90, .iload_n 1, 1), (91, .aload_n 0, 1), (92, .getfield 9, 3), (95, .iload_n 1, 1), (96, .laload, 1), (97, .aload_n 0, 1), (98, .getfield 31, 3), (101, .iload_n 2, 1), (102, .iload_n 3, 1), (103, .invokevirtual 68, 3), (106, .ldc2_w 72, 3), (109, .lxor, 1), (110, .land, 1), (111, .lconst 0, 1), (112, .lcmp, 1), (113, .ifCond .ne 7, 3), (116, .iconst 1, 1), (117, .goto 4, 3), (120, .iconst 0, 1), (121, .bastore, 1), (122, .iinc 1 1, 3), (125, .goto (-95), 3), (128, .aload_n 0, 1), (129, .iconst 1, 1), (130, .putfield 27, 3), (133, .return_, 1)])
set_option maxRecDepth 100000 in
theorem okX8_refresh : MOk mX8_refresh := mok_of (by decide +kernel)
def mX8_isTurn : MD := (yX8_isTurn, cX8_isTurn, 4, some .boolean, [(0, .aload_n 0, 1), (1, .getfield 15, 3), (4, .iload_n 1, 1), (5, .baload, 1), (6, .ifCond .eq 35, 3), (9, .aload_n 0, 1), (10, .getfield 9, 3), (13, .iload_n 1, 1), (14, .laload, 1), (15, .lconst 0, 1), (16, .lcmp, 1), (17, .ifCond .eq 24, 3), (20, .aload_n 0, 1), (21, .getfield 9, 3), (24, .iload_n 1, 1), (25, .laload, 1), (26, .lload_n 2, 1), (27, .ldc2_w 72, 3), (30, .lxor, 1), (31, .land, 1), (32, .lconst 0, 1), (33, .lcmp, 1), (34, .ifCond .ne 7, 3), (37, .iconst 1, 1), (38, .goto 4, 3), (41, .iconst 0, 1), (42, .ireturn, 1)])
set_option maxRecDepth 100000 in
theorem okX8_isTurn : MOk mX8_isTurn := mok_of (by decide +kernel)
def mX8_newSets : MD := (yX8_newSets, cX8_newSets, 4, some .int, [(0, .iconst 0, 1), (1, .istore_n 2, 1), (2, .iconst 0, 1), (3, .istore_n 3, 1), (4, .iload_n 3, 1), (5, .aload_n 0, 1), (6, .getfield 23, 3), (9, .if_icmp .ge 30, 3), (12, .aload_n 0, 1), (13, .getfield 15, 3), (16, .iload_n 3, 1), (17, .baload, 1), (18, .iload_n 1, 1), (19, .if_icmp .ne 14, 3), (22, .aload_n 0, 1), (23, .iload_n 3, 1), (24, .invokevirtual 74, 3), (27, .ifCond .eq 6, 3), (30, .iinc 2 1, 3), (33, .iinc 3 1, 3), (36, .goto (-32), 3), (39, .iload_n 2, 1), (40, .ireturn, 1)])
set_option maxRecDepth 100000 in
theorem okX8_newSets : MOk mX8_newSets := mok_of (by decide +kernel)
def mX8_enter : MD := (yX8_enter, cX8_enter, 6, some .boolean, [(0, .aload_n 0, 1), (1, .getfield 9, 3), (4, .iload_n 1, 1), (5, .laload, 1), (6, .ldc2_w 78, 3), (9, .lmul, 1), (10, .bipush 52, 2), (12, .lushr, 1), (13, .l2i, 1), (14, .istore_n 2, 1), (15, .iconst 0, 1), (16, .istore_n 3, 1), (17, .iload_n 3, 1), (18, .aload_n 0, 1), (19, .getfield 19, 3), (22, .arraylength, 1), (23, .if_icmp .ge 69, 3), (26, .iload_n 2, 1), (27, .iload_n 3, 1), (28, .iadd, 1), (29, .aload_n 0, 1), (30, .getfield 19, 3), (33, .arraylength, 1), (34, .iconst 1, 1), (35, .isub, 1), (36, .iand, 1), (37, .istore 4, 2), (39, .aload_n 0, 1), (40, .getfield 19, 3), (43, .iload 4, 2), (45, .iaload, 1), (46, .iconst 1, 1), (47, .isub, 1), (48, .istore 5, 2), (50, .iload 5, 2), (52, .ifCond .ge 15, 3), (55, .aload_n 0, 1), (56, .getfield 19, 3), (59, .iload 4, 2), (61, .iload_n 1, 1), (62, .iconst 1, 1), (63, .iadd, 1), (64, .iastore, 1), (65, .iconst 1, 1), (66, .ireturn, 1), (67, .aload_n 0, 1), (68, .getfield 9, 3), (71, .iload 5, 2), (73, .laload, 1), (74, .aload_n 0, 1), (75, .getfield 9, 3), (78, .iload_n 1, 1), (79, .laload, 1), (80, .lcmp, 1), (81, .ifCond .ne 5, 3), (84, .iconst 0, 1), (85, .ireturn, 1), (86, .iinc 3 1, 3), (89, .goto (-72), 3), (92, .iconst 0, 1), (93, .ireturn, 1)])
set_option maxRecDepth 100000 in
theorem okX8_enter : MOk mX8_enter := mok_of (by decide +kernel)
def mX8_likeBehind : MD := (yX8_likeBehind, cX8_likeBehind, 7, some .long, [(0, .ldc2_w 72, 3), (3, .iload_n 1, 1), (4, .lshl, 1), (5, .lconst 1, 1), (6, .iload_n 1, 1), (7, .lshl, 1), (8, .ldc2_w 72, 3), (11, .lxor, 1), (12, .land, 1), (13, .lstore_n 2, 1), (14, .iconst 0, 1), (15, .istore 4, 2), (17, .iconst 0, 1), (18, .istore 5, 2), (20, .iload 5, 2), (22, .aload_n 0, 1), (23, .getfield 23, 3), (26, .if_icmp .ge 74, 3), (29, .lload_n 2, 1), (30, .lconst 0, 1), (31, .lcmp, 1), (32, .ifCond .eq 68, 3), (35, .aload_n 0, 1), (36, .getfield 9, 3), (39, .iload 5, 2), (41, .laload, 1), (42, .iload_n 1, 1), (43, .lushr, 1), (44, .lconst 1, 1), (45, .land, 1), (46, .lconst 0, 1), (47, .lcmp, 1), (48, .ifCond .eq 7, 3), (51, .iconst 1, 1), (52, .goto 4, 3), (55, .iconst 0, 1), (56, .istore 6, 2), (58, .lload_n 2, 1), (59, .iload 6, 2), (61, .ifCond .eq 13, 3), (64, .aload_n 0, 1), (65, .getfield 9, 3), (68, .iload 5, 2), (70, .laload, 1), (71, .goto 14, 3), (74, .aload_n 0, 1), (75, .getfield 9, 3), (78, .iload 5, 2), (80, .laload, 1), (81, .ldc2_w 72, 3), (84, .lxor, 1), (85, .land, 1), (86, .lstore_n 2, 1), (87, .iload 4, 2), (89, .iload 6, 2), (91, .ior, 1), (92, .istore 4, 2), (94, .iinc 5 1, 3), (97, .goto (-77), 3), (100, .iload 4, 2), (102, .ifCond .eq 7, 3), (105, .lload_n 2, 1), (106, .goto 4, 3), (109, .lconst 0, 1), (110, .lreturn, 1)])
set_option maxRecDepth 100000 in
theorem okX8_likeBehind : MOk mX8_likeBehind := mok_of (by decide +kernel)
def mX9_init : MD := (yX9_init, cX9_init, 1, none, [(0, .aload_n 0, 1), (1, .invokespecial 1, 3), (4, .aload_n 0, 1), (5, .bipush 80, 2), (7, .newarray .char, 2), (9, .putfield 7, 3), (12, .aload_n 0, 1), (13, .iconst 0, 1), (14, .putfield 13, 3), (17, .return_, 1)])
set_option maxRecDepth 100000 in
theorem okX9_init : MOk mX9_init := mok_of (by decide +kernel)
def mX9_append : MD := (yX9_append, cX9_append, 3, some .boolean, [(0, .aload_n 0, 1), (1, .getfield 13, 3), (4, .iconst 4, 1), (5, .iadd, 1), (6, .aload_n 0, 1), (7, .getfield 7, 3), (10, .arraylength, 1), (11, .if_icmp .le 5, 3), (14, .iconst 0, 1), (15, .ireturn, 1), (16, .bipush 24, 2), (18, .istore_n 2, 1), (19, .iload_n 2, 1), (20, .ifCond .lt 36, 3), (23, .aload_n 0, 1), (24, .getfield 7, 3), (27, .aload_n 0, 1), (28, .getfield 13, 3), (31, .iload_n 1, 1), (32, .iload_n 2, 1), (33, .iushr, 1), (34, .sipush 255, 3), (37, .iand, 1), (38, .i2c, 1), (39, .castore, 1), (40, .aload_n 0, 1), (41, .dup, 1), (42, .getfield 13, 3), (45, .iconst 1, 1), (46, .iadd, 1), (47, .putfield 13, 3), (50, .iinc 2 (-8), 3), (53, .goto (-34), 3), (56, .iconst 1, 1), (57, .ireturn, 1)])
set_option maxRecDepth 100000 in
theorem okX9_append : MOk mX9_append := mok_of (by decide +kernel)
def mX10_init : MD := (yX10_init, cX10_init, 1, none, [(0, .aload_n 0, 1), (1, .invokespecial 1, 3), (4, .aload_n 0, 1), (5, .bipush 16, 2), (7, .newarray .long, 2), (9, .putfield 7, 3), (12, .aload_n 0, 1), (13, .iconst 0, 1), (14, .putfield 13, 3), (17, .return_, 1)])
set_option maxRecDepth 100000 in
theorem okX10_init : MOk mX10_init := mok_of (by decide +kernel)
def mX10_clear : MD := (yX10_clear, cX10_clear, 1, none, [(0, .aload_n 0, 1), (1, .iconst 0, 1), (2, .putfield 13, 3), (5, .return_, 1)])
set_option maxRecDepth 100000 in
theorem okX10_clear : MOk mX10_clear := mok_of (by decide +kernel)
def mX10_add : MD := (yX10_add, cX10_add, 3, none, [(0, .aload_n 0, 1), (1, .getfield 13, 3), (4, .aload_n 0, 1), (5, .getfield 7, 3), (8, .arraylength, 1), (9, .if_icmp .ge 23, 3), (12, .aload_n 0, 1), (13, .getfield 7, 3), (16, .aload_n 0, 1), (17, .getfield 13, 3), (20, .lload_n 1, 1), (21, .lastore, 1), (22, .aload_n 0, 1), (23, .dup, 1), (24, .getfield 13, 3), (27, .iconst 1, 1), (28, .iadd, 1), (29, .putfield 13, 3), (32, .return_, 1)])
set_option maxRecDepth 100000 in
theorem okX10_add : MOk mX10_add := mok_of (by decide +kernel)
def mX11_init : MD := (yX11_init, cX11_init, 1, none, [(0, .aload_n 0, 1), (1, .invokespecial 1, 3), (4, .aload_n 0, 1), (5, .new 7, 3), (8, .dup, 1), (9, .invokespecial 9, 3), (12, .putfield 10, 3), (15, .aload_n 0, 1), (16, .new 16, 3), (19, .dup, 1), (20, .invokespecial 18, 3), (23, .putfield 19, 3), (26, .aload_n 0, 1), (27, .new 23, 3), (30, .dup, 1), (31, .aload_n 0, 1), (32, .getfield 19, 3), (35, .invokespecial 25, 3), (38, .putfield 28, 3), (41, .aload_n 0, 1), (42, .new 32, 3), (45, .dup, 1), (46, .invokespecial 34, 3), (49, .putfield 35, 3), (52, .aload_n 0, 1), (53, .new 39, 3), (56, .dup, 1), (57, .aload_n 0, 1), (58, .getfield 10, 3), (61, .invokespecial 41, 3), (64, .putfield 44, 3), (67, .aload_n 0, 1), (68, .new 48, 3), (71, .dup, 1), (72, .invokespecial 50, 3), (75, .putfield 51, 3), (78, .aload_n 0, 1), (79, .new 55, 3), (82, .dup, 1), (83, .aload_n 0, 1), (84, .getfield 10, 3), (87, .aload_n 0, 1), (88, .getfield 44, 3), (91, .invokespecial 57, 3), (94, .putfield 60, 3), (97, .aload_n 0, 1), (98, .new 64, 3), (101, .dup, 1), (102, .aload_n 0, 1), (103, .getfield 60, 3), (106, .aload_n 0, 1), (107, .getfield 44, 3), (110, .invokespecial 66, 3), (113, .putfield 69, 3), (116, .aload_n 0, 1), (117, .new 73, 3), (120, .dup, 1), (121, .aload_n 0, 1), (122, .getfield 60, 3), (125, .aload_n 0, 1), (126, .getfield 44, 3), (129, .aload_n 0, 1), (130, .getfield 51, 3), (133, .invokespecial 75, 3), (136, .putfield 78, 3), (139, .aload_n 0, 1), (140, .new 82, 3), (143, .dup, 1), (144, .aload_n 0, 1), (145, .getfield 78, 3), (148, .invokespecial 84, 3), (151, .putfield 87, 3), (154, .aload_n 0, 1), (155, .iconst 2, 1), (156, .anewarray 91, 3), (159, .dup, 1), (160, .iconst 0, 1), (161, .new 91, 3), (164, .dup, 1), (165, .invokespecial 93, 3), (168, .aastore, 1), (169, .dup, 1), (170, .iconst 1, 1), (171, .new 91, 3), (174, .dup, 1), (175, .invokespecial 93, 3), (178, .aastore, 1), (179, .putfield 94, 3), (182, .return_, 1)])
set_option maxRecDepth 100000 in
theorem okX11_init : MOk mX11_init := mok_of (by decide +kernel)
def mX11_sign : MD := (yX11_sign, cX11_sign, 2, some .int, [(0, .aload_n 0, 1), (1, .getfield 19, 3), (4, .iload_n 1, 1), (5, .invokevirtual 98, 3), (8, .ifCond .eq 13, 3), (11, .aload_n 0, 1), (12, .getfield 19, 3), (15, .getfield 102, 3), (18, .goto 4, 3), (21, .iconst (-1), 1), (22, .ireturn, 1)])
set_option maxRecDepth 100000 in
theorem okX11_sign : MOk mX11_sign := mok_of (by decide +kernel)
def mX11_end : MD := (yX11_end, cX11_end, 2, some .boolean, [(0, .iload_n 1, 1), (1, .ifCond .lt 14, 3), (4, .iload_n 1, 1), (5, .aload_n 0, 1), (6, .getfield 19, 3), (9, .getfield 102, 3), (12, .if_icmp .le 5, 3), (15, .iconst 0, 1), (16, .ireturn, 1), (17, .aload_n 0, 1), (18, .getfield 19, 3), (21, .iload_n 1, 1), (22, .putfield 102, 3), (25, .iconst 1, 1), (26, .ireturn, 1)])
set_option maxRecDepth 100000 in
theorem okX11_end : MOk mX11_end := mok_of (by decide +kernel)
def mX11_board : MD := (yX11_board, cX11_board, 3, some .int, [(0, .aload_n 0, 1), (1, .getfield 28, 3), (4, .aload_n 0, 1), (5, .getfield 10, 3), (8, .getfield 106, 3), (11, .aload_n 0, 1), (12, .getfield 10, 3), (15, .getfield 109, 3), (18, .invokevirtual 112, 3), (21, .istore_n 1, 1), (22, .aload_n 0, 1), (23, .getfield 19, 3), (26, .iconst 0, 1), (27, .putfield 102, 3), (30, .iload_n 1, 1), (31, .iconst (-1), 1), (32, .if_icmp .eq 7, 3), (35, .iconst (-1), 1), (36, .iload_n 1, 1), (37, .isub, 1), (38, .ireturn, 1), (39, .iconst 0, 1), (40, .istore_n 2, 1), (41, .iload_n 2, 1), (42, .aload_n 0, 1), (43, .getfield 28, 3), (46, .getfield 116, 3), (49, .if_icmp .ge 14, 3), (52, .aload_n 0, 1), (53, .iload_n 2, 1), (54, .invokevirtual 119, 3), (57, .iinc 2 1, 3), (60, .goto (-19), 3), (63, .aload_n 0, 1), (64, .getfield 60, 3), (67, .iconst 0, 1), (68, .putfield 123, 3), (71, .aload_n 0, 1), (72, .getfield 28, 3), (75, .getfield 116, 3), (78, .ireturn, 1)])
set_option maxRecDepth 100000 in
theorem okX11_board : MOk mX11_board := mok_of (by decide +kernel)
def mX11_set : MD := (yX11_set, cX11_set, 4, some .int, [(0, .iconst (-1), 1), (1, .istore_n 3, 1), (2, .iload_n 1, 1), (3, .ifCond .ne 33, 3), (6, .iload_n 2, 1), (7, .iconst 1, 1), (8, .if_icmp .lt 28, 3), (11, .iload_n 2, 1), (12, .bipush 20, 2), (14, .if_icmp .gt 22, 3), (17, .aload_n 0, 1), (18, .getfield 10, 3), (21, .getfield 127, 3), (24, .istore_n 3, 1), (25, .aload_n 0, 1), (26, .getfield 10, 3), (29, .iload_n 2, 1), (30, .putfield 127, 3), (33, .goto 68, 3), (36, .iload_n 1, 1), (37, .iconst 1, 1), (38, .if_icmp .ne 32, 3), (41, .iload_n 2, 1), (42, .iconst 1, 1), (43, .if_icmp .lt 27, 3), (46, .iload_n 2, 1), (47, .iconst 3, 1), (48, .if_icmp .gt 22, 3), (51, .aload_n 0, 1), (52, .getfield 10, 3), (55, .getfield 130, 3), (58, .istore_n 3, 1), (59, .aload_n 0, 1), (60, .getfield 10, 3), (63, .iload_n 2, 1), (64, .putfield 130, 3), (67, .goto 34, 3), (70, .iload_n 1, 1), (71, .iconst 2, 1), (72, .if_icmp .ne 29, 3), (75, .iload_n 2, 1), (76, .ifCond .lt 25, 3), (79, .iload_n 2, 1), (80, .bipush 99, 2), (82, .if_icmp .gt 19, 3), (85, .aload_n 0, 1), (86, .getfield 10, 3), (89, .getfield 133, 3), (92, .istore_n 3, 1), (93, .aload_n 0, 1), (94, .getfield 10, 3), (97, .iload_n 2, 1), (98, .putfield 133, 3), (101, .iload_n 3, 1), (102, .iconst (-1), 1), (103, .if_icmp .eq 11, 3), (106, .aload_n 0, 1), (107, .getfield 60, 3), (110, .iconst 0, 1), (111, .putfield 123, 3), (114, .iload_n 3, 1), (115, .ireturn, 1)])
set_option maxRecDepth 100000 in
theorem okX11_set : MOk mX11_set := mok_of (by decide +kernel)
def mX11_lamp : MD := (yX11_lamp, cX11_lamp, 3, some .int, [(0, .aload_n 0, 1), (1, .getfield 10, 3), (4, .iload_n 1, 1), (5, .invokevirtual 136, 3), (8, .ifCond .eq 12, 3), (11, .iload_n 2, 1), (12, .ifCond .lt 8, 3), (15, .iload_n 2, 1), (16, .iconst 2, 1), (17, .if_icmp .le 11, 3), (20, .new 139, 3), (23, .dup, 1), (24, .invokespecial 141, 3), (27, .athrow, 1), (28, .iload_n 2, 1), (29, .ifCond .ne 13, 3), (32, .aload_n 0, 1), (33, .getfield 10, 3), (36, .getfield 142, 3), (39, .iload_n 1, 1), (40, .iaload, 1), (41, .ireturn, 1), (42, .iload_n 2, 1), (43, .iconst 1, 1), (44, .if_icmp .ne 15, 3), (47, .aload_n 0, 1), (48, .getfield 10, 3), (51, .getfield 146, 3), (54, .iload_n 1, 1), (55, .iaload, 1), (56, .goto 12, 3), (59, .aload_n 0, 1), (60, .getfield 10, 3), (63, .getfield 149, 3), (66, .iload_n 1, 1), (67, .iaload, 1), (68, .ireturn, 1)])
set_option maxRecDepth 100000 in
theorem okX11_lamp : MOk mX11_lamp := mok_of (by decide +kernel)
def mX11_ohms : MD := (yX11_ohms, cX11_ohms, 2, some .int, [(0, .aload_n 0, 1), (1, .getfield 10, 3), (4, .iload_n 1, 1), (5, .invokevirtual 152, 3), (8, .ifCond .eq 15, 3), (11, .aload_n 0, 1), (12, .getfield 10, 3), (15, .getfield 155, 3), (18, .iload_n 1, 1), (19, .iaload, 1), (20, .goto 4, 3), (23, .iconst (-1), 1), (24, .ireturn, 1)])
set_option maxRecDepth 100000 in
theorem okX11_ohms : MOk mX11_ohms := mok_of (by decide +kernel)
def mX11_sheet : MD := (yX11_sheet, cX11_sheet, 9, some .int, [(0, .iload_n 1, 1), (1, .ifCond .lt 14, 3), (4, .iload_n 1, 1), (5, .iconst 3, 1), (6, .if_icmp .gt 9, 3), (9, .iload_n 2, 1), (10, .bipush 60, 2), (12, .if_icmp .le 5, 3), (15, .iconst (-1), 1), (16, .ireturn, 1), (17, .iload_n 1, 1), (18, .iconst 3, 1), (19, .if_icmp .eq 10, 3), (22, .iload_n 2, 1), (23, .ifCond .ge 6, 3), (26, .bipush (-2), 2), (28, .ireturn, 1), (29, .iload_n 1, 1), (30, .iconst 3, 1), (31, .if_icmp .ne 7, 3), (34, .iconst 0, 1), (35, .goto 4, 3), (38, .iload_n 2, 1), (39, .istore 5, 2), (41, .iconst 0, 1), (42, .istore 6, 2), (44, .iconst 0, 1), (45, .istore 7, 2), (47, .iload 7, 2), (49, .aload_n 0, 1), (50, .getfield 10, 3), (53, .getfield 109, 3), (56, .if_icmp .ge 69, 3), (59, .iload 7, 2), (61, .iload 5, 2), (63, .if_icmp .ge 17, 3), (66, .iload_n 1, 1), (67, .iload_n 3, 1), (68, .iload 7, 2), (70, .iload 4, 2), (72, .imul, 1), (73, .iadd, 1), (74, .invokestatic 158, 3), (77, .goto 4, 3), (80, .iconst 1, 1), (81, .istore 8, 2), (83, .aload_n 0, 1), (84, .getfield 10, 3), (87, .getfield 149, 3), (90, .iload 7, 2), (92, .iconst 1, 1), (93, .bipush 9, 2), (95, .iload 8, 2), (97, .invokestatic 161, 3), (100, .invokestatic 166, 3), (103, .iastore, 1), (104, .iload 6, 2), (106, .aload_n 0, 1), (107, .getfield 10, 3), (110, .getfield 149, 3), (113, .iload 7, 2), (115, .iaload, 1), (116, .iadd, 1), (117, .istore 6, 2), (119, .iinc 7 1, 3), (122, .goto (-75), 3), (125, .aload_n 0, 1), (126, .getfield 60, 3), (129, .iconst 0, 1), (130, .putfield 123, 3), (133, .iload_n 1, 1), (134, .iconst 3, 1), (135, .if_icmp .ne 8, 3), (138, .bipush (-3), 2), (140, .goto 5, 3), (143, .iload 6, 2), (145, .ireturn, 1)])
set_option maxRecDepth 100000 in
theorem okX11_sheet : MOk mX11_sheet := mok_of (by decide +kernel)
def mX11_swap : MD := (yX11_swap, cX11_swap, 3, some .boolean, [(0, .aload_n 0, 1), (1, .getfield 10, 3), (4, .iload_n 1, 1), (5, .iload_n 2, 1), (6, .invokevirtual 169, 3), (9, .ifCond .ne 5, 3), (12, .iconst 0, 1), (13, .ireturn, 1), (14, .aload_n 0, 1), (15, .getfield 10, 3), (18, .iload_n 1, 1), (19, .iload_n 2, 1), (20, .invokevirtual 173, 3), (23, .aload_n 0, 1), (24, .getfield 60, 3), (27, .iconst 0, 1), (28, .putfield 123, 3), (31, .iconst 1, 1), (32, .ireturn, 1)])
set_option maxRecDepth 100000 in
theorem okX11_swap : MOk mX11_swap := mok_of (by decide +kernel)
def mX11_put : MD := (yX11_put, cX11_put, 3, some .int, [(0, .aload_n 0, 1), (1, .getfield 10, 3), (4, .iload_n 1, 1), (5, .iload_n 2, 1), (6, .invokevirtual 177, 3), (9, .ifCond .ne 5, 3), (12, .iconst (-1), 1), (13, .ireturn, 1), (14, .aload_n 0, 1), (15, .getfield 51, 3), (18, .iload_n 1, 1), (19, .putfield 180, 3), (22, .aload_n 0, 1), (23, .getfield 51, 3), (26, .iload_n 2, 1), (27, .putfield 183, 3), (30, .aload_n 0, 1), (31, .getfield 44, 3), (34, .iload_n 1, 1), (35, .iload_n 2, 1), (36, .invokevirtual 186, 3), (39, .invokestatic 190, 3), (42, .ireturn, 1)])
set_option maxRecDepth 100000 in
theorem okX11_put : MOk mX11_put := mok_of (by decide +kernel)
def mX11_glows : MD := (yX11_glows, cX11_glows, 1, some .long, [(0, .aload_n 0, 1), (1, .getfield 44, 3), (4, .aload_n 0, 1), (5, .getfield 51, 3), (8, .getfield 180, 3), (11, .aload_n 0, 1), (12, .getfield 51, 3), (15, .getfield 183, 3), (18, .invokevirtual 186, 3), (21, .lreturn, 1)])
set_option maxRecDepth 100000 in
theorem okX11_glows : MOk mX11_glows := mok_of (by decide +kernel)
def mX11_ghosts : MD := (yX11_ghosts, cX11_ghosts, 3, some .long, [(0, .aload_n 0, 1), (1, .getfield 44, 3), (4, .aload_n 0, 1), (5, .getfield 51, 3), (8, .getfield 180, 3), (11, .aload_n 0, 1), (12, .getfield 51, 3), (15, .getfield 183, 3), (18, .invokevirtual 186, 3), (21, .lstore_n 1, 1), (22, .lload_n 1, 1), (23, .aload_n 0, 1), (24, .getfield 10, 3), (27, .aload_n 0, 1), (28, .getfield 51, 3), (31, .getfield 180, 3), (34, .aload_n 0, 1), (35, .getfield 51, 3), (38, .getfield 183, 3), (41, .invokevirtual 196, 3), (44, .ldc2_w 199, 3), (47, .lxor, 1), (48, .land, 1), (49, .lreturn, 1)])
set_option maxRecDepth 100000 in
theorem okX11_ghosts : MOk mX11_ghosts := mok_of (by decide +kernel)
def mX11_light : MD := (yX11_light, cX11_light, 2, some .long, [(0, .aload_n 0, 1), (1, .getfield 10, 3), (4, .iload_n 1, 1), (5, .invokevirtual 136, 3), (8, .ifCond .ne 7, 3), (11, .ldc2_w 199, 3), (14, .lreturn, 1), (15, .aload_n 0, 1), (16, .getfield 44, 3), (19, .iload_n 1, 1), (20, .aload_n 0, 1), (21, .getfield 51, 3), (24, .getfield 180, 3), (27, .aload_n 0, 1), (28, .getfield 51, 3), (31, .getfield 183, 3), (34, .invokevirtual 201, 3), (37, .aload_n 0, 1), (38, .getfield 35, 3), (41, .invokevirtual 205, 3), (44, .aload_n 0, 1), (45, .getfield 35, 3), (48, .aload_n 0, 1), (49, .getfield 44, 3), (52, .getfield 208, 3), (55, .i2l, 1), (56, .invokevirtual 211, 3), (59, .aload_n 0, 1), (60, .getfield 35, 3), (63, .aload_n 0, 1), (64, .getfield 44, 3), (67, .getfield 215, 3), (70, .invokevirtual 211, 3), (73, .aload_n 0, 1), (74, .getfield 44, 3), (77, .getfield 219, 3), (80, .iload_n 1, 1), (81, .laload, 1), (82, .lreturn, 1)])
set_option maxRecDepth 100000 in
theorem okX11_light : MOk mX11_light := mok_of (by decide +kernel)
def mX11_why : MD := (yX11_why, cX11_why, 3, some .long, [(0, .aload_n 0, 1), (1, .getfield 10, 3), (4, .iload_n 1, 1), (5, .invokevirtual 136, 3), (8, .ifCond .ne 7, 3), (11, .ldc2_w 199, 3), (14, .lreturn, 1), (15, .aload_n 0, 1), (16, .getfield 44, 3), (19, .iload_n 1, 1), (20, .aload_n 0, 1), (21, .getfield 51, 3), (24, .getfield 180, 3), (27, .aload_n 0, 1), (28, .getfield 51, 3), (31, .getfield 183, 3), (34, .invokevirtual 201, 3), (37, .aload_n 0, 1), (38, .getfield 44, 3), (41, .getfield 208, 3), (44, .ifCond .ne 7, 3), (47, .ldc2_w 223, 3), (50, .lreturn, 1), (51, .aload_n 0, 1), (52, .getfield 35, 3), (55, .invokevirtual 205, 3), (58, .iconst 0, 1), (59, .istore_n 2, 1), (60, .iload_n 2, 1), (61, .aload_n 0, 1), (62, .getfield 44, 3), (65, .getfield 225, 3), (68, .if_icmp .ge 26, 3), (71, .aload_n 0, 1), (72, .getfield 35, 3), (75, .aload_n 0, 1), (76, .getfield 44, 3), (79, .getfield 228, 3), (82, .iload_n 2, 1), (83, .iaload, 1), (84, .i2l, 1), (85, .invokevirtual 211, 3), (88, .iinc 2 1, 3), (91, .goto (-31), 3), (94, .aload_n 0, 1), (95, .getfield 44, 3), (98, .getfield 215, 3), (101, .lreturn, 1)])
set_option maxRecDepth 100000 in
theorem okX11_why : MOk mX11_why := mok_of (by decide +kernel)
def mX11_draws : MD := (yX11_draws, cX11_draws, 2, some .long, [(0, .aload_n 0, 1), (1, .getfield 10, 3), (4, .iload_n 1, 1), (5, .invokevirtual 152, 3), (8, .ifCond .ne 7, 3), (11, .ldc2_w 199, 3), (14, .lreturn, 1), (15, .aload_n 0, 1), (16, .getfield 44, 3), (19, .aload_n 0, 1), (20, .getfield 51, 3), (23, .getfield 180, 3), (26, .aload_n 0, 1), (27, .getfield 51, 3), (30, .getfield 183, 3), (33, .invokevirtual 186, 3), (36, .pop2, 1), (37, .aload_n 0, 1), (38, .getfield 44, 3), (41, .getfield 231, 3), (44, .iload_n 1, 1), (45, .laload, 1), (46, .lreturn, 1)])
set_option maxRecDepth 100000 in
theorem okX11_draws : MOk mX11_draws := mok_of (by decide +kernel)
def mX11_brightest : MD := (yX11_brightest, cX11_brightest, 6, some .int, [(0, .aload_n 0, 1), (1, .getfield 44, 3), (4, .aload_n 0, 1), (5, .getfield 51, 3), (8, .getfield 180, 3), (11, .aload_n 0, 1), (12, .getfield 51, 3), (15, .getfield 183, 3), (18, .invokevirtual 186, 3), (21, .lstore_n 1, 1), (22, .lload_n 1, 1), (23, .lconst 0, 1), (24, .lcmp, 1), (25, .ifCond .ne 6, 3), (28, .bipush (-2), 2), (30, .ireturn, 1), (31, .lload_n 1, 1), (32, .invokestatic 234, 3), (35, .istore_n 3, 1), (36, .iload_n 3, 1), (37, .istore 4, 2), (39, .iload_n 3, 1), (40, .iconst 1, 1), (41, .iadd, 1), (42, .istore 5, 2), (44, .iload 5, 2), (46, .aload_n 0, 1), (47, .getfield 10, 3), (50, .getfield 109, 3), (53, .if_icmp .ge 86, 3), (56, .lload_n 1, 1), (57, .iload 5, 2), (59, .lushr, 1), (60, .lconst 1, 1), (61, .land, 1), (62, .lconst 0, 1), (63, .lcmp, 1), (64, .ifCond .ne 6, 3), (67, .goto 66, 3), (70, .aload_n 0, 1), (71, .getfield 44, 3), (74, .getfield 219, 3), (77, .iload 5, 2), (79, .laload, 1), (80, .aload_n 0, 1), (81, .getfield 44, 3), (84, .getfield 219, 3), (87, .iload_n 3, 1), (88, .laload, 1), (89, .lcmp, 1), (90, .ifCond .le 8, 3), (93, .iload 5, 2), (95, .goto 4, 3), (98, .iload_n 3, 1), (99, .istore_n 3, 1), (100, .aload_n 0, 1), (101, .getfield 44, 3), (104, .getfield 219, 3), (107, .iload 5, 2), (109, .laload, 1), (110, .aload_n 0, 1), (111, .getfield 44, 3), (114, .getfield 219, 3), (117, .iload 4, 2), (119, .laload, 1), (120, .lcmp, 1), (121, .ifCond .ge 8, 3), (124, .iload 5, 2), (126, .goto 5, 3), (129, .iload 4, 2), (131, .istore 4, 2), (133, .iinc 5 1, 3), (136, .goto (-92), 3), (139, .aload_n 0, 1), (140, .getfield 35, 3), (143, .invokevirtual 205, 3), (146, .aload_n 0, 1), (147, .getfield 35, 3), (150, .aload_n 0, 1), (151, .getfield 44, 3), (154, .getfield 219, 3), (157, .iload_n 3, 1), (158, .laload, 1), (159, .invokevirtual 211, 3), (162, .aload_n 0, 1), (163, .getfield 35, 3), (166, .iload 4, 2), (168, .i2l, 1), (169, .invokevirtual 211, 3), (172, .aload_n 0, 1), (173, .getfield 35, 3), (176, .aload_n 0, 1), (177, .getfield 44, 3), (180, .getfield 219, 3), (183, .iload 4, 2), (185, .laload, 1), (186, .invokevirtual 211, 3), (189, .iload_n 3, 1), (190, .ireturn, 1)])
set_option maxRecDepth 100000 in
theorem okX11_brightest : MOk mX11_brightest := mok_of (by decide +kernel)
def mX11_shows : MD := (yX11_shows, cX11_shows, 6, some .int, [(0, .aload_n 0, 1), (1, .getfield 10, 3), (4, .lload_n 1, 1), (5, .invokevirtual 237, 3), (8, .ifCond .ne 5, 3), (11, .iconst (-1), 1), (12, .ireturn, 1), (13, .aload_n 0, 1), (14, .invokevirtual 241, 3), (17, .ifCond .ne 6, 3), (20, .bipush (-3), 2), (22, .ireturn, 1), (23, .bipush (-2), 2), (25, .istore_n 3, 1), (26, .iconst 0, 1), (27, .istore 4, 2), (29, .iconst 0, 1), (30, .istore 5, 2), (32, .iload 5, 2), (34, .aload_n 0, 1), (35, .getfield 60, 3), (38, .getfield 245, 3), (41, .if_icmp .ge 39, 3), (44, .aload_n 0, 1), (45, .getfield 60, 3), (48, .getfield 246, 3), (51, .iload 5, 2), (53, .laload, 1), (54, .lload_n 1, 1), (55, .lcmp, 1), (56, .ifCond .ne 18, 3), (59, .iload 4, 2), (61, .ifCond .ne 8, 3), (64, .iload 5, 2), (66, .goto 4, 3), (69, .iload_n 3, 1), (70, .istore_n 3, 1), (71, .iinc 4 1, 3), (74, .iinc 5 1, 3), (77, .goto (-45), 3), (80, .iload 4, 2), (82, .ifCond .le 60, 3), (85, .aload_n 0, 1), (86, .getfield 35, 3), (89, .invokevirtual 205, 3), (92, .aload_n 0, 1), (93, .getfield 35, 3), (96, .iconst 1, 1), (97, .iload_n 3, 1), (98, .aload_n 0, 1), (99, .getfield 10, 3), (102, .getfield 106, 3), (105, .invokestatic 249, 3), (108, .i2l, 1), (109, .invokevirtual 211, 3), (112, .aload_n 0, 1), (113, .getfield 35, 3), (116, .iconst 2, 1), (117, .iload_n 3, 1), (118, .aload_n 0, 1), (119, .getfield 10, 3), (122, .getfield 106, 3), (125, .invokestatic 249, 3), (128, .i2l, 1), (129, .invokevirtual 211, 3), (132, .aload_n 0, 1), (133, .getfield 35, 3), (136, .iload 4, 2), (138, .i2l, 1), (139, .invokevirtual 211, 3), (142, .iload_n 3, 1), (143, .ireturn, 1)])
set_option maxRecDepth 100000 in
theorem okX11_shows : MOk mX11_shows := mok_of (by decide +kernel)
def mX11_bars : MD := (yX11_bars, cX11_bars, 7, some .int, [(0, .aload_n 0, 1), (1, .getfield 10, 3), (4, .lload_n 1, 1), (5, .invokevirtual 237, 3), (8, .ifCond .ne 5, 3), (11, .iconst (-1), 1), (12, .ireturn, 1), (13, .aload_n 0, 1), (14, .invokevirtual 241, 3), (17, .ifCond .ne 6, 3), (20, .bipush (-3), 2), (22, .ireturn, 1), (23, .bipush (-2), 2), (25, .istore_n 3, 1), (26, .iconst (-1), 1), (27, .istore 4, 2), (29, .iconst 0, 1), (30, .istore 5, 2), (32, .iload 5, 2), (34, .aload_n 0, 1), (35, .getfield 60, 3), (38, .getfield 245, 3), (41, .if_icmp .ge 70, 3), (44, .lload_n 1, 1), (45, .aload_n 0, 1), (46, .getfield 60, 3), (49, .getfield 246, 3), (52, .iload 5, 2), (54, .laload, 1), (55, .ldc2_w 199, 3), (58, .lxor, 1), (59, .land, 1), (60, .lconst 0, 1), (61, .lcmp, 1), (62, .ifCond .ne 43, 3), (65, .aload_n 0, 1), (66, .getfield 60, 3), (69, .getfield 246, 3), (72, .iload 5, 2), (74, .laload, 1), (75, .lload_n 1, 1), (76, .ldc2_w 199, 3), (79, .lxor, 1), (80, .land, 1), (81, .invokestatic 190, 3), (84, .istore 6, 2), (86, .iload 4, 2), (88, .iconst (-1), 1), (89, .if_icmp .eq 9, 3), (92, .iload 6, 2), (94, .iload_n 3, 1), (95, .if_icmp .ge 10, 3), (98, .iload 6, 2), (100, .istore_n 3, 1), (101, .iload 5, 2), (103, .istore 4, 2), (105, .iinc 5 1, 3), (108, .goto (-76), 3), (111, .iload 4, 2), (113, .iconst (-1), 1), (114, .if_icmp .eq 57, 3), (117, .aload_n 0, 1), (118, .getfield 35, 3), (121, .invokevirtual 205, 3), (124, .aload_n 0, 1), (125, .getfield 35, 3), (128, .iload 4, 2), (130, .i2l, 1), (131, .invokevirtual 211, 3), (134, .aload_n 0, 1), (135, .getfield 35, 3), (138, .iload_n 3, 1), (139, .ifCond .ne 9, 3), (142, .ldc2_w 199, 3), (145, .goto 23, 3), (148, .aload_n 0, 1), (149, .getfield 60, 3), (152, .getfield 246, 3), (155, .iload 4, 2), (157, .laload, 1), (158, .lload_n 1, 1), (159, .ldc2_w 199, 3), (162, .lxor, 1), (163, .land, 1), (164, .invokestatic 234, 3), (167, .i2l, 1), (168, .invokevirtual 211, 3), (171, .iload_n 3, 1), (172, .ireturn, 1)])
set_option maxRecDepth 100000 in
theorem okX11_bars : MOk mX11_bars := mok_of (by decide +kernel)
def mX11_most : MD := (yX11_most, cX11_most, 5, some .int, [(0, .aload_n 0, 1), (1, .invokevirtual 241, 3), (4, .ifCond .ne 6, 3), (7, .bipush (-3), 2), (9, .ireturn, 1), (10, .iconst 0, 1), (11, .istore_n 1, 1), (12, .iconst 0, 1), (13, .istore_n 2, 1), (14, .iconst 0, 1), (15, .istore_n 3, 1), (16, .iload_n 3, 1), (17, .aload_n 0, 1), (18, .getfield 60, 3), (21, .getfield 245, 3), (24, .if_icmp .ge 46, 3), (27, .aload_n 0, 1), (28, .getfield 60, 3), (31, .getfield 246, 3), (34, .iload_n 3, 1), (35, .laload, 1), (36, .invokestatic 190, 3), (39, .istore 4, 2), (41, .aload_n 0, 1), (42, .getfield 60, 3), (45, .getfield 253, 3), (48, .iload_n 3, 1), (49, .baload, 1), (50, .ifCond .eq 14, 3), (53, .iload 4, 2), (55, .iload_n 1, 1), (56, .if_icmp .le 8, 3), (59, .iload 4, 2), (61, .istore_n 1, 1), (62, .iload_n 3, 1), (63, .istore_n 2, 1), (64, .iinc 3 1, 3), (67, .goto (-51), 3), (70, .aload_n 0, 1), (71, .getfield 35, 3), (74, .invokevirtual 205, 3), (77, .aload_n 0, 1), (78, .getfield 35, 3), (81, .iload_n 2, 1), (82, .i2l, 1), (83, .invokevirtual 211, 3), (86, .iload_n 1, 1), (87, .ireturn, 1)])
set_option maxRecDepth 100000 in
theorem okX11_most : MOk mX11_most := mok_of (by decide +kernel)
def mX11_sets : MD := (yX11_sets, cX11_sets, 3, some .int, [(0, .aload_n 0, 1), (1, .invokevirtual 241, 3), (4, .ifCond .ne 6, 3), (7, .bipush (-3), 2), (9, .ireturn, 1), (10, .aload_n 0, 1), (11, .getfield 60, 3), (14, .getfield 257, 3), (17, .iconst 0, 1), (18, .invokestatic 260, 3), (21, .aload_n 0, 1), (22, .getfield 60, 3), (25, .iconst 1, 1), (26, .invokevirtual 266, 3), (29, .istore_n 1, 1), (30, .aload_n 0, 1), (31, .getfield 60, 3), (34, .iconst 0, 1), (35, .invokevirtual 266, 3), (38, .istore_n 2, 1), (39, .aload_n 0, 1), (40, .getfield 35, 3), (43, .invokevirtual 205, 3), (46, .aload_n 0, 1), (47, .getfield 35, 3), (50, .iload_n 1, 1), (51, .i2l, 1), (52, .invokevirtual 211, 3), (55, .iload_n 1, 1), (56, .iload_n 2, 1), (57, .iadd, 1), (58, .ireturn, 1)])
set_option maxRecDepth 100000 in
theorem okX11_sets : MOk mX11_sets := mok_of (by decide +kernel)
def mX11_fits : MD := (yX11_fits, cX11_fits, 6, some .int, [(0, .aload_n 0, 1), (1, .getfield 10, 3), (4, .iload_n 1, 1), (5, .iload_n 2, 1), (6, .invokevirtual 169, 3), (9, .ifCond .ne 5, 3), (12, .iconst (-1), 1), (13, .ireturn, 1), (14, .aload_n 0, 1), (15, .invokevirtual 241, 3), (18, .ifCond .ne 6, 3), (21, .bipush (-3), 2), (23, .ireturn, 1), (24, .lconst 1, 1), (25, .iload_n 1, 1), (26, .lshl, 1), (27, .lconst 1, 1), (28, .iload_n 2, 1), (29, .lshl, 1), (30, .lor, 1), (31, .lstore_n 3, 1), (32, .iconst 0, 1), (33, .istore 5, 2), (35, .iload 5, 2), (37, .aload_n 0, 1), (38, .getfield 60, 3), (41, .getfield 245, 3), (44, .if_icmp .ge 45, 3), (47, .aload_n 0, 1), (48, .getfield 60, 3), (51, .getfield 253, 3), (54, .iload 5, 2), (56, .baload, 1), (57, .ifCond .eq 26, 3), (60, .lload_n 3, 1), (61, .aload_n 0, 1), (62, .getfield 60, 3), (65, .getfield 246, 3), (68, .iload 5, 2), (70, .laload, 1), (71, .ldc2_w 199, 3), (74, .lxor, 1), (75, .land, 1), (76, .lconst 0, 1), (77, .lcmp, 1), (78, .ifCond .ne 5, 3), (81, .iconst 1, 1), (82, .ireturn, 1), (83, .iinc 5 1, 3), (86, .goto (-51), 3), (89, .iconst 0, 1), (90, .ireturn, 1)])
set_option maxRecDepth 100000 in
theorem okX11_fits : MOk mX11_fits := mok_of (by decide +kernel)
def mX11_alone : MD := (yX11_alone, cX11_alone, 6, some .long, [(0, .aload_n 0, 1), (1, .invokevirtual 241, 3), (4, .ifCond .ne 7, 3), (7, .ldc2_w 270, 3), (10, .lreturn, 1), (11, .lconst 0, 1), (12, .lstore_n 1, 1), (13, .iconst 0, 1), (14, .istore_n 3, 1), (15, .iload_n 3, 1), (16, .aload_n 0, 1), (17, .getfield 60, 3), (20, .getfield 245, 3), (23, .if_icmp .ge 37, 3), (26, .aload_n 0, 1), (27, .getfield 60, 3), (30, .getfield 246, 3), (33, .iload_n 3, 1), (34, .laload, 1), (35, .lstore 4, 2), (37, .lload 4, 2), (39, .lload 4, 2), (41, .lconst 1, 1), (42, .lsub, 1), (43, .land, 1), (44, .lconst 0, 1), (45, .lcmp, 1), (46, .ifCond .ne 8, 3), (49, .lload_n 1, 1), (50, .lload 4, 2), (52, .lor, 1), (53, .lstore_n 1, 1), (54, .iinc 3 1, 3), (57, .goto (-42), 3), (60, .lload_n 1, 1), (61, .lreturn, 1)])
set_option maxRecDepth 100000 in
theorem okX11_alone : MOk mX11_alone := mok_of (by decide +kernel)
def mX11_twins : MD := (yX11_twins, cX11_twins, 5, some .int, [(0, .aload_n 0, 1), (1, .invokevirtual 241, 3), (4, .ifCond .ne 6, 3), (7, .bipush (-3), 2), (9, .ireturn, 1), (10, .aload_n 0, 1), (11, .getfield 35, 3), (14, .invokevirtual 205, 3), (17, .iconst 0, 1), (18, .istore_n 1, 1), (19, .iconst 0, 1), (20, .istore_n 2, 1), (21, .iload_n 2, 1), (22, .aload_n 0, 1), (23, .getfield 10, 3), (26, .getfield 109, 3), (29, .if_icmp .ge 56, 3), (32, .aload_n 0, 1), (33, .getfield 60, 3), (36, .iload_n 2, 1), (37, .invokevirtual 272, 3), (40, .lstore_n 3, 1), (41, .iload_n 1, 1), (42, .ifCond .ne 30, 3), (45, .lload_n 3, 1), (46, .lconst 0, 1), (47, .lcmp, 1), (48, .ifCond .eq 24, 3), (51, .aload_n 0, 1), (52, .getfield 35, 3), (55, .iload_n 2, 1), (56, .i2l, 1), (57, .invokevirtual 211, 3), (60, .aload_n 0, 1), (61, .getfield 35, 3), (64, .lload_n 3, 1), (65, .invokestatic 234, 3), (68, .i2l, 1), (69, .invokevirtual 211, 3), (72, .iload_n 1, 1), (73, .lload_n 3, 1), (74, .invokestatic 190, 3), (77, .iadd, 1), (78, .istore_n 1, 1), (79, .iinc 2 1, 3), (82, .goto (-61), 3), (85, .iload_n 1, 1), (86, .ireturn, 1)])
set_option maxRecDepth 100000 in
theorem okX11_twins : MOk mX11_twins := mok_of (by decide +kernel)
def mX11_range : MD := (yX11_range, cX11_range, 8, some .int, [(0, .aload_n 0, 1), (1, .getfield 10, 3), (4, .iload_n 1, 1), (5, .iload_n 2, 1), (6, .invokevirtual 177, 3), (9, .ifCond .ne 5, 3), (12, .iconst (-1), 1), (13, .ireturn, 1), (14, .aload_n 0, 1), (15, .getfield 44, 3), (18, .iload_n 1, 1), (19, .iload_n 2, 1), (20, .invokevirtual 186, 3), (23, .lstore_n 3, 1), (24, .aload_n 0, 1), (25, .getfield 10, 3), (28, .getfield 127, 3), (31, .istore 5, 2), (33, .iconst 0, 1), (34, .istore 6, 2), (36, .iconst 1, 1), (37, .istore 7, 2), (39, .iload 7, 2), (41, .bipush 20, 2), (43, .if_icmp .gt 41, 3), (46, .aload_n 0, 1), (47, .getfield 10, 3), (50, .iload 7, 2), (52, .putfield 127, 3), (55, .aload_n 0, 1), (56, .getfield 44, 3), (59, .iload_n 1, 1), (60, .iload_n 2, 1), (61, .invokevirtual 186, 3), (64, .lload_n 3, 1), (65, .lcmp, 1), (66, .ifCond .ne 12, 3), (69, .iload 6, 2), (71, .iconst 1, 1), (72, .iload 7, 2), (74, .ishl, 1), (75, .ior, 1), (76, .istore 6, 2), (78, .iinc 7 1, 3), (81, .goto (-42), 3), (84, .aload_n 0, 1), (85, .getfield 10, 3), (88, .iload 5, 2), (90, .putfield 127, 3), (93, .iload 6, 2), (95, .ireturn, 1)])
set_option maxRecDepth 100000 in
theorem okX11_range : MOk mX11_range := mok_of (by decide +kernel)
def mX11_picture : MD := (yX11_picture, cX11_picture, 4, some .int, [(0, .iload_n 1, 1), (1, .invokestatic 276, 3), (4, .ifCond .eq 14, 3), (7, .aload_n 0, 1), (8, .getfield 10, 3), (11, .lload_n 2, 1), (12, .invokevirtual 237, 3), (15, .ifCond .ne 5, 3), (18, .iconst (-1), 1), (19, .ireturn, 1), (20, .aload_n 0, 1), (21, .getfield 51, 3), (24, .getfield 279, 3), (27, .iload_n 1, 1), (28, .lload_n 2, 1), (29, .lastore, 1), (30, .lload_n 2, 1), (31, .invokestatic 190, 3), (34, .ireturn, 1)])
set_option maxRecDepth 100000 in
theorem okX11_picture : MOk mX11_picture := mok_of (by decide +kernel)
def mX11_parted : MD := (yX11_parted, cX11_parted, 3, some .int, [(0, .aload_n 0, 1), (1, .iload_n 1, 1), (2, .invokevirtual 282, 3), (5, .istore_n 2, 1), (6, .iload_n 2, 1), (7, .ifCond .lt 15, 3), (10, .aload_n 0, 1), (11, .aload_n 0, 1), (12, .getfield 69, 3), (15, .getfield 286, 3), (18, .iload_n 2, 1), (19, .invokevirtual 289, 3), (22, .iload_n 2, 1), (23, .ireturn, 1)])
set_option maxRecDepth 100000 in
theorem okX11_parted : MOk mX11_parted := mok_of (by decide +kernel)
def mX11_proof : MD := (yX11_proof, cX11_proof, 5, some .int, [(0, .aload_n 0, 1), (1, .iload_n 1, 1), (2, .invokevirtual 292, 3), (5, .istore_n 2, 1), (6, .iload_n 2, 1), (7, .ifCond .eq 5, 3), (10, .iload_n 2, 1), (11, .ireturn, 1), (12, .aload_n 0, 1), (13, .getfield 69, 3), (16, .invokevirtual 295, 3), (19, .lstore_n 3, 1), (20, .aload_n 0, 1), (21, .getfield 35, 3), (24, .invokevirtual 205, 3), (27, .aload_n 0, 1), (28, .getfield 35, 3), (31, .lload_n 3, 1), (32, .invokevirtual 211, 3), (35, .lload_n 3, 1), (36, .invokestatic 190, 3), (39, .ireturn, 1)])
set_option maxRecDepth 100000 in
theorem okX11_proof : MOk mX11_proof := mok_of (by decide +kernel)
def mX11_never : MD := (yX11_never, cX11_never, 7, some .long, [(0, .iload_n 1, 1), (1, .invokestatic 276, 3), (4, .ifCond .ne 7, 3), (7, .ldc2_w 199, 3), (10, .lreturn, 1), (11, .aload_n 0, 1), (12, .invokevirtual 241, 3), (15, .ifCond .ne 7, 3), (18, .ldc2_w 270, 3), (21, .lreturn, 1), (22, .aload_n 0, 1), (23, .getfield 51, 3), (26, .getfield 279, 3), (29, .iload_n 1, 1), (30, .laload, 1), (31, .lstore_n 2, 1), (32, .lload_n 2, 1), (33, .lstore 4, 2), (35, .iconst 0, 1), (36, .istore 6, 2), (38, .iload 6, 2), (40, .aload_n 0, 1), (41, .getfield 60, 3), (44, .getfield 245, 3), (47, .if_icmp .ge 41, 3), (50, .aload_n 0, 1), (51, .getfield 60, 3), (54, .iload 6, 2), (56, .lload_n 2, 1), (57, .invokevirtual 299, 3), (60, .ifCond .eq 22, 3), (63, .lload 4, 2), (65, .aload_n 0, 1), (66, .getfield 60, 3), (69, .getfield 246, 3), (72, .iload 6, 2), (74, .laload, 1), (75, .ldc2_w 199, 3), (78, .lxor, 1), (79, .land, 1), (80, .lstore 4, 2), (82, .iinc 6 1, 3), (85, .goto (-47), 3), (88, .lload 4, 2), (90, .lreturn, 1)])
set_option maxRecDepth 100000 in
theorem okX11_never : MOk mX11_never := mok_of (by decide +kernel)
def mX11_changes : MD := (yX11_changes, cX11_changes, 4, some .int, [(0, .aload_n 0, 1), (1, .iload_n 1, 1), (2, .invokevirtual 282, 3), (5, .istore_n 2, 1), (6, .iload_n 2, 1), (7, .ifCond .ge 5, 3), (10, .iload_n 2, 1), (11, .ireturn, 1), (12, .iload_n 2, 1), (13, .bipush 6, 2), (15, .if_icmp .le 6, 3), (18, .bipush (-5), 2), (20, .ireturn, 1), (21, .aload_n 0, 1), (22, .getfield 69, 3), (25, .invokevirtual 303, 3), (28, .istore_n 3, 1), (29, .aload_n 0, 1), (30, .aload_n 0, 1), (31, .getfield 69, 3), (34, .getfield 307, 3), (37, .iload_n 2, 1), (38, .invokevirtual 289, 3), (41, .iload_n 3, 1), (42, .ireturn, 1)])
set_option maxRecDepth 100000 in
theorem okX11_changes : MOk mX11_changes := mok_of (by decide +kernel)
def mX11_even : MD := (yX11_even, cX11_even, 6, some .long, [(0, .iload_n 1, 1), (1, .invokestatic 276, 3), (4, .ifCond .eq 15, 3), (7, .iload_n 2, 1), (8, .iconst 1, 1), (9, .if_icmp .lt 10, 3), (12, .iload_n 2, 1), (13, .sipush 200, 3), (16, .if_icmp .le 7, 3), (19, .ldc2_w 199, 3), (22, .lreturn, 1), (23, .aload_n 0, 1), (24, .iload_n 1, 1), (25, .invokevirtual 282, 3), (28, .istore_n 3, 1), (29, .iload_n 3, 1), (30, .ifCond .ge 6, 3), (33, .iload_n 3, 1), (34, .i2l, 1), (35, .lreturn, 1), (36, .iload_n 2, 1), (37, .iload_n 3, 1), (38, .if_icmp .ge 7, 3), (41, .ldc2_w 223, 3), (44, .lreturn, 1), (45, .aload_n 0, 1), (46, .getfield 69, 3), (49, .iload_n 2, 1), (50, .invokevirtual 310, 3), (53, .lstore 4, 2), (55, .aload_n 0, 1), (56, .aload_n 0, 1), (57, .getfield 69, 3), (60, .getfield 313, 3), (63, .iload_n 3, 1), (64, .invokevirtual 289, 3), (67, .lload 4, 2), (69, .lreturn, 1)])
set_option maxRecDepth 100000 in
theorem okX11_even : MOk mX11_even := mok_of (by decide +kernel)
def mX11_better : MD := (yX11_better, cX11_better, 9, some .int, [(0, .iload_n 1, 1), (1, .invokestatic 276, 3), (4, .ifCond .eq 14, 3), (7, .aload_n 0, 1), (8, .getfield 10, 3), (11, .getfield 109, 3), (14, .iconst 2, 1), (15, .if_icmp .ge 5, 3), (18, .iconst (-1), 1), (19, .ireturn, 1), (20, .aload_n 0, 1), (21, .getfield 10, 3), (24, .getfield 106, 3), (27, .iconst 4, 1), (28, .if_icmp .gt 15, 3), (31, .aload_n 0, 1), (32, .getfield 10, 3), (35, .getfield 109, 3), (38, .bipush 12, 2), (40, .if_icmp .le 6, 3), (43, .bipush (-3), 2), (45, .ireturn, 1), (46, .aload_n 0, 1), (47, .iload_n 1, 1), (48, .invokevirtual 282, 3), (51, .istore_n 2, 1), (52, .bipush (-2), 2), (54, .istore_n 3, 1), (55, .iconst (-1), 1), (56, .istore 4, 2), (58, .iconst (-1), 1), (59, .istore 5, 2), (61, .iconst 0, 1), (62, .istore 6, 2), (64, .iload 6, 2), (66, .aload_n 0, 1), (67, .getfield 10, 3), (70, .getfield 109, 3), (73, .if_icmp .ge 78, 3), (76, .iload 6, 2), (78, .iconst 1, 1), (79, .iadd, 1), (80, .istore 7, 2), (82, .iload 7, 2), (84, .aload_n 0, 1), (85, .getfield 10, 3), (88, .getfield 109, 3), (91, .if_icmp .ge 54, 3), (94, .aload_n 0, 1), (95, .aload_n 0, 1), (96, .getfield 51, 3), (99, .getfield 279, 3), (102, .iload_n 1, 1), (103, .laload, 1), (104, .iload 6, 2), (106, .iload 7, 2), (108, .invokevirtual 314, 3), (111, .istore 8, 2), (113, .iload 8, 2), (115, .ifCond .lt 24, 3), (118, .iload_n 3, 1), (119, .ifCond .lt 9, 3), (122, .iload 8, 2), (124, .iload_n 3, 1), (125, .if_icmp .ge 14, 3), (128, .iload 8, 2), (130, .istore_n 3, 1), (131, .iload 6, 2), (133, .istore 4, 2), (135, .iload 7, 2), (137, .istore 5, 2), (139, .iinc 7 1, 3), (142, .goto (-60), 3), (145, .iinc 6 1, 3), (148, .goto (-84), 3), (151, .iload_n 3, 1), (152, .ifCond .lt 39, 3), (155, .aload_n 0, 1), (156, .getfield 35, 3), (159, .invokevirtual 205, 3), (162, .aload_n 0, 1), (163, .getfield 35, 3), (166, .iload 4, 2), (168, .i2l, 1), (169, .invokevirtual 211, 3), (172, .aload_n 0, 1), (173, .getfield 35, 3), (176, .iload 5, 2), (178, .i2l, 1), (179, .invokevirtual 211, 3), (182, .aload_n 0, 1), (183, .getfield 35, 3), (186, .iload_n 2, 1), (187, .i2l, 1), (188, .invokevirtual 211, 3), (191, .iload_n 3, 1), (192, .ireturn, 1)])
set_option maxRecDepth 100000 in
theorem okX11_better : MOk mX11_better := mok_of (by decide +kernel)
def mX11_faults : MD := (yX11_faults, cX11_faults, 1, some .int, [(0, .aload_n 0, 1), (1, .getfield 35, 3), (4, .invokevirtual 205, 3), (7, .aload_n 0, 1), (8, .getfield 35, 3), (11, .aload_n 0, 1), (12, .getfield 78, 3), (15, .invokevirtual 318, 3), (18, .i2l, 1), (19, .invokevirtual 211, 3), (22, .aload_n 0, 1), (23, .getfield 35, 3), (26, .aload_n 0, 1), (27, .getfield 78, 3), (30, .invokevirtual 321, 3), (33, .i2l, 1), (34, .invokevirtual 211, 3), (37, .aload_n 0, 1), (38, .getfield 78, 3), (41, .invokevirtual 324, 3), (44, .ireturn, 1)])
set_option maxRecDepth 100000 in
theorem okX11_faults : MOk mX11_faults := mok_of (by decide +kernel)
def mX11_fault : MD := (yX11_fault, cX11_fault, 3, some .int, [(0, .aload_n 0, 1), (1, .getfield 78, 3), (4, .iload_n 1, 1), (5, .invokevirtual 326, 3), (8, .ifCond .eq 12, 3), (11, .iload_n 2, 1), (12, .ifCond .lt 8, 3), (15, .iload_n 2, 1), (16, .iconst 2, 1), (17, .if_icmp .le 11, 3), (20, .new 139, 3), (23, .dup, 1), (24, .invokespecial 141, 3), (27, .athrow, 1), (28, .iload_n 2, 1), (29, .ifCond .ne 12, 3), (32, .aload_n 0, 1), (33, .getfield 78, 3), (36, .iload_n 1, 1), (37, .invokevirtual 329, 3), (40, .ireturn, 1), (41, .iload_n 2, 1), (42, .iconst 1, 1), (43, .if_icmp .ne 14, 3), (46, .aload_n 0, 1), (47, .getfield 78, 3), (50, .iload_n 1, 1), (51, .invokevirtual 332, 3), (54, .goto 11, 3), (57, .aload_n 0, 1), (58, .getfield 78, 3), (61, .iload_n 1, 1), (62, .invokevirtual 335, 3), (65, .ireturn, 1)])
set_option maxRecDepth 100000 in
theorem okX11_fault : MOk mX11_fault := mok_of (by decide +kernel)
def mX11_would : MD := (yX11_would, cX11_would, 4, some .long, [(0, .aload_n 0, 1), (1, .getfield 78, 3), (4, .iload_n 1, 1), (5, .invokevirtual 326, 3), (8, .ifCond .eq 15, 3), (11, .aload_n 0, 1), (12, .getfield 10, 3), (15, .iload_n 2, 1), (16, .iload_n 3, 1), (17, .invokevirtual 177, 3), (20, .ifCond .ne 7, 3), (23, .ldc2_w 199, 3), (26, .lreturn, 1), (27, .aload_n 0, 1), (28, .getfield 78, 3), (31, .iload_n 1, 1), (32, .iload_n 2, 1), (33, .iload_n 3, 1), (34, .invokevirtual 338, 3), (37, .lreturn, 1)])
set_option maxRecDepth 100000 in
theorem okX11_would : MOk mX11_would := mok_of (by decide +kernel)
def mX11_tells : MD := (yX11_tells, cX11_tells, 5, some .int, [(0, .aload_n 0, 1), (1, .getfield 78, 3), (4, .iload_n 1, 1), (5, .invokevirtual 326, 3), (8, .ifCond .ne 5, 3), (11, .iconst (-1), 1), (12, .ireturn, 1), (13, .aload_n 0, 1), (14, .invokevirtual 241, 3), (17, .ifCond .ne 6, 3), (20, .bipush (-3), 2), (22, .ireturn, 1), (23, .aload_n 0, 1), (24, .getfield 35, 3), (27, .invokevirtual 205, 3), (30, .iconst 0, 1), (31, .istore_n 2, 1), (32, .aload_n 0, 1), (33, .getfield 78, 3), (36, .iconst 0, 1), (37, .iload_n 1, 1), (38, .iconst 0, 1), (39, .invokevirtual 342, 3), (42, .istore_n 3, 1), (43, .iconst 0, 1), (44, .istore 4, 2), (46, .iload 4, 2), (48, .sipush 2187, 3), (51, .if_icmp .ge 43, 3), (54, .iload_n 3, 1), (55, .iconst (-1), 1), (56, .if_icmp .eq 38, 3), (59, .iload_n 2, 1), (60, .ifCond .ne 12, 3), (63, .aload_n 0, 1), (64, .getfield 35, 3), (67, .iload_n 3, 1), (68, .i2l, 1), (69, .invokevirtual 211, 3), (72, .iinc 2 1, 3), (75, .aload_n 0, 1), (76, .getfield 78, 3), (79, .iconst 0, 1), (80, .iload_n 1, 1), (81, .iload_n 3, 1), (82, .iconst 1, 1), (83, .iadd, 1), (84, .invokevirtual 342, 3), (87, .istore_n 3, 1), (88, .iinc 4 1, 3), (91, .goto (-45), 3), (94, .iload_n 2, 1), (95, .ireturn, 1)])
set_option maxRecDepth 100000 in
theorem okX11_tells : MOk mX11_tells := mok_of (by decide +kernel)
def mX11_hidden : MD := (yX11_hidden, cX11_hidden, 3, some .int, [(0, .aload_n 0, 1), (1, .invokevirtual 241, 3), (4, .ifCond .ne 6, 3), (7, .bipush (-3), 2), (9, .ireturn, 1), (10, .aload_n 0, 1), (11, .getfield 35, 3), (14, .invokevirtual 205, 3), (17, .iconst 0, 1), (18, .istore_n 1, 1), (19, .iconst 1, 1), (20, .istore_n 2, 1), (21, .iload_n 2, 1), (22, .aload_n 0, 1), (23, .getfield 78, 3), (26, .invokevirtual 324, 3), (29, .if_icmp .ge 41, 3), (32, .aload_n 0, 1), (33, .getfield 78, 3), (36, .iconst 0, 1), (37, .iload_n 2, 1), (38, .iconst 0, 1), (39, .invokevirtual 342, 3), (42, .iconst (-1), 1), (43, .if_icmp .ne 21, 3), (46, .iload_n 1, 1), (47, .bipush 8, 2), (49, .if_icmp .ge 12, 3), (52, .aload_n 0, 1), (53, .getfield 35, 3), (56, .iload_n 2, 1), (57, .i2l, 1), (58, .invokevirtual 211, 3), (61, .iinc 1 1, 3), (64, .iinc 2 1, 3), (67, .goto (-46), 3), (70, .iload_n 1, 1), (71, .ireturn, 1)])
set_option maxRecDepth 100000 in
theorem okX11_hidden : MOk mX11_hidden := mok_of (by decide +kernel)
def mX11_alike : MD := (yX11_alike, cX11_alike, 4, some .int, [(0, .aload_n 0, 1), (1, .getfield 78, 3), (4, .iload_n 1, 1), (5, .invokevirtual 326, 3), (8, .ifCond .eq 14, 3), (11, .aload_n 0, 1), (12, .getfield 78, 3), (15, .iload_n 2, 1), (16, .invokevirtual 326, 3), (19, .ifCond .ne 5, 3), (22, .iconst (-1), 1), (23, .ireturn, 1), (24, .aload_n 0, 1), (25, .invokevirtual 241, 3), (28, .ifCond .ne 6, 3), (31, .bipush (-3), 2), (33, .ireturn, 1), (34, .aload_n 0, 1), (35, .getfield 78, 3), (38, .iload_n 1, 1), (39, .iload_n 2, 1), (40, .iconst 0, 1), (41, .invokevirtual 342, 3), (44, .istore_n 3, 1), (45, .iload_n 3, 1), (46, .iconst (-1), 1), (47, .if_icmp .ne 5, 3), (50, .iconst 1, 1), (51, .ireturn, 1), (52, .aload_n 0, 1), (53, .getfield 35, 3), (56, .invokevirtual 205, 3), (59, .aload_n 0, 1), (60, .getfield 35, 3), (63, .iload_n 3, 1), (64, .i2l, 1), (65, .invokevirtual 211, 3), (68, .iconst 0, 1), (69, .ireturn, 1)])
set_option maxRecDepth 100000 in
theorem okX11_alike : MOk mX11_alike := mok_of (by decide +kernel)
def mX11_seen : MD := (yX11_seen, cX11_seen, 5, some .int, [(0, .aload_n 0, 1), (1, .getfield 10, 3), (4, .iload_n 1, 1), (5, .iload_n 2, 1), (6, .invokevirtual 177, 3), (9, .ifCond .eq 14, 3), (12, .aload_n 0, 1), (13, .getfield 10, 3), (16, .lload_n 3, 1), (17, .invokevirtual 237, 3), (20, .ifCond .ne 5, 3), (23, .iconst (-1), 1), (24, .ireturn, 1), (25, .aload_n 0, 1), (26, .getfield 51, 3), (29, .iload_n 1, 1), (30, .iload_n 2, 1), (31, .lload_n 3, 1), (32, .invokevirtual 345, 3), (35, .ifCond .eq 13, 3), (38, .aload_n 0, 1), (39, .getfield 51, 3), (42, .getfield 349, 3), (45, .goto 4, 3), (48, .iconst (-1), 1), (49, .ireturn, 1)])
set_option maxRecDepth 100000 in
theorem okX11_seen : MOk mX11_seen := mok_of (by decide +kernel)
def mX11_forget : MD := (yX11_forget, cX11_forget, 1, some .int, [(0, .aload_n 0, 1), (1, .getfield 51, 3), (4, .getfield 349, 3), (7, .ifCond .ne 5, 3), (10, .iconst (-1), 1), (11, .ireturn, 1), (12, .aload_n 0, 1), (13, .getfield 51, 3), (16, .dup, 1), (17, .getfield 349, 3), (20, .iconst 1, 1), (21, .isub, 1), (22, .putfield 349, 3), (25, .aload_n 0, 1), (26, .getfield 51, 3), (29, .getfield 349, 3), (32, .ireturn, 1)])
set_option maxRecDepth 100000 in
theorem okX11_forget : MOk mX11_forget := mok_of (by decide +kernel)
def mX11_which : MD := (yX11_which, cX11_which, 2, some .int, [(0, .aload_n 0, 1), (1, .getfield 78, 3), (4, .invokevirtual 352, 3), (7, .aload_n 0, 1), (8, .getfield 35, 3), (11, .invokevirtual 205, 3), (14, .iconst 0, 1), (15, .istore_n 1, 1), (16, .iload_n 1, 1), (17, .aload_n 0, 1), (18, .getfield 78, 3), (21, .getfield 355, 3), (24, .if_icmp .ge 32, 3), (27, .iload_n 1, 1), (28, .bipush 8, 2), (30, .if_icmp .ge 26, 3), (33, .aload_n 0, 1), (34, .getfield 35, 3), (37, .aload_n 0, 1), (38, .getfield 78, 3), (41, .getfield 358, 3), (44, .iload_n 1, 1), (45, .iaload, 1), (46, .i2l, 1), (47, .invokevirtual 211, 3), (50, .iinc 1 1, 3), (53, .goto (-37), 3), (56, .aload_n 0, 1), (57, .getfield 78, 3), (60, .getfield 355, 3), (63, .ireturn, 1)])
set_option maxRecDepth 100000 in
theorem okX11_which : MOk mX11_which := mok_of (by decide +kernel)
def mX11_judge : MD := (yX11_judge, cX11_judge, 2, some .int, [(0, .aload_n 0, 1), (1, .getfield 78, 3), (4, .iload_n 1, 1), (5, .invokevirtual 326, 3), (8, .ifCond .eq 14, 3), (11, .aload_n 0, 1), (12, .getfield 78, 3), (15, .iload_n 1, 1), (16, .invokevirtual 361, 3), (19, .goto 4, 3), (22, .iconst (-1), 1), (23, .ireturn, 1)])
set_option maxRecDepth 100000 in
theorem okX11_judge : MOk mX11_judge := mok_of (by decide +kernel)
def mX11_next : MD := (yX11_next, cX11_next, 5, some .int, [(0, .aload_n 0, 1), (1, .invokevirtual 241, 3), (4, .ifCond .ne 6, 3), (7, .bipush (-3), 2), (9, .ireturn, 1), (10, .aload_n 0, 1), (11, .getfield 78, 3), (14, .invokevirtual 352, 3), (17, .aload_n 0, 1), (18, .getfield 78, 3), (21, .getfield 355, 3), (24, .ifCond .ne 6, 3), (27, .bipush (-2), 2), (29, .ireturn, 1), (30, .aload_n 0, 1), (31, .getfield 78, 3), (34, .getfield 355, 3), (37, .iconst 1, 1), (38, .iadd, 1), (39, .istore_n 1, 1), (40, .iconst (-1), 1), (41, .istore_n 2, 1), (42, .iconst 0, 1), (43, .istore_n 3, 1), (44, .iload_n 3, 1), (45, .aload_n 0, 1), (46, .getfield 60, 3), (49, .getfield 245, 3), (52, .if_icmp .ge 36, 3), (55, .iload_n 1, 1), (56, .iconst 1, 1), (57, .if_icmp .le 31, 3), (60, .aload_n 0, 1), (61, .getfield 78, 3), (64, .iload_n 3, 1), (65, .iload_n 1, 1), (66, .invokevirtual 364, 3), (69, .istore 4, 2), (71, .iload 4, 2), (73, .iload_n 1, 1), (74, .if_icmp .ge 8, 3), (77, .iload 4, 2), (79, .istore_n 1, 1), (80, .iload_n 3, 1), (81, .istore_n 2, 1), (82, .iinc 3 1, 3), (85, .goto (-41), 3), (88, .aload_n 0, 1), (89, .getfield 35, 3), (92, .invokevirtual 205, 3), (95, .aload_n 0, 1), (96, .getfield 35, 3), (99, .iload_n 2, 1), (100, .i2l, 1), (101, .invokevirtual 211, 3), (104, .iload_n 1, 1), (105, .ireturn, 1)])
set_option maxRecDepth 100000 in
theorem okX11_next : MOk mX11_next := mok_of (by decide +kernel)
def mX11_test : MD := (yX11_test, cX11_test, 3, some .int, [(0, .aload_n 0, 1), (1, .getfield 10, 3), (4, .iload_n 1, 1), (5, .iload_n 2, 1), (6, .invokevirtual 177, 3), (9, .ifCond .ne 5, 3), (12, .iconst (-1), 1), (13, .ireturn, 1), (14, .aload_n 0, 1), (15, .getfield 87, 3), (18, .iload_n 1, 1), (19, .iload_n 2, 1), (20, .invokevirtual 367, 3), (23, .ifCond .eq 15, 3), (26, .aload_n 0, 1), (27, .getfield 87, 3), (30, .getfield 370, 3), (33, .iconst 1, 1), (34, .isub, 1), (35, .goto 4, 3), (38, .iconst (-1), 1), (39, .ireturn, 1)])
set_option maxRecDepth 100000 in
theorem okX11_test : MOk mX11_test := mok_of (by decide +kernel)
def mX11_tree : MD := (yX11_tree, cX11_tree, 1, some .int, [(0, .aload_n 0, 1), (1, .getfield 78, 3), (4, .invokevirtual 352, 3), (7, .aload_n 0, 1), (8, .getfield 78, 3), (11, .getfield 355, 3), (14, .ifCond .ne 6, 3), (17, .bipush (-2), 2), (19, .ireturn, 1), (20, .aload_n 0, 1), (21, .getfield 87, 3), (24, .invokevirtual 373, 3), (27, .aload_n 0, 1), (28, .getfield 35, 3), (31, .invokevirtual 205, 3), (34, .aload_n 0, 1), (35, .getfield 35, 3), (38, .aload_n 0, 1), (39, .getfield 87, 3), (42, .iconst 0, 1), (43, .iconst 0, 1), (44, .invokevirtual 376, 3), (47, .i2l, 1), (48, .invokevirtual 211, 3), (51, .aload_n 0, 1), (52, .getfield 35, 3), (55, .aload_n 0, 1), (56, .getfield 87, 3), (59, .getfield 379, 3), (62, .i2l, 1), (63, .invokevirtual 211, 3), (66, .aload_n 0, 1), (67, .getfield 87, 3), (70, .iconst 0, 1), (71, .iconst 0, 1), (72, .invokevirtual 382, 3), (75, .ireturn, 1)])
set_option maxRecDepth 100000 in
theorem okX11_tree : MOk mX11_tree := mok_of (by decide +kernel)
def mX11_path : MD := (yX11_path, cX11_path, 7, some .int, [(0, .aload_n 0, 1), (1, .getfield 78, 3), (4, .iload_n 1, 1), (5, .invokevirtual 326, 3), (8, .ifCond .eq 16, 3), (11, .aload_n 0, 1), (12, .getfield 78, 3), (15, .iload_n 1, 1), (16, .invokevirtual 361, 3), (19, .bipush (-2), 2), (21, .if_icmp .eq 5, 3), (24, .iconst (-1), 1), (25, .ireturn, 1), (26, .aload_n 0, 1), (27, .getfield 78, 3), (30, .invokevirtual 352, 3), (33, .aload_n 0, 1), (34, .getfield 87, 3), (37, .invokevirtual 373, 3), (40, .aload_n 0, 1), (41, .getfield 35, 3), (44, .invokevirtual 205, 3), (47, .aload_n 0, 1), (48, .getfield 87, 3), (51, .iload_n 1, 1), (52, .invokevirtual 385, 3), (55, .istore_n 2, 1), (56, .iconst 0, 1), (57, .istore_n 3, 1), (58, .iconst 0, 1), (59, .istore 4, 2), (61, .aload_n 0, 1), (62, .getfield 87, 3), (65, .iconst 0, 1), (66, .iload_n 2, 1), (67, .invokevirtual 376, 3), (70, .istore 5, 2), (72, .iconst 0, 1), (73, .istore 6, 2), (75, .iload 6, 2), (77, .bipush 8, 2), (79, .if_icmp .ge 46, 3), (82, .iload 5, 2), (84, .iconst (-1), 1), (85, .if_icmp .eq 40, 3), (88, .aload_n 0, 1), (89, .getfield 35, 3), (92, .iload 5, 2), (94, .i2l, 1), (95, .invokevirtual 211, 3), (98, .iinc 4 1, 3), (101, .iload_n 3, 1), (102, .iconst 1, 1), (103, .iload 5, 2), (105, .ishl, 1), (106, .ior, 1), (107, .istore_n 3, 1), (108, .aload_n 0, 1), (109, .getfield 87, 3), (112, .iload_n 3, 1), (113, .iload_n 2, 1), (114, .invokevirtual 376, 3), (117, .istore 5, 2), (119, .iinc 6 1, 3), (122, .goto (-47), 3), (125, .aload_n 0, 1), (126, .getfield 35, 3), (129, .aload_n 0, 1), (130, .getfield 87, 3), (133, .iload_n 2, 1), (134, .invokevirtual 388, 3), (137, .i2l, 1), (138, .invokevirtual 211, 3), (141, .iload 4, 2), (143, .ireturn, 1)])
set_option maxRecDepth 100000 in
theorem okX11_path : MOk mX11_path := mok_of (by decide +kernel)
def mX11_keep : MD := (yX11_keep, cX11_keep, 2, some .boolean, [(0, .iload_n 1, 1), (1, .ifCond .lt 12, 3), (4, .iload_n 1, 1), (5, .aload_n 0, 1), (6, .getfield 94, 3), (9, .arraylength, 1), (10, .if_icmp .lt 5, 3), (13, .iconst 0, 1), (14, .ireturn, 1), (15, .aload_n 0, 1), (16, .getfield 94, 3), (19, .iload_n 1, 1), (20, .aaload, 1), (21, .aload_n 0, 1), (22, .getfield 10, 3), (25, .aload_n 0, 1), (26, .getfield 51, 3), (29, .invokevirtual 391, 3), (32, .iconst 1, 1), (33, .ireturn, 1)])
set_option maxRecDepth 100000 in
theorem okX11_keep : MOk mX11_keep := mok_of (by decide +kernel)
def mX11_again : MD := (yX11_again, cX11_again, 2, some .boolean, [(0, .iload_n 1, 1), (1, .ifCond .lt 24, 3), (4, .iload_n 1, 1), (5, .aload_n 0, 1), (6, .getfield 94, 3), (9, .arraylength, 1), (10, .if_icmp .ge 15, 3), (13, .aload_n 0, 1), (14, .getfield 94, 3), (17, .iload_n 1, 1), (18, .aaload, 1), (19, .getfield 395, 3), (22, .ifCond .ne 5, 3), (25, .iconst 0, 1), (26, .ireturn, 1), (27, .aload_n 0, 1), (28, .getfield 94, 3), (31, .iload_n 1, 1), (32, .aaload, 1), (33, .aload_n 0, 1), (34, .getfield 10, 3), (37, .aload_n 0, 1), (38, .getfield 51, 3), (41, .invokevirtual 398, 3), (44, .aload_n 0, 1), (45, .getfield 60, 3), (48, .iconst 0, 1), (49, .putfield 123, 3), (52, .iconst 1, 1), (53, .ireturn, 1)])
set_option maxRecDepth 100000 in
theorem okX11_again : MOk mX11_again := mok_of (by decide +kernel)
def mX11_count : MD := (yX11_count, cX11_count, 2, some .int, [(0, .iload_n 1, 1), (1, .tableswitch 123 0 8 #[51, 59, 67, 75, 83, 91, 99, 107, 115], 51), (52, .aload_n 0, 1), (53, .getfield 10, 3), (56, .getfield 106, 3), (59, .ireturn, 1), (60, .aload_n 0, 1), (61, .getfield 10, 3), (64, .getfield 109, 3), (67, .ireturn, 1), (68, .aload_n 0, 1), (69, .getfield 10, 3), (72, .getfield 127, 3), (75, .ireturn, 1), (76, .aload_n 0, 1), (77, .getfield 51, 3), (80, .getfield 180, 3), (83, .ireturn, 1), (84, .aload_n 0, 1), (85, .getfield 51, 3), (88, .getfield 183, 3), (91, .ireturn, 1), (92, .aload_n 0, 1), (93, .getfield 51, 3), (96, .getfield 349, 3), (99, .ireturn, 1), (100, .aload_n 0, 1), (101, .getfield 87, 3), (104, .getfield 370, 3), (107, .ireturn, 1), (108, .aload_n 0, 1), (109, .getfield 35, 3), (112, .getfield 401, 3), (115, .ireturn, 1), (116, .aload_n 0, 1), (117, .getfield 19, 3), (120, .getfield 102, 3), (123, .ireturn, 1), (124, .iconst (-1), 1), (125, .ireturn, 1)])
set_option maxRecDepth 100000 in
theorem okX11_count : MOk mX11_count := mok_of (by decide +kernel)
def mX11_row : MD := (yX11_row, cX11_row, 2, some .long, [(0, .iload_n 1, 1), (1, .ifCond .lt 14, 3), (4, .iload_n 1, 1), (5, .aload_n 0, 1), (6, .getfield 35, 3), (9, .getfield 401, 3), (12, .if_icmp .lt 11, 3), (15, .new 139, 3), (18, .dup, 1), (19, .invokespecial 141, 3), (22, .athrow, 1), (23, .aload_n 0, 1), (24, .getfield 35, 3), (27, .getfield 402, 3), (30, .iload_n 1, 1), (31, .laload, 1), (32, .lreturn, 1)])
set_option maxRecDepth 100000 in
theorem okX11_row : MOk mX11_row := mok_of (by decide +kernel)
def mX11_takeLine : MD := (yX11_takeLine, cX11_takeLine, 5, none, [(0, .aload_n 0, 1), (1, .getfield 28, 3), (4, .getfield 405, 3), (7, .iload_n 1, 1), (8, .iaload, 1), (9, .istore_n 2, 1), (10, .aload_n 0, 1), (11, .getfield 28, 3), (14, .getfield 408, 3), (17, .iload_n 1, 1), (18, .iaload, 1), (19, .istore_n 3, 1), (20, .iload_n 2, 1), (21, .ifCond .ne 59, 3), (24, .aload_n 0, 1), (25, .getfield 10, 3), (28, .iload_n 3, 1), (29, .invokevirtual 410, 3), (32, .aload_n 0, 1), (33, .getfield 51, 3), (36, .invokevirtual 413, 3), (39, .aload_n 0, 1), (40, .getfield 87, 3), (43, .iconst 0, 1), (44, .putfield 370, 3), (47, .iconst 0, 1), (48, .istore 4, 2), (50, .iload 4, 2), (52, .aload_n 0, 1), (53, .getfield 94, 3), (56, .arraylength, 1), (57, .if_icmp .ge 20, 3), (60, .aload_n 0, 1), (61, .getfield 94, 3), (64, .iload 4, 2), (66, .aaload, 1), (67, .iconst 0, 1), (68, .putfield 395, 3), (71, .iinc 4 1, 3), (74, .goto (-24), 3), (77, .goto 54, 3), (80, .iload_n 2, 1), (81, .iconst 1, 1), (82, .if_icmp .ne 23, 3), (85, .aload_n 0, 1), (86, .getfield 10, 3), (89, .aload_n 0, 1), (90, .getfield 28, 3), (93, .getfield 414, 3), (96, .iload_n 1, 1), (97, .iaload, 1), (98, .iload_n 3, 1), (99, .invokevirtual 417, 3), (102, .goto 29, 3), (105, .aload_n 0, 1), (106, .getfield 10, 3), (109, .aload_n 0, 1), (110, .getfield 28, 3), (113, .getfield 414, 3), (116, .iload_n 1, 1), (117, .iaload, 1), (118, .aload_n 0, 1), (119, .getfield 28, 3), (122, .getfield 420, 3), (125, .iload_n 1, 1), (126, .iaload, 1), (127, .iload_n 3, 1), (128, .invokevirtual 423, 3), (131, .return_, 1)])
set_option maxRecDepth 100000 in
theorem okX11_takeLine : MOk mX11_takeLine := mok_of (by decide +kernel)
def mX11_entryAs : MD := (yX11_entryAs, cX11_entryAs, 2, some .int, [(0, .iload_n 0, 1), (1, .ifCond .ne 6, 3), (4, .iload_n 1, 1), (5, .i2b, 1), (6, .ireturn, 1), (7, .iload_n 0, 1), (8, .iconst 1, 1), (9, .if_icmp .ne 8, 3), (12, .iload_n 1, 1), (13, .i2s, 1), (14, .goto 4, 3), (17, .iload_n 1, 1), (18, .ireturn, 1)])
set_option maxRecDepth 100000 in
theorem okX11_entryAs : MOk mX11_entryAs := mok_of (by decide +kernel)
def mX11_isSearchable : MD := (yX11_isSearchable, cX11_isSearchable, 1, some .boolean, [(0, .aload_n 0, 1), (1, .getfield 10, 3), (4, .getfield 106, 3), (7, .bipush 7, 2), (9, .if_icmp .gt 7, 3), (12, .iconst 1, 1), (13, .goto 4, 3), (16, .iconst 0, 1), (17, .ireturn, 1)])
set_option maxRecDepth 100000 in
theorem okX11_isSearchable : MOk mX11_isSearchable := mok_of (by decide +kernel)
def mX11_openTable : MD := (yX11_openTable, cX11_openTable, 1, some .boolean, [(0, .aload_n 0, 1), (1, .invokevirtual 425, 3), (4, .ifCond .ne 5, 3), (7, .iconst 0, 1), (8, .ireturn, 1), (9, .aload_n 0, 1), (10, .getfield 60, 3), (13, .invokevirtual 428, 3), (16, .iconst 1, 1), (17, .ireturn, 1)])
set_option maxRecDepth 100000 in
theorem okX11_openTable : MOk mX11_openTable := mok_of (by decide +kernel)
def mX11_isPicture : MD := (yX11_isPicture, cX11_isPicture, 1, some .boolean, [(0, .iload_n 0, 1), (1, .ifCond .lt 12, 3), (4, .iload_n 0, 1), (5, .iconst 4, 1), (6, .if_icmp .ge 7, 3), (9, .iconst 1, 1), (10, .goto 4, 3), (13, .iconst 0, 1), (14, .ireturn, 1)])
set_option maxRecDepth 100000 in
theorem okX11_isPicture : MOk mX11_isPicture := mok_of (by decide +kernel)
def mX11_openParting : MD := (yX11_openParting, cX11_openParting, 2, some .int, [(0, .iload_n 1, 1), (1, .invokestatic 276, 3), (4, .ifCond .ne 5, 3), (7, .iconst (-1), 1), (8, .ireturn, 1), (9, .aload_n 0, 1), (10, .invokevirtual 425, 3), (13, .ifCond .ne 6, 3), (16, .bipush (-3), 2), (18, .ireturn, 1), (19, .aload_n 0, 1), (20, .getfield 51, 3), (23, .getfield 279, 3), (26, .iload_n 1, 1), (27, .laload, 1), (28, .invokestatic 190, 3), (31, .bipush 12, 2), (33, .if_icmp .le 6, 3), (36, .bipush (-4), 2), (38, .ireturn, 1), (39, .aload_n 0, 1), (40, .getfield 60, 3), (43, .invokevirtual 428, 3), (46, .aload_n 0, 1), (47, .getfield 69, 3), (50, .aload_n 0, 1), (51, .getfield 51, 3), (54, .getfield 279, 3), (57, .iload_n 1, 1), (58, .laload, 1), (59, .invokevirtual 431, 3), (62, .iconst 0, 1), (63, .ireturn, 1)])
set_option maxRecDepth 100000 in
theorem okX11_openParting : MOk mX11_openParting := mok_of (by decide +kernel)
def mX11_partInto : MD := (yX11_partInto, cX11_partInto, 3, some .int, [(0, .aload_n 0, 1), (1, .iload_n 1, 1), (2, .invokevirtual 292, 3), (5, .istore_n 2, 1), (6, .iload_n 2, 1), (7, .ifCond .eq 7, 3), (10, .iload_n 2, 1), (11, .goto 10, 3), (14, .aload_n 0, 1), (15, .getfield 69, 3), (18, .invokevirtual 434, 3), (21, .ireturn, 1)])
set_option maxRecDepth 100000 in
theorem okX11_partInto : MOk mX11_partInto := mok_of (by decide +kernel)
def mX11_partTraded : MD := (yX11_partTraded, cX11_partTraded, 6, some .int, [(0, .aload_n 0, 1), (1, .getfield 10, 3), (4, .iload_n 3, 1), (5, .iload 4, 2), (7, .invokevirtual 173, 3), (10, .aload_n 0, 1), (11, .getfield 60, 3), (14, .iconst 0, 1), (15, .putfield 123, 3), (18, .aload_n 0, 1), (19, .getfield 60, 3), (22, .invokevirtual 428, 3), (25, .aload_n 0, 1), (26, .getfield 69, 3), (29, .lload_n 1, 1), (30, .invokevirtual 431, 3), (33, .aload_n 0, 1), (34, .getfield 69, 3), (37, .invokevirtual 434, 3), (40, .istore 5, 2), (42, .aload_n 0, 1), (43, .getfield 10, 3), (46, .iload_n 3, 1), (47, .iload 4, 2), (49, .invokevirtual 173, 3), (52, .aload_n 0, 1), (53, .getfield 60, 3), (56, .iconst 0, 1), (57, .putfield 123, 3), (60, .iload 5, 2), (62, .ireturn, 1)])
set_option maxRecDepth 100000 in
theorem okX11_partTraded : MOk mX11_partTraded := mok_of (by decide +kernel)
def mX11_tellTurns : MD := (yX11_tellTurns, cX11_tellTurns, 4, none, [(0, .aload_n 0, 1), (1, .getfield 35, 3), (4, .invokevirtual 205, 3), (7, .iconst 0, 1), (8, .istore_n 3, 1), (9, .iload_n 3, 1), (10, .iload_n 2, 1), (11, .if_icmp .ge 26, 3), (14, .iload_n 3, 1), (15, .aload_n 1, 1), (16, .arraylength, 1), (17, .if_icmp .ge 20, 3), (20, .aload_n 0, 1), (21, .getfield 35, 3), (24, .aload_n 1, 1), (25, .iload_n 3, 1), (26, .iaload, 1), (27, .i2l, 1), (28, .invokevirtual 211, 3), (31, .iinc 3 1, 3), (34, .goto (-25), 3), (37, .return_, 1)])
set_option maxRecDepth 100000 in
theorem okX11_tellTurns : MOk mX11_tellTurns := mok_of (by decide +kernel)
def mX11_settingsOf : MD := (yX11_settingsOf, cX11_settingsOf, 3, some .int, [(0, .iconst 1, 1), (1, .istore_n 1, 1), (2, .iconst 0, 1), (3, .istore_n 2, 1), (4, .iload_n 2, 1), (5, .iload_n 0, 1), (6, .if_icmp .ge 13, 3), (9, .iload_n 1, 1), (10, .iconst 3, 1), (11, .imul, 1), (12, .istore_n 1, 1), (13, .iinc 2 1, 3), (16, .goto (-12), 3), (19, .iload_n 1, 1), (20, .ireturn, 1)])
set_option maxRecDepth 100000 in
theorem okX11_settingsOf : MOk mX11_settingsOf := mok_of (by decide +kernel)
def mX11_wiresThatAre : MD := (yX11_wiresThatAre, cX11_wiresThatAre, 6, some .int, [(0, .iload_n 1, 1), (1, .istore_n 3, 1), (2, .iconst 0, 1), (3, .istore 4, 2), (5, .iload_n 2, 1), (6, .iconst 1, 1), (7, .isub, 1), (8, .istore 5, 2), (10, .iload 5, 2), (12, .ifCond .lt 29, 3), (15, .iload_n 3, 1), (16, .iconst 3, 1), (17, .irem, 1), (18, .iload_n 0, 1), (19, .if_icmp .ne 12, 3), (22, .iload 4, 2), (24, .iconst 1, 1), (25, .iload 5, 2), (27, .ishl, 1), (28, .ior, 1), (29, .istore 4, 2), (31, .iload_n 3, 1), (32, .iconst 3, 1), (33, .idiv, 1), (34, .istore_n 3, 1), (35, .iinc 5 (-1), 3), (38, .goto (-28), 3), (41, .iload 4, 2), (43, .ireturn, 1)])
set_option maxRecDepth 100000 in
theorem okX11_wiresThatAre : MOk mX11_wiresThatAre := mok_of (by decide +kernel)
def mX12_init : MD := (yX12_init, cX12_init, 2, none, [(0, .aload_n 0, 1), (1, .invokespecial 3, 3), (4, .aload_n 0, 1), (5, .iconst 4, 1), (6, .putfield 9, 3), (9, .aload_n 0, 1), (10, .bipush 60, 2), (12, .newarray .int, 2), (14, .putfield 13, 3), (17, .aload_n 0, 1), (18, .bipush 60, 2), (20, .newarray .int, 2), (22, .putfield 17, 3), (25, .aload_n 0, 1), (26, .bipush 60, 2), (28, .newarray .int, 2), (30, .putfield 20, 3), (33, .aload_n 0, 1), (34, .bipush 10, 2), (36, .newarray .int, 2), (38, .putfield 23, 3), (41, .aload_n 0, 1), (42, .iconst 3, 1), (43, .newarray .int, 2), (45, .dup, 1), (46, .iconst 0, 1), (47, .iconst 5, 1), (48, .iastore, 1), (49, .dup, 1), (50, .iconst 1, 1), (51, .iconst 2, 1), (52, .iastore, 1), (53, .dup, 1), (54, .iconst 2, 1), (55, .iconst 0, 1), (56, .iastore, 1), (57, .putfield 26, 3), (60, .aload_n 0, 1), (61, .bipush 80, 2), (63, .newarray .byte, 2), (65, .putfield 29, 3), (68, .aload_n 0, 1), (69, .sipush 210, 3), (72, .newarray .long, 2), (74, .putfield 33, 3), (77, .aload_n 0, 1), (78, .sipush 320, 3), (81, .newarray .int, 2), (83, .putfield 37, 3), (86, .aload_n 0, 1), (87, .bipush 11, 2), (89, .newarray .int, 2), (91, .putfield 40, 3), (94, .aload_n 0, 1), (95, .bipush 60, 2), (97, .newarray .int, 2), (99, .putfield 43, 3), (102, .aload_n 0, 1), (103, .bipush 60, 2), (105, .newarray .int, 2), (107, .putfield 46, 3), (110, .aload_n 0, 1), (111, .bipush 60, 2), (113, .newarray .long, 2), (115, .putfield 49, 3), (118, .aload_n 0, 1), (119, .bipush 60, 2), (121, .newarray .int, 2), (123, .putfield 52, 3), (126, .aload_n 0, 1), (127, .bipush 60, 2), (129, .newarray .long, 2), (131, .putfield 55, 3), (134, .aload_n 0, 1), (135, .bipush 10, 2), (137, .newarray .long, 2), (139, .putfield 58, 3), (142, .aload_n 0, 1), (143, .iconst 3, 1), (144, .newarray .int, 2), (146, .putfield 61, 3), (149, .aload_n 0, 1), (150, .iconst (-1), 1), (151, .putfield 64, 3), (154, .aload_n 0, 1), (155, .iconst 3, 1), (156, .newarray .int, 2), (158, .putfield 67, 3), (161, .aload_n 0, 1), (162, .sipush 2187, 3), (165, .newarray .long, 2), (167, .putfield 70, 3), (170, .aload_n 0, 1), (171, .sipush 2187, 3), (174, .newarray .boolean, 2), (176, .putfield 73, 3), (179, .aload_n 0, 1), (180, .iconst 4, 1), (181, .newarray .long, 2), (183, .putfield 77, 3), (186, .aload_n 0, 1), (187, .bipush 12, 2), (189, .newarray .int, 2), (191, .putfield 80, 3), (194, .aload_n 0, 1), (195, .sipush 2187, 3), (198, .newarray .int, 2), (200, .putfield 83, 3), (203, .aload_n 0, 1), (204, .sipush 4096, 3), (207, .newarray .int, 2), (209, .putfield 86, 3), (212, .aload_n 0, 1), (213, .sipush 4096, 3), (216, .newarray .int, 2), (218, .putfield 89, 3), (221, .aload_n 0, 1), (222, .sipush 26244, 3), (225, .newarray .int, 2), (227, .putfield 92, 3), (230, .aload_n 0, 1), (231, .bipush 12, 2), (233, .newarray .int, 2), (235, .putfield 95, 3), (238, .aload_n 0, 1), (239, .bipush 12, 2), (241, .newarray .int, 2), (243, .putfield 98, 3), (246, .aload_n 0, 1), (247, .bipush 6, 2), (249, .newarray .int, 2), (251, .putfield 101, 3), (254, .aload_n 0, 1), (255, .bipush 6, 2), (257, .newarray .int, 2), (259, .putfield 104, 3), (262, .aload_n 0, 1), (263, .sipush 144, 3), (266, .newarray .long, 2), (268, .putfield 107, 3), (271, .aload_n 0, 1), (272, .bipush 12, 2), (274, .newarray .int, 2), (276, .putfield 110, 3), (279, .aload_n 0, 1), (280, .sipush 2187, 3), (283, .newarray .long, 2), (285, .putfield 113, 3), (288, .aload_n 0, 1), (289, .bipush 12, 2), (291, .newarray .int, 2), (293, .putfield 116, 3), (296, .aload_n 0, 1), (297, .bipush 12, 2), (299, .newarray .int, 2), (301, .putfield 119, 3), (304, .aload_n 0, 1), (305, .bipush 12, 2), (307, .newarray .long, 2), (309, .putfield 122, 3), (312, .aload_n 0, 1), (313, .bipush 116, 2), (315, .newarray .int, 2), (317, .putfield 125, 3), (320, .aload_n 0, 1), (321, .ldc 128, 2), (323, .newarray .long, 2), (325, .putfield 129, 3), (328, .aload_n 0, 1), (329, .bipush 8, 2), (331, .newarray .int, 2), (333, .putfield 132, 3), (336, .aload_n 0, 1), (337, .bipush 8, 2), (339, .newarray .int, 2), (341, .putfield 135, 3), (344, .aload_n 0, 1), (345, .sipush 928, 3), (348, .newarray .long, 2), (350, .putfield 138, 3), (353, .aload_n 0, 1), (354, .sipush 29696, 3), (357, .newarray .int, 2), (359, .putfield 141, 3), (362, .aload_n 0, 1), (363, .sipush 29696, 3), (366, .newarray .int, 2), (368, .putfield 144, 3), (371, .aload_n 0, 1), (372, .sipush 416, 3), (375, .newarray .int, 2), (377, .putfield 147, 3), (380, .aload_n 0, 1), (381, .bipush 32, 2), (383, .newarray .long, 2), (385, .putfield 150, 3), (388, .aload_n 0, 1), (389, .iconst 2, 1), (390, .newarray .boolean, 2), (392, .putfield 153, 3), (395, .aload_n 0, 1), (396, .iconst 2, 1), (397, .newarray .int, 2), (399, .putfield 156, 3), (402, .iconst 0, 1), (403, .istore_n 1, 1), (404, .iload_n 1, 1), (405, .bipush 10, 2), (407, .if_icmp .ge 16, 3), (410, .aload_n 0, 1), (411, .getfield 23, 3), (414, .iload_n 1, 1), (415, .iconst 1, 1), (416, .iastore, 1), (417, .iinc 1 1, 3), (420, .goto (-16), 3), (423, .return_, 1)])
set_option maxRecDepth 100000 in
theorem okX12_init : MOk mX12_init := mok_of (by decide +kernel)
def mX12_thrown : MD := (yX12_thrown, cX12_thrown, 1, some .int, [(0, .aload_n 0, 1), (1, .getfield 159, 3), (4, .ireturn, 1)])
set_option maxRecDepth 100000 in
theorem okX12_thrown : MOk mX12_thrown := mok_of (by decide +kernel)
def mX12_in : MD := (yX12_in, cX12_in, 6, some .boolean, [(0, .lload_n 0, 1), (1, .lload_n 2, 1), (2, .lcmp, 1), (3, .ifCond .lt 14, 3), (6, .lload_n 0, 1), (7, .lload 4, 2), (9, .lcmp, 1), (10, .ifCond .gt 7, 3), (13, .iconst 1, 1), (14, .goto 4, 3), (17, .iconst 0, 1), (18, .ireturn, 1)])
set_option maxRecDepth 100000 in
theorem okX12_in : MOk mX12_in := mok_of (by decide +kernel)
def mX12_has : MD := (yX12_has, cX12_has, 3, some .boolean, [(0, .lload_n 0, 1), (1, .iload_n 2, 1), (2, .lshr, 1), (3, .lconst 1, 1), (4, .land, 1), (5, .lconst 1, 1), (6, .lcmp, 1), (7, .ifCond .ne 7, 3), (10, .iconst 1, 1), (11, .goto 4, 3), (14, .iconst 0, 1), (15, .ireturn, 1)])
set_option maxRecDepth 100000 in
theorem okX12_has : MOk mX12_has := mok_of (by decide +kernel)
def mX12_lost : MD := (yX12_lost, cX12_lost, 1, some .int, [(0, .aload_n 0, 1), (1, .iconst 1, 1), (2, .putfield 159, 3), (5, .iconst 0, 1), (6, .ireturn, 1)])
set_option maxRecDepth 100000 in
theorem okX12_lost : MOk mX12_lost := mok_of (by decide +kernel)
def mX12_tell : MD := (yX12_tell, cX12_tell, 3, none, [(0, .aload_n 0, 1), (1, .getfield 33, 3), (4, .aload_n 0, 1), (5, .getfield 162, 3), (8, .lload_n 1, 1), (9, .lastore, 1), (10, .aload_n 0, 1), (11, .dup, 1), (12, .getfield 162, 3), (15, .iconst 1, 1), (16, .iadd, 1), (17, .putfield 162, 3), (20, .return_, 1)])
set_option maxRecDepth 100000 in
theorem okX12_tell : MOk mX12_tell := mok_of (by decide +kernel)
def mX12_isWire : MD := (yX12_isWire, cX12_isWire, 2, some .boolean, [(0, .iload_n 1, 1), (1, .i2l, 1), (2, .lconst 0, 1), (3, .aload_n 0, 1), (4, .getfield 9, 3), (7, .iconst 1, 1), (8, .isub, 1), (9, .i2l, 1), (10, .invokestatic 165, 3), (13, .ireturn, 1)])
set_option maxRecDepth 100000 in
theorem okX12_isWire : MOk mX12_isWire := mok_of (by decide +kernel)
def mX12_isLamp : MD := (yX12_isLamp, cX12_isLamp, 2, some .boolean, [(0, .iload_n 1, 1), (1, .i2l, 1), (2, .lconst 0, 1), (3, .aload_n 0, 1), (4, .getfield 169, 3), (7, .iconst 1, 1), (8, .isub, 1), (9, .i2l, 1), (10, .invokestatic 165, 3), (13, .ireturn, 1)])
set_option maxRecDepth 100000 in
theorem okX12_isLamp : MOk mX12_isLamp := mok_of (by decide +kernel)
def mX12_areLamps : MD := (yX12_areLamps, cX12_areLamps, 3, some .boolean, [(0, .lload_n 1, 1), (1, .lconst 0, 1), (2, .lconst 1, 1), (3, .aload_n 0, 1), (4, .getfield 169, 3), (7, .lshl, 1), (8, .lconst 1, 1), (9, .lsub, 1), (10, .invokestatic 165, 3), (13, .ireturn, 1)])
set_option maxRecDepth 100000 in
theorem okX12_areLamps : MOk mX12_areLamps := mok_of (by decide +kernel)
def mX12_isSetting : MD := (yX12_isSetting, cX12_isSetting, 4, some .boolean, [(0, .iconst 1, 1), (1, .aload_n 0, 1), (2, .getfield 9, 3), (5, .ishl, 1), (6, .iconst 1, 1), (7, .isub, 1), (8, .istore_n 3, 1), (9, .iload_n 1, 1), (10, .i2l, 1), (11, .lconst 0, 1), (12, .iload_n 3, 1), (13, .i2l, 1), (14, .invokestatic 165, 3), (17, .ifCond .eq 24, 3), (20, .iload_n 2, 1), (21, .i2l, 1), (22, .lconst 0, 1), (23, .iload_n 3, 1), (24, .i2l, 1), (25, .invokestatic 165, 3), (28, .ifCond .eq 13, 3), (31, .iload_n 1, 1), (32, .iload_n 2, 1), (33, .iand, 1), (34, .ifCond .ne 7, 3), (37, .iconst 1, 1), (38, .goto 4, 3), (41, .iconst 0, 1), (42, .ireturn, 1)])
set_option maxRecDepth 100000 in
theorem okX12_isSetting : MOk mX12_isSetting := mok_of (by decide +kernel)
def mX12_sign : MD := (yX12_sign, cX12_sign, 3, some .int, [(0, .aload_n 0, 1), (1, .iconst 0, 1), (2, .putfield 159, 3), (5, .aload_n 0, 1), (6, .getfield 172, 3), (9, .iconst 4, 1), (10, .iadd, 1), (11, .bipush 80, 2), (13, .if_icmp .le 5, 3), (16, .iconst (-1), 1), (17, .ireturn, 1), (18, .iconst 3, 1), (19, .istore_n 2, 1), (20, .iload_n 2, 1), (21, .ifCond .lt 32, 3), (24, .aload_n 0, 1), (25, .getfield 29, 3), (28, .aload_n 0, 1), (29, .dup, 1), (30, .getfield 172, 3), (33, .dup_x1, 1), (34, .iconst 1, 1), (35, .iadd, 1), (36, .putfield 172, 3), (39, .iload_n 1, 1), (40, .bipush 8, 2), (42, .iload_n 2, 1), (43, .imul, 1), (44, .ishr, 1), (45, .i2b, 1), (46, .bastore, 1), (47, .iinc 2 (-1), 3), (50, .goto (-30), 3), (53, .aload_n 0, 1), (54, .getfield 172, 3), (57, .ireturn, 1)])
set_option maxRecDepth 100000 in
theorem okX12_sign : MOk mX12_sign := mok_of (by decide +kernel)
def mX12_end : MD := (yX12_end, cX12_end, 2, some .boolean, [(0, .aload_n 0, 1), (1, .iconst 0, 1), (2, .putfield 159, 3), (5, .iload_n 1, 1), (6, .i2l, 1), (7, .lconst 0, 1), (8, .aload_n 0, 1), (9, .getfield 172, 3), (12, .i2l, 1), (13, .invokestatic 165, 3), (16, .ifCond .ne 5, 3), (19, .iconst 0, 1), (20, .ireturn, 1), (21, .aload_n 0, 1), (22, .iload_n 1, 1), (23, .putfield 172, 3), (26, .iconst 1, 1), (27, .ireturn, 1)])
set_option maxRecDepth 100000 in
theorem okX12_end : MOk mX12_end := mok_of (by decide +kernel)
def mX12_here : MD := (yX12_here, cX12_here, 1, some .int, [(0, .aload_n 0, 1), (1, .getfield 175, 3), (4, .aload_n 0, 1), (5, .getfield 178, 3), (8, .if_icmp .ge 24, 3), (11, .aload_n 0, 1), (12, .getfield 175, 3), (15, .bipush 76, 2), (17, .if_icmp .ge 15, 3), (20, .aload_n 0, 1), (21, .getfield 29, 3), (24, .aload_n 0, 1), (25, .getfield 175, 3), (28, .baload, 1), (29, .goto 4, 3), (32, .iconst (-1), 1), (33, .ireturn, 1)])
set_option maxRecDepth 100000 in
theorem okX12_here : MOk mX12_here := mok_of (by decide +kernel)
def mX12_fault : MD := (yX12_fault, cX12_fault, 2, none, [(0, .aload_n 0, 1), (1, .getfield 181, 3), (4, .iconst (-1), 1), (5, .if_icmp .ne 8, 3), (8, .aload_n 0, 1), (9, .iload_n 1, 1), (10, .putfield 181, 3), (13, .return_, 1)])
set_option maxRecDepth 100000 in
theorem okX12_fault : MOk mX12_fault := mok_of (by decide +kernel)
def mX12_passes : MD := (yX12_passes, cX12_passes, 2, some .boolean, [(0, .aload_n 0, 1), (1, .getfield 181, 3), (4, .iconst (-1), 1), (5, .if_icmp .ne 11, 3), (8, .aload_n 0, 1), (9, .invokevirtual 184, 3), (12, .iload_n 1, 1), (13, .if_icmp .eq 5, 3), (16, .iconst 0, 1), (17, .ireturn, 1), (18, .aload_n 0, 1), (19, .dup, 1), (20, .getfield 175, 3), (23, .iconst 1, 1), (24, .iadd, 1), (25, .putfield 175, 3), (28, .iconst 1, 1), (29, .ireturn, 1)])
set_option maxRecDepth 100000 in
theorem okX12_passes : MOk mX12_passes := mok_of (by decide +kernel)
def mX12_need : MD := (yX12_need, cX12_need, 2, none, [(0, .aload_n 0, 1), (1, .iload_n 1, 1), (2, .invokevirtual 188, 3), (5, .ifCond .ne 11, 3), (8, .aload_n 0, 1), (9, .aload_n 0, 1), (10, .getfield 175, 3), (13, .invokevirtual 192, 3), (16, .return_, 1)])
set_option maxRecDepth 100000 in
theorem okX12_need : MOk mX12_need := mok_of (by decide +kernel)
def mX12_number : MD := (yX12_number, cX12_number, 6, some .int, [(0, .aload_n 0, 1), (1, .getfield 181, 3), (4, .iconst (-1), 1), (5, .if_icmp .eq 5, 3), (8, .iconst 0, 1), (9, .ireturn, 1), (10, .aload_n 0, 1), (11, .getfield 175, 3), (14, .istore 4, 2), (16, .iconst 0, 1), (17, .istore 5, 2), (19, .aload_n 0, 1), (20, .getfield 175, 3), (23, .iload 4, 2), (25, .iload_n 1, 1), (26, .iadd, 1), (27, .if_icmp .ge 48, 3), (30, .aload_n 0, 1), (31, .invokevirtual 184, 3), (34, .i2l, 1), (35, .ldc2_w 196, 3), (38, .ldc2_w 198, 3), (41, .invokestatic 165, 3), (44, .ifCond .eq 31, 3), (47, .bipush 10, 2), (49, .iload 5, 2), (51, .imul, 1), (52, .aload_n 0, 1), (53, .invokevirtual 184, 3), (56, .iadd, 1), (57, .bipush 48, 2), (59, .isub, 1), (60, .istore 5, 2), (62, .aload_n 0, 1), (63, .dup, 1), (64, .getfield 175, 3), (67, .iconst 1, 1), (68, .iadd, 1), (69, .putfield 175, 3), (72, .goto (-53), 3), (75, .aload_n 0, 1), (76, .getfield 175, 3), (79, .iload 4, 2), (81, .if_icmp .ne 14, 3), (84, .aload_n 0, 1), (85, .aload_n 0, 1), (86, .getfield 175, 3), (89, .invokevirtual 192, 3), (92, .goto 26, 3), (95, .iload 5, 2), (97, .i2l, 1), (98, .iload_n 2, 1), (99, .i2l, 1), (100, .iload_n 3, 1), (101, .i2l, 1), (102, .invokestatic 165, 3), (105, .ifCond .ne 13, 3), (108, .aload_n 0, 1), (109, .aload_n 0, 1), (110, .getfield 175, 3), (113, .iconst 1, 1), (114, .isub, 1), (115, .invokevirtual 192, 3), (118, .aload_n 0, 1), (119, .getfield 181, 3), (122, .iconst (-1), 1), (123, .if_icmp .ne 8, 3), (126, .iload 5, 2), (128, .goto 4, 3), (131, .iconst 0, 1), (132, .ireturn, 1)])
set_option maxRecDepth 100000 in
theorem okX12_number : MOk mX12_number := mok_of (by decide +kernel)
def mX12_board : MD := (yX12_board, cX12_board, 6, some .int, [(0, .aload_n 0, 1), (1, .iconst 0, 1), (2, .putfield 159, 3), (5, .aload_n 0, 1), (6, .aload_n 0, 1), (7, .getfield 172, 3), (10, .putfield 178, 3), (13, .aload_n 0, 1), (14, .iconst 0, 1), (15, .putfield 172, 3), (18, .aload_n 0, 1), (19, .iconst 0, 1), (20, .putfield 175, 3), (23, .aload_n 0, 1), (24, .iconst (-1), 1), (25, .putfield 181, 3), (28, .iconst 0, 1), (29, .istore_n 1, 1), (30, .aload_n 0, 1), (31, .getfield 9, 3), (34, .istore_n 2, 1), (35, .aload_n 0, 1), (36, .getfield 169, 3), (39, .istore_n 3, 1), (40, .aload_n 0, 1), (41, .getfield 178, 3), (44, .ifCond .le 7, 3), (47, .iconst 1, 1), (48, .goto 4, 3), (51, .iconst 0, 1), (52, .istore 4, 2), (54, .iload 4, 2), (56, .ifCond .eq 268, 3), (59, .aload_n 0, 1), (60, .getfield 181, 3), (63, .iconst (-1), 1), (64, .if_icmp .ne 260, 3), (67, .iconst 4, 1), (68, .iload_n 1, 1), (69, .imul, 1), (70, .istore 5, 2), (72, .aload_n 0, 1), (73, .bipush 119, 2), (75, .invokevirtual 188, 3), (78, .ifCond .eq 43, 3), (81, .aload_n 0, 1), (82, .getfield 37, 3), (85, .iload 5, 2), (87, .iconst 0, 1), (88, .iastore, 1), (89, .aload_n 0, 1), (90, .getfield 37, 3), (93, .iload 5, 2), (95, .iconst 1, 1), (96, .iadd, 1), (97, .aload_n 0, 1), (98, .iconst 2, 1), (99, .iconst 2, 1), (100, .bipush 10, 2), (102, .invokevirtual 200, 3), (105, .iastore, 1), (106, .aload_n 0, 1), (107, .getfield 37, 3), (110, .iload 5, 2), (112, .iconst 1, 1), (113, .iadd, 1), (114, .iaload, 1), (115, .istore_n 2, 1), (116, .iconst 0, 1), (117, .istore_n 3, 1), (118, .goto 192, 3), (121, .aload_n 0, 1), (122, .bipush 114, 2), (124, .invokevirtual 188, 3), (127, .ifCond .eq 54, 3), (130, .aload_n 0, 1), (131, .getfield 37, 3), (134, .iload 5, 2), (136, .iconst 1, 1), (137, .iastore, 1), (138, .aload_n 0, 1), (139, .getfield 37, 3), (142, .iload 5, 2), (144, .iconst 1, 1), (145, .iadd, 1), (146, .aload_n 0, 1), (147, .iconst 1, 1), (148, .iconst 0, 1), (149, .iload_n 2, 1), (150, .iconst 1, 1), (151, .isub, 1), (152, .invokevirtual 200, 3), (155, .iastore, 1), (156, .aload_n 0, 1), (157, .bipush 44, 2), (159, .invokevirtual 204, 3), (162, .aload_n 0, 1), (163, .getfield 37, 3), (166, .iload 5, 2), (168, .iconst 2, 1), (169, .iadd, 1), (170, .aload_n 0, 1), (171, .iconst 2, 1), (172, .iconst 0, 1), (173, .iconst 4, 1), (174, .invokevirtual 200, 3), (177, .iastore, 1), (178, .goto 132, 3), (181, .aload_n 0, 1), (182, .getfield 37, 3), (185, .iload 5, 2), (187, .iconst 2, 1), (188, .iastore, 1), (189, .iload_n 3, 1), (190, .bipush 60, 2), (192, .if_icmp .ne 11, 3), (195, .aload_n 0, 1), (196, .aload_n 0, 1), (197, .getfield 175, 3), (200, .invokevirtual 192, 3), (203, .aload_n 0, 1), (204, .getfield 37, 3), (207, .iload 5, 2), (209, .iconst 1, 1), (210, .iadd, 1), (211, .aload_n 0, 1), (212, .iconst 1, 1), (213, .iconst 0, 1), (214, .iload_n 2, 1), (215, .iconst 1, 1), (216, .isub, 1), (217, .invokevirtual 200, 3), (220, .iastore, 1), (221, .aload_n 0, 1), (222, .bipush 62, 2), (224, .invokevirtual 204, 3), (227, .aload_n 0, 1), (228, .getfield 37, 3), (231, .iload 5, 2), (233, .iconst 2, 1), (234, .iadd, 1), (235, .aload_n 0, 1), (236, .iconst 1, 1), (237, .iconst 0, 1), (238, .iload_n 2, 1), (239, .iconst 1, 1), (240, .isub, 1), (241, .invokevirtual 200, 3), (244, .iastore, 1), (245, .aload_n 0, 1), (246, .getfield 181, 3), (249, .iconst (-1), 1), (250, .if_icmp .ne 34, 3), (253, .aload_n 0, 1), (254, .getfield 37, 3), (257, .iload 5, 2), (259, .iconst 1, 1), (260, .iadd, 1), (261, .iaload, 1), (262, .aload_n 0, 1), (263, .getfield 37, 3), (266, .iload 5, 2), (268, .iconst 2, 1), (269, .iadd, 1), (270, .iaload, 1), (271, .if_icmp .ne 13, 3), (274, .aload_n 0, 1), (275, .aload_n 0, 1), (276, .getfield 175, 3), (279, .iconst 1, 1), (280, .isub, 1), (281, .invokevirtual 192, 3), (284, .aload_n 0, 1), (285, .bipush 42, 2), (287, .invokevirtual 204, 3), (290, .aload_n 0, 1), (291, .getfield 37, 3), (294, .iload 5, 2), (296, .iconst 3, 1), (297, .iadd, 1), (298, .aload_n 0, 1), (299, .iconst 2, 1), (300, .iconst 1, 1), (301, .bipush 9, 2), (303, .invokevirtual 200, 3), (306, .iastore, 1), (307, .iinc 3 1, 3), (310, .iinc 1 1, 3), (313, .aload_n 0, 1), (314, .bipush 59, 2), (316, .invokevirtual 188, 3), (319, .istore 4, 2), (321, .goto (-267), 3), (324, .aload_n 0, 1), (325, .getfield 175, 3), (328, .aload_n 0, 1), (329, .getfield 178, 3), (332, .if_icmp .ge 11, 3), (335, .aload_n 0, 1), (336, .aload_n 0, 1), (337, .getfield 175, 3), (340, .invokevirtual 192, 3), (343, .aload_n 0, 1), (344, .getfield 181, 3), (347, .iconst (-1), 1), (348, .if_icmp .eq 10, 3), (351, .iconst (-1), 1), (352, .aload_n 0, 1), (353, .getfield 181, 3), (356, .isub, 1), (357, .ireturn, 1), (358, .iconst 0, 1), (359, .istore 5, 2), (361, .iload 5, 2), (363, .iload_n 1, 1), (364, .if_icmp .ge 17, 3), (367, .aload_n 0, 1), (368, .iconst 4, 1), (369, .iload 5, 2), (371, .imul, 1), (372, .invokevirtual 208, 3), (375, .iinc 5 1, 3), (378, .goto (-17), 3), (381, .iload_n 1, 1), (382, .ireturn, 1)])
set_option maxRecDepth 100000 in
theorem okX12_board : MOk mX12_board := mok_of (by decide +kernel)
def mX12_take : MD := (yX12_take, cX12_take, 3, none, [(0, .aload_n 0, 1), (1, .getfield 37, 3), (4, .iload_n 1, 1), (5, .iaload, 1), (6, .iconst 1, 1), (7, .if_icmp .ne 27, 3), (10, .aload_n 0, 1), (11, .getfield 23, 3), (14, .aload_n 0, 1), (15, .getfield 37, 3), (18, .iload_n 1, 1), (19, .iconst 1, 1), (20, .iadd, 1), (21, .iaload, 1), (22, .aload_n 0, 1), (23, .getfield 37, 3), (26, .iload_n 1, 1), (27, .iconst 2, 1), (28, .iadd, 1), (29, .iaload, 1), (30, .iastore, 1), (31, .goto 144, 3), (34, .aload_n 0, 1), (35, .getfield 37, 3), (38, .iload_n 1, 1), (39, .iaload, 1), (40, .iconst 2, 1), (41, .if_icmp .ne 67, 3), (44, .aload_n 0, 1), (45, .getfield 13, 3), (48, .aload_n 0, 1), (49, .getfield 169, 3), (52, .aload_n 0, 1), (53, .getfield 37, 3), (56, .iload_n 1, 1), (57, .iconst 1, 1), (58, .iadd, 1), (59, .iaload, 1), (60, .iastore, 1), (61, .aload_n 0, 1), (62, .getfield 17, 3), (65, .aload_n 0, 1), (66, .getfield 169, 3), (69, .aload_n 0, 1), (70, .getfield 37, 3), (73, .iload_n 1, 1), (74, .iconst 2, 1), (75, .iadd, 1), (76, .iaload, 1), (77, .iastore, 1), (78, .aload_n 0, 1), (79, .getfield 20, 3), (82, .aload_n 0, 1), (83, .getfield 169, 3), (86, .aload_n 0, 1), (87, .getfield 37, 3), (90, .iload_n 1, 1), (91, .iconst 3, 1), (92, .iadd, 1), (93, .iaload, 1), (94, .iastore, 1), (95, .aload_n 0, 1), (96, .dup, 1), (97, .getfield 169, 3), (100, .iconst 1, 1), (101, .iadd, 1), (102, .putfield 169, 3), (105, .goto 70, 3), (108, .aload_n 0, 1), (109, .aload_n 0, 1), (110, .getfield 37, 3), (113, .iload_n 1, 1), (114, .iconst 1, 1), (115, .iadd, 1), (116, .iaload, 1), (117, .putfield 9, 3), (120, .aload_n 0, 1), (121, .iconst 0, 1), (122, .putfield 169, 3), (125, .aload_n 0, 1), (126, .iconst 0, 1), (127, .putfield 211, 3), (130, .aload_n 0, 1), (131, .iconst 0, 1), (132, .putfield 214, 3), (135, .aload_n 0, 1), (136, .iconst 0, 1), (137, .putfield 217, 3), (140, .aload_n 0, 1), (141, .iconst 0, 1), (142, .putfield 220, 3), (145, .iconst 0, 1), (146, .istore_n 2, 1), (147, .iload_n 2, 1), (148, .iconst 4, 1), (149, .if_icmp .ge 16, 3), (152, .aload_n 0, 1), (153, .getfield 77, 3), (156, .iload_n 2, 1), (157, .lconst 0, 1), (158, .lastore, 1), (159, .iinc 2 1, 3), (162, .goto (-15), 3), (165, .aload_n 0, 1), (166, .dup, 1), (167, .getfield 223, 3), (170, .iconst 1, 1), (171, .iadd, 1), (172, .putfield 223, 3), (175, .return_, 1)])
set_option maxRecDepth 100000 in
theorem okX12_take : MOk mX12_take := mok_of (by decide +kernel)
def mX12_set : MD := (yX12_set, cX12_set, 4, some .int, [(0, .aload_n 0, 1), (1, .iconst 0, 1), (2, .putfield 159, 3), (5, .iload_n 1, 1), (6, .i2l, 1), (7, .lconst 0, 1), (8, .ldc2_w 226, 3), (11, .invokestatic 165, 3), (14, .ifCond .eq 45, 3), (17, .iload_n 2, 1), (18, .i2l, 1), (19, .iload_n 1, 1), (20, .iconst 2, 1), (21, .if_icmp .ne 7, 3), (24, .lconst 0, 1), (25, .goto 4, 3), (28, .lconst 1, 1), (29, .iload_n 1, 1), (30, .ifCond .ne 9, 3), (33, .ldc2_w 228, 3), (36, .goto 17, 3), (39, .iload_n 1, 1), (40, .iconst 1, 1), (41, .if_icmp .ne 9, 3), (44, .ldc2_w 230, 3), (47, .goto 6, 3), (50, .ldc2_w 232, 3), (53, .invokestatic 165, 3), (56, .ifCond .ne 5, 3), (59, .iconst (-1), 1), (60, .ireturn, 1), (61, .aload_n 0, 1), (62, .getfield 26, 3), (65, .iload_n 1, 1), (66, .iaload, 1), (67, .istore_n 3, 1), (68, .aload_n 0, 1), (69, .getfield 26, 3), (72, .iload_n 1, 1), (73, .iload_n 2, 1), (74, .iastore, 1), (75, .iload_n 3, 1), (76, .ireturn, 1)])
set_option maxRecDepth 100000 in
theorem okX12_set : MOk mX12_set := mok_of (by decide +kernel)
def mX12_lamp : MD := (yX12_lamp, cX12_lamp, 3, some .int, [(0, .aload_n 0, 1), (1, .iconst 0, 1), (2, .putfield 159, 3), (5, .aload_n 0, 1), (6, .iload_n 1, 1), (7, .invokevirtual 234, 3), (10, .ifCond .eq 15, 3), (13, .iload_n 2, 1), (14, .i2l, 1), (15, .lconst 0, 1), (16, .ldc2_w 226, 3), (19, .invokestatic 165, 3), (22, .ifCond .ne 8, 3), (25, .aload_n 0, 1), (26, .invokevirtual 238, 3), (29, .ireturn, 1), (30, .iload_n 2, 1), (31, .ifCond .ne 12, 3), (34, .aload_n 0, 1), (35, .getfield 13, 3), (38, .iload_n 1, 1), (39, .iaload, 1), (40, .goto 23, 3), (43, .iload_n 2, 1), (44, .iconst 1, 1), (45, .if_icmp .ne 12, 3), (48, .aload_n 0, 1), (49, .getfield 17, 3), (52, .iload_n 1, 1), (53, .iaload, 1), (54, .goto 9, 3), (57, .aload_n 0, 1), (58, .getfield 20, 3), (61, .iload_n 1, 1), (62, .iaload, 1), (63, .ireturn, 1)])
set_option maxRecDepth 100000 in
theorem okX12_lamp : MOk mX12_lamp := mok_of (by decide +kernel)
def mX12_ohms : MD := (yX12_ohms, cX12_ohms, 2, some .int, [(0, .aload_n 0, 1), (1, .iconst 0, 1), (2, .putfield 159, 3), (5, .aload_n 0, 1), (6, .iload_n 1, 1), (7, .invokevirtual 241, 3), (10, .ifCond .eq 12, 3), (13, .aload_n 0, 1), (14, .getfield 23, 3), (17, .iload_n 1, 1), (18, .iaload, 1), (19, .goto 4, 3), (22, .iconst (-1), 1), (23, .ireturn, 1)])
set_option maxRecDepth 100000 in
theorem okX12_ohms : MOk mX12_ohms := mok_of (by decide +kernel)
def mX12_sheet : MD := (yX12_sheet, cX12_sheet, 9, some .int, [(0, .aload_n 0, 1), (1, .iconst 0, 1), (2, .putfield 159, 3), (5, .iload_n 1, 1), (6, .i2l, 1), (7, .lconst 0, 1), (8, .ldc2_w 230, 3), (11, .invokestatic 165, 3), (14, .ifCond .eq 9, 3), (17, .iload_n 2, 1), (18, .bipush 60, 2), (20, .if_icmp .le 5, 3), (23, .iconst (-1), 1), (24, .ireturn, 1), (25, .iload_n 1, 1), (26, .iconst 3, 1), (27, .if_icmp .ge 10, 3), (30, .iload_n 2, 1), (31, .ifCond .ge 6, 3), (34, .bipush (-2), 2), (36, .ireturn, 1), (37, .iconst 0, 1), (38, .istore 5, 2), (40, .iload_n 3, 1), (41, .istore 6, 2), (43, .iconst 0, 1), (44, .istore 7, 2), (46, .iload 7, 2), (48, .aload_n 0, 1), (49, .getfield 169, 3), (52, .if_icmp .ge 86, 3), (55, .iload_n 1, 1), (56, .ifCond .ne 9, 3), (59, .iload 6, 2), (61, .i2b, 1), (62, .goto 16, 3), (65, .iload_n 1, 1), (66, .iconst 1, 1), (67, .if_icmp .ne 9, 3), (70, .iload 6, 2), (72, .i2s, 1), (73, .goto 5, 3), (76, .iload 6, 2), (78, .istore 8, 2), (80, .aload_n 0, 1), (81, .getfield 20, 3), (84, .iload 7, 2), (86, .iload_n 1, 1), (87, .iconst 3, 1), (88, .if_icmp .eq 9, 3), (91, .iload 7, 2), (93, .iload_n 2, 1), (94, .if_icmp .lt 7, 3), (97, .iconst 1, 1), (98, .goto 14, 3), (101, .iconst 1, 1), (102, .bipush 9, 2), (104, .iload 8, 2), (106, .invokestatic 244, 3), (109, .invokestatic 250, 3), (112, .iastore, 1), (113, .iload 5, 2), (115, .aload_n 0, 1), (116, .getfield 20, 3), (119, .iload 7, 2), (121, .iaload, 1), (122, .iadd, 1), (123, .istore 5, 2), (125, .iload 6, 2), (127, .iload 4, 2), (129, .iadd, 1), (130, .istore 6, 2), (132, .iinc 7 1, 3), (135, .goto (-89), 3), (138, .iload_n 1, 1), (139, .iconst 3, 1), (140, .if_icmp .ne 8, 3), (143, .bipush (-3), 2), (145, .goto 5, 3), (148, .iload 5, 2), (150, .ireturn, 1)])
set_option maxRecDepth 100000 in
theorem okX12_sheet : MOk mX12_sheet := mok_of (by decide +kernel)
def mX12_change : MD := (yX12_change, cX12_change, 5, none, [(0, .aload_n 0, 1), (1, .getfield 13, 3), (4, .iload_n 1, 1), (5, .iaload, 1), (6, .istore_n 3, 1), (7, .aload_n 0, 1), (8, .getfield 17, 3), (11, .iload_n 1, 1), (12, .iaload, 1), (13, .istore 4, 2), (15, .aload_n 0, 1), (16, .getfield 13, 3), (19, .iload_n 1, 1), (20, .aload_n 0, 1), (21, .getfield 13, 3), (24, .iload_n 2, 1), (25, .iaload, 1), (26, .iastore, 1), (27, .aload_n 0, 1), (28, .getfield 17, 3), (31, .iload_n 1, 1), (32, .aload_n 0, 1), (33, .getfield 17, 3), (36, .iload_n 2, 1), (37, .iaload, 1), (38, .iastore, 1), (39, .aload_n 0, 1), (40, .getfield 13, 3), (43, .iload_n 2, 1), (44, .iload_n 3, 1), (45, .iastore, 1), (46, .aload_n 0, 1), (47, .getfield 17, 3), (50, .iload_n 2, 1), (51, .iload 4, 2), (53, .iastore, 1), (54, .return_, 1)])
set_option maxRecDepth 100000 in
theorem okX12_change : MOk mX12_change := mok_of (by decide +kernel)
def mX12_swap : MD := (yX12_swap, cX12_swap, 3, some .boolean, [(0, .aload_n 0, 1), (1, .iconst 0, 1), (2, .putfield 159, 3), (5, .aload_n 0, 1), (6, .iload_n 1, 1), (7, .invokevirtual 234, 3), (10, .ifCond .eq 16, 3), (13, .aload_n 0, 1), (14, .iload_n 2, 1), (15, .invokevirtual 234, 3), (18, .ifCond .eq 8, 3), (21, .iload_n 1, 1), (22, .iload_n 2, 1), (23, .if_icmp .ne 5, 3), (26, .iconst 0, 1), (27, .ireturn, 1), (28, .aload_n 0, 1), (29, .iload_n 1, 1), (30, .iload_n 2, 1), (31, .invokevirtual 253, 3), (34, .iconst 1, 1), (35, .ireturn, 1)])
set_option maxRecDepth 100000 in
theorem okX12_swap : MOk mX12_swap := mok_of (by decide +kernel)
def mX12_touchFirst : MD := (yX12_touchFirst, cX12_touchFirst, 1, some .int, [(0, .iconst 1, 1), (1, .aload_n 0, 1), (2, .getfield 9, 3), (5, .iadd, 1), (6, .ireturn, 1)])
set_option maxRecDepth 100000 in
theorem okX12_touchFirst : MOk mX12_touchFirst := mok_of (by decide +kernel)
def mX12_turnedFirst : MD := (yX12_turnedFirst, cX12_turnedFirst, 1, some .int, [(0, .iconst 1, 1), (1, .aload_n 0, 1), (2, .getfield 9, 3), (5, .iadd, 1), (6, .aload_n 0, 1), (7, .getfield 9, 3), (10, .aload_n 0, 1), (11, .getfield 9, 3), (14, .iconst 1, 1), (15, .isub, 1), (16, .imul, 1), (17, .iconst 2, 1), (18, .idiv, 1), (19, .iadd, 1), (20, .ireturn, 1)])
set_option maxRecDepth 100000 in
theorem okX12_turnedFirst : MOk mX12_turnedFirst := mok_of (by decide +kernel)
def mX12_faultMany : MD := (yX12_faultMany, cX12_faultMany, 1, some .int, [(0, .aload_n 0, 1), (1, .invokevirtual 257, 3), (4, .aload_n 0, 1), (5, .getfield 169, 3), (8, .iadd, 1), (9, .ireturn, 1)])
set_option maxRecDepth 100000 in
theorem okX12_faultMany : MOk mX12_faultMany := mok_of (by decide +kernel)
def mX12_isFault : MD := (yX12_isFault, cX12_isFault, 2, some .boolean, [(0, .iload_n 1, 1), (1, .i2l, 1), (2, .lconst 0, 1), (3, .aload_n 0, 1), (4, .invokevirtual 260, 3), (7, .iconst 1, 1), (8, .isub, 1), (9, .i2l, 1), (10, .invokestatic 165, 3), (13, .ireturn, 1)])
set_option maxRecDepth 100000 in
theorem okX12_isFault : MOk mX12_isFault := mok_of (by decide +kernel)
def mX12_kindOf : MD := (yX12_kindOf, cX12_kindOf, 2, some .int, [(0, .iload_n 1, 1), (1, .ifCond .ne 7, 3), (4, .iconst 0, 1), (5, .goto 28, 3), (8, .iload_n 1, 1), (9, .aload_n 0, 1), (10, .invokevirtual 263, 3), (13, .if_icmp .ge 7, 3), (16, .iconst 1, 1), (17, .goto 16, 3), (20, .iload_n 1, 1), (21, .aload_n 0, 1), (22, .invokevirtual 257, 3), (25, .if_icmp .ge 7, 3), (28, .iconst 2, 1), (29, .goto 4, 3), (32, .iconst 3, 1), (33, .ireturn, 1)])
set_option maxRecDepth 100000 in
theorem okX12_kindOf : MOk mX12_kindOf := mok_of (by decide +kernel)
def mX12_findFault : MD := (yX12_findFault, cX12_findFault, 4, none, [(0, .aload_n 0, 1), (1, .iload_n 1, 1), (2, .invokevirtual 266, 3), (5, .istore_n 2, 1), (6, .aload_n 0, 1), (7, .iload_n 2, 1), (8, .ifCond .ne 7, 3), (11, .iconst (-1), 1), (12, .goto 29, 3), (15, .iload_n 2, 1), (16, .iconst 1, 1), (17, .if_icmp .ne 9, 3), (20, .iload_n 1, 1), (21, .iconst 1, 1), (22, .isub, 1), (23, .goto 18, 3), (26, .iload_n 2, 1), (27, .iconst 3, 1), (28, .if_icmp .ne 12, 3), (31, .iload_n 1, 1), (32, .aload_n 0, 1), (33, .invokevirtual 257, 3), (36, .isub, 1), (37, .goto 4, 3), (40, .iconst 0, 1), (41, .putfield 270, 3), (44, .aload_n 0, 1), (45, .iconst (-1), 1), (46, .putfield 273, 3), (49, .iload_n 2, 1), (50, .iconst 2, 1), (51, .if_icmp .eq 4, 3), (54, .return_, 1), (55, .iload_n 1, 1), (56, .aload_n 0, 1), (57, .invokevirtual 263, 3), (60, .isub, 1), (61, .istore_n 3, 1), (62, .iload_n 3, 1), (63, .aload_n 0, 1), (64, .getfield 9, 3), (67, .iconst 1, 1), (68, .isub, 1), (69, .aload_n 0, 1), (70, .getfield 270, 3), (73, .isub, 1), (74, .if_icmp .lt 30, 3), (77, .iload_n 3, 1), (78, .aload_n 0, 1), (79, .getfield 9, 3), (82, .iconst 1, 1), (83, .isub, 1), (84, .aload_n 0, 1), (85, .getfield 270, 3), (88, .isub, 1), (89, .isub, 1), (90, .istore_n 3, 1), (91, .aload_n 0, 1), (92, .dup, 1), (93, .getfield 270, 3), (96, .iconst 1, 1), (97, .iadd, 1), (98, .putfield 270, 3), (101, .goto (-39), 3), (104, .aload_n 0, 1), (105, .aload_n 0, 1), (106, .getfield 270, 3), (109, .iconst 1, 1), (110, .iadd, 1), (111, .iload_n 3, 1), (112, .iadd, 1), (113, .putfield 273, 3), (116, .return_, 1)])
set_option maxRecDepth 100000 in
theorem okX12_findFault : MOk mX12_findFault := mok_of (by decide +kernel)
def mX12_lay : MD := (yX12_lay, cX12_lay, 7, none, [(0, .aload_n 0, 1), (1, .iload_n 1, 1), (2, .invokevirtual 276, 3), (5, .aload_n 0, 1), (6, .aload_n 0, 1), (7, .iload_n 1, 1), (8, .invokevirtual 266, 3), (11, .putfield 279, 3), (14, .aload_n 0, 1), (15, .aload_n 0, 1), (16, .getfield 270, 3), (19, .putfield 282, 3), (22, .aload_n 0, 1), (23, .aload_n 0, 1), (24, .getfield 273, 3), (27, .putfield 285, 3), (30, .iconst 0, 1), (31, .istore_n 2, 1), (32, .iconst 0, 1), (33, .istore_n 3, 1), (34, .iload_n 3, 1), (35, .aload_n 0, 1), (36, .getfield 9, 3), (39, .if_icmp .ge 202, 3), (42, .aload_n 0, 1), (43, .getfield 40, 3), (46, .iload_n 3, 1), (47, .iload_n 2, 1), (48, .iastore, 1), (49, .iconst 0, 1), (50, .istore 4, 2), (52, .iload 4, 2), (54, .aload_n 0, 1), (55, .getfield 169, 3), (58, .if_icmp .ge 177, 3), (61, .aload_n 0, 1), (62, .getfield 13, 3), (65, .iload 4, 2), (67, .iaload, 1), (68, .istore 5, 2), (70, .aload_n 0, 1), (71, .getfield 17, 3), (74, .iload 4, 2), (76, .iaload, 1), (77, .istore 6, 2), (79, .aload_n 0, 1), (80, .getfield 279, 3), (83, .iconst 3, 1), (84, .if_icmp .ne 30, 3), (87, .aload_n 0, 1), (88, .getfield 282, 3), (91, .iload 4, 2), (93, .if_icmp .ne 21, 3), (96, .aload_n 0, 1), (97, .getfield 17, 3), (100, .iload 4, 2), (102, .iaload, 1), (103, .istore 5, 2), (105, .aload_n 0, 1), (106, .getfield 13, 3), (109, .iload 4, 2), (111, .iaload, 1), (112, .istore 6, 2), (114, .aload_n 0, 1), (115, .getfield 279, 3), (118, .iconst 1, 1), (119, .if_icmp .ne 24, 3), (122, .iload 5, 2), (124, .aload_n 0, 1), (125, .getfield 282, 3), (128, .if_icmp .eq 101, 3), (131, .iload 6, 2), (133, .aload_n 0, 1), (134, .getfield 282, 3), (137, .if_icmp .ne 6, 3), (140, .goto 89, 3), (143, .aload_n 0, 1), (144, .getfield 279, 3), (147, .iconst 2, 1), (148, .if_icmp .ne 53, 3), (151, .iload 5, 2), (153, .aload_n 0, 1), (154, .getfield 285, 3), (157, .if_icmp .ne 10, 3), (160, .aload_n 0, 1), (161, .getfield 282, 3), (164, .goto 5, 3), (167, .iload 5, 2), (169, .istore 5, 2), (171, .iload 6, 2), (173, .aload_n 0, 1), (174, .getfield 285, 3), (177, .if_icmp .ne 10, 3), (180, .aload_n 0, 1), (181, .getfield 282, 3), (184, .goto 5, 3), (187, .iload 6, 2), (189, .istore 6, 2), (191, .iload 5, 2), (193, .iload 6, 2), (195, .if_icmp .ne 6, 3), (198, .goto 31, 3), (201, .iload 5, 2), (203, .iload_n 3, 1), (204, .if_icmp .eq 6, 3), (207, .goto 22, 3), (210, .aload_n 0, 1), (211, .getfield 43, 3), (214, .iload_n 2, 1), (215, .iload 4, 2), (217, .iastore, 1), (218, .aload_n 0, 1), (219, .getfield 46, 3), (222, .iload_n 2, 1), (223, .iload 6, 2), (225, .iastore, 1), (226, .iinc 2 1, 3), (229, .iinc 4 1, 3), (232, .goto (-180), 3), (235, .iinc 3 1, 3), (238, .goto (-204), 3), (241, .aload_n 0, 1), (242, .getfield 40, 3), (245, .aload_n 0, 1), (246, .getfield 9, 3), (249, .iload_n 2, 1), (250, .iastore, 1), (251, .return_, 1)])
set_option maxRecDepth 100000 in
theorem okX12_lay : MOk mX12_lay := mok_of (by decide +kernel)
def mX12_begin : MD := (yX12_begin, cX12_begin, 4, some .boolean, [(0, .aload_n 0, 1), (1, .iload_n 1, 1), (2, .putfield 288, 3), (5, .aload_n 0, 1), (6, .iload_n 2, 1), (7, .putfield 291, 3), (10, .aload_n 0, 1), (11, .getfield 279, 3), (14, .iconst 1, 1), (15, .if_icmp .ne 37, 3), (18, .aload_n 0, 1), (19, .dup, 1), (20, .getfield 288, 3), (23, .iconst 1, 1), (24, .aload_n 0, 1), (25, .getfield 282, 3), (28, .ishl, 1), (29, .iconst (-1), 1), (30, .ixor, 1), (31, .iand, 1), (32, .putfield 288, 3), (35, .aload_n 0, 1), (36, .dup, 1), (37, .getfield 291, 3), (40, .iconst 1, 1), (41, .aload_n 0, 1), (42, .getfield 282, 3), (45, .ishl, 1), (46, .iconst (-1), 1), (47, .ixor, 1), (48, .iand, 1), (49, .putfield 291, 3), (52, .aload_n 0, 1), (53, .getfield 279, 3), (56, .iconst 2, 1), (57, .if_icmp .ne 177, 3), (60, .iload_n 1, 1), (61, .iload_n 2, 1), (62, .ior, 1), (63, .i2l, 1), (64, .aload_n 0, 1), (65, .getfield 282, 3), (68, .invokestatic 294, 3), (71, .istore_n 3, 1), (72, .iload_n 1, 1), (73, .i2l, 1), (74, .aload_n 0, 1), (75, .getfield 282, 3), (78, .invokestatic 294, 3), (81, .ifCond .eq 15, 3), (84, .iload_n 2, 1), (85, .i2l, 1), (86, .aload_n 0, 1), (87, .getfield 285, 3), (90, .invokestatic 294, 3), (93, .ifCond .ne 27, 3), (96, .iload_n 2, 1), (97, .i2l, 1), (98, .aload_n 0, 1), (99, .getfield 282, 3), (102, .invokestatic 294, 3), (105, .ifCond .eq 17, 3), (108, .iload_n 1, 1), (109, .i2l, 1), (110, .aload_n 0, 1), (111, .getfield 285, 3), (114, .invokestatic 294, 3), (117, .ifCond .eq 5, 3), (120, .iconst 0, 1), (121, .ireturn, 1), (122, .aload_n 0, 1), (123, .aload_n 0, 1), (124, .getfield 23, 3), (127, .iload_n 3, 1), (128, .ifCond .eq 10, 3), (131, .aload_n 0, 1), (132, .getfield 282, 3), (135, .goto 7, 3), (138, .aload_n 0, 1), (139, .getfield 285, 3), (142, .iaload, 1), (143, .putfield 298, 3), (146, .iload_n 1, 1), (147, .i2l, 1), (148, .aload_n 0, 1), (149, .getfield 285, 3), (152, .invokestatic 294, 3), (155, .ifCond .eq 18, 3), (158, .aload_n 0, 1), (159, .dup, 1), (160, .getfield 288, 3), (163, .iconst 1, 1), (164, .aload_n 0, 1), (165, .getfield 282, 3), (168, .ishl, 1), (169, .ior, 1), (170, .putfield 288, 3), (173, .iload_n 2, 1), (174, .i2l, 1), (175, .aload_n 0, 1), (176, .getfield 285, 3), (179, .invokestatic 294, 3), (182, .ifCond .eq 18, 3), (185, .aload_n 0, 1), (186, .dup, 1), (187, .getfield 291, 3), (190, .iconst 1, 1), (191, .aload_n 0, 1), (192, .getfield 282, 3), (195, .ishl, 1), (196, .ior, 1), (197, .putfield 291, 3), (200, .aload_n 0, 1), (201, .dup, 1), (202, .getfield 288, 3), (205, .iconst 1, 1), (206, .aload_n 0, 1), (207, .getfield 285, 3), (210, .ishl, 1), (211, .iconst (-1), 1), (212, .ixor, 1), (213, .iand, 1), (214, .putfield 288, 3), (217, .aload_n 0, 1), (218, .dup, 1), (219, .getfield 291, 3), (222, .iconst 1, 1), (223, .aload_n 0, 1), (224, .getfield 285, 3), (227, .ishl, 1), (228, .iconst (-1), 1), (229, .ixor, 1), (230, .iand, 1), (231, .putfield 291, 3), (234, .iconst 1, 1), (235, .ireturn, 1)])
set_option maxRecDepth 100000 in
theorem okX12_begin : MOk mX12_begin := mok_of (by decide +kernel)
def mX12_ohmsOf : MD := (yX12_ohmsOf, cX12_ohmsOf, 2, some .int, [(0, .aload_n 0, 1), (1, .getfield 279, 3), (4, .iconst 2, 1), (5, .if_icmp .ne 18, 3), (8, .iload_n 1, 1), (9, .aload_n 0, 1), (10, .getfield 282, 3), (13, .if_icmp .ne 10, 3), (16, .aload_n 0, 1), (17, .getfield 298, 3), (20, .goto 9, 3), (23, .aload_n 0, 1), (24, .getfield 23, 3), (27, .iload_n 1, 1), (28, .iaload, 1), (29, .ireturn, 1)])
set_option maxRecDepth 100000 in
theorem okX12_ohmsOf : MOk mX12_ohmsOf := mok_of (by decide +kernel)
def mX12_shine : MD := (yX12_shine, cX12_shine, 4, none, [(0, .iconst 0, 1), (1, .istore_n 3, 1), (2, .iload_n 3, 1), (3, .aload_n 0, 1), (4, .getfield 169, 3), (7, .if_icmp .ge 40, 3), (10, .aload_n 0, 1), (11, .getfield 49, 3), (14, .iload_n 3, 1), (15, .lconst 0, 1), (16, .lastore, 1), (17, .aload_n 0, 1), (18, .getfield 301, 3), (21, .ifCond .ne 6, 3), (24, .goto 17, 3), (27, .aload_n 0, 1), (28, .getfield 52, 3), (31, .iload_n 3, 1), (32, .iconst 0, 1), (33, .iastore, 1), (34, .aload_n 0, 1), (35, .getfield 55, 3), (38, .iload_n 3, 1), (39, .lconst 0, 1), (40, .lastore, 1), (41, .iinc 3 1, 3), (44, .goto (-42), 3), (47, .iconst 0, 1), (48, .istore_n 3, 1), (49, .iload_n 3, 1), (50, .aload_n 0, 1), (51, .getfield 9, 3), (54, .if_icmp .ge 23, 3), (57, .aload_n 0, 1), (58, .getfield 301, 3), (61, .ifCond .eq 16, 3), (64, .aload_n 0, 1), (65, .getfield 58, 3), (68, .iload_n 3, 1), (69, .lconst 0, 1), (70, .lastore, 1), (71, .iinc 3 1, 3), (74, .goto (-25), 3), (77, .aload_n 0, 1), (78, .iload_n 1, 1), (79, .iload_n 2, 1), (80, .invokevirtual 305, 3), (83, .ifCond .ne 4, 3), (86, .return_, 1), (87, .iconst 0, 1), (88, .istore_n 3, 1), (89, .iload_n 3, 1), (90, .aload_n 0, 1), (91, .getfield 9, 3), (94, .if_icmp .ge 32, 3), (97, .aload_n 0, 1), (98, .getfield 288, 3), (101, .i2l, 1), (102, .iload_n 3, 1), (103, .invokestatic 294, 3), (106, .ifCond .eq 14, 3), (109, .aload_n 0, 1), (110, .iload_n 3, 1), (111, .iload_n 3, 1), (112, .iconst 0, 1), (113, .iconst 0, 1), (114, .iconst 1, 1), (115, .iload_n 3, 1), (116, .ishl, 1), (117, .invokevirtual 309, 3), (120, .iinc 3 1, 3), (123, .goto (-34), 3), (126, .return_, 1)])
set_option maxRecDepth 100000 in
theorem okX12_shine : MOk mX12_shine := mok_of (by decide +kernel)
def mX12_goOn : MD := (yX12_goOn, cX12_goOn, 9, none, [(0, .aload_n 0, 1), (1, .getfield 40, 3), (4, .iload_n 2, 1), (5, .iaload, 1), (6, .istore 6, 2), (8, .iload 6, 2), (10, .aload_n 0, 1), (11, .getfield 40, 3), (14, .iload_n 2, 1), (15, .iconst 1, 1), (16, .iadd, 1), (17, .iaload, 1), (18, .if_icmp .ge 144, 3), (21, .aload_n 0, 1), (22, .getfield 46, 3), (25, .iload 6, 2), (27, .iaload, 1), (28, .istore 7, 2), (30, .iload 4, 2), (32, .aload_n 0, 1), (33, .getfield 20, 3), (36, .aload_n 0, 1), (37, .getfield 43, 3), (40, .iload 6, 2), (42, .iaload, 1), (43, .iaload, 1), (44, .iadd, 1), (45, .istore 8, 2), (47, .iload 5, 2), (49, .aload_n 0, 1), (50, .getfield 288, 3), (53, .ior, 1), (54, .i2l, 1), (55, .iload 7, 2), (57, .invokestatic 294, 3), (60, .ifCond .ne 96, 3), (63, .iload 8, 2), (65, .aload_n 0, 1), (66, .getfield 26, 3), (69, .iconst 0, 1), (70, .iaload, 1), (71, .if_icmp .lt 6, 3), (74, .goto 82, 3), (77, .aload_n 0, 1), (78, .getfield 61, 3), (81, .iload_n 3, 1), (82, .aload_n 0, 1), (83, .getfield 43, 3), (86, .iload 6, 2), (88, .iaload, 1), (89, .iastore, 1), (90, .aload_n 0, 1), (91, .getfield 291, 3), (94, .i2l, 1), (95, .iload 7, 2), (97, .invokestatic 294, 3), (100, .ifCond .eq 25, 3), (103, .aload_n 0, 1), (104, .iload_n 1, 1), (105, .iload 7, 2), (107, .iload_n 3, 1), (108, .iconst 1, 1), (109, .iadd, 1), (110, .aload_n 0, 1), (111, .getfield 26, 3), (114, .iconst 0, 1), (115, .iaload, 1), (116, .iload 8, 2), (118, .isub, 1), (119, .invokevirtual 313, 3), (122, .goto 34, 3), (125, .iload_n 3, 1), (126, .iconst 1, 1), (127, .iadd, 1), (128, .aload_n 0, 1), (129, .getfield 26, 3), (132, .iconst 1, 1), (133, .iaload, 1), (134, .if_icmp .ge 22, 3), (137, .aload_n 0, 1), (138, .iload_n 1, 1), (139, .iload 7, 2), (141, .iload_n 3, 1), (142, .iconst 1, 1), (143, .iadd, 1), (144, .iload 8, 2), (146, .iload 5, 2), (148, .iconst 1, 1), (149, .iload 7, 2), (151, .ishl, 1), (152, .ior, 1), (153, .invokevirtual 309, 3), (156, .iinc 6 1, 3), (159, .goto (-151), 3), (162, .return_, 1)])
set_option maxRecDepth 100000 in
theorem okX12_goOn : MOk mX12_goOn := mok_of (by decide +kernel)
def mX12_arrive : MD := (yX12_arrive, cX12_arrive, 9, none, [(0, .ldc2_w 317, 3), (3, .iload 4, 2), (5, .i2l, 1), (6, .lmul, 1), (7, .aload_n 0, 1), (8, .iload_n 1, 1), (9, .invokevirtual 319, 3), (12, .aload_n 0, 1), (13, .iload_n 2, 1), (14, .invokevirtual 319, 3), (17, .iadd, 1), (18, .iload_n 3, 1), (19, .iadd, 1), (20, .i2l, 1), (21, .ldiv, 1), (22, .lstore 5, 2), (24, .iconst 0, 1), (25, .istore 7, 2), (27, .iconst 0, 1), (28, .istore 8, 2), (30, .iload 8, 2), (32, .iload_n 3, 1), (33, .if_icmp .ge 107, 3), (36, .aload_n 0, 1), (37, .getfield 49, 3), (40, .aload_n 0, 1), (41, .getfield 61, 3), (44, .iload 8, 2), (46, .iaload, 1), (47, .dup2, 1), (48, .laload, 1), (49, .lload 5, 2), (51, .ladd, 1), (52, .lastore, 1), (53, .iload 7, 2), (55, .ifCond .ne 17, 3), (58, .aload_n 0, 1), (59, .getfield 61, 3), (62, .iload 8, 2), (64, .iaload, 1), (65, .aload_n 0, 1), (66, .getfield 64, 3), (69, .if_icmp .ne 7, 3), (72, .iconst 1, 1), (73, .goto 4, 3), (76, .iconst 0, 1), (77, .istore 7, 2), (79, .aload_n 0, 1), (80, .getfield 301, 3), (83, .ifCond .ne 6, 3), (86, .goto 48, 3), (89, .aload_n 0, 1), (90, .getfield 52, 3), (93, .aload_n 0, 1), (94, .getfield 61, 3), (97, .iload 8, 2), (99, .iaload, 1), (100, .dup2, 1), (101, .iaload, 1), (102, .iconst 1, 1), (103, .iadd, 1), (104, .iastore, 1), (105, .aload_n 0, 1), (106, .getfield 55, 3), (109, .aload_n 0, 1), (110, .getfield 61, 3), (113, .iload 8, 2), (115, .iaload, 1), (116, .aload_n 0, 1), (117, .getfield 55, 3), (120, .aload_n 0, 1), (121, .getfield 61, 3), (124, .iload 8, 2), (126, .iaload, 1), (127, .laload, 1), (128, .lload 5, 2), (130, .invokestatic 322, 3), (133, .lastore, 1), (134, .iinc 8 1, 3), (137, .goto (-107), 3), (140, .aload_n 0, 1), (141, .getfield 301, 3), (144, .ifCond .ne 4, 3), (147, .return_, 1), (148, .aload_n 0, 1), (149, .getfield 58, 3), (152, .iload_n 1, 1), (153, .dup2, 1), (154, .laload, 1), (155, .lload 5, 2), (157, .ladd, 1), (158, .lastore, 1), (159, .aload_n 0, 1), (160, .getfield 58, 3), (163, .iload_n 2, 1), (164, .dup2, 1), (165, .laload, 1), (166, .lload 5, 2), (168, .ladd, 1), (169, .lastore, 1), (170, .iload 7, 2), (172, .ifCond .eq 13, 3), (175, .aload_n 0, 1), (176, .lload 5, 2), (178, .iload_n 3, 1), (179, .invokevirtual 325, 3), (182, .ifCond .ne 4, 3), (185, .return_, 1), (186, .aload_n 0, 1), (187, .lload 5, 2), (189, .putfield 328, 3), (192, .aload_n 0, 1), (193, .iload_n 3, 1), (194, .putfield 332, 3), (197, .iconst 0, 1), (198, .istore 8, 2), (200, .iload 8, 2), (202, .iload_n 3, 1), (203, .if_icmp .ge 23, 3), (206, .aload_n 0, 1), (207, .getfield 67, 3), (210, .iload 8, 2), (212, .aload_n 0, 1), (213, .getfield 61, 3), (216, .iload 8, 2), (218, .iaload, 1), (219, .iastore, 1), (220, .iinc 8 1, 3), (223, .goto (-23), 3), (226, .return_, 1)])
set_option maxRecDepth 100000 in
theorem okX12_arrive : MOk mX12_arrive := mok_of (by decide +kernel)
def mX12_isBetter : MD := (yX12_isBetter, cX12_isBetter, 5, some .boolean, [(0, .lload_n 1, 1), (1, .aload_n 0, 1), (2, .getfield 328, 3), (5, .lcmp, 1), (6, .ifCond .eq 18, 3), (9, .lload_n 1, 1), (10, .aload_n 0, 1), (11, .getfield 328, 3), (14, .lcmp, 1), (15, .ifCond .le 7, 3), (18, .iconst 1, 1), (19, .goto 4, 3), (22, .iconst 0, 1), (23, .ireturn, 1), (24, .iload_n 3, 1), (25, .aload_n 0, 1), (26, .getfield 332, 3), (29, .if_icmp .eq 17, 3), (32, .iload_n 3, 1), (33, .aload_n 0, 1), (34, .getfield 332, 3), (37, .if_icmp .ge 7, 3), (40, .iconst 1, 1), (41, .goto 4, 3), (44, .iconst 0, 1), (45, .ireturn, 1), (46, .iconst 0, 1), (47, .istore 4, 2), (49, .iload 4, 2), (51, .iload_n 3, 1), (52, .if_icmp .ge 49, 3), (55, .aload_n 0, 1), (56, .getfield 61, 3), (59, .iload 4, 2), (61, .iaload, 1), (62, .aload_n 0, 1), (63, .getfield 67, 3), (66, .iload 4, 2), (68, .iaload, 1), (69, .if_icmp .eq 26, 3), (72, .aload_n 0, 1), (73, .getfield 61, 3), (76, .iload 4, 2), (78, .iaload, 1), (79, .aload_n 0, 1), (80, .getfield 67, 3), (83, .iload 4, 2), (85, .iaload, 1), (86, .if_icmp .ge 7, 3), (89, .iconst 1, 1), (90, .goto 4, 3), (93, .iconst 0, 1), (94, .ireturn, 1), (95, .iinc 4 1, 3), (98, .goto (-49), 3), (101, .iconst 0, 1), (102, .ireturn, 1)])
set_option maxRecDepth 100000 in
theorem okX12_isBetter : MOk mX12_isBetter := mok_of (by decide +kernel)
def mX12_isBright : MD := (yX12_isBright, cX12_isBright, 2, some .boolean, [(0, .aload_n 0, 1), (1, .getfield 49, 3), (4, .iload_n 1, 1), (5, .laload, 1), (6, .lconst 0, 1), (7, .lcmp, 1), (8, .ifCond .le 32, 3), (11, .ldc2_w 335, 3), (14, .aload_n 0, 1), (15, .getfield 49, 3), (18, .iload_n 1, 1), (19, .laload, 1), (20, .lmul, 1), (21, .aload_n 0, 1), (22, .getfield 26, 3), (25, .iconst 2, 1), (26, .iaload, 1), (27, .i2l, 1), (28, .ldc2_w 317, 3), (31, .lmul, 1), (32, .lcmp, 1), (33, .ifCond .lt 7, 3), (36, .iconst 1, 1), (37, .goto 4, 3), (40, .iconst 0, 1), (41, .ireturn, 1)])
set_option maxRecDepth 100000 in
theorem okX12_isBright : MOk mX12_isBright := mok_of (by decide +kernel)
def mX12_glowing : MD := (yX12_glowing, cX12_glowing, 6, some .long, [(0, .aload_n 0, 1), (1, .iload_n 1, 1), (2, .iload_n 2, 1), (3, .invokevirtual 337, 3), (6, .lconst 0, 1), (7, .lstore_n 3, 1), (8, .iconst 0, 1), (9, .istore 5, 2), (11, .iload 5, 2), (13, .aload_n 0, 1), (14, .getfield 169, 3), (17, .if_icmp .ge 29, 3), (20, .lload_n 3, 1), (21, .aload_n 0, 1), (22, .iload 5, 2), (24, .invokevirtual 340, 3), (27, .ifCond .eq 10, 3), (30, .lconst 1, 1), (31, .iload 5, 2), (33, .lshl, 1), (34, .goto 4, 3), (37, .lconst 0, 1), (38, .lor, 1), (39, .lstore_n 3, 1), (40, .iinc 5 1, 3), (43, .goto (-32), 3), (46, .lload_n 3, 1), (47, .lreturn, 1)])
set_option maxRecDepth 100000 in
theorem okX12_glowing : MOk mX12_glowing := mok_of (by decide +kernel)
def mX12_askedFor : MD := (yX12_askedFor, cX12_askedFor, 6, some .long, [(0, .lconst 0, 1), (1, .lstore_n 3, 1), (2, .iconst 0, 1), (3, .istore 5, 2), (5, .iload 5, 2), (7, .aload_n 0, 1), (8, .getfield 169, 3), (11, .if_icmp .ge 50, 3), (14, .lload_n 3, 1), (15, .iload_n 1, 1), (16, .i2l, 1), (17, .aload_n 0, 1), (18, .getfield 13, 3), (21, .iload 5, 2), (23, .iaload, 1), (24, .invokestatic 294, 3), (27, .ifCond .eq 25, 3), (30, .iload_n 2, 1), (31, .i2l, 1), (32, .aload_n 0, 1), (33, .getfield 17, 3), (36, .iload 5, 2), (38, .iaload, 1), (39, .invokestatic 294, 3), (42, .ifCond .eq 10, 3), (45, .lconst 1, 1), (46, .iload 5, 2), (48, .lshl, 1), (49, .goto 4, 3), (52, .lconst 0, 1), (53, .lor, 1), (54, .lstore_n 3, 1), (55, .iinc 5 1, 3), (58, .goto (-53), 3), (61, .lload_n 3, 1), (62, .lreturn, 1)])
set_option maxRecDepth 100000 in
theorem okX12_askedFor : MOk mX12_askedFor := mok_of (by decide +kernel)
def mX12_glowingWith : MD := (yX12_glowingWith, cX12_glowingWith, 4, some .long, [(0, .aload_n 0, 1), (1, .iload_n 1, 1), (2, .invokevirtual 343, 3), (5, .aload_n 0, 1), (6, .iload_n 2, 1), (7, .iload_n 3, 1), (8, .invokevirtual 346, 3), (11, .lreturn, 1)])
set_option maxRecDepth 100000 in
theorem okX12_glowingWith : MOk mX12_glowingWith := mok_of (by decide +kernel)
def mX12_put : MD := (yX12_put, cX12_put, 3, some .int, [(0, .aload_n 0, 1), (1, .iconst 0, 1), (2, .putfield 159, 3), (5, .aload_n 0, 1), (6, .iload_n 1, 1), (7, .iload_n 2, 1), (8, .invokevirtual 350, 3), (11, .ifCond .ne 5, 3), (14, .iconst (-1), 1), (15, .ireturn, 1), (16, .aload_n 0, 1), (17, .iload_n 1, 1), (18, .putfield 211, 3), (21, .aload_n 0, 1), (22, .iload_n 2, 1), (23, .putfield 214, 3), (26, .aload_n 0, 1), (27, .iconst 0, 1), (28, .iload_n 1, 1), (29, .iload_n 2, 1), (30, .invokevirtual 353, 3), (33, .invokestatic 357, 3), (36, .ireturn, 1)])
set_option maxRecDepth 100000 in
theorem okX12_put : MOk mX12_put := mok_of (by decide +kernel)
def mX12_glows : MD := (yX12_glows, cX12_glows, 1, some .long, [(0, .aload_n 0, 1), (1, .iconst 0, 1), (2, .putfield 159, 3), (5, .aload_n 0, 1), (6, .iconst 0, 1), (7, .aload_n 0, 1), (8, .getfield 211, 3), (11, .aload_n 0, 1), (12, .getfield 214, 3), (15, .invokevirtual 353, 3), (18, .lreturn, 1)])
set_option maxRecDepth 100000 in
theorem okX12_glows : MOk mX12_glows := mok_of (by decide +kernel)
def mX12_ghosts : MD := (yX12_ghosts, cX12_ghosts, 1, some .long, [(0, .aload_n 0, 1), (1, .iconst 0, 1), (2, .putfield 159, 3), (5, .aload_n 0, 1), (6, .iconst 0, 1), (7, .aload_n 0, 1), (8, .getfield 211, 3), (11, .aload_n 0, 1), (12, .getfield 214, 3), (15, .invokevirtual 353, 3), (18, .aload_n 0, 1), (19, .aload_n 0, 1), (20, .getfield 211, 3), (23, .aload_n 0, 1), (24, .getfield 214, 3), (27, .invokevirtual 363, 3), (30, .ldc2_w 366, 3), (33, .lxor, 1), (34, .land, 1), (35, .lreturn, 1)])
set_option maxRecDepth 100000 in
theorem okX12_ghosts : MOk mX12_ghosts := mok_of (by decide +kernel)
def mX12_countAll : MD := (yX12_countAll, cX12_countAll, 2, none, [(0, .aload_n 0, 1), (1, .iconst 0, 1), (2, .invokevirtual 343, 3), (5, .aload_n 0, 1), (6, .iload_n 1, 1), (7, .putfield 64, 3), (10, .aload_n 0, 1), (11, .lconst 0, 1), (12, .putfield 328, 3), (15, .aload_n 0, 1), (16, .iconst 1, 1), (17, .putfield 301, 3), (20, .aload_n 0, 1), (21, .aload_n 0, 1), (22, .getfield 211, 3), (25, .aload_n 0, 1), (26, .getfield 214, 3), (29, .invokevirtual 337, 3), (32, .aload_n 0, 1), (33, .iconst 0, 1), (34, .putfield 301, 3), (37, .aload_n 0, 1), (38, .iconst (-1), 1), (39, .putfield 64, 3), (42, .return_, 1)])
set_option maxRecDepth 100000 in
theorem okX12_countAll : MOk mX12_countAll := mok_of (by decide +kernel)
def mX12_light : MD := (yX12_light, cX12_light, 2, some .long, [(0, .aload_n 0, 1), (1, .iconst 0, 1), (2, .putfield 159, 3), (5, .aload_n 0, 1), (6, .iload_n 1, 1), (7, .invokevirtual 234, 3), (10, .ifCond .ne 7, 3), (13, .ldc2_w 366, 3), (16, .lreturn, 1), (17, .aload_n 0, 1), (18, .iconst (-1), 1), (19, .invokevirtual 368, 3), (22, .aload_n 0, 1), (23, .iconst 0, 1), (24, .putfield 162, 3), (27, .aload_n 0, 1), (28, .aload_n 0, 1), (29, .getfield 52, 3), (32, .iload_n 1, 1), (33, .iaload, 1), (34, .i2l, 1), (35, .invokevirtual 371, 3), (38, .aload_n 0, 1), (39, .aload_n 0, 1), (40, .getfield 55, 3), (43, .iload_n 1, 1), (44, .laload, 1), (45, .invokevirtual 371, 3), (48, .aload_n 0, 1), (49, .getfield 49, 3), (52, .iload_n 1, 1), (53, .laload, 1), (54, .lreturn, 1)])
set_option maxRecDepth 100000 in
theorem okX12_light : MOk mX12_light := mok_of (by decide +kernel)
def mX12_why : MD := (yX12_why, cX12_why, 3, some .long, [(0, .aload_n 0, 1), (1, .iconst 0, 1), (2, .putfield 159, 3), (5, .aload_n 0, 1), (6, .iload_n 1, 1), (7, .invokevirtual 234, 3), (10, .ifCond .ne 7, 3), (13, .ldc2_w 366, 3), (16, .lreturn, 1), (17, .aload_n 0, 1), (18, .iload_n 1, 1), (19, .invokevirtual 368, 3), (22, .aload_n 0, 1), (23, .getfield 328, 3), (26, .lconst 0, 1), (27, .lcmp, 1), (28, .ifCond .ne 7, 3), (31, .ldc2_w 375, 3), (34, .lreturn, 1), (35, .aload_n 0, 1), (36, .iconst 0, 1), (37, .putfield 162, 3), (40, .iconst 0, 1), (41, .istore_n 2, 1), (42, .iload_n 2, 1), (43, .aload_n 0, 1), (44, .getfield 332, 3), (47, .if_icmp .ge 20, 3), (50, .aload_n 0, 1), (51, .aload_n 0, 1), (52, .getfield 67, 3), (55, .iload_n 2, 1), (56, .iaload, 1), (57, .i2l, 1), (58, .invokevirtual 371, 3), (61, .iinc 2 1, 3), (64, .goto (-22), 3), (67, .aload_n 0, 1), (68, .getfield 328, 3), (71, .lreturn, 1)])
set_option maxRecDepth 100000 in
theorem okX12_why : MOk mX12_why := mok_of (by decide +kernel)
def mX12_draws : MD := (yX12_draws, cX12_draws, 2, some .long, [(0, .aload_n 0, 1), (1, .iconst 0, 1), (2, .putfield 159, 3), (5, .aload_n 0, 1), (6, .iload_n 1, 1), (7, .invokevirtual 241, 3), (10, .ifCond .ne 7, 3), (13, .ldc2_w 366, 3), (16, .lreturn, 1), (17, .aload_n 0, 1), (18, .iconst (-1), 1), (19, .invokevirtual 368, 3), (22, .aload_n 0, 1), (23, .getfield 58, 3), (26, .iload_n 1, 1), (27, .laload, 1), (28, .lreturn, 1)])
set_option maxRecDepth 100000 in
theorem okX12_draws : MOk mX12_draws := mok_of (by decide +kernel)
def mX12_brightest : MD := (yX12_brightest, cX12_brightest, 4, some .int, [(0, .aload_n 0, 1), (1, .iconst 0, 1), (2, .putfield 159, 3), (5, .aload_n 0, 1), (6, .iconst (-1), 1), (7, .invokevirtual 368, 3), (10, .bipush (-2), 2), (12, .istore_n 1, 1), (13, .iconst (-1), 1), (14, .istore_n 2, 1), (15, .iconst 0, 1), (16, .istore_n 3, 1), (17, .iload_n 3, 1), (18, .aload_n 0, 1), (19, .getfield 169, 3), (22, .if_icmp .ge 65, 3), (25, .aload_n 0, 1), (26, .iload_n 3, 1), (27, .invokevirtual 340, 3), (30, .ifCond .ne 6, 3), (33, .goto 48, 3), (36, .iload_n 1, 1), (37, .ifCond .lt 19, 3), (40, .aload_n 0, 1), (41, .getfield 49, 3), (44, .iload_n 3, 1), (45, .laload, 1), (46, .aload_n 0, 1), (47, .getfield 49, 3), (50, .iload_n 1, 1), (51, .laload, 1), (52, .lcmp, 1), (53, .ifCond .le 5, 3), (56, .iload_n 3, 1), (57, .istore_n 1, 1), (58, .iload_n 2, 1), (59, .iconst (-1), 1), (60, .if_icmp .eq 19, 3), (63, .aload_n 0, 1), (64, .getfield 49, 3), (67, .iload_n 3, 1), (68, .laload, 1), (69, .aload_n 0, 1), (70, .getfield 49, 3), (73, .iload_n 2, 1), (74, .laload, 1), (75, .lcmp, 1), (76, .ifCond .ge 5, 3), (79, .iload_n 3, 1), (80, .istore_n 2, 1), (81, .iinc 3 1, 3), (84, .goto (-67), 3), (87, .iload_n 1, 1), (88, .ifCond .ge 6, 3), (91, .bipush (-2), 2), (93, .ireturn, 1), (94, .aload_n 0, 1), (95, .iconst 0, 1), (96, .putfield 162, 3), (99, .aload_n 0, 1), (100, .aload_n 0, 1), (101, .getfield 49, 3), (104, .iload_n 1, 1), (105, .laload, 1), (106, .invokevirtual 371, 3), (109, .aload_n 0, 1), (110, .iload_n 2, 1), (111, .i2l, 1), (112, .invokevirtual 371, 3), (115, .aload_n 0, 1), (116, .aload_n 0, 1), (117, .getfield 49, 3), (120, .iload_n 2, 1), (121, .laload, 1), (122, .invokevirtual 371, 3), (125, .iload_n 1, 1), (126, .ireturn, 1)])
set_option maxRecDepth 100000 in
theorem okX12_brightest : MOk mX12_brightest := mok_of (by decide +kernel)
def mX12_settings : MD := (yX12_settings, cX12_settings, 3, some .int, [(0, .iconst 1, 1), (1, .istore_n 1, 1), (2, .iconst 0, 1), (3, .istore_n 2, 1), (4, .iload_n 2, 1), (5, .aload_n 0, 1), (6, .getfield 9, 3), (9, .if_icmp .ge 13, 3), (12, .iload_n 1, 1), (13, .iconst 3, 1), (14, .imul, 1), (15, .istore_n 1, 1), (16, .iinc 2 1, 3), (19, .goto (-15), 3), (22, .iload_n 1, 1), (23, .ireturn, 1)])
set_option maxRecDepth 100000 in
theorem okX12_settings : MOk mX12_settings := mok_of (by decide +kernel)
def mX12_highOf : MD := (yX12_highOf, cX12_highOf, 2, some .int, [(0, .aload_n 0, 1), (1, .iload_n 1, 1), (2, .iconst 1, 1), (3, .invokevirtual 377, 3), (6, .ireturn, 1)])
set_option maxRecDepth 100000 in
theorem okX12_highOf : MOk mX12_highOf := mok_of (by decide +kernel)
def mX12_lowOf : MD := (yX12_lowOf, cX12_lowOf, 2, some .int, [(0, .aload_n 0, 1), (1, .iload_n 1, 1), (2, .iconst 2, 1), (3, .invokevirtual 377, 3), (6, .ireturn, 1)])
set_option maxRecDepth 100000 in
theorem okX12_lowOf : MOk mX12_lowOf := mok_of (by decide +kernel)
def mX12_wiresAt : MD := (yX12_wiresAt, cX12_wiresAt, 6, some .int, [(0, .iconst 0, 1), (1, .istore_n 3, 1), (2, .iload_n 1, 1), (3, .istore 4, 2), (5, .aload_n 0, 1), (6, .getfield 9, 3), (9, .iconst 1, 1), (10, .isub, 1), (11, .istore 5, 2), (13, .iload 5, 2), (15, .ifCond .lt 34, 3), (18, .iload_n 3, 1), (19, .iload 4, 2), (21, .iconst 3, 1), (22, .irem, 1), (23, .iload_n 2, 1), (24, .if_icmp .ne 10, 3), (27, .iconst 1, 1), (28, .iload 5, 2), (30, .ishl, 1), (31, .goto 4, 3), (34, .iconst 0, 1), (35, .ior, 1), (36, .istore_n 3, 1), (37, .iload 4, 2), (39, .iconst 3, 1), (40, .idiv, 1), (41, .istore 4, 2), (43, .iinc 5 (-1), 3), (46, .goto (-33), 3), (49, .iload_n 3, 1), (50, .ireturn, 1)])
set_option maxRecDepth 100000 in
theorem okX12_wiresAt : MOk mX12_wiresAt := mok_of (by decide +kernel)
def mX12_canSearch : MD := (yX12_canSearch, cX12_canSearch, 1, some .boolean, [(0, .aload_n 0, 1), (1, .getfield 9, 3), (4, .bipush 7, 2), (6, .if_icmp .gt 7, 3), (9, .iconst 1, 1), (10, .goto 4, 3), (13, .iconst 0, 1), (14, .ireturn, 1)])
set_option maxRecDepth 100000 in
theorem okX12_canSearch : MOk mX12_canSearch := mok_of (by decide +kernel)
def mX12_findGlow : MD := (yX12_findGlow, cX12_findGlow, 5, none, [(0, .aload_n 0, 1), (1, .iload_n 1, 1), (2, .invokevirtual 343, 3), (5, .aload_n 0, 1), (6, .invokevirtual 380, 3), (9, .istore_n 3, 1), (10, .iconst 0, 1), (11, .istore 4, 2), (13, .iload 4, 2), (15, .iload_n 3, 1), (16, .if_icmp .ge 29, 3), (19, .aload_n 2, 1), (20, .iload 4, 2), (22, .aload_n 0, 1), (23, .aload_n 0, 1), (24, .iload 4, 2), (26, .invokevirtual 383, 3), (29, .aload_n 0, 1), (30, .iload 4, 2), (32, .invokevirtual 386, 3), (35, .invokevirtual 346, 3), (38, .lastore, 1), (39, .iinc 4 1, 3), (42, .goto (-29), 3), (45, .return_, 1)])
set_option maxRecDepth 100000 in
theorem okX12_findGlow : MOk mX12_findGlow := mok_of (by decide +kernel)
def mX12_findAll : MD := (yX12_findAll, cX12_findAll, 3, none, [(0, .aload_n 0, 1), (1, .iconst 0, 1), (2, .aload_n 0, 1), (3, .getfield 70, 3), (6, .invokevirtual 389, 3), (9, .aload_n 0, 1), (10, .invokevirtual 380, 3), (13, .istore_n 1, 1), (14, .iconst 0, 1), (15, .istore_n 2, 1), (16, .iload_n 2, 1), (17, .iload_n 1, 1), (18, .if_icmp .ge 50, 3), (21, .aload_n 0, 1), (22, .getfield 73, 3), (25, .iload_n 2, 1), (26, .aload_n 0, 1), (27, .getfield 70, 3), (30, .iload_n 2, 1), (31, .laload, 1), (32, .aload_n 0, 1), (33, .aload_n 0, 1), (34, .iload_n 2, 1), (35, .invokevirtual 383, 3), (38, .aload_n 0, 1), (39, .iload_n 2, 1), (40, .invokevirtual 386, 3), (43, .invokevirtual 363, 3), (46, .ldc2_w 366, 3), (49, .lxor, 1), (50, .land, 1), (51, .lconst 0, 1), (52, .lcmp, 1), (53, .ifCond .eq 7, 3), (56, .iconst 1, 1), (57, .goto 4, 3), (60, .iconst 0, 1), (61, .bastore, 1), (62, .iinc 2 1, 3), (65, .goto (-49), 3), (68, .return_, 1)])
set_option maxRecDepth 100000 in
theorem okX12_findAll : MOk mX12_findAll := mok_of (by decide +kernel)
def mX12_shows : MD := (yX12_shows, cX12_shows, 6, some .int, [(0, .aload_n 0, 1), (1, .iconst 0, 1), (2, .putfield 159, 3), (5, .aload_n 0, 1), (6, .lload_n 1, 1), (7, .invokevirtual 393, 3), (10, .ifCond .ne 5, 3), (13, .iconst (-1), 1), (14, .ireturn, 1), (15, .aload_n 0, 1), (16, .invokevirtual 397, 3), (19, .ifCond .ne 6, 3), (22, .bipush (-3), 2), (24, .ireturn, 1), (25, .aload_n 0, 1), (26, .invokevirtual 401, 3), (29, .bipush (-2), 2), (31, .istore_n 3, 1), (32, .iconst 0, 1), (33, .istore 4, 2), (35, .aload_n 0, 1), (36, .invokevirtual 380, 3), (39, .iconst 1, 1), (40, .isub, 1), (41, .istore 5, 2), (43, .iload 5, 2), (45, .ifCond .lt 30, 3), (48, .aload_n 0, 1), (49, .getfield 70, 3), (52, .iload 5, 2), (54, .laload, 1), (55, .lload_n 1, 1), (56, .lcmp, 1), (57, .ifCond .eq 6, 3), (60, .goto 9, 3), (63, .iload 5, 2), (65, .istore_n 3, 1), (66, .iinc 4 1, 3), (69, .iinc 5 (-1), 3), (72, .goto (-29), 3), (75, .iload_n 3, 1), (76, .ifCond .ge 6, 3), (79, .bipush (-2), 2), (81, .ireturn, 1), (82, .aload_n 0, 1), (83, .iconst 0, 1), (84, .putfield 162, 3), (87, .aload_n 0, 1), (88, .aload_n 0, 1), (89, .iload_n 3, 1), (90, .invokevirtual 383, 3), (93, .i2l, 1), (94, .invokevirtual 371, 3), (97, .aload_n 0, 1), (98, .aload_n 0, 1), (99, .iload_n 3, 1), (100, .invokevirtual 386, 3), (103, .i2l, 1), (104, .invokevirtual 371, 3), (107, .aload_n 0, 1), (108, .iload 4, 2), (110, .i2l, 1), (111, .invokevirtual 371, 3), (114, .iload_n 3, 1), (115, .ireturn, 1)])
set_option maxRecDepth 100000 in
theorem okX12_shows : MOk mX12_shows := mok_of (by decide +kernel)
def mX12_bars : MD := (yX12_bars, cX12_bars, 7, some .int, [(0, .aload_n 0, 1), (1, .iconst 0, 1), (2, .putfield 159, 3), (5, .aload_n 0, 1), (6, .lload_n 1, 1), (7, .invokevirtual 393, 3), (10, .ifCond .ne 5, 3), (13, .iconst (-1), 1), (14, .ireturn, 1), (15, .aload_n 0, 1), (16, .invokevirtual 397, 3), (19, .ifCond .ne 6, 3), (22, .bipush (-3), 2), (24, .ireturn, 1), (25, .aload_n 0, 1), (26, .invokevirtual 401, 3), (29, .iconst (-1), 1), (30, .istore_n 3, 1), (31, .iconst 0, 1), (32, .istore 4, 2), (34, .iconst 0, 1), (35, .istore 5, 2), (37, .iload 5, 2), (39, .aload_n 0, 1), (40, .invokevirtual 380, 3), (43, .if_icmp .ge 63, 3), (46, .aload_n 0, 1), (47, .getfield 70, 3), (50, .iload 5, 2), (52, .laload, 1), (53, .lload_n 1, 1), (54, .ldc2_w 366, 3), (57, .lxor, 1), (58, .land, 1), (59, .invokestatic 357, 3), (62, .istore 6, 2), (64, .aload_n 0, 1), (65, .getfield 70, 3), (68, .iload 5, 2), (70, .laload, 1), (71, .lload_n 1, 1), (72, .land, 1), (73, .lload_n 1, 1), (74, .lcmp, 1), (75, .ifCond .ne 25, 3), (78, .iload_n 3, 1), (79, .iconst (-1), 1), (80, .if_icmp .eq 13, 3), (83, .iload 6, 2), (85, .iload 4, 2), (87, .if_icmp .lt 6, 3), (90, .goto 10, 3), (93, .iload 5, 2), (95, .istore_n 3, 1), (96, .iload 6, 2), (98, .istore 4, 2), (100, .iinc 5 1, 3), (103, .goto (-66), 3), (106, .iload_n 3, 1), (107, .iconst (-1), 1), (108, .if_icmp .ne 6, 3), (111, .bipush (-2), 2), (113, .ireturn, 1), (114, .aload_n 0, 1), (115, .iconst 0, 1), (116, .putfield 162, 3), (119, .aload_n 0, 1), (120, .iload_n 3, 1), (121, .i2l, 1), (122, .invokevirtual 371, 3), (125, .aload_n 0, 1), (126, .iload 4, 2), (128, .ifCond .ne 9, 3), (131, .ldc2_w 366, 3), (134, .goto 19, 3), (137, .aload_n 0, 1), (138, .getfield 70, 3), (141, .iload_n 3, 1), (142, .laload, 1), (143, .lload_n 1, 1), (144, .ldc2_w 366, 3), (147, .lxor, 1), (148, .land, 1), (149, .invokestatic 404, 3), (152, .i2l, 1), (153, .invokevirtual 371, 3), (156, .iload 4, 2), (158, .ireturn, 1)])
set_option maxRecDepth 100000 in
theorem okX12_bars : MOk mX12_bars := mok_of (by decide +kernel)
def mX12_most : MD := (yX12_most, cX12_most, 4, some .int, [(0, .aload_n 0, 1), (1, .iconst 0, 1), (2, .putfield 159, 3), (5, .aload_n 0, 1), (6, .invokevirtual 397, 3), (9, .ifCond .ne 6, 3), (12, .bipush (-3), 2), (14, .ireturn, 1), (15, .aload_n 0, 1), (16, .invokevirtual 401, 3), (19, .iconst (-1), 1), (20, .istore_n 1, 1), (21, .iconst 0, 1), (22, .istore_n 2, 1), (23, .iconst 0, 1), (24, .istore_n 3, 1), (25, .iload_n 3, 1), (26, .aload_n 0, 1), (27, .invokevirtual 380, 3), (30, .if_icmp .ge 51, 3), (33, .aload_n 0, 1), (34, .getfield 73, 3), (37, .iload_n 3, 1), (38, .baload, 1), (39, .ifCond .ne 36, 3), (42, .iload_n 1, 1), (43, .iconst (-1), 1), (44, .if_icmp .eq 19, 3), (47, .aload_n 0, 1), (48, .getfield 70, 3), (51, .iload_n 3, 1), (52, .laload, 1), (53, .invokestatic 357, 3), (56, .iload_n 2, 1), (57, .if_icmp .gt 6, 3), (60, .goto 15, 3), (63, .iload_n 3, 1), (64, .istore_n 1, 1), (65, .aload_n 0, 1), (66, .getfield 70, 3), (69, .iload_n 3, 1), (70, .laload, 1), (71, .invokestatic 357, 3), (74, .istore_n 2, 1), (75, .iinc 3 1, 3), (78, .goto (-53), 3), (81, .aload_n 0, 1), (82, .iconst 0, 1), (83, .putfield 162, 3), (86, .aload_n 0, 1), (87, .iload_n 1, 1), (88, .i2l, 1), (89, .invokevirtual 371, 3), (92, .iload_n 2, 1), (93, .ireturn, 1)])
set_option maxRecDepth 100000 in
theorem okX12_most : MOk mX12_most := mok_of (by decide +kernel)
def mX12_sets : MD := (yX12_sets, cX12_sets, 7, some .int, [(0, .aload_n 0, 1), (1, .iconst 0, 1), (2, .putfield 159, 3), (5, .aload_n 0, 1), (6, .invokevirtual 397, 3), (9, .ifCond .ne 6, 3), (12, .bipush (-3), 2), (14, .ireturn, 1), (15, .aload_n 0, 1), (16, .invokevirtual 401, 3), (19, .iconst 0, 1), (20, .istore_n 1, 1), (21, .iconst 0, 1), (22, .istore_n 2, 1), (23, .iconst 0, 1), (24, .istore_n 3, 1), (25, .iload_n 3, 1), (26, .aload_n 0, 1), (27, .invokevirtual 380, 3), (30, .if_icmp .ge 155, 3), (33, .iconst 1, 1), (34, .istore 4, 2), (36, .aload_n 0, 1), (37, .getfield 73, 3), (40, .iload_n 3, 1), (41, .baload, 1), (42, .ifCond .ne 7, 3), (45, .iconst 1, 1), (46, .goto 4, 3), (49, .iconst 0, 1), (50, .istore 5, 2), (52, .iconst 0, 1), (53, .istore 6, 2), (55, .iload 6, 2), (57, .iload_n 3, 1), (58, .if_icmp .ge 38, 3), (61, .iload 4, 2), (63, .ifCond .eq 33, 3), (66, .aload_n 0, 1), (67, .getfield 70, 3), (70, .iload 6, 2), (72, .laload, 1), (73, .aload_n 0, 1), (74, .getfield 70, 3), (77, .iload_n 3, 1), (78, .laload, 1), (79, .lcmp, 1), (80, .ifCond .eq 7, 3), (83, .iconst 1, 1), (84, .goto 4, 3), (87, .iconst 0, 1), (88, .istore 4, 2), (90, .iinc 6 1, 3), (93, .goto (-38), 3), (96, .iload 4, 2), (98, .ifCond .ne 6, 3), (101, .goto 78, 3), (104, .iload_n 3, 1), (105, .iconst 1, 1), (106, .iadd, 1), (107, .istore 6, 2), (109, .iload 6, 2), (111, .aload_n 0, 1), (112, .invokevirtual 380, 3), (115, .if_icmp .ge 48, 3), (118, .iload 5, 2), (120, .ifCond .ne 43, 3), (123, .aload_n 0, 1), (124, .getfield 70, 3), (127, .iload 6, 2), (129, .laload, 1), (130, .aload_n 0, 1), (131, .getfield 70, 3), (134, .iload_n 3, 1), (135, .laload, 1), (136, .lcmp, 1), (137, .ifCond .ne 17, 3), (140, .aload_n 0, 1), (141, .getfield 73, 3), (144, .iload 6, 2), (146, .baload, 1), (147, .ifCond .ne 7, 3), (150, .iconst 1, 1), (151, .goto 4, 3), (154, .iconst 0, 1), (155, .istore 5, 2), (157, .iinc 6 1, 3), (160, .goto (-51), 3), (163, .iinc 1 1, 3), (166, .iload_n 2, 1), (167, .iload 5, 2), (169, .ifCond .eq 7, 3), (172, .iconst 1, 1), (173, .goto 4, 3), (176, .iconst 0, 1), (177, .iadd, 1), (178, .istore_n 2, 1), (179, .iinc 3 1, 3), (182, .goto (-157), 3), (185, .aload_n 0, 1), (186, .iconst 0, 1), (187, .putfield 162, 3), (190, .aload_n 0, 1), (191, .iload_n 2, 1), (192, .i2l, 1), (193, .invokevirtual 371, 3), (196, .iload_n 1, 1), (197, .ireturn, 1)])
set_option maxRecDepth 100000 in
theorem okX12_sets : MOk mX12_sets := mok_of (by decide +kernel)
def mX12_fits : MD := (yX12_fits, cX12_fits, 4, some .int, [(0, .aload_n 0, 1), (1, .iconst 0, 1), (2, .putfield 159, 3), (5, .aload_n 0, 1), (6, .iload_n 1, 1), (7, .invokevirtual 234, 3), (10, .ifCond .eq 16, 3), (13, .aload_n 0, 1), (14, .iload_n 2, 1), (15, .invokevirtual 234, 3), (18, .ifCond .eq 8, 3), (21, .iload_n 1, 1), (22, .iload_n 2, 1), (23, .if_icmp .ne 5, 3), (26, .iconst (-1), 1), (27, .ireturn, 1), (28, .aload_n 0, 1), (29, .invokevirtual 397, 3), (32, .ifCond .ne 6, 3), (35, .bipush (-3), 2), (37, .ireturn, 1), (38, .aload_n 0, 1), (39, .invokevirtual 401, 3), (42, .iconst 0, 1), (43, .istore_n 3, 1), (44, .iload_n 3, 1), (45, .aload_n 0, 1), (46, .invokevirtual 380, 3), (49, .if_icmp .ge 46, 3), (52, .aload_n 0, 1), (53, .getfield 73, 3), (56, .iload_n 3, 1), (57, .baload, 1), (58, .ifCond .ne 31, 3), (61, .aload_n 0, 1), (62, .getfield 70, 3), (65, .iload_n 3, 1), (66, .laload, 1), (67, .iload_n 1, 1), (68, .invokestatic 294, 3), (71, .ifCond .eq 18, 3), (74, .aload_n 0, 1), (75, .getfield 70, 3), (78, .iload_n 3, 1), (79, .laload, 1), (80, .iload_n 2, 1), (81, .invokestatic 294, 3), (84, .ifCond .eq 5, 3), (87, .iconst 1, 1), (88, .ireturn, 1), (89, .iinc 3 1, 3), (92, .goto (-48), 3), (95, .iconst 0, 1), (96, .ireturn, 1)])
set_option maxRecDepth 100000 in
theorem okX12_fits : MOk mX12_fits := mok_of (by decide +kernel)
def mX12_alone : MD := (yX12_alone, cX12_alone, 4, some .long, [(0, .aload_n 0, 1), (1, .iconst 0, 1), (2, .putfield 159, 3), (5, .aload_n 0, 1), (6, .invokevirtual 397, 3), (9, .ifCond .ne 7, 3), (12, .ldc2_w 407, 3), (15, .lreturn, 1), (16, .aload_n 0, 1), (17, .invokevirtual 401, 3), (20, .lconst 0, 1), (21, .lstore_n 1, 1), (22, .iconst 0, 1), (23, .istore_n 3, 1), (24, .iload_n 3, 1), (25, .aload_n 0, 1), (26, .invokevirtual 380, 3), (29, .if_icmp .ge 35, 3), (32, .lload_n 1, 1), (33, .aload_n 0, 1), (34, .getfield 70, 3), (37, .iload_n 3, 1), (38, .laload, 1), (39, .invokestatic 357, 3), (42, .iconst 1, 1), (43, .if_icmp .ne 12, 3), (46, .aload_n 0, 1), (47, .getfield 70, 3), (50, .iload_n 3, 1), (51, .laload, 1), (52, .goto 4, 3), (55, .lconst 0, 1), (56, .lor, 1), (57, .lstore_n 1, 1), (58, .iinc 3 1, 3), (61, .goto (-37), 3), (64, .lload_n 1, 1), (65, .lreturn, 1)])
set_option maxRecDepth 100000 in
theorem okX12_alone : MOk mX12_alone := mok_of (by decide +kernel)
def mX12_twins : MD := (yX12_twins, cX12_twins, 7, some .int, [(0, .aload_n 0, 1), (1, .iconst 0, 1), (2, .putfield 159, 3), (5, .aload_n 0, 1), (6, .invokevirtual 397, 3), (9, .ifCond .ne 6, 3), (12, .bipush (-3), 2), (14, .ireturn, 1), (15, .aload_n 0, 1), (16, .invokevirtual 401, 3), (19, .iconst 0, 1), (20, .istore_n 1, 1), (21, .aload_n 0, 1), (22, .iconst 0, 1), (23, .putfield 162, 3), (26, .iconst 0, 1), (27, .istore_n 2, 1), (28, .iload_n 2, 1), (29, .aload_n 0, 1), (30, .getfield 169, 3), (33, .if_icmp .ge 146, 3), (36, .iload_n 2, 1), (37, .iconst 1, 1), (38, .iadd, 1), (39, .istore_n 3, 1), (40, .iload_n 3, 1), (41, .aload_n 0, 1), (42, .getfield 169, 3), (45, .if_icmp .ge 128, 3), (48, .iconst 0, 1), (49, .istore 4, 2), (51, .iconst 1, 1), (52, .istore 5, 2), (54, .iconst 0, 1), (55, .istore 6, 2), (57, .iload 6, 2), (59, .aload_n 0, 1), (60, .invokevirtual 380, 3), (63, .if_icmp .ge 72, 3), (66, .iload 5, 2), (68, .ifCond .eq 67, 3), (71, .aload_n 0, 1), (72, .getfield 70, 3), (75, .iload 6, 2), (77, .laload, 1), (78, .iload_n 2, 1), (79, .invokestatic 294, 3), (82, .aload_n 0, 1), (83, .getfield 70, 3), (86, .iload 6, 2), (88, .laload, 1), (89, .iload_n 3, 1), (90, .invokestatic 294, 3), (93, .if_icmp .ne 7, 3), (96, .iconst 1, 1), (97, .goto 4, 3), (100, .iconst 0, 1), (101, .istore 5, 2), (103, .iload 4, 2), (105, .ifCond .ne 17, 3), (108, .aload_n 0, 1), (109, .getfield 70, 3), (112, .iload 6, 2), (114, .laload, 1), (115, .iload_n 2, 1), (116, .invokestatic 294, 3), (119, .ifCond .eq 7, 3), (122, .iconst 1, 1), (123, .goto 4, 3), (126, .iconst 0, 1), (127, .istore 4, 2), (129, .iinc 6 1, 3), (132, .goto (-75), 3), (135, .iload 5, 2), (137, .ifCond .eq 30, 3), (140, .iload 4, 2), (142, .ifCond .ne 6, 3), (145, .goto 22, 3), (148, .iload_n 1, 1), (149, .ifCond .ne 15, 3), (152, .aload_n 0, 1), (153, .iload_n 2, 1), (154, .i2l, 1), (155, .invokevirtual 371, 3), (158, .aload_n 0, 1), (159, .iload_n 3, 1), (160, .i2l, 1), (161, .invokevirtual 371, 3), (164, .iinc 1 1, 3), (167, .iinc 3 1, 3), (170, .goto (-130), 3), (173, .iinc 2 1, 3), (176, .goto (-148), 3), (179, .iload_n 1, 1), (180, .ireturn, 1)])
set_option maxRecDepth 100000 in
theorem okX12_twins : MOk mX12_twins := mok_of (by decide +kernel)
def mX12_range : MD := (yX12_range, cX12_range, 8, some .int, [(0, .aload_n 0, 1), (1, .iconst 0, 1), (2, .putfield 159, 3), (5, .aload_n 0, 1), (6, .iload_n 1, 1), (7, .iload_n 2, 1), (8, .invokevirtual 350, 3), (11, .ifCond .ne 5, 3), (14, .iconst (-1), 1), (15, .ireturn, 1), (16, .aload_n 0, 1), (17, .iconst 0, 1), (18, .iload_n 1, 1), (19, .iload_n 2, 1), (20, .invokevirtual 353, 3), (23, .lstore_n 3, 1), (24, .aload_n 0, 1), (25, .getfield 26, 3), (28, .iconst 0, 1), (29, .iaload, 1), (30, .istore 5, 2), (32, .iconst 0, 1), (33, .istore 6, 2), (35, .iconst 1, 1), (36, .istore 7, 2), (38, .iload 7, 2), (40, .bipush 20, 2), (42, .if_icmp .gt 41, 3), (45, .aload_n 0, 1), (46, .getfield 26, 3), (49, .iconst 0, 1), (50, .iload 7, 2), (52, .iastore, 1), (53, .iload 6, 2), (55, .aload_n 0, 1), (56, .iload_n 1, 1), (57, .iload_n 2, 1), (58, .invokevirtual 346, 3), (61, .lload_n 3, 1), (62, .lcmp, 1), (63, .ifCond .ne 10, 3), (66, .iconst 1, 1), (67, .iload 7, 2), (69, .ishl, 1), (70, .goto 4, 3), (73, .iconst 0, 1), (74, .ior, 1), (75, .istore 6, 2), (77, .iinc 7 1, 3), (80, .goto (-42), 3), (83, .aload_n 0, 1), (84, .getfield 26, 3), (87, .iconst 0, 1), (88, .iload 5, 2), (90, .iastore, 1), (91, .iload 6, 2), (93, .ireturn, 1)])
set_option maxRecDepth 100000 in
theorem okX12_range : MOk mX12_range := mok_of (by decide +kernel)
def mX12_picture : MD := (yX12_picture, cX12_picture, 4, some .int, [(0, .aload_n 0, 1), (1, .iconst 0, 1), (2, .putfield 159, 3), (5, .iload_n 1, 1), (6, .i2l, 1), (7, .lconst 0, 1), (8, .ldc2_w 230, 3), (11, .invokestatic 165, 3), (14, .ifCond .eq 11, 3), (17, .aload_n 0, 1), (18, .lload_n 2, 1), (19, .invokevirtual 393, 3), (22, .ifCond .ne 5, 3), (25, .iconst (-1), 1), (26, .ireturn, 1), (27, .aload_n 0, 1), (28, .getfield 77, 3), (31, .iload_n 1, 1), (32, .lload_n 2, 1), (33, .lastore, 1), (34, .lload_n 2, 1), (35, .invokestatic 357, 3), (38, .ireturn, 1)])
set_option maxRecDepth 100000 in
theorem okX12_picture : MOk mX12_picture := mok_of (by decide +kernel)
def mX12_isTurn : MD := (yX12_isTurn, cX12_isTurn, 4, some .boolean, [(0, .aload_n 0, 1), (1, .getfield 70, 3), (4, .iload_n 1, 1), (5, .laload, 1), (6, .lconst 0, 1), (7, .lcmp, 1), (8, .ifCond .eq 33, 3), (11, .aload_n 0, 1), (12, .getfield 70, 3), (15, .iload_n 1, 1), (16, .laload, 1), (17, .lload_n 2, 1), (18, .ldc2_w 366, 3), (21, .lxor, 1), (22, .land, 1), (23, .lconst 0, 1), (24, .lcmp, 1), (25, .ifCond .ne 16, 3), (28, .aload_n 0, 1), (29, .getfield 73, 3), (32, .iload_n 1, 1), (33, .baload, 1), (34, .ifCond .ne 7, 3), (37, .iconst 1, 1), (38, .goto 4, 3), (41, .iconst 0, 1), (42, .ireturn, 1)])
set_option maxRecDepth 100000 in
theorem okX12_isTurn : MOk mX12_isTurn := mok_of (by decide +kernel)
def mX12_refusal : MD := (yX12_refusal, cX12_refusal, 2, some .int, [(0, .iload_n 1, 1), (1, .i2l, 1), (2, .lconst 0, 1), (3, .ldc2_w 230, 3), (6, .invokestatic 165, 3), (9, .ifCond .ne 5, 3), (12, .iconst (-1), 1), (13, .ireturn, 1), (14, .aload_n 0, 1), (15, .invokevirtual 397, 3), (18, .ifCond .ne 6, 3), (21, .bipush (-3), 2), (23, .ireturn, 1), (24, .aload_n 0, 1), (25, .getfield 77, 3), (28, .iload_n 1, 1), (29, .laload, 1), (30, .invokestatic 357, 3), (33, .bipush 12, 2), (35, .if_icmp .le 8, 3), (38, .bipush (-4), 2), (40, .goto 4, 3), (43, .iconst 0, 1), (44, .ireturn, 1)])
set_option maxRecDepth 100000 in
theorem okX12_refusal : MOk mX12_refusal := mok_of (by decide +kernel)
def mX12_findTurns : MD := (yX12_findTurns, cX12_findTurns, 5, none, [(0, .aload_n 0, 1), (1, .invokevirtual 401, 3), (4, .aload_n 0, 1), (5, .iconst 0, 1), (6, .putfield 409, 3), (9, .iconst 0, 1), (10, .istore_n 3, 1), (11, .iload_n 3, 1), (12, .aload_n 0, 1), (13, .getfield 169, 3), (16, .if_icmp .ge 40, 3), (19, .lload_n 1, 1), (20, .iload_n 3, 1), (21, .invokestatic 294, 3), (24, .ifCond .ne 6, 3), (27, .goto 23, 3), (30, .aload_n 0, 1), (31, .getfield 80, 3), (34, .aload_n 0, 1), (35, .getfield 409, 3), (38, .iload_n 3, 1), (39, .iastore, 1), (40, .aload_n 0, 1), (41, .dup, 1), (42, .getfield 409, 3), (45, .iconst 1, 1), (46, .iadd, 1), (47, .putfield 409, 3), (50, .iinc 3 1, 3), (53, .goto (-42), 3), (56, .iconst 0, 1), (57, .istore_n 3, 1), (58, .iload_n 3, 1), (59, .aload_n 0, 1), (60, .invokevirtual 380, 3), (63, .if_icmp .ge 79, 3), (66, .aload_n 0, 1), (67, .getfield 83, 3), (70, .iload_n 3, 1), (71, .iconst 0, 1), (72, .iastore, 1), (73, .iconst 0, 1), (74, .istore 4, 2), (76, .iload 4, 2), (78, .aload_n 0, 1), (79, .getfield 409, 3), (82, .if_icmp .ge 54, 3), (85, .aload_n 0, 1), (86, .iload_n 3, 1), (87, .lload_n 1, 1), (88, .invokevirtual 412, 3), (91, .ifCond .eq 45, 3), (94, .aload_n 0, 1), (95, .getfield 83, 3), (98, .iload_n 3, 1), (99, .dup2, 1), (100, .iaload, 1), (101, .aload_n 0, 1), (102, .getfield 70, 3), (105, .iload_n 3, 1), (106, .laload, 1), (107, .aload_n 0, 1), (108, .getfield 80, 3), (111, .iload 4, 2), (113, .iaload, 1), (114, .invokestatic 294, 3), (117, .ifCond .eq 10, 3), (120, .iconst 1, 1), (121, .iload 4, 2), (123, .ishl, 1), (124, .goto 4, 3), (127, .iconst 0, 1), (128, .ior, 1), (129, .iastore, 1), (130, .iinc 4 1, 3), (133, .goto (-57), 3), (136, .iinc 3 1, 3), (139, .goto (-81), 3), (142, .return_, 1)])
set_option maxRecDepth 100000 in
theorem okX12_findTurns : MOk mX12_findTurns := mok_of (by decide +kernel)
def mX12_findParted : MD := (yX12_findParted, cX12_findParted, 8, some .boolean, [(0, .aload_n 0, 1), (1, .lload_n 1, 1), (2, .invokevirtual 416, 3), (5, .iconst 1, 1), (6, .aload_n 0, 1), (7, .getfield 409, 3), (10, .ishl, 1), (11, .iconst 1, 1), (12, .isub, 1), (13, .istore_n 3, 1), (14, .aload_n 0, 1), (15, .invokevirtual 380, 3), (18, .istore 4, 2), (20, .iconst 0, 1), (21, .istore 5, 2), (23, .iload 5, 2), (25, .iload_n 3, 1), (26, .if_icmp .gt 17, 3), (29, .aload_n 0, 1), (30, .getfield 89, 3), (33, .iload 5, 2), (35, .iconst (-1), 1), (36, .iastore, 1), (37, .iinc 5 1, 3), (40, .goto (-17), 3), (43, .iload 4, 2), (45, .iconst 1, 1), (46, .isub, 1), (47, .istore 5, 2), (49, .iload 5, 2), (51, .ifCond .lt 23, 3), (54, .aload_n 0, 1), (55, .getfield 89, 3), (58, .aload_n 0, 1), (59, .getfield 83, 3), (62, .iload 5, 2), (64, .iaload, 1), (65, .iload 5, 2), (67, .iastore, 1), (68, .iinc 5 (-1), 3), (71, .goto (-22), 3), (74, .aload_n 0, 1), (75, .getfield 86, 3), (78, .iconst 0, 1), (79, .iconst 0, 1), (80, .iastore, 1), (81, .iconst 0, 1), (82, .istore 5, 2), (84, .iload 5, 2), (86, .aload_n 0, 1), (87, .getfield 409, 3), (90, .if_icmp .ge 89, 3), (93, .aload_n 0, 1), (94, .getfield 95, 3), (97, .iload 5, 2), (99, .iconst 0, 1), (100, .iastore, 1), (101, .iconst 1, 1), (102, .istore 6, 2), (104, .iload 6, 2), (106, .iload_n 3, 1), (107, .if_icmp .gt 66, 3), (110, .aload_n 0, 1), (111, .getfield 89, 3), (114, .iload 6, 2), (116, .iaload, 1), (117, .iconst (-1), 1), (118, .if_icmp .eq 49, 3), (121, .iload 6, 2), (123, .i2l, 1), (124, .iload 5, 2), (126, .invokestatic 294, 3), (129, .ifCond .ne 6, 3), (132, .goto 35, 3), (135, .aload_n 0, 1), (136, .getfield 92, 3), (139, .sipush 2187, 3), (142, .iload 5, 2), (144, .imul, 1), (145, .aload_n 0, 1), (146, .getfield 95, 3), (149, .iload 5, 2), (151, .iaload, 1), (152, .iadd, 1), (153, .iload 6, 2), (155, .iastore, 1), (156, .aload_n 0, 1), (157, .getfield 95, 3), (160, .iload 5, 2), (162, .dup2, 1), (163, .iaload, 1), (164, .iconst 1, 1), (165, .iadd, 1), (166, .iastore, 1), (167, .iinc 6 1, 3), (170, .goto (-66), 3), (173, .iinc 5 1, 3), (176, .goto (-92), 3), (179, .iconst 1, 1), (180, .istore 5, 2), (182, .iload 5, 2), (184, .iload_n 3, 1), (185, .if_icmp .gt 90, 3), (188, .aload_n 0, 1), (189, .getfield 86, 3), (192, .iload 5, 2), (194, .ldc_w 419, 3), (197, .iastore, 1), (198, .iload 5, 2), (200, .invokestatic 420, 3), (203, .istore 6, 2), (205, .iconst 0, 1), (206, .istore 7, 2), (208, .iload 7, 2), (210, .aload_n 0, 1), (211, .getfield 95, 3), (214, .iload 6, 2), (216, .iaload, 1), (217, .if_icmp .ge 52, 3), (220, .aload_n 0, 1), (221, .getfield 86, 3), (224, .iload 5, 2), (226, .aload_n 0, 1), (227, .getfield 86, 3), (230, .iload 5, 2), (232, .iaload, 1), (233, .aload_n 0, 1), (234, .getfield 86, 3), (237, .iload 5, 2), (239, .aload_n 0, 1), (240, .getfield 92, 3), (243, .sipush 2187, 3), (246, .iload 6, 2), (248, .imul, 1), (249, .iload 7, 2), (251, .iadd, 1), (252, .iaload, 1), (253, .iconst (-1), 1), (254, .ixor, 1), (255, .iand, 1), (256, .iaload, 1), (257, .iconst 1, 1), (258, .iadd, 1), (259, .invokestatic 244, 3), (262, .iastore, 1), (263, .iinc 7 1, 3), (266, .goto (-58), 3), (269, .iinc 5 1, 3), (272, .goto (-90), 3), (275, .aload_n 0, 1), (276, .getfield 86, 3), (279, .iload_n 3, 1), (280, .iaload, 1), (281, .ldc_w 419, 3), (284, .if_icmp .lt 5, 3), (287, .iconst 0, 1), (288, .ireturn, 1), (289, .aload_n 0, 1), (290, .iconst 0, 1), (291, .putfield 424, 3), (294, .iload_n 3, 1), (295, .istore 5, 2), (297, .iconst 0, 1), (298, .istore 6, 2), (300, .iload 6, 2), (302, .iload 4, 2), (304, .if_icmp .ge 81, 3), (307, .iload 5, 2), (309, .ifCond .eq 76, 3), (312, .aload_n 0, 1), (313, .getfield 86, 3), (316, .iload 5, 2), (318, .aload_n 0, 1), (319, .getfield 83, 3), (322, .iload 6, 2), (324, .iaload, 1), (325, .iconst (-1), 1), (326, .ixor, 1), (327, .iand, 1), (328, .iaload, 1), (329, .aload_n 0, 1), (330, .getfield 86, 3), (333, .iload 5, 2), (335, .iaload, 1), (336, .iconst 1, 1), (337, .isub, 1), (338, .if_icmp .eq 6, 3), (341, .goto 38, 3), (344, .aload_n 0, 1), (345, .getfield 98, 3), (348, .aload_n 0, 1), (349, .getfield 424, 3), (352, .iload 6, 2), (354, .iastore, 1), (355, .aload_n 0, 1), (356, .dup, 1), (357, .getfield 424, 3), (360, .iconst 1, 1), (361, .iadd, 1), (362, .putfield 424, 3), (365, .iload 5, 2), (367, .aload_n 0, 1), (368, .getfield 83, 3), (371, .iload 6, 2), (373, .iaload, 1), (374, .iconst (-1), 1), (375, .ixor, 1), (376, .iand, 1), (377, .istore 5, 2), (379, .iinc 6 1, 3), (382, .goto (-82), 3), (385, .iconst 1, 1), (386, .ireturn, 1)])
set_option maxRecDepth 100000 in
theorem okX12_findParted : MOk mX12_findParted := mok_of (by decide +kernel)
def mX12_tellTurns : MD := (yX12_tellTurns, cX12_tellTurns, 2, none, [(0, .iconst 0, 1), (1, .istore_n 1, 1), (2, .iload_n 1, 1), (3, .aload_n 0, 1), (4, .getfield 424, 3), (7, .if_icmp .ge 20, 3), (10, .aload_n 0, 1), (11, .aload_n 0, 1), (12, .getfield 98, 3), (15, .iload_n 1, 1), (16, .iaload, 1), (17, .i2l, 1), (18, .invokevirtual 371, 3), (21, .iinc 1 1, 3), (24, .goto (-22), 3), (27, .return_, 1)])
set_option maxRecDepth 100000 in
theorem okX12_tellTurns : MOk mX12_tellTurns := mok_of (by decide +kernel)
def mX12_parted : MD := (yX12_parted, cX12_parted, 3, some .int, [(0, .aload_n 0, 1), (1, .iconst 0, 1), (2, .putfield 159, 3), (5, .aload_n 0, 1), (6, .iload_n 1, 1), (7, .invokevirtual 427, 3), (10, .istore_n 2, 1), (11, .iload_n 2, 1), (12, .ifCond .ge 5, 3), (15, .iload_n 2, 1), (16, .ireturn, 1), (17, .aload_n 0, 1), (18, .aload_n 0, 1), (19, .getfield 77, 3), (22, .iload_n 1, 1), (23, .laload, 1), (24, .invokevirtual 430, 3), (27, .ifCond .ne 6, 3), (30, .bipush (-2), 2), (32, .ireturn, 1), (33, .aload_n 0, 1), (34, .iconst 0, 1), (35, .putfield 162, 3), (38, .aload_n 0, 1), (39, .invokevirtual 433, 3), (42, .aload_n 0, 1), (43, .getfield 424, 3), (46, .ireturn, 1)])
set_option maxRecDepth 100000 in
theorem okX12_parted : MOk mX12_parted := mok_of (by decide +kernel)
def mX12_proof : MD := (yX12_proof, cX12_proof, 7, some .int, [(0, .aload_n 0, 1), (1, .iconst 0, 1), (2, .putfield 159, 3), (5, .aload_n 0, 1), (6, .iload_n 1, 1), (7, .invokevirtual 427, 3), (10, .istore_n 2, 1), (11, .iload_n 2, 1), (12, .ifCond .ge 5, 3), (15, .iload_n 2, 1), (16, .ireturn, 1), (17, .aload_n 0, 1), (18, .aload_n 0, 1), (19, .getfield 77, 3), (22, .iload_n 1, 1), (23, .laload, 1), (24, .invokevirtual 416, 3), (27, .iconst 0, 1), (28, .istore_n 3, 1), (29, .iconst 1, 1), (30, .istore 4, 2), (32, .iload 4, 2), (34, .iconst 1, 1), (35, .aload_n 0, 1), (36, .getfield 409, 3), (39, .ishl, 1), (40, .if_icmp .ge 82, 3), (43, .iload 4, 2), (45, .invokestatic 436, 3), (48, .iload_n 3, 1), (49, .invokestatic 436, 3), (52, .if_icmp .gt 6, 3), (55, .goto 61, 3), (58, .iconst 1, 1), (59, .istore 5, 2), (61, .iconst 0, 1), (62, .istore 6, 2), (64, .iload 6, 2), (66, .aload_n 0, 1), (67, .invokevirtual 380, 3), (70, .if_icmp .ge 38, 3), (73, .iload 5, 2), (75, .ifCond .eq 33, 3), (78, .aload_n 0, 1), (79, .getfield 83, 3), (82, .iload 6, 2), (84, .iaload, 1), (85, .iload 4, 2), (87, .iand, 1), (88, .invokestatic 436, 3), (91, .iconst 2, 1), (92, .if_icmp .ge 7, 3), (95, .iconst 1, 1), (96, .goto 4, 3), (99, .iconst 0, 1), (100, .istore 5, 2), (102, .iinc 6 1, 3), (105, .goto (-41), 3), (108, .iload 5, 2), (110, .ifCond .eq 6, 3), (113, .iload 4, 2), (115, .istore_n 3, 1), (116, .iinc 4 1, 3), (119, .goto (-87), 3), (122, .lconst 0, 1), (123, .lstore 4, 2), (125, .iconst 0, 1), (126, .istore 6, 2), (128, .iload 6, 2), (130, .aload_n 0, 1), (131, .getfield 409, 3), (134, .if_icmp .ge 37, 3), (137, .lload 4, 2), (139, .iload_n 3, 1), (140, .i2l, 1), (141, .iload 6, 2), (143, .invokestatic 294, 3), (146, .ifCond .eq 15, 3), (149, .lconst 1, 1), (150, .aload_n 0, 1), (151, .getfield 80, 3), (154, .iload 6, 2), (156, .iaload, 1), (157, .lshl, 1), (158, .goto 4, 3), (161, .lconst 0, 1), (162, .lor, 1), (163, .lstore 4, 2), (165, .iinc 6 1, 3), (168, .goto (-40), 3), (171, .aload_n 0, 1), (172, .iconst 0, 1), (173, .putfield 162, 3), (176, .aload_n 0, 1), (177, .lload 4, 2), (179, .invokevirtual 371, 3), (182, .iload_n 3, 1), (183, .invokestatic 436, 3), (186, .ireturn, 1)])
set_option maxRecDepth 100000 in
theorem okX12_proof : MOk mX12_proof := mok_of (by decide +kernel)
def mX12_never : MD := (yX12_never, cX12_never, 5, some .long, [(0, .aload_n 0, 1), (1, .iconst 0, 1), (2, .putfield 159, 3), (5, .iload_n 1, 1), (6, .i2l, 1), (7, .lconst 0, 1), (8, .ldc2_w 230, 3), (11, .invokestatic 165, 3), (14, .ifCond .ne 7, 3), (17, .ldc2_w 366, 3), (20, .lreturn, 1), (21, .aload_n 0, 1), (22, .invokevirtual 397, 3), (25, .ifCond .ne 7, 3), (28, .ldc2_w 407, 3), (31, .lreturn, 1), (32, .aload_n 0, 1), (33, .invokevirtual 401, 3), (36, .aload_n 0, 1), (37, .getfield 77, 3), (40, .iload_n 1, 1), (41, .laload, 1), (42, .lstore_n 2, 1), (43, .iconst 0, 1), (44, .istore 4, 2), (46, .iload 4, 2), (48, .aload_n 0, 1), (49, .invokevirtual 380, 3), (52, .if_icmp .ge 38, 3), (55, .aload_n 0, 1), (56, .iload 4, 2), (58, .aload_n 0, 1), (59, .getfield 77, 3), (62, .iload_n 1, 1), (63, .laload, 1), (64, .invokevirtual 412, 3), (67, .ifCond .eq 17, 3), (70, .lload_n 2, 1), (71, .aload_n 0, 1), (72, .getfield 70, 3), (75, .iload 4, 2), (77, .laload, 1), (78, .ldc2_w 366, 3), (81, .lxor, 1), (82, .land, 1), (83, .lstore_n 2, 1), (84, .iinc 4 1, 3), (87, .goto (-41), 3), (90, .lload_n 2, 1), (91, .lreturn, 1)])
set_option maxRecDepth 100000 in
theorem okX12_never : MOk mX12_never := mok_of (by decide +kernel)
def mX12_changed : MD := (yX12_changed, cX12_changed, 7, some .int, [(0, .iconst 0, 1), (1, .istore_n 3, 1), (2, .iload_n 1, 1), (3, .istore 4, 2), (5, .iload_n 2, 1), (6, .istore 5, 2), (8, .iconst 0, 1), (9, .istore 6, 2), (11, .iload 6, 2), (13, .aload_n 0, 1), (14, .getfield 9, 3), (17, .if_icmp .ge 40, 3), (20, .iload_n 3, 1), (21, .iload 4, 2), (23, .iconst 3, 1), (24, .irem, 1), (25, .iload 5, 2), (27, .iconst 3, 1), (28, .irem, 1), (29, .if_icmp .eq 7, 3), (32, .iconst 1, 1), (33, .goto 4, 3), (36, .iconst 0, 1), (37, .iadd, 1), (38, .istore_n 3, 1), (39, .iload 4, 2), (41, .iconst 3, 1), (42, .idiv, 1), (43, .istore 4, 2), (45, .iload 5, 2), (47, .iconst 3, 1), (48, .idiv, 1), (49, .istore 5, 2), (51, .iinc 6 1, 3), (54, .goto (-43), 3), (57, .iload_n 3, 1), (58, .ireturn, 1)])
set_option maxRecDepth 100000 in
theorem okX12_changed : MOk mX12_changed := mok_of (by decide +kernel)
def mX12_goOrders : MD := (yX12_goOrders, cX12_goOrders, 6, none, [(0, .iload_n 1, 1), (1, .aload_n 0, 1), (2, .getfield 424, 3), (5, .if_icmp .ne 57, 3), (8, .aload_n 0, 1), (9, .getfield 438, 3), (12, .iconst (-1), 1), (13, .if_icmp .eq 13, 3), (16, .iload 4, 2), (18, .aload_n 0, 1), (19, .getfield 438, 3), (22, .if_icmp .lt 4, 3), (25, .return_, 1), (26, .aload_n 0, 1), (27, .iload 4, 2), (29, .putfield 438, 3), (32, .iconst 0, 1), (33, .istore 5, 2), (35, .iload 5, 2), (37, .iload_n 1, 1), (38, .if_icmp .ge 23, 3), (41, .aload_n 0, 1), (42, .getfield 104, 3), (45, .iload 5, 2), (47, .aload_n 0, 1), (48, .getfield 101, 3), (51, .iload 5, 2), (53, .iaload, 1), (54, .iastore, 1), (55, .iinc 5 1, 3), (58, .goto (-23), 3), (61, .return_, 1), (62, .iconst 0, 1), (63, .istore 5, 2), (65, .iload 5, 2), (67, .aload_n 0, 1), (68, .getfield 424, 3), (71, .if_icmp .ge 70, 3), (74, .iload_n 2, 1), (75, .i2l, 1), (76, .iload 5, 2), (78, .invokestatic 294, 3), (81, .ifCond .eq 6, 3), (84, .goto 51, 3), (87, .aload_n 0, 1), (88, .getfield 101, 3), (91, .iload_n 1, 1), (92, .aload_n 0, 1), (93, .getfield 98, 3), (96, .iload 5, 2), (98, .iaload, 1), (99, .iastore, 1), (100, .aload_n 0, 1), (101, .iload_n 1, 1), (102, .iconst 1, 1), (103, .iadd, 1), (104, .iload_n 2, 1), (105, .iconst 1, 1), (106, .iload 5, 2), (108, .ishl, 1), (109, .ior, 1), (110, .aload_n 0, 1), (111, .getfield 98, 3), (114, .iload 5, 2), (116, .iaload, 1), (117, .iload 4, 2), (119, .aload_n 0, 1), (120, .iload_n 3, 1), (121, .aload_n 0, 1), (122, .getfield 98, 3), (125, .iload 5, 2), (127, .iaload, 1), (128, .invokevirtual 441, 3), (131, .iadd, 1), (132, .invokevirtual 444, 3), (135, .iinc 5 1, 3), (138, .goto (-73), 3), (141, .return_, 1)])
set_option maxRecDepth 100000 in
theorem okX12_goOrders : MOk mX12_goOrders := mok_of (by decide +kernel)
def mX12_changes : MD := (yX12_changes, cX12_changes, 4, some .int, [(0, .aload_n 0, 1), (1, .iconst 0, 1), (2, .putfield 159, 3), (5, .aload_n 0, 1), (6, .iload_n 1, 1), (7, .invokevirtual 427, 3), (10, .istore_n 2, 1), (11, .iload_n 2, 1), (12, .ifCond .ge 5, 3), (15, .iload_n 2, 1), (16, .ireturn, 1), (17, .aload_n 0, 1), (18, .aload_n 0, 1), (19, .getfield 77, 3), (22, .iload_n 1, 1), (23, .laload, 1), (24, .invokevirtual 430, 3), (27, .ifCond .ne 6, 3), (30, .bipush (-2), 2), (32, .ireturn, 1), (33, .aload_n 0, 1), (34, .getfield 424, 3), (37, .bipush 6, 2), (39, .if_icmp .le 6, 3), (42, .bipush (-5), 2), (44, .ireturn, 1), (45, .aload_n 0, 1), (46, .iconst (-1), 1), (47, .putfield 438, 3), (50, .aload_n 0, 1), (51, .iconst 0, 1), (52, .iconst 0, 1), (53, .iconst 0, 1), (54, .iconst 0, 1), (55, .invokevirtual 444, 3), (58, .aload_n 0, 1), (59, .iconst 0, 1), (60, .putfield 162, 3), (63, .iconst 0, 1), (64, .istore_n 3, 1), (65, .iload_n 3, 1), (66, .aload_n 0, 1), (67, .getfield 424, 3), (70, .if_icmp .ge 20, 3), (73, .aload_n 0, 1), (74, .aload_n 0, 1), (75, .getfield 104, 3), (78, .iload_n 3, 1), (79, .iaload, 1), (80, .i2l, 1), (81, .invokevirtual 371, 3), (84, .iinc 3 1, 3), (87, .goto (-22), 3), (90, .aload_n 0, 1), (91, .getfield 438, 3), (94, .ireturn, 1)])
set_option maxRecDepth 100000 in
theorem okX12_changes : MOk mX12_changes := mok_of (by decide +kernel)
def mX12_sumOf : MD := (yX12_sumOf, cX12_sumOf, 5, some .long, [(0, .lconst 0, 1), (1, .lstore_n 2, 1), (2, .iconst 0, 1), (3, .istore 4, 2), (5, .iload 4, 2), (7, .aload_n 0, 1), (8, .getfield 424, 3), (11, .if_icmp .ge 33, 3), (14, .lload_n 2, 1), (15, .aload_n 0, 1), (16, .getfield 110, 3), (19, .iload 4, 2), (21, .iaload, 1), (22, .i2l, 1), (23, .aload_n 0, 1), (24, .getfield 107, 3), (27, .bipush 12, 2), (29, .iload 4, 2), (31, .imul, 1), (32, .iload_n 1, 1), (33, .iadd, 1), (34, .laload, 1), (35, .lmul, 1), (36, .ladd, 1), (37, .lstore_n 2, 1), (38, .iinc 4 1, 3), (41, .goto (-36), 3), (44, .lload_n 2, 1), (45, .lreturn, 1)])
set_option maxRecDepth 100000 in
theorem okX12_sumOf : MOk mX12_sumOf := mok_of (by decide +kernel)
def mX12_dimmest : MD := (yX12_dimmest, cX12_dimmest, 3, some .int, [(0, .iconst 0, 1), (1, .istore_n 1, 1), (2, .iconst 1, 1), (3, .istore_n 2, 1), (4, .iload_n 2, 1), (5, .aload_n 0, 1), (6, .getfield 409, 3), (9, .if_icmp .ge 25, 3), (12, .aload_n 0, 1), (13, .iload_n 2, 1), (14, .invokevirtual 447, 3), (17, .aload_n 0, 1), (18, .iload_n 1, 1), (19, .invokevirtual 447, 3), (22, .lcmp, 1), (23, .ifCond .ge 5, 3), (26, .iload_n 2, 1), (27, .istore_n 1, 1), (28, .iinc 2 1, 3), (31, .goto (-27), 3), (34, .iload_n 1, 1), (35, .ireturn, 1)])
set_option maxRecDepth 100000 in
theorem okX12_dimmest : MOk mX12_dimmest := mok_of (by decide +kernel)
def mX12_even : MD := (yX12_even, cX12_even, 8, some .long, [(0, .aload_n 0, 1), (1, .iconst 0, 1), (2, .putfield 159, 3), (5, .aload_n 0, 1), (6, .iload_n 1, 1), (7, .invokevirtual 427, 3), (10, .istore_n 3, 1), (11, .iload_n 3, 1), (12, .iconst (-1), 1), (13, .if_icmp .eq 15, 3), (16, .iload_n 2, 1), (17, .i2l, 1), (18, .lconst 1, 1), (19, .ldc2_w 451, 3), (22, .invokestatic 165, 3), (25, .ifCond .ne 7, 3), (28, .ldc2_w 366, 3), (31, .lreturn, 1), (32, .iload_n 3, 1), (33, .ifCond .ge 6, 3), (36, .iload_n 3, 1), (37, .i2l, 1), (38, .lreturn, 1), (39, .aload_n 0, 1), (40, .aload_n 0, 1), (41, .getfield 77, 3), (44, .iload_n 1, 1), (45, .laload, 1), (46, .invokevirtual 430, 3), (49, .ifCond .eq 11, 3), (52, .iload_n 2, 1), (53, .aload_n 0, 1), (54, .getfield 424, 3), (57, .if_icmp .ge 7, 3), (60, .ldc2_w 375, 3), (63, .lreturn, 1), (64, .aload_n 0, 1), (65, .iconst 0, 1), (66, .putfield 162, 3), (69, .aload_n 0, 1), (70, .getfield 409, 3), (73, .ifCond .ne 5, 3), (76, .lconst 0, 1), (77, .lreturn, 1), (78, .iconst 0, 1), (79, .istore 4, 2), (81, .iload 4, 2), (83, .aload_n 0, 1), (84, .getfield 424, 3), (87, .if_icmp .ge 86, 3), (90, .aload_n 0, 1), (91, .aload_n 0, 1), (92, .aload_n 0, 1), (93, .getfield 98, 3), (96, .iload 4, 2), (98, .iaload, 1), (99, .invokevirtual 383, 3), (102, .aload_n 0, 1), (103, .aload_n 0, 1), (104, .getfield 98, 3), (107, .iload 4, 2), (109, .iaload, 1), (110, .invokevirtual 386, 3), (113, .invokevirtual 337, 3), (116, .iconst 0, 1), (117, .istore 5, 2), (119, .iload 5, 2), (121, .aload_n 0, 1), (122, .getfield 409, 3), (125, .if_icmp .ge 34, 3), (128, .aload_n 0, 1), (129, .getfield 107, 3), (132, .bipush 12, 2), (134, .iload 4, 2), (136, .imul, 1), (137, .iload 5, 2), (139, .iadd, 1), (140, .aload_n 0, 1), (141, .getfield 49, 3), (144, .aload_n 0, 1), (145, .getfield 80, 3), (148, .iload 5, 2), (150, .iaload, 1), (151, .laload, 1), (152, .lastore, 1), (153, .iinc 5 1, 3), (156, .goto (-37), 3), (159, .aload_n 0, 1), (160, .getfield 110, 3), (163, .iload 4, 2), (165, .iconst 1, 1), (166, .iastore, 1), (167, .iinc 4 1, 3), (170, .goto (-89), 3), (173, .iload_n 2, 1), (174, .aload_n 0, 1), (175, .getfield 424, 3), (178, .isub, 1), (179, .istore 4, 2), (181, .iload 4, 2), (183, .ifCond .le 81, 3), (186, .aload_n 0, 1), (187, .invokevirtual 453, 3), (190, .istore 5, 2), (192, .iconst 0, 1), (193, .istore 6, 2), (195, .iconst 1, 1), (196, .istore 7, 2), (198, .iload 7, 2), (200, .aload_n 0, 1), (201, .getfield 424, 3), (204, .if_icmp .ge 43, 3), (207, .aload_n 0, 1), (208, .getfield 107, 3), (211, .bipush 12, 2), (213, .iload 7, 2), (215, .imul, 1), (216, .iload 5, 2), (218, .iadd, 1), (219, .laload, 1), (220, .aload_n 0, 1), (221, .getfield 107, 3), (224, .bipush 12, 2), (226, .iload 6, 2), (228, .imul, 1), (229, .iload 5, 2), (231, .iadd, 1), (232, .laload, 1), (233, .lcmp, 1), (234, .ifCond .le 7, 3), (237, .iload 7, 2), (239, .istore 6, 2), (241, .iinc 7 1, 3), (244, .goto (-46), 3), (247, .aload_n 0, 1), (248, .getfield 110, 3), (251, .iload 6, 2), (253, .dup2, 1), (254, .iaload, 1), (255, .iconst 1, 1), (256, .iadd, 1), (257, .iastore, 1), (258, .iinc 4 (-1), 3), (261, .goto (-80), 3), (264, .iconst 0, 1), (265, .istore 4, 2), (267, .iload 4, 2), (269, .aload_n 0, 1), (270, .getfield 424, 3), (273, .if_icmp .ge 21, 3), (276, .aload_n 0, 1), (277, .aload_n 0, 1), (278, .getfield 110, 3), (281, .iload 4, 2), (283, .iaload, 1), (284, .i2l, 1), (285, .invokevirtual 371, 3), (288, .iinc 4 1, 3), (291, .goto (-24), 3), (294, .aload_n 0, 1), (295, .aload_n 0, 1), (296, .invokevirtual 453, 3), (299, .invokevirtual 447, 3), (302, .lreturn, 1)])
set_option maxRecDepth 100000 in
theorem okX12_even : MOk mX12_even := mok_of (by decide +kernel)
def mX12_better : MD := (yX12_better, cX12_better, 9, some .int, [(0, .aload_n 0, 1), (1, .iconst 0, 1), (2, .putfield 159, 3), (5, .iload_n 1, 1), (6, .i2l, 1), (7, .lconst 0, 1), (8, .ldc2_w 230, 3), (11, .invokestatic 165, 3), (14, .ifCond .eq 11, 3), (17, .aload_n 0, 1), (18, .getfield 169, 3), (21, .iconst 2, 1), (22, .if_icmp .ge 5, 3), (25, .iconst (-1), 1), (26, .ireturn, 1), (27, .aload_n 0, 1), (28, .getfield 9, 3), (31, .iconst 4, 1), (32, .if_icmp .gt 12, 3), (35, .aload_n 0, 1), (36, .getfield 169, 3), (39, .bipush 12, 2), (41, .if_icmp .le 6, 3), (44, .bipush (-3), 2), (46, .ireturn, 1), (47, .aload_n 0, 1), (48, .aload_n 0, 1), (49, .getfield 77, 3), (52, .iload_n 1, 1), (53, .laload, 1), (54, .invokevirtual 430, 3), (57, .ifCond .eq 10, 3), (60, .aload_n 0, 1), (61, .getfield 424, 3), (64, .goto 5, 3), (67, .bipush (-2), 2), (69, .istore_n 2, 1), (70, .bipush (-2), 2), (72, .istore_n 3, 1), (73, .iconst 0, 1), (74, .istore 4, 2), (76, .iconst 0, 1), (77, .istore 5, 2), (79, .iconst 0, 1), (80, .istore 6, 2), (82, .iload 6, 2), (84, .aload_n 0, 1), (85, .getfield 169, 3), (88, .if_icmp .ge 99, 3), (91, .iload 6, 2), (93, .iconst 1, 1), (94, .iadd, 1), (95, .istore 7, 2), (97, .iload 7, 2), (99, .aload_n 0, 1), (100, .getfield 169, 3), (103, .if_icmp .ge 78, 3), (106, .aload_n 0, 1), (107, .iload 6, 2), (109, .iload 7, 2), (111, .invokevirtual 253, 3), (114, .aload_n 0, 1), (115, .aload_n 0, 1), (116, .getfield 77, 3), (119, .iload_n 1, 1), (120, .laload, 1), (121, .invokevirtual 430, 3), (124, .ifCond .eq 19, 3), (127, .iload_n 3, 1), (128, .ifCond .lt 11, 3), (131, .aload_n 0, 1), (132, .getfield 424, 3), (135, .iload_n 3, 1), (136, .if_icmp .ge 7, 3), (139, .iconst 1, 1), (140, .goto 4, 3), (143, .iconst 0, 1), (144, .istore 8, 2), (146, .aload_n 0, 1), (147, .iload 6, 2), (149, .iload 7, 2), (151, .invokevirtual 253, 3), (154, .iload 8, 2), (156, .ifCond .ne 6, 3), (159, .goto 16, 3), (162, .aload_n 0, 1), (163, .getfield 424, 3), (166, .istore_n 3, 1), (167, .iload 6, 2), (169, .istore 4, 2), (171, .iload 7, 2), (173, .istore 5, 2), (175, .iinc 7 1, 3), (178, .goto (-81), 3), (181, .iinc 6 1, 3), (184, .goto (-102), 3), (187, .iload_n 3, 1), (188, .ifCond .ge 6, 3), (191, .bipush (-2), 2), (193, .ireturn, 1), (194, .aload_n 0, 1), (195, .iconst 0, 1), (196, .putfield 162, 3), (199, .aload_n 0, 1), (200, .iload 4, 2), (202, .i2l, 1), (203, .invokevirtual 371, 3), (206, .aload_n 0, 1), (207, .iload 5, 2), (209, .i2l, 1), (210, .invokevirtual 371, 3), (213, .aload_n 0, 1), (214, .iload_n 2, 1), (215, .i2l, 1), (216, .invokevirtual 371, 3), (219, .iload_n 3, 1), (220, .ireturn, 1)])
set_option maxRecDepth 100000 in
theorem okX12_better : MOk mX12_better := mok_of (by decide +kernel)
def mX12_faults : MD := (yX12_faults, cX12_faults, 1, some .int, [(0, .aload_n 0, 1), (1, .iconst 0, 1), (2, .putfield 159, 3), (5, .aload_n 0, 1), (6, .iconst 0, 1), (7, .putfield 162, 3), (10, .aload_n 0, 1), (11, .aload_n 0, 1), (12, .invokevirtual 263, 3), (15, .i2l, 1), (16, .invokevirtual 371, 3), (19, .aload_n 0, 1), (20, .aload_n 0, 1), (21, .invokevirtual 257, 3), (24, .i2l, 1), (25, .invokevirtual 371, 3), (28, .aload_n 0, 1), (29, .invokevirtual 260, 3), (32, .ireturn, 1)])
set_option maxRecDepth 100000 in
theorem okX12_faults : MOk mX12_faults := mok_of (by decide +kernel)
def mX12_fault_ : MD := (yX12_fault_, cX12_fault_, 3, some .int, [(0, .aload_n 0, 1), (1, .iconst 0, 1), (2, .putfield 159, 3), (5, .aload_n 0, 1), (6, .iload_n 1, 1), (7, .invokevirtual 456, 3), (10, .ifCond .eq 15, 3), (13, .iload_n 2, 1), (14, .i2l, 1), (15, .lconst 0, 1), (16, .ldc2_w 226, 3), (19, .invokestatic 165, 3), (22, .ifCond .ne 8, 3), (25, .aload_n 0, 1), (26, .invokevirtual 238, 3), (29, .ireturn, 1), (30, .aload_n 0, 1), (31, .iload_n 1, 1), (32, .invokevirtual 276, 3), (35, .iload_n 2, 1), (36, .ifCond .ne 11, 3), (39, .aload_n 0, 1), (40, .iload_n 1, 1), (41, .invokevirtual 266, 3), (44, .goto 19, 3), (47, .iload_n 2, 1), (48, .iconst 1, 1), (49, .if_icmp .ne 10, 3), (52, .aload_n 0, 1), (53, .getfield 270, 3), (56, .goto 7, 3), (59, .aload_n 0, 1), (60, .getfield 273, 3), (63, .ireturn, 1)])
set_option maxRecDepth 100000 in
theorem okX12_fault_ : MOk mX12_fault_ := mok_of (by decide +kernel)
def mX12_would : MD := (yX12_would, cX12_would, 4, some .long, [(0, .aload_n 0, 1), (1, .iconst 0, 1), (2, .putfield 159, 3), (5, .aload_n 0, 1), (6, .iload_n 1, 1), (7, .invokevirtual 456, 3), (10, .ifCond .eq 22, 3), (13, .aload_n 0, 1), (14, .iload_n 2, 1), (15, .iload_n 3, 1), (16, .invokevirtual 350, 3), (19, .ifCond .eq 13, 3), (22, .aload_n 0, 1), (23, .iload_n 1, 1), (24, .iload_n 2, 1), (25, .iload_n 3, 1), (26, .invokevirtual 353, 3), (29, .goto 6, 3), (32, .ldc2_w 366, 3), (35, .lreturn, 1)])
set_option maxRecDepth 100000 in
theorem okX12_would : MOk mX12_would := mok_of (by decide +kernel)
def mX12_tells : MD := (yX12_tells, cX12_tells, 4, some .int, [(0, .aload_n 0, 1), (1, .iconst 0, 1), (2, .putfield 159, 3), (5, .aload_n 0, 1), (6, .iload_n 1, 1), (7, .invokevirtual 456, 3), (10, .ifCond .ne 5, 3), (13, .iconst (-1), 1), (14, .ireturn, 1), (15, .aload_n 0, 1), (16, .invokevirtual 397, 3), (19, .ifCond .ne 6, 3), (22, .bipush (-3), 2), (24, .ireturn, 1), (25, .aload_n 0, 1), (26, .iconst 0, 1), (27, .aload_n 0, 1), (28, .getfield 70, 3), (31, .invokevirtual 389, 3), (34, .aload_n 0, 1), (35, .iload_n 1, 1), (36, .aload_n 0, 1), (37, .getfield 113, 3), (40, .invokevirtual 389, 3), (43, .iconst 0, 1), (44, .istore_n 2, 1), (45, .aload_n 0, 1), (46, .iconst 0, 1), (47, .putfield 162, 3), (50, .iconst 0, 1), (51, .istore_n 3, 1), (52, .iload_n 3, 1), (53, .aload_n 0, 1), (54, .invokevirtual 380, 3), (57, .if_icmp .ge 41, 3), (60, .aload_n 0, 1), (61, .getfield 70, 3), (64, .iload_n 3, 1), (65, .laload, 1), (66, .aload_n 0, 1), (67, .getfield 113, 3), (70, .iload_n 3, 1), (71, .laload, 1), (72, .lcmp, 1), (73, .ifCond .ne 6, 3), (76, .goto 16, 3), (79, .iload_n 2, 1), (80, .ifCond .ne 9, 3), (83, .aload_n 0, 1), (84, .iload_n 3, 1), (85, .i2l, 1), (86, .invokevirtual 371, 3), (89, .iinc 2 1, 3), (92, .iinc 3 1, 3), (95, .goto (-43), 3), (98, .iload_n 2, 1), (99, .ireturn, 1)])
set_option maxRecDepth 100000 in
theorem okX12_tells : MOk mX12_tells := mok_of (by decide +kernel)
def mX12_firstUnlike : MD := (yX12_firstUnlike, cX12_firstUnlike, 2, some .int, [(0, .iconst 0, 1), (1, .istore_n 1, 1), (2, .iload_n 1, 1), (3, .aload_n 0, 1), (4, .invokevirtual 380, 3), (7, .if_icmp .ge 27, 3), (10, .aload_n 0, 1), (11, .getfield 70, 3), (14, .iload_n 1, 1), (15, .laload, 1), (16, .aload_n 0, 1), (17, .getfield 113, 3), (20, .iload_n 1, 1), (21, .laload, 1), (22, .lcmp, 1), (23, .ifCond .eq 5, 3), (26, .iload_n 1, 1), (27, .ireturn, 1), (28, .iinc 1 1, 3), (31, .goto (-29), 3), (34, .iconst (-1), 1), (35, .ireturn, 1)])
set_option maxRecDepth 100000 in
theorem okX12_firstUnlike : MOk mX12_firstUnlike := mok_of (by decide +kernel)
def mX12_hidden : MD := (yX12_hidden, cX12_hidden, 3, some .int, [(0, .aload_n 0, 1), (1, .iconst 0, 1), (2, .putfield 159, 3), (5, .aload_n 0, 1), (6, .invokevirtual 397, 3), (9, .ifCond .ne 6, 3), (12, .bipush (-3), 2), (14, .ireturn, 1), (15, .aload_n 0, 1), (16, .iconst 0, 1), (17, .aload_n 0, 1), (18, .getfield 70, 3), (21, .invokevirtual 389, 3), (24, .iconst 0, 1), (25, .istore_n 1, 1), (26, .aload_n 0, 1), (27, .iconst 0, 1), (28, .putfield 162, 3), (31, .iconst 1, 1), (32, .istore_n 2, 1), (33, .iload_n 2, 1), (34, .aload_n 0, 1), (35, .invokevirtual 260, 3), (38, .if_icmp .ge 44, 3), (41, .aload_n 0, 1), (42, .iload_n 2, 1), (43, .aload_n 0, 1), (44, .getfield 113, 3), (47, .invokevirtual 389, 3), (50, .aload_n 0, 1), (51, .invokevirtual 459, 3), (54, .iconst (-1), 1), (55, .if_icmp .eq 6, 3), (58, .goto 18, 3), (61, .iload_n 1, 1), (62, .bipush 8, 2), (64, .if_icmp .ge 9, 3), (67, .aload_n 0, 1), (68, .iload_n 2, 1), (69, .i2l, 1), (70, .invokevirtual 371, 3), (73, .iinc 1 1, 3), (76, .iinc 2 1, 3), (79, .goto (-46), 3), (82, .iload_n 1, 1), (83, .ireturn, 1)])
set_option maxRecDepth 100000 in
theorem okX12_hidden : MOk mX12_hidden := mok_of (by decide +kernel)
def mX12_alike : MD := (yX12_alike, cX12_alike, 4, some .int, [(0, .aload_n 0, 1), (1, .iconst 0, 1), (2, .putfield 159, 3), (5, .aload_n 0, 1), (6, .iload_n 1, 1), (7, .invokevirtual 456, 3), (10, .ifCond .eq 11, 3), (13, .aload_n 0, 1), (14, .iload_n 2, 1), (15, .invokevirtual 456, 3), (18, .ifCond .ne 5, 3), (21, .iconst (-1), 1), (22, .ireturn, 1), (23, .aload_n 0, 1), (24, .invokevirtual 397, 3), (27, .ifCond .ne 6, 3), (30, .bipush (-3), 2), (32, .ireturn, 1), (33, .aload_n 0, 1), (34, .iload_n 1, 1), (35, .aload_n 0, 1), (36, .getfield 70, 3), (39, .invokevirtual 389, 3), (42, .aload_n 0, 1), (43, .iload_n 2, 1), (44, .aload_n 0, 1), (45, .getfield 113, 3), (48, .invokevirtual 389, 3), (51, .aload_n 0, 1), (52, .invokevirtual 459, 3), (55, .istore_n 3, 1), (56, .iload_n 3, 1), (57, .iconst (-1), 1), (58, .if_icmp .ne 5, 3), (61, .iconst 1, 1), (62, .ireturn, 1), (63, .aload_n 0, 1), (64, .iconst 0, 1), (65, .putfield 162, 3), (68, .aload_n 0, 1), (69, .iload_n 3, 1), (70, .i2l, 1), (71, .invokevirtual 371, 3), (74, .iconst 0, 1), (75, .ireturn, 1)])
set_option maxRecDepth 100000 in
theorem okX12_alike : MOk mX12_alike := mok_of (by decide +kernel)
def mX12_seen : MD := (yX12_seen, cX12_seen, 5, some .int, [(0, .aload_n 0, 1), (1, .iconst 0, 1), (2, .putfield 159, 3), (5, .aload_n 0, 1), (6, .iload_n 1, 1), (7, .iload_n 2, 1), (8, .invokevirtual 350, 3), (11, .ifCond .eq 20, 3), (14, .aload_n 0, 1), (15, .lload_n 3, 1), (16, .invokevirtual 393, 3), (19, .ifCond .eq 12, 3), (22, .aload_n 0, 1), (23, .getfield 217, 3), (26, .bipush 12, 2), (28, .if_icmp .ne 5, 3), (31, .iconst (-1), 1), (32, .ireturn, 1), (33, .aload_n 0, 1), (34, .getfield 116, 3), (37, .aload_n 0, 1), (38, .getfield 217, 3), (41, .iload_n 1, 1), (42, .iastore, 1), (43, .aload_n 0, 1), (44, .getfield 119, 3), (47, .aload_n 0, 1), (48, .getfield 217, 3), (51, .iload_n 2, 1), (52, .iastore, 1), (53, .aload_n 0, 1), (54, .getfield 122, 3), (57, .aload_n 0, 1), (58, .getfield 217, 3), (61, .lload_n 3, 1), (62, .lastore, 1), (63, .aload_n 0, 1), (64, .dup, 1), (65, .getfield 217, 3), (68, .iconst 1, 1), (69, .iadd, 1), (70, .putfield 217, 3), (73, .aload_n 0, 1), (74, .getfield 217, 3), (77, .ireturn, 1)])
set_option maxRecDepth 100000 in
theorem okX12_seen : MOk mX12_seen := mok_of (by decide +kernel)
def mX12_forget : MD := (yX12_forget, cX12_forget, 1, some .int, [(0, .aload_n 0, 1), (1, .iconst 0, 1), (2, .putfield 159, 3), (5, .aload_n 0, 1), (6, .getfield 217, 3), (9, .ifCond .ne 5, 3), (12, .iconst (-1), 1), (13, .ireturn, 1), (14, .aload_n 0, 1), (15, .dup, 1), (16, .getfield 217, 3), (19, .iconst 1, 1), (20, .isub, 1), (21, .putfield 217, 3), (24, .aload_n 0, 1), (25, .getfield 217, 3), (28, .ireturn, 1)])
set_option maxRecDepth 100000 in
theorem okX12_forget : MOk mX12_forget := mok_of (by decide +kernel)
def mX12_bar : MD := (yX12_bar, cX12_bar, 3, some .int, [(0, .aload_n 0, 1), (1, .iload_n 1, 1), (2, .invokevirtual 343, 3), (5, .iconst 0, 1), (6, .istore_n 2, 1), (7, .iload_n 2, 1), (8, .aload_n 0, 1), (9, .getfield 217, 3), (12, .if_icmp .ge 37, 3), (15, .aload_n 0, 1), (16, .aload_n 0, 1), (17, .getfield 116, 3), (20, .iload_n 2, 1), (21, .iaload, 1), (22, .aload_n 0, 1), (23, .getfield 119, 3), (26, .iload_n 2, 1), (27, .iaload, 1), (28, .invokevirtual 346, 3), (31, .aload_n 0, 1), (32, .getfield 122, 3), (35, .iload_n 2, 1), (36, .laload, 1), (37, .lcmp, 1), (38, .ifCond .eq 5, 3), (41, .iload_n 2, 1), (42, .ireturn, 1), (43, .iinc 2 1, 3), (46, .goto (-39), 3), (49, .bipush (-2), 2), (51, .ireturn, 1)])
set_option maxRecDepth 100000 in
theorem okX12_bar : MOk mX12_bar := mok_of (by decide +kernel)
def mX12_findAgreed : MD := (yX12_findAgreed, cX12_findAgreed, 2, none, [(0, .aload_n 0, 1), (1, .iconst 0, 1), (2, .putfield 462, 3), (5, .iconst 0, 1), (6, .istore_n 1, 1), (7, .iload_n 1, 1), (8, .aload_n 0, 1), (9, .invokevirtual 260, 3), (12, .if_icmp .ge 42, 3), (15, .aload_n 0, 1), (16, .iload_n 1, 1), (17, .invokevirtual 465, 3), (20, .bipush (-2), 2), (22, .if_icmp .eq 6, 3), (25, .goto 23, 3), (28, .aload_n 0, 1), (29, .getfield 125, 3), (32, .aload_n 0, 1), (33, .getfield 462, 3), (36, .iload_n 1, 1), (37, .iastore, 1), (38, .aload_n 0, 1), (39, .dup, 1), (40, .getfield 462, 3), (43, .iconst 1, 1), (44, .iadd, 1), (45, .putfield 462, 3), (48, .iinc 1 1, 3), (51, .goto (-44), 3), (54, .return_, 1)])
set_option maxRecDepth 100000 in
theorem okX12_findAgreed : MOk mX12_findAgreed := mok_of (by decide +kernel)
def mX12_which : MD := (yX12_which, cX12_which, 2, some .int, [(0, .aload_n 0, 1), (1, .iconst 0, 1), (2, .putfield 159, 3), (5, .aload_n 0, 1), (6, .invokevirtual 468, 3), (9, .aload_n 0, 1), (10, .iconst 0, 1), (11, .putfield 162, 3), (14, .iconst 0, 1), (15, .istore_n 1, 1), (16, .iload_n 1, 1), (17, .aload_n 0, 1), (18, .getfield 462, 3), (21, .if_icmp .ge 26, 3), (24, .iload_n 1, 1), (25, .bipush 8, 2), (27, .if_icmp .ge 20, 3), (30, .aload_n 0, 1), (31, .aload_n 0, 1), (32, .getfield 125, 3), (35, .iload_n 1, 1), (36, .iaload, 1), (37, .i2l, 1), (38, .invokevirtual 371, 3), (41, .iinc 1 1, 3), (44, .goto (-28), 3), (47, .aload_n 0, 1), (48, .getfield 462, 3), (51, .ireturn, 1)])
set_option maxRecDepth 100000 in
theorem okX12_which : MOk mX12_which := mok_of (by decide +kernel)
def mX12_judge : MD := (yX12_judge, cX12_judge, 2, some .int, [(0, .aload_n 0, 1), (1, .iconst 0, 1), (2, .putfield 159, 3), (5, .aload_n 0, 1), (6, .iload_n 1, 1), (7, .invokevirtual 456, 3), (10, .ifCond .eq 11, 3), (13, .aload_n 0, 1), (14, .iload_n 1, 1), (15, .invokevirtual 465, 3), (18, .goto 4, 3), (21, .iconst (-1), 1), (22, .ireturn, 1)])
set_option maxRecDepth 100000 in
theorem okX12_judge : MOk mX12_judge := mok_of (by decide +kernel)
def mX12_next : MD := (yX12_next, cX12_next, 9, some .int, [(0, .aload_n 0, 1), (1, .iconst 0, 1), (2, .putfield 159, 3), (5, .aload_n 0, 1), (6, .invokevirtual 397, 3), (9, .ifCond .ne 6, 3), (12, .bipush (-3), 2), (14, .ireturn, 1), (15, .aload_n 0, 1), (16, .invokevirtual 468, 3), (19, .aload_n 0, 1), (20, .getfield 462, 3), (23, .ifCond .ne 6, 3), (26, .bipush (-2), 2), (28, .ireturn, 1), (29, .aload_n 0, 1), (30, .invokevirtual 380, 3), (33, .istore_n 1, 1), (34, .iconst 0, 1), (35, .istore_n 2, 1), (36, .iload_n 2, 1), (37, .aload_n 0, 1), (38, .getfield 462, 3), (41, .if_icmp .ge 53, 3), (44, .aload_n 0, 1), (45, .aload_n 0, 1), (46, .getfield 125, 3), (49, .iload_n 2, 1), (50, .iaload, 1), (51, .aload_n 0, 1), (52, .getfield 70, 3), (55, .invokevirtual 389, 3), (58, .iconst 0, 1), (59, .istore_n 3, 1), (60, .iload_n 3, 1), (61, .iload_n 1, 1), (62, .if_icmp .ge 26, 3), (65, .aload_n 0, 1), (66, .getfield 129, 3), (69, .bipush 116, 2), (71, .iload_n 3, 1), (72, .imul, 1), (73, .iload_n 2, 1), (74, .iadd, 1), (75, .aload_n 0, 1), (76, .getfield 70, 3), (79, .iload_n 3, 1), (80, .laload, 1), (81, .lastore, 1), (82, .iinc 3 1, 3), (85, .goto (-25), 3), (88, .iinc 2 1, 3), (91, .goto (-55), 3), (94, .iconst (-1), 1), (95, .istore_n 2, 1), (96, .iconst 0, 1), (97, .istore_n 3, 1), (98, .iconst 0, 1), (99, .istore 4, 2), (101, .iload 4, 2), (103, .iload_n 1, 1), (104, .if_icmp .ge 120, 3), (107, .iconst 0, 1), (108, .istore 5, 2), (110, .iconst 0, 1), (111, .istore 6, 2), (113, .iload 6, 2), (115, .aload_n 0, 1), (116, .getfield 462, 3), (119, .if_icmp .ge 79, 3), (122, .iconst 0, 1), (123, .istore 7, 2), (125, .iconst 0, 1), (126, .istore 8, 2), (128, .iload 8, 2), (130, .aload_n 0, 1), (131, .getfield 462, 3), (134, .if_icmp .ge 49, 3), (137, .iload 7, 2), (139, .aload_n 0, 1), (140, .getfield 129, 3), (143, .bipush 116, 2), (145, .iload 4, 2), (147, .imul, 1), (148, .iload 8, 2), (150, .iadd, 1), (151, .laload, 1), (152, .aload_n 0, 1), (153, .getfield 129, 3), (156, .bipush 116, 2), (158, .iload 4, 2), (160, .imul, 1), (161, .iload 6, 2), (163, .iadd, 1), (164, .laload, 1), (165, .lcmp, 1), (166, .ifCond .ne 7, 3), (169, .iconst 1, 1), (170, .goto 4, 3), (173, .iconst 0, 1), (174, .iadd, 1), (175, .istore 7, 2), (177, .iinc 8 1, 3), (180, .goto (-52), 3), (183, .iload 5, 2), (185, .iload 7, 2), (187, .invokestatic 250, 3), (190, .istore 5, 2), (192, .iinc 6 1, 3), (195, .goto (-82), 3), (198, .iload_n 2, 1), (199, .iconst (-1), 1), (200, .if_icmp .eq 12, 3), (203, .iload 5, 2), (205, .iload_n 3, 1), (206, .if_icmp .lt 6, 3), (209, .goto 9, 3), (212, .iload 4, 2), (214, .istore_n 2, 1), (215, .iload 5, 2), (217, .istore_n 3, 1), (218, .iinc 4 1, 3), (221, .goto (-120), 3), (224, .aload_n 0, 1), (225, .iconst 0, 1), (226, .putfield 162, 3), (229, .aload_n 0, 1), (230, .iload_n 2, 1), (231, .i2l, 1), (232, .invokevirtual 371, 3), (235, .iload_n 3, 1), (236, .ireturn, 1)])
set_option maxRecDepth 100000 in
theorem okX12_next : MOk mX12_next := mok_of (by decide +kernel)
def mX12_test : MD := (yX12_test, cX12_test, 3, some .int, [(0, .aload_n 0, 1), (1, .iconst 0, 1), (2, .putfield 159, 3), (5, .aload_n 0, 1), (6, .iload_n 1, 1), (7, .iload_n 2, 1), (8, .invokevirtual 350, 3), (11, .ifCond .eq 12, 3), (14, .aload_n 0, 1), (15, .getfield 220, 3), (18, .bipush 8, 2), (20, .if_icmp .ne 5, 3), (23, .iconst (-1), 1), (24, .ireturn, 1), (25, .aload_n 0, 1), (26, .getfield 132, 3), (29, .aload_n 0, 1), (30, .getfield 220, 3), (33, .iload_n 1, 1), (34, .iastore, 1), (35, .aload_n 0, 1), (36, .getfield 135, 3), (39, .aload_n 0, 1), (40, .getfield 220, 3), (43, .iload_n 2, 1), (44, .iastore, 1), (45, .aload_n 0, 1), (46, .dup, 1), (47, .getfield 220, 3), (50, .iconst 1, 1), (51, .iadd, 1), (52, .putfield 220, 3), (55, .aload_n 0, 1), (56, .getfield 220, 3), (59, .iconst 1, 1), (60, .isub, 1), (61, .ireturn, 1)])
set_option maxRecDepth 100000 in
theorem okX12_test : MOk mX12_test := mok_of (by decide +kernel)
def mX12_findAnswers : MD := (yX12_findAnswers, cX12_findAnswers, 5, none, [(0, .aload_n 0, 1), (1, .invokevirtual 468, 3), (4, .iconst 0, 1), (5, .istore_n 1, 1), (6, .iload_n 1, 1), (7, .aload_n 0, 1), (8, .getfield 462, 3), (11, .if_icmp .ge 62, 3), (14, .aload_n 0, 1), (15, .aload_n 0, 1), (16, .getfield 125, 3), (19, .iload_n 1, 1), (20, .iaload, 1), (21, .invokevirtual 343, 3), (24, .iconst 0, 1), (25, .istore_n 2, 1), (26, .iload_n 2, 1), (27, .aload_n 0, 1), (28, .getfield 220, 3), (31, .if_icmp .ge 36, 3), (34, .aload_n 0, 1), (35, .getfield 138, 3), (38, .bipush 116, 2), (40, .iload_n 2, 1), (41, .imul, 1), (42, .iload_n 1, 1), (43, .iadd, 1), (44, .aload_n 0, 1), (45, .aload_n 0, 1), (46, .getfield 132, 3), (49, .iload_n 2, 1), (50, .iaload, 1), (51, .aload_n 0, 1), (52, .getfield 135, 3), (55, .iload_n 2, 1), (56, .iaload, 1), (57, .invokevirtual 346, 3), (60, .lastore, 1), (61, .iinc 2 1, 3), (64, .goto (-38), 3), (67, .iinc 1 1, 3), (70, .goto (-64), 3), (73, .iconst 0, 1), (74, .istore_n 1, 1), (75, .iload_n 1, 1), (76, .aload_n 0, 1), (77, .getfield 141, 3), (80, .arraylength, 1), (81, .if_icmp .ge 16, 3), (84, .aload_n 0, 1), (85, .getfield 141, 3), (88, .iload_n 1, 1), (89, .iconst (-1), 1), (90, .iastore, 1), (91, .iinc 1 1, 3), (94, .goto (-19), 3), (97, .iconst 0, 1), (98, .istore_n 1, 1), (99, .iload_n 1, 1), (100, .iconst 1, 1), (101, .aload_n 0, 1), (102, .getfield 220, 3), (105, .ishl, 1), (106, .if_icmp .ge 115, 3), (109, .iload_n 1, 1), (110, .ifCond .ne 7, 3), (113, .iconst (-1), 1), (114, .goto 7, 3), (117, .iload_n 1, 1), (118, .invokestatic 420, 3), (121, .istore_n 2, 1), (122, .iconst 0, 1), (123, .istore_n 3, 1), (124, .iload_n 3, 1), (125, .aload_n 0, 1), (126, .getfield 462, 3), (129, .if_icmp .ge 86, 3), (132, .iconst 0, 1), (133, .istore 4, 2), (135, .iload_n 1, 1), (136, .ifCond .le 60, 3), (139, .aload_n 0, 1), (140, .iload_n 1, 1), (141, .iload_n 1, 1), (142, .iconst 1, 1), (143, .isub, 1), (144, .iand, 1), (145, .iload 4, 2), (147, .invokevirtual 471, 3), (150, .aload_n 0, 1), (151, .iload_n 1, 1), (152, .iload_n 1, 1), (153, .iconst 1, 1), (154, .isub, 1), (155, .iand, 1), (156, .iload_n 3, 1), (157, .invokevirtual 471, 3), (160, .if_icmp .ne 30, 3), (163, .aload_n 0, 1), (164, .getfield 138, 3), (167, .bipush 116, 2), (169, .iload_n 2, 1), (170, .imul, 1), (171, .iload 4, 2), (173, .iadd, 1), (174, .laload, 1), (175, .aload_n 0, 1), (176, .getfield 138, 3), (179, .bipush 116, 2), (181, .iload_n 2, 1), (182, .imul, 1), (183, .iload_n 3, 1), (184, .iadd, 1), (185, .laload, 1), (186, .lcmp, 1), (187, .ifCond .eq 9, 3), (190, .iinc 4 1, 3), (193, .goto (-58), 3), (196, .aload_n 0, 1), (197, .getfield 144, 3), (200, .bipush 116, 2), (202, .iload_n 1, 1), (203, .imul, 1), (204, .iload_n 3, 1), (205, .iadd, 1), (206, .iload 4, 2), (208, .iastore, 1), (209, .iinc 3 1, 3), (212, .goto (-88), 3), (215, .iinc 1 1, 3), (218, .goto (-119), 3), (221, .return_, 1)])
set_option maxRecDepth 100000 in
theorem okX12_findAnswers : MOk mX12_findAnswers := mok_of (by decide +kernel)
def mX12_firstOf : MD := (yX12_firstOf, cX12_firstOf, 3, some .int, [(0, .aload_n 0, 1), (1, .getfield 144, 3), (4, .bipush 116, 2), (6, .iload_n 1, 1), (7, .imul, 1), (8, .iload_n 2, 1), (9, .iadd, 1), (10, .iaload, 1), (11, .ireturn, 1)])
set_option maxRecDepth 100000 in
theorem okX12_firstOf : MOk mX12_firstOf := mok_of (by decide +kernel)
def mX12_areAlike : MD := (yX12_areAlike, cX12_areAlike, 4, some .boolean, [(0, .aload_n 0, 1), (1, .iload_n 1, 1), (2, .iload_n 2, 1), (3, .invokevirtual 471, 3), (6, .aload_n 0, 1), (7, .iload_n 1, 1), (8, .iload_n 3, 1), (9, .invokevirtual 471, 3), (12, .if_icmp .ne 7, 3), (15, .iconst 1, 1), (16, .goto 4, 3), (19, .iconst 0, 1), (20, .ireturn, 1)])
set_option maxRecDepth 100000 in
theorem okX12_areAlike : MOk mX12_areAlike := mok_of (by decide +kernel)
def mX12_parts : MD := (yX12_parts, cX12_parts, 5, some .boolean, [(0, .iconst 0, 1), (1, .istore 4, 2), (3, .iload 4, 2), (5, .aload_n 0, 1), (6, .getfield 462, 3), (9, .if_icmp .ge 49, 3), (12, .aload_n 0, 1), (13, .iload_n 2, 1), (14, .iload 4, 2), (16, .iload_n 3, 1), (17, .invokevirtual 474, 3), (20, .ifCond .eq 32, 3), (23, .aload_n 0, 1), (24, .getfield 138, 3), (27, .bipush 116, 2), (29, .iload_n 1, 1), (30, .imul, 1), (31, .iload 4, 2), (33, .iadd, 1), (34, .laload, 1), (35, .aload_n 0, 1), (36, .getfield 138, 3), (39, .bipush 116, 2), (41, .iload_n 1, 1), (42, .imul, 1), (43, .iload_n 3, 1), (44, .iadd, 1), (45, .laload, 1), (46, .lcmp, 1), (47, .ifCond .eq 5, 3), (50, .iconst 1, 1), (51, .ireturn, 1), (52, .iinc 4 1, 3), (55, .goto (-52), 3), (58, .iconst 0, 1), (59, .ireturn, 1)])
set_option maxRecDepth 100000 in
theorem okX12_parts : MOk mX12_parts := mok_of (by decide +kernel)
def mX12_depthOf : MD := (yX12_depthOf, cX12_depthOf, 6, some .int, [(0, .bipush 116, 2), (2, .iload_n 1, 1), (3, .imul, 1), (4, .iload_n 2, 1), (5, .iadd, 1), (6, .istore_n 3, 1), (7, .aload_n 0, 1), (8, .getfield 141, 3), (11, .iload_n 3, 1), (12, .iaload, 1), (13, .iconst (-1), 1), (14, .if_icmp .eq 10, 3), (17, .aload_n 0, 1), (18, .getfield 141, 3), (21, .iload_n 3, 1), (22, .iaload, 1), (23, .ireturn, 1), (24, .ldc_w 419, 3), (27, .istore 4, 2), (29, .iconst 0, 1), (30, .istore 5, 2), (32, .iload 5, 2), (34, .aload_n 0, 1), (35, .getfield 220, 3), (38, .if_icmp .ge 48, 3), (41, .iload_n 1, 1), (42, .i2l, 1), (43, .iload 5, 2), (45, .invokestatic 294, 3), (48, .ifCond .ne 32, 3), (51, .aload_n 0, 1), (52, .iload 5, 2), (54, .iload_n 1, 1), (55, .iload_n 2, 1), (56, .invokevirtual 478, 3), (59, .ifCond .ne 6, 3), (62, .goto 18, 3), (65, .iload 4, 2), (67, .aload_n 0, 1), (68, .iload 5, 2), (70, .iload_n 1, 1), (71, .iload_n 2, 1), (72, .invokevirtual 481, 3), (75, .invokestatic 244, 3), (78, .istore 4, 2), (80, .iinc 5 1, 3), (83, .goto (-51), 3), (86, .aload_n 0, 1), (87, .getfield 141, 3), (90, .iload_n 3, 1), (91, .iload 4, 2), (93, .ldc_w 419, 3), (96, .if_icmp .ne 7, 3), (99, .iconst 0, 1), (100, .goto 5, 3), (103, .iload 4, 2), (105, .iastore, 1), (106, .aload_n 0, 1), (107, .getfield 141, 3), (110, .iload_n 3, 1), (111, .iaload, 1), (112, .ireturn, 1)])
set_option maxRecDepth 100000 in
theorem okX12_depthOf : MOk mX12_depthOf := mok_of (by decide +kernel)
def mX12_depthBy : MD := (yX12_depthBy, cX12_depthBy, 7, some .int, [(0, .iconst 0, 1), (1, .istore 4, 2), (3, .iload_n 2, 1), (4, .iconst 1, 1), (5, .iload_n 1, 1), (6, .ishl, 1), (7, .ior, 1), (8, .istore 5, 2), (10, .iconst 0, 1), (11, .istore 6, 2), (13, .iload 6, 2), (15, .aload_n 0, 1), (16, .getfield 462, 3), (19, .if_icmp .ge 48, 3), (22, .aload_n 0, 1), (23, .iload_n 2, 1), (24, .iload 6, 2), (26, .iload_n 3, 1), (27, .invokevirtual 474, 3), (30, .ifCond .eq 31, 3), (33, .aload_n 0, 1), (34, .iload 5, 2), (36, .iload 6, 2), (38, .invokevirtual 471, 3), (41, .iload 6, 2), (43, .if_icmp .ne 18, 3), (46, .iload 4, 2), (48, .aload_n 0, 1), (49, .iload 5, 2), (51, .iload 6, 2), (53, .invokevirtual 484, 3), (56, .invokestatic 250, 3), (59, .istore 4, 2), (61, .iinc 6 1, 3), (64, .goto (-51), 3), (67, .iload 4, 2), (69, .iconst 1, 1), (70, .iadd, 1), (71, .ireturn, 1)])
set_option maxRecDepth 100000 in
theorem okX12_depthBy : MOk mX12_depthBy := mok_of (by decide +kernel)
def mX12_firstTest : MD := (yX12_firstTest, cX12_firstTest, 5, some .int, [(0, .aload_n 0, 1), (1, .iload_n 1, 1), (2, .iload_n 2, 1), (3, .invokevirtual 484, 3), (6, .istore_n 3, 1), (7, .iload_n 3, 1), (8, .ifCond .ne 5, 3), (11, .iconst (-1), 1), (12, .ireturn, 1), (13, .iconst 0, 1), (14, .istore 4, 2), (16, .iload_n 1, 1), (17, .i2l, 1), (18, .iload 4, 2), (20, .invokestatic 294, 3), (23, .ifCond .ne 26, 3), (26, .aload_n 0, 1), (27, .iload 4, 2), (29, .iload_n 1, 1), (30, .iload_n 2, 1), (31, .invokevirtual 478, 3), (34, .ifCond .eq 15, 3), (37, .aload_n 0, 1), (38, .iload 4, 2), (40, .iload_n 1, 1), (41, .iload_n 2, 1), (42, .invokevirtual 481, 3), (45, .iload_n 3, 1), (46, .if_icmp .eq 9, 3), (49, .iinc 4 1, 3), (52, .goto (-36), 3), (55, .iload 4, 2), (57, .ireturn, 1)])
set_option maxRecDepth 100000 in
theorem okX12_firstTest : MOk mX12_firstTest := mok_of (by decide +kernel)
def mX12_tree : MD := (yX12_tree, cX12_tree, 5, some .int, [(0, .aload_n 0, 1), (1, .iconst 0, 1), (2, .putfield 159, 3), (5, .aload_n 0, 1), (6, .invokevirtual 487, 3), (9, .aload_n 0, 1), (10, .getfield 462, 3), (13, .ifCond .ne 6, 3), (16, .bipush (-2), 2), (18, .ireturn, 1), (19, .iconst 1, 1), (20, .aload_n 0, 1), (21, .getfield 220, 3), (24, .ishl, 1), (25, .iconst 1, 1), (26, .isub, 1), (27, .istore_n 1, 1), (28, .iconst 0, 1), (29, .istore_n 2, 1), (30, .iconst 0, 1), (31, .istore_n 3, 1), (32, .iload_n 3, 1), (33, .aload_n 0, 1), (34, .getfield 462, 3), (37, .if_icmp .ge 27, 3), (40, .iload_n 2, 1), (41, .aload_n 0, 1), (42, .iload_n 1, 1), (43, .iload_n 3, 1), (44, .invokevirtual 471, 3), (47, .iload_n 3, 1), (48, .if_icmp .ne 7, 3), (51, .iconst 1, 1), (52, .goto 4, 3), (55, .iconst 0, 1), (56, .iadd, 1), (57, .istore_n 2, 1), (58, .iinc 3 1, 3), (61, .goto (-29), 3), (64, .aload_n 0, 1), (65, .iconst 0, 1), (66, .iconst 0, 1), (67, .invokevirtual 484, 3), (70, .istore_n 3, 1), (71, .aload_n 0, 1), (72, .iconst 0, 1), (73, .iconst 0, 1), (74, .invokevirtual 490, 3), (77, .istore 4, 2), (79, .aload_n 0, 1), (80, .iconst 0, 1), (81, .putfield 162, 3), (84, .aload_n 0, 1), (85, .iload 4, 2), (87, .i2l, 1), (88, .invokevirtual 371, 3), (91, .aload_n 0, 1), (92, .iload_n 2, 1), (93, .i2l, 1), (94, .invokevirtual 371, 3), (97, .iload_n 3, 1), (98, .ireturn, 1)])
set_option maxRecDepth 100000 in
theorem okX12_tree : MOk mX12_tree := mok_of (by decide +kernel)
def mX12_path : MD := (yX12_path, cX12_path, 8, some .int, [(0, .aload_n 0, 1), (1, .iconst 0, 1), (2, .putfield 159, 3), (5, .aload_n 0, 1), (6, .iload_n 1, 1), (7, .invokevirtual 456, 3), (10, .ifCond .eq 13, 3), (13, .aload_n 0, 1), (14, .iload_n 1, 1), (15, .invokevirtual 465, 3), (18, .bipush (-2), 2), (20, .if_icmp .eq 5, 3), (23, .iconst (-1), 1), (24, .ireturn, 1), (25, .aload_n 0, 1), (26, .invokevirtual 487, 3), (29, .iconst 0, 1), (30, .istore_n 2, 1), (31, .aload_n 0, 1), (32, .getfield 125, 3), (35, .iload_n 2, 1), (36, .iaload, 1), (37, .iload_n 1, 1), (38, .if_icmp .eq 9, 3), (41, .iinc 2 1, 3), (44, .goto (-13), 3), (47, .aload_n 0, 1), (48, .iconst 0, 1), (49, .putfield 162, 3), (52, .iconst 0, 1), (53, .istore_n 3, 1), (54, .iconst 0, 1), (55, .istore 4, 2), (57, .aload_n 0, 1), (58, .iconst 0, 1), (59, .iconst 0, 1), (60, .invokevirtual 490, 3), (63, .istore 5, 2), (65, .iload 5, 2), (67, .iconst (-1), 1), (68, .if_icmp .eq 36, 3), (71, .aload_n 0, 1), (72, .iload 5, 2), (74, .i2l, 1), (75, .invokevirtual 371, 3), (78, .iinc 4 1, 3), (81, .iload_n 3, 1), (82, .iconst 1, 1), (83, .iload 5, 2), (85, .ishl, 1), (86, .ior, 1), (87, .istore_n 3, 1), (88, .aload_n 0, 1), (89, .iload_n 3, 1), (90, .aload_n 0, 1), (91, .iload_n 3, 1), (92, .iload_n 2, 1), (93, .invokevirtual 471, 3), (96, .invokevirtual 490, 3), (99, .istore 5, 2), (101, .goto (-36), 3), (104, .iconst 0, 1), (105, .istore 6, 2), (107, .iconst 0, 1), (108, .istore 7, 2), (110, .iload 7, 2), (112, .aload_n 0, 1), (113, .getfield 462, 3), (116, .if_icmp .ge 30, 3), (119, .iload 6, 2), (121, .aload_n 0, 1), (122, .iload_n 3, 1), (123, .iload 7, 2), (125, .iload_n 2, 1), (126, .invokevirtual 474, 3), (129, .ifCond .eq 7, 3), (132, .iconst 1, 1), (133, .goto 4, 3), (136, .iconst 0, 1), (137, .iadd, 1), (138, .istore 6, 2), (140, .iinc 7 1, 3), (143, .goto (-33), 3), (146, .aload_n 0, 1), (147, .iload 6, 2), (149, .i2l, 1), (150, .invokevirtual 371, 3), (153, .iload 4, 2), (155, .ireturn, 1)])
set_option maxRecDepth 100000 in
theorem okX12_path : MOk mX12_path := mok_of (by decide +kernel)
def mX12_keep : MD := (yX12_keep, cX12_keep, 4, some .boolean, [(0, .aload_n 0, 1), (1, .iconst 0, 1), (2, .putfield 159, 3), (5, .iload_n 1, 1), (6, .i2l, 1), (7, .lconst 0, 1), (8, .lconst 1, 1), (9, .invokestatic 165, 3), (12, .ifCond .ne 5, 3), (15, .iconst 0, 1), (16, .ireturn, 1), (17, .aload_n 0, 1), (18, .getfield 153, 3), (21, .iload_n 1, 1), (22, .iconst 1, 1), (23, .bastore, 1), (24, .aload_n 0, 1), (25, .getfield 156, 3), (28, .iload_n 1, 1), (29, .aload_n 0, 1), (30, .getfield 223, 3), (33, .iastore, 1), (34, .sipush 208, 3), (37, .iload_n 1, 1), (38, .imul, 1), (39, .istore_n 2, 1), (40, .iconst 0, 1), (41, .istore_n 3, 1), (42, .iload_n 3, 1), (43, .bipush 60, 2), (45, .if_icmp .ge 61, 3), (48, .aload_n 0, 1), (49, .getfield 147, 3), (52, .iload_n 2, 1), (53, .iconst 3, 1), (54, .iload_n 3, 1), (55, .imul, 1), (56, .iadd, 1), (57, .aload_n 0, 1), (58, .getfield 13, 3), (61, .iload_n 3, 1), (62, .iaload, 1), (63, .iastore, 1), (64, .aload_n 0, 1), (65, .getfield 147, 3), (68, .iload_n 2, 1), (69, .iconst 3, 1), (70, .iload_n 3, 1), (71, .imul, 1), (72, .iadd, 1), (73, .iconst 1, 1), (74, .iadd, 1), (75, .aload_n 0, 1), (76, .getfield 17, 3), (79, .iload_n 3, 1), (80, .iaload, 1), (81, .iastore, 1), (82, .aload_n 0, 1), (83, .getfield 147, 3), (86, .iload_n 2, 1), (87, .iconst 3, 1), (88, .iload_n 3, 1), (89, .imul, 1), (90, .iadd, 1), (91, .iconst 2, 1), (92, .iadd, 1), (93, .aload_n 0, 1), (94, .getfield 20, 3), (97, .iload_n 3, 1), (98, .iaload, 1), (99, .iastore, 1), (100, .iinc 3 1, 3), (103, .goto (-61), 3), (106, .iinc 2 180, 6), (112, .aload_n 0, 1), (113, .getfield 147, 3), (116, .iload_n 2, 1), (117, .aload_n 0, 1), (118, .getfield 169, 3), (121, .iastore, 1), (122, .aload_n 0, 1), (123, .getfield 147, 3), (126, .iload_n 2, 1), (127, .iconst 1, 1), (128, .iadd, 1), (129, .aload_n 0, 1), (130, .getfield 211, 3), (133, .iastore, 1), (134, .aload_n 0, 1), (135, .getfield 147, 3), (138, .iload_n 2, 1), (139, .iconst 2, 1), (140, .iadd, 1), (141, .aload_n 0, 1), (142, .getfield 214, 3), (145, .iastore, 1), (146, .aload_n 0, 1), (147, .getfield 147, 3), (150, .iload_n 2, 1), (151, .iconst 3, 1), (152, .iadd, 1), (153, .aload_n 0, 1), (154, .getfield 217, 3), (157, .iastore, 1), (158, .iconst 0, 1), (159, .istore_n 3, 1), (160, .iload_n 3, 1), (161, .bipush 12, 2), (163, .if_icmp .ge 64, 3), (166, .aload_n 0, 1), (167, .getfield 147, 3), (170, .iload_n 2, 1), (171, .iconst 4, 1), (172, .iadd, 1), (173, .iconst 2, 1), (174, .iload_n 3, 1), (175, .imul, 1), (176, .iadd, 1), (177, .aload_n 0, 1), (178, .getfield 116, 3), (181, .iload_n 3, 1), (182, .iaload, 1), (183, .iastore, 1), (184, .aload_n 0, 1), (185, .getfield 147, 3), (188, .iload_n 2, 1), (189, .iconst 5, 1), (190, .iadd, 1), (191, .iconst 2, 1), (192, .iload_n 3, 1), (193, .imul, 1), (194, .iadd, 1), (195, .aload_n 0, 1), (196, .getfield 119, 3), (199, .iload_n 3, 1), (200, .iaload, 1), (201, .iastore, 1), (202, .aload_n 0, 1), (203, .getfield 150, 3), (206, .bipush 16, 2), (208, .iload_n 1, 1), (209, .imul, 1), (210, .iconst 4, 1), (211, .iadd, 1), (212, .iload_n 3, 1), (213, .iadd, 1), (214, .aload_n 0, 1), (215, .getfield 122, 3), (218, .iload_n 3, 1), (219, .laload, 1), (220, .lastore, 1), (221, .iinc 3 1, 3), (224, .goto (-64), 3), (227, .iconst 0, 1), (228, .istore_n 3, 1), (229, .iload_n 3, 1), (230, .iconst 4, 1), (231, .if_icmp .ge 26, 3), (234, .aload_n 0, 1), (235, .getfield 150, 3), (238, .bipush 16, 2), (240, .iload_n 1, 1), (241, .imul, 1), (242, .iload_n 3, 1), (243, .iadd, 1), (244, .aload_n 0, 1), (245, .getfield 77, 3), (248, .iload_n 3, 1), (249, .laload, 1), (250, .lastore, 1), (251, .iinc 3 1, 3), (254, .goto (-25), 3), (257, .iconst 1, 1), (258, .ireturn, 1)])
set_option maxRecDepth 100000 in
theorem okX12_keep : MOk mX12_keep := mok_of (by decide +kernel)
def mX12_again : MD := (yX12_again, cX12_again, 4, some .boolean, [(0, .aload_n 0, 1), (1, .iconst 0, 1), (2, .putfield 159, 3), (5, .iload_n 1, 1), (6, .i2l, 1), (7, .lconst 0, 1), (8, .lconst 1, 1), (9, .invokestatic 165, 3), (12, .ifCond .eq 25, 3), (15, .aload_n 0, 1), (16, .getfield 153, 3), (19, .iload_n 1, 1), (20, .baload, 1), (21, .ifCond .eq 16, 3), (24, .aload_n 0, 1), (25, .getfield 156, 3), (28, .iload_n 1, 1), (29, .iaload, 1), (30, .aload_n 0, 1), (31, .getfield 223, 3), (34, .if_icmp .eq 5, 3), (37, .iconst 0, 1), (38, .ireturn, 1), (39, .sipush 208, 3), (42, .iload_n 1, 1), (43, .imul, 1), (44, .istore_n 2, 1), (45, .iconst 0, 1), (46, .istore_n 3, 1), (47, .iload_n 3, 1), (48, .bipush 60, 2), (50, .if_icmp .ge 61, 3), (53, .aload_n 0, 1), (54, .getfield 13, 3), (57, .iload_n 3, 1), (58, .aload_n 0, 1), (59, .getfield 147, 3), (62, .iload_n 2, 1), (63, .iconst 3, 1), (64, .iload_n 3, 1), (65, .imul, 1), (66, .iadd, 1), (67, .iaload, 1), (68, .iastore, 1), (69, .aload_n 0, 1), (70, .getfield 17, 3), (73, .iload_n 3, 1), (74, .aload_n 0, 1), (75, .getfield 147, 3), (78, .iload_n 2, 1), (79, .iconst 3, 1), (80, .iload_n 3, 1), (81, .imul, 1), (82, .iadd, 1), (83, .iconst 1, 1), (84, .iadd, 1), (85, .iaload, 1), (86, .iastore, 1), (87, .aload_n 0, 1), (88, .getfield 20, 3), (91, .iload_n 3, 1), (92, .aload_n 0, 1), (93, .getfield 147, 3), (96, .iload_n 2, 1), (97, .iconst 3, 1), (98, .iload_n 3, 1), (99, .imul, 1), (100, .iadd, 1), (101, .iconst 2, 1), (102, .iadd, 1), (103, .iaload, 1), (104, .iastore, 1), (105, .iinc 3 1, 3), (108, .goto (-61), 3), (111, .iinc 2 180, 6), (117, .aload_n 0, 1), (118, .aload_n 0, 1), (119, .getfield 147, 3), (122, .iload_n 2, 1), (123, .iaload, 1), (124, .putfield 169, 3), (127, .aload_n 0, 1), (128, .aload_n 0, 1), (129, .getfield 147, 3), (132, .iload_n 2, 1), (133, .iconst 1, 1), (134, .iadd, 1), (135, .iaload, 1), (136, .putfield 211, 3), (139, .aload_n 0, 1), (140, .aload_n 0, 1), (141, .getfield 147, 3), (144, .iload_n 2, 1), (145, .iconst 2, 1), (146, .iadd, 1), (147, .iaload, 1), (148, .putfield 214, 3), (151, .aload_n 0, 1), (152, .aload_n 0, 1), (153, .getfield 147, 3), (156, .iload_n 2, 1), (157, .iconst 3, 1), (158, .iadd, 1), (159, .iaload, 1), (160, .putfield 217, 3), (163, .iconst 0, 1), (164, .istore_n 3, 1), (165, .iload_n 3, 1), (166, .bipush 12, 2), (168, .if_icmp .ge 64, 3), (171, .aload_n 0, 1), (172, .getfield 116, 3), (175, .iload_n 3, 1), (176, .aload_n 0, 1), (177, .getfield 147, 3), (180, .iload_n 2, 1), (181, .iconst 4, 1), (182, .iadd, 1), (183, .iconst 2, 1), (184, .iload_n 3, 1), (185, .imul, 1), (186, .iadd, 1), (187, .iaload, 1), (188, .iastore, 1), (189, .aload_n 0, 1), (190, .getfield 119, 3), (193, .iload_n 3, 1), (194, .aload_n 0, 1), (195, .getfield 147, 3), (198, .iload_n 2, 1), (199, .iconst 5, 1), (200, .iadd, 1), (201, .iconst 2, 1), (202, .iload_n 3, 1), (203, .imul, 1), (204, .iadd, 1), (205, .iaload, 1), (206, .iastore, 1), (207, .aload_n 0, 1), (208, .getfield 122, 3), (211, .iload_n 3, 1), (212, .aload_n 0, 1), (213, .getfield 150, 3), (216, .bipush 16, 2), (218, .iload_n 1, 1), (219, .imul, 1), (220, .iconst 4, 1), (221, .iadd, 1), (222, .iload_n 3, 1), (223, .iadd, 1), (224, .laload, 1), (225, .lastore, 1), (226, .iinc 3 1, 3), (229, .goto (-64), 3), (232, .iconst 0, 1), (233, .istore_n 3, 1), (234, .iload_n 3, 1), (235, .iconst 4, 1), (236, .if_icmp .ge 26, 3), (239, .aload_n 0, 1), (240, .getfield 77, 3), (243, .iload_n 3, 1), (244, .aload_n 0, 1), (245, .getfield 150, 3), (248, .bipush 16, 2), (250, .iload_n 1, 1), (251, .imul, 1), (252, .iload_n 3, 1), (253, .iadd, 1), (254, .laload, 1), (255, .lastore, 1), (256, .iinc 3 1, 3), (259, .goto (-25), 3), (262, .iconst 1, 1), (263, .ireturn, 1)])
set_option maxRecDepth 100000 in
theorem okX12_again : MOk mX12_again := mok_of (by decide +kernel)
def mX12_count : MD := (yX12_count, cX12_count, 2, some .int, [(0, .aload_n 0, 1), (1, .iconst 0, 1), (2, .putfield 159, 3), (5, .iload_n 1, 1), (6, .tableswitch 97 0 8 #[50, 55, 60, 67, 72, 77, 82, 87, 92], 50), (56, .aload_n 0, 1), (57, .getfield 9, 3), (60, .ireturn, 1), (61, .aload_n 0, 1), (62, .getfield 169, 3), (65, .ireturn, 1), (66, .aload_n 0, 1), (67, .getfield 26, 3), (70, .iconst 0, 1), (71, .iaload, 1), (72, .ireturn, 1), (73, .aload_n 0, 1), (74, .getfield 211, 3), (77, .ireturn, 1), (78, .aload_n 0, 1), (79, .getfield 214, 3), (82, .ireturn, 1), (83, .aload_n 0, 1), (84, .getfield 217, 3), (87, .ireturn, 1), (88, .aload_n 0, 1), (89, .getfield 220, 3), (92, .ireturn, 1), (93, .aload_n 0, 1), (94, .getfield 162, 3), (97, .ireturn, 1), (98, .aload_n 0, 1), (99, .getfield 172, 3), (102, .ireturn, 1), (103, .iconst (-1), 1), (104, .ireturn, 1)])
set_option maxRecDepth 100000 in
theorem okX12_count : MOk mX12_count := mok_of (by decide +kernel)
def mX12_row : MD := (yX12_row, cX12_row, 2, some .long, [(0, .aload_n 0, 1), (1, .iconst 0, 1), (2, .putfield 159, 3), (5, .iload_n 1, 1), (6, .i2l, 1), (7, .lconst 0, 1), (8, .aload_n 0, 1), (9, .getfield 162, 3), (12, .iconst 1, 1), (13, .isub, 1), (14, .i2l, 1), (15, .invokestatic 165, 3), (18, .ifCond .eq 12, 3), (21, .aload_n 0, 1), (22, .getfield 33, 3), (25, .iload_n 1, 1), (26, .laload, 1), (27, .goto 8, 3), (30, .aload_n 0, 1), (31, .invokevirtual 238, 3), (34, .i2l, 1), (35, .lreturn, 1)])
set_option maxRecDepth 100000 in
theorem okX12_row : MOk mX12_row := mok_of (by decide +kernel)
def mJ6_numberOfTrailingZeros_0f7a4 : MD := (yJ6_numberOfTrailingZeros_0f7a4, cJ6_numberOfTrailingZeros_0f7a4, 2, some .int, [(0, .iload_n 0, 1), (1, .iconst (-1), 1), (2, .ixor, 1), (3, .iload_n 0, 1), (4, .iconst 1, 1), (5, .isub, 1), (6, .iand, 1), (7, .istore_n 0, 1), (8, .iload_n 0, 1), (9, .ifCond .gt 8, 3), (12, .iload_n 0, 1), (13, .bipush 32, 2), (15, .iand, 1), (16, .ireturn, 1), (17, .iconst 1, 1), (18, .istore_n 1, 1), (19, .iload_n 0, 1), (20, .ldc_w 264, 3), (23, .if_icmp .le 11, 3), (26, .iinc 1 16, 3), (29, .iload_n 0, 1), (30, .bipush 16, 2), (32, .iushr, 1), (33, .istore_n 0, 1), (34, .iload_n 0, 1), (35, .sipush 256, 3), (38, .if_icmp .le 11, 3), (41, .iinc 1 8, 3), (44, .iload_n 0, 1), (45, .bipush 8, 2), (47, .iushr, 1), (48, .istore_n 0, 1), (49, .iload_n 0, 1), (50, .bipush 16, 2), (52, .if_icmp .le 10, 3), (55, .iinc 1 4, 3), (58, .iload_n 0, 1), (59, .iconst 4, 1), (60, .iushr, 1), (61, .istore_n 0, 1), (62, .iload_n 0, 1), (63, .iconst 4, 1), (64, .if_icmp .le 10, 3), (67, .iinc 1 2, 3), (70, .iload_n 0, 1), (71, .iconst 2, 1), (72, .iushr, 1), (73, .istore_n 0, 1), (74, .iload_n 1, 1), (75, .iload_n 0, 1), (76, .iconst 1, 1), (77, .iushr, 1), (78, .iadd, 1), (79, .ireturn, 1)])
set_option maxRecDepth 100000 in
theorem okJ6_numberOfTrailingZeros_0f7a4 : MOk mJ6_numberOfTrailingZeros_0f7a4 := mok_of (by decide +kernel)
def mJ6_bitCount_0f7a4 : MD := (yJ6_bitCount_0f7a4, cJ6_bitCount_0f7a4, 1, some .int, [(0, .iload_n 0, 1), (1, .iload_n 0, 1), (2, .iconst 1, 1), (3, .iushr, 1), (4, .ldc_w 265, 3), (7, .iand, 1), (8, .isub, 1), (9, .istore_n 0, 1), (10, .iload_n 0, 1), (11, .ldc_w 266, 3), (14, .iand, 1), (15, .iload_n 0, 1), (16, .iconst 2, 1), (17, .iushr, 1), (18, .ldc_w 266, 3), (21, .iand, 1), (22, .iadd, 1), (23, .istore_n 0, 1), (24, .iload_n 0, 1), (25, .iload_n 0, 1), (26, .iconst 4, 1), (27, .iushr, 1), (28, .iadd, 1), (29, .ldc_w 267, 3), (32, .iand, 1), (33, .istore_n 0, 1), (34, .iload_n 0, 1), (35, .iload_n 0, 1), (36, .bipush 8, 2), (38, .iushr, 1), (39, .iadd, 1), (40, .istore_n 0, 1), (41, .iload_n 0, 1), (42, .iload_n 0, 1), (43, .bipush 16, 2), (45, .iushr, 1), (46, .iadd, 1), (47, .istore_n 0, 1), (48, .iload_n 0, 1), (49, .bipush 63, 2), (51, .iand, 1), (52, .ireturn, 1)])
set_option maxRecDepth 100000 in
theorem okJ6_bitCount_0f7a4 : MOk mJ6_bitCount_0f7a4 := mok_of (by decide +kernel)
def mJ13_numberOfTrailingZeros_95d88 : MD := (yJ13_numberOfTrailingZeros_95d88, cJ13_numberOfTrailingZeros_95d88, 3, some .int, [(0, .lload_n 0, 1), (1, .l2i, 1), (2, .istore_n 2, 1), (3, .iload_n 2, 1), (4, .ifCond .ne 17, 3), (7, .bipush 32, 2), (9, .lload_n 0, 1), (10, .bipush 32, 2), (12, .lushr, 1), (13, .l2i, 1), (14, .invokestatic 311, 3), (17, .iadd, 1), (18, .goto 7, 3), (21, .iload_n 2, 1), (22, .invokestatic 311, 3), (25, .ireturn, 1)])
set_option maxRecDepth 100000 in
theorem okJ13_numberOfTrailingZeros_95d88 : MOk mJ13_numberOfTrailingZeros_95d88 := mok_of (by decide +kernel)
def mJ13_bitCount_95d88 : MD := (yJ13_bitCount_95d88, cJ13_bitCount_95d88, 2, some .int, [(0, .lload_n 0, 1), (1, .lload_n 0, 1), (2, .iconst 1, 1), (3, .lushr, 1), (4, .ldc2_w 314, 3), (7, .land, 1), (8, .lsub, 1), (9, .lstore_n 0, 1), (10, .lload_n 0, 1), (11, .ldc2_w 316, 3), (14, .land, 1), (15, .lload_n 0, 1), (16, .iconst 2, 1), (17, .lushr, 1), (18, .ldc2_w 316, 3), (21, .land, 1), (22, .ladd, 1), (23, .lstore_n 0, 1), (24, .lload_n 0, 1), (25, .lload_n 0, 1), (26, .iconst 4, 1), (27, .lushr, 1), (28, .ladd, 1), (29, .ldc2_w 318, 3), (32, .land, 1), (33, .lstore_n 0, 1), (34, .lload_n 0, 1), (35, .lload_n 0, 1), (36, .bipush 8, 2), (38, .lushr, 1), (39, .ladd, 1), (40, .lstore_n 0, 1), (41, .lload_n 0, 1), (42, .lload_n 0, 1), (43, .bipush 16, 2), (45, .lushr, 1), (46, .ladd, 1), (47, .lstore_n 0, 1), (48, .lload_n 0, 1), (49, .lload_n 0, 1), (50, .bipush 32, 2), (52, .lushr, 1), (53, .ladd, 1), (54, .lstore_n 0, 1), (55, .lload_n 0, 1), (56, .l2i, 1), (57, .bipush 127, 2), (59, .iand, 1), (60, .ireturn, 1)])
set_option maxRecDepth 100000 in
theorem okJ13_bitCount_95d88 : MOk mJ13_bitCount_95d88 := mok_of (by decide +kernel)
def mJ9_max_7cf53 : MD := (yJ9_max_7cf53, cJ9_max_7cf53, 2, some .int, [(0, .iload_n 0, 1), (1, .iload_n 1, 1), (2, .if_icmp .lt 7, 3), (5, .iload_n 0, 1), (6, .goto 4, 3), (9, .iload_n 1, 1), (10, .ireturn, 1)])
set_option maxRecDepth 100000 in
theorem okJ9_max_7cf53 : MOk mJ9_max_7cf53 := mok_of (by decide +kernel)
def mJ9_max_f86c9 : MD := (yJ9_max_f86c9, cJ9_max_f86c9, 4, some .long, [(0, .lload_n 0, 1), (1, .lload_n 2, 1), (2, .lcmp, 1), (3, .ifCond .lt 7, 3), (6, .lload_n 0, 1), (7, .goto 4, 3), (10, .lload_n 2, 1), (11, .lreturn, 1)])
set_option maxRecDepth 100000 in
theorem okJ9_max_f86c9 : MOk mJ9_max_f86c9 := mok_of (by decide +kernel)
def mJ9_min_7cf53 : MD := (yJ9_min_7cf53, cJ9_min_7cf53, 2, some .int, [(0, .iload_n 0, 1), (1, .iload_n 1, 1), (2, .if_icmp .gt 7, 3), (5, .iload_n 0, 1), (6, .goto 4, 3), (9, .iload_n 1, 1), (10, .ireturn, 1)])
set_option maxRecDepth 100000 in
theorem okJ9_min_7cf53 : MOk mJ9_min_7cf53 := mok_of (by decide +kernel)
def mJ7_rangeCheck_23922 : MD := (yJ7_rangeCheck_23922, cJ7_rangeCheck_23922, 3, none, [(0, .iload_n 1, 1), (1, .iload_n 2, 1), (2, .if_icmp .le 44, 3), (5, .new 43, 3), (8, .dup, 1), (9, .new 45, 3), (12, .dup, 1), (13, .invokespecial 47, 3), (16, .ldc 48, 2), (18, .invokevirtual 50, 3), (21, .iload_n 1, 1), (22, .invokevirtual 54, 3), (25, .ldc 57, 2), (27, .invokevirtual 50, 3), (30, .iload_n 2, 1), (31, .invokevirtual 54, 3), (34, .ldc 59, 2), (36, .invokevirtual 50, 3), (39, .invokevirtual 61, 3), (42, .invokespecial 65, 3), (45, .athrow, 1), (46, .iload_n 1, 1), (47, .ifCond .ge 12, 3), (50, .new 68, 3), (53, .dup, 1), (54, .iload_n 1, 1), (55, .invokespecial 70, 3), (58, .athrow, 1), (59, .iload_n 2, 1), (60, .iload_n 0, 1), (61, .if_icmp .le 12, 3), (64, .new 68, 3), (67, .dup, 1), (68, .iload_n 2, 1), (69, .invokespecial 70, 3), (72, .athrow, 1), (73, .return_, 1)])
set_option maxRecDepth 100000 in
theorem okJ7_rangeCheck_23922 : MOk mJ7_rangeCheck_23922 := mok_of (by decide +kernel)
def mJ7_fill_d0a16 : MD := (yJ7_fill_d0a16, cJ7_fill_d0a16, 5, none, [(0, .iconst 0, 1), (1, .istore_n 3, 1), (2, .aload_n 0, 1), (3, .arraylength, 1), (4, .istore 4, 2), (6, .iload_n 3, 1), (7, .iload 4, 2), (9, .if_icmp .ge 13, 3), (12, .aload_n 0, 1), (13, .iload_n 3, 1), (14, .lload_n 1, 1), (15, .lastore, 1), (16, .iinc 3 1, 3), (19, .goto (-13), 3), (22, .return_, 1)])
set_option maxRecDepth 100000 in
theorem okJ7_fill_d0a16 : MOk mJ7_fill_d0a16 := mok_of (by decide +kernel)
def mJ7_fill_53178 : MD := (yJ7_fill_53178, cJ7_fill_53178, 4, none, [(0, .iconst 0, 1), (1, .istore_n 2, 1), (2, .aload_n 0, 1), (3, .arraylength, 1), (4, .istore_n 3, 1), (5, .iload_n 2, 1), (6, .iload_n 3, 1), (7, .if_icmp .ge 13, 3), (10, .aload_n 0, 1), (11, .iload_n 2, 1), (12, .iload_n 1, 1), (13, .iastore, 1), (14, .iinc 2 1, 3), (17, .goto (-12), 3), (20, .return_, 1)])
set_option maxRecDepth 100000 in
theorem okJ7_fill_53178 : MOk mJ7_fill_53178 := mok_of (by decide +kernel)
def mJ7_fill_fda19 : MD := (yJ7_fill_fda19, cJ7_fill_fda19, 5, none, [(0, .aload_n 0, 1), (1, .arraylength, 1), (2, .iload_n 1, 1), (3, .iload_n 2, 1), (4, .invokestatic 13, 3), (7, .iload_n 1, 1), (8, .istore 4, 2), (10, .iload 4, 2), (12, .iload_n 2, 1), (13, .if_icmp .ge 14, 3), (16, .aload_n 0, 1), (17, .iload 4, 2), (19, .iload_n 3, 1), (20, .iastore, 1), (21, .iinc 4 1, 3), (24, .goto (-14), 3), (27, .return_, 1)])
set_option maxRecDepth 100000 in
theorem okJ7_fill_fda19 : MOk mJ7_fill_fda19 := mok_of (by decide +kernel)
def mL_lamp : MD := (yL_lamp, cL_lamp, 5, some .int, [(0, .aload_n 3, 1), (1, .iconst 0, 1), (2, .aload_n 0, 1), (3, .iload_n 1, 1), (4, .iload_n 2, 1), (5, .invokevirtual 7, 3), (8, .i2l, 1), (9, .lastore, 1), (10, .goto 7, 3), (13, .astore 4, 2), (15, .iconst 1, 1), (16, .ireturn, 1), (17, .iconst 0, 1), (18, .ireturn, 1)])
set_option maxRecDepth 100000 in
theorem okL_lamp : MOk mL_lamp := mok_of (by decide +kernel)
def mL_fault : MD := (yL_fault, cL_fault, 5, some .int, [(0, .aload_n 3, 1), (1, .iconst 0, 1), (2, .aload_n 0, 1), (3, .iload_n 1, 1), (4, .iload_n 2, 1), (5, .invokevirtual 15, 3), (8, .i2l, 1), (9, .lastore, 1), (10, .goto 7, 3), (13, .astore 4, 2), (15, .iconst 1, 1), (16, .ireturn, 1), (17, .iconst 0, 1), (18, .ireturn, 1)])
set_option maxRecDepth 100000 in
theorem okL_fault : MOk mL_fault := mok_of (by decide +kernel)
def mL_row : MD := (yL_row, cL_row, 4, some .int, [(0, .aload_n 2, 1), (1, .iconst 0, 1), (2, .aload_n 0, 1), (3, .iload_n 1, 1), (4, .invokevirtual 18, 3), (7, .lastore, 1), (8, .goto 6, 3), (11, .astore_n 3, 1), (12, .iconst 1, 1), (13, .ireturn, 1), (14, .iconst 0, 1), (15, .ireturn, 1)])
set_option maxRecDepth 100000 in
theorem okL_row : MOk mL_row := mok_of (by decide +kernel)
end
section
/-! the links of the constant pools: fields, methods, constants, by the places of their words -/
theorem mt_1 {w : Cond} (h : w ∈ tables_1_1) : w ∈ tables_1 := List.mem_append_left _ h
theorem mt_2 {w : Cond} (h : w ∈ tables_1_2) : w ∈ tables_1 := List.mem_append_right _ (List.mem_append_left _ h)
theorem mt_3 {w : Cond} (h : w ∈ tables_1_3) : w ∈ tables_1 := List.mem_append_right _ (List.mem_append_right _ (List.mem_append_left _ h))
theorem mt_4 {w : Cond} (h : w ∈ tables_1_4) : w ∈ tables_1 := List.mem_append_right _ (List.mem_append_right _ (List.mem_append_right _ (List.mem_append_left _ h)))
theorem mt_5 {w : Cond} (h : w ∈ tables_1_5) : w ∈ tables_1 := List.mem_append_right _ (List.mem_append_right _ (List.mem_append_right _ (List.mem_append_right _ (List.mem_append_left _ h))))
theorem mt_6 {w : Cond} (h : w ∈ tables_1_6) : w ∈ tables_1 := List.mem_append_right _ (List.mem_append_right _ (List.mem_append_right _ (List.mem_append_right _ (List.mem_append_right _ (List.mem_append_left _ h)))))
theorem mt_7 {w : Cond} (h : w ∈ tables_1_7) : w ∈ tables_1 := List.mem_append_right _ (List.mem_append_right _ (List.mem_append_right _ (List.mem_append_right _ (List.mem_append_right _ (List.mem_append_right _ (List.mem_append_left _ h))))))
theorem mt_8 {w : Cond} (h : w ∈ tables_1_8) : w ∈ tables_1 := List.mem_append_right _ (List.mem_append_right _ (List.mem_append_right _ (List.mem_append_right _ (List.mem_append_right _ (List.mem_append_right _ (List.mem_append_right _ (List.mem_append_left _ h)))))))
theorem mt_9 {w : Cond} (h : w ∈ tables_1_9) : w ∈ tables_1 := List.mem_append_right _ (List.mem_append_right _ (List.mem_append_right _ (List.mem_append_right _ (List.mem_append_right _ (List.mem_append_right _ (List.mem_append_right _ (List.mem_append_right _ (h))))))))
theorem mp_1 {q : MethodName × Nat} (h : q ∈ lw_privs_1) : q ∈ lw_privs := List.mem_append_left _ h
theorem mp_2 {q : MethodName × Nat} (h : q ∈ lw_privs_2) : q ∈ lw_privs := List.mem_append_right _ (List.mem_append_left _ h)
theorem mp_3 {q : MethodName × Nat} (h : q ∈ lw_privs_3) : q ∈ lw_privs := List.mem_append_right _ (List.mem_append_right _ (List.mem_append_left _ h))
theorem mp_4 {q : MethodName × Nat} (h : q ∈ lw_privs_4) : q ∈ lw_privs := List.mem_append_right _ (List.mem_append_right _ (List.mem_append_right _ (List.mem_append_left _ h)))
theorem mp_5 {q : MethodName × Nat} (h : q ∈ lw_privs_5) : q ∈ lw_privs := List.mem_append_right _ (List.mem_append_right _ (List.mem_append_right _ (List.mem_append_right _ (List.mem_append_left _ h))))
theorem mp_6 {q : MethodName × Nat} (h : q ∈ lw_privs_6) : q ∈ lw_privs := List.mem_append_right _ (List.mem_append_right _ (List.mem_append_right _ (List.mem_append_right _ (List.mem_append_right _ (List.mem_append_left _ h)))))
theorem mp_7 {q : MethodName × Nat} (h : q ∈ lw_privs_7) : q ∈ lw_privs := List.mem_append_right _ (List.mem_append_right _ (List.mem_append_right _ (List.mem_append_right _ (List.mem_append_right _ (List.mem_append_right _ (h))))))
theorem wt {w : Cond} (h : w ∈ tables_1) (hq : qw w = true) : w ∈ wl := List.mem_filter.mpr ⟨List.mem_append_right _ h, hq⟩
theorem wp {q : MethodName × Nat} (h : q ∈ lw_privs) : Cond.selects q.1.cls q.1 q.1 ∈ wl := List.mem_filter.mpr ⟨List.mem_append_left _ (List.mem_map.mpr ⟨q, h, rfl⟩), rfl⟩
theorem gi1 {a : Cond} (h : a ∈ wl) (g : goodWord a = true) : GoodIn wl [a] := fun w hw => by rw [List.mem_singleton.mp hw]; exact ⟨h, good_of_word g⟩
theorem gic {a : Cond} {ls : List Cond} (h : a ∈ wl) (g : goodWord a = true) (t : GoodIn wl ls) : GoodIn wl (a :: ls) := fun w hw => (List.mem_cons.mp hw).elim (fun e => by rw [e]; exact ⟨h, good_of_word g⟩) (t w)
theorem w_oi1 : Cond.instanceMethod objectInit ∈ wl := (wt (mt_1 (List.mem_of_getElem? (i := 30) rfl)) rfl)
theorem w_oi2 : Cond.code objectInit ⟨#[0xb1]⟩ 1 none ∈ wl := (wt (mt_1 (List.mem_of_getElem? (i := 31) rfl)) rfl)
theorem w_ac1 : Cond.native arraycopyName ∈ wl := (wt (mt_5 (List.mem_of_getElem? (i := 7) rfl)) rfl)
theorem w_ac2 : Cond.static arraycopyName ∈ wl := (wt (mt_5 (List.mem_of_getElem? (i := 6) rfl)) rfl)
theorem w_ac3 : Cond.initialized "java/lang/System" ∈ wl := (wt (mt_1 (List.mem_of_getElem? (i := 23) rfl)) rfl)
theorem w_arr_int : Cond.arrayClass .int ∈ wl := (wt (mt_1 (List.mem_of_getElem? (i := 100) rfl)) rfl)
theorem w_arr_long : Cond.arrayClass .long ∈ wl := (wt (mt_1 (List.mem_of_getElem? (i := 101) rfl)) rfl)
theorem w_arr_char : Cond.arrayClass .char ∈ wl := (wt (mt_1 (List.mem_of_getElem? (i := 118) rfl)) rfl)
theorem w_arr_boolean : Cond.arrayClass .boolean ∈ wl := (wt (mt_2 (List.mem_of_getElem? (i := 88) rfl)) rfl)
theorem w_arr_byte : Cond.arrayClass .byte ∈ wl := (wt (mt_7 (List.mem_of_getElem? (i := 111) rfl)) rfl)
theorem wn_X0 : Cond.initialized RX0 ∈ wl := (wt (mt_1 (List.mem_of_getElem? (i := 2) rfl)) rfl)
theorem wn_X1 : Cond.initialized RX1 ∈ wl := (wt (mt_1 (List.mem_of_getElem? (i := 6) rfl)) rfl)
theorem wn_X2 : Cond.initialized RX2 ∈ wl := (wt (mt_1 (List.mem_of_getElem? (i := 12) rfl)) rfl)
theorem wn_X3 : Cond.initialized RX3 ∈ wl := (wt (mt_1 (List.mem_of_getElem? (i := 7) rfl)) rfl)
theorem wn_X4 : Cond.initialized RX4 ∈ wl := (wt (mt_1 (List.mem_of_getElem? (i := 9) rfl)) rfl)
theorem wn_X5 : Cond.initialized RX5 ∈ wl := (wt (mt_1 (List.mem_of_getElem? (i := 11) rfl)) rfl)
theorem wn_X6 : Cond.initialized RX6 ∈ wl := (wt (mt_1 (List.mem_of_getElem? (i := 4) rfl)) rfl)
theorem wn_X7 : Cond.initialized RX7 ∈ wl := (wt (mt_1 (List.mem_of_getElem? (i := 10) rfl)) rfl)
theorem wn_X8 : Cond.initialized RX8 ∈ wl := (wt (mt_1 (List.mem_of_getElem? (i := 8) rfl)) rfl)
theorem wn_X9 : Cond.initialized RX9 ∈ wl := (wt (mt_1 (List.mem_of_getElem? (i := 3) rfl)) rfl)
theorem wn_X10 : Cond.initialized RX10 ∈ wl := (wt (mt_1 (List.mem_of_getElem? (i := 5) rfl)) rfl)
theorem wn_X11 : Cond.initialized RX11 ∈ wl := (wt (mt_1 (List.mem_of_getElem? (i := 1) rfl)) rfl)
theorem wn_X12 : Cond.initialized RX12 ∈ wl := (wt (mt_1 (List.mem_of_getElem? (i := 13) rfl)) rfl)
theorem wn_J6 : Cond.initialized RJ6 ∈ wl := (wt (mt_1 (List.mem_of_getElem? (i := 22) rfl)) rfl)
theorem wn_J13 : Cond.initialized RJ13 ∈ wl := (wt (mt_1 (List.mem_of_getElem? (i := 21) rfl)) rfl)
theorem wn_J9 : Cond.initialized RJ9 ∈ wl := (wt (mt_1 (List.mem_of_getElem? (i := 14) rfl)) rfl)
theorem wn_Jxd2413 : Cond.initialized RJxd2413 ∈ wl := (wt (mt_1 (List.mem_of_getElem? (i := 20) rfl)) rfl)
theorem wn_J10 : Cond.initialized RJ10 ∈ wl := (wt (mt_1 (List.mem_of_getElem? (i := 23) rfl)) rfl)
theorem wn_J7 : Cond.initialized RJ7 ∈ wl := (wt (mt_1 (List.mem_of_getElem? (i := 15) rfl)) rfl)
theorem wn_L : Cond.initialized RL ∈ wl := (wt (mt_1 (List.mem_of_getElem? (i := 0) rfl)) rfl)
theorem wi_X0 : Cond.instantiable RX0 11 ∈ wl := (wt (mt_1 (List.mem_of_getElem? (i := 33) rfl)) rfl)
theorem wi_X1 : Cond.instantiable RX1 20 ∈ wl := (wt (mt_1 (List.mem_of_getElem? (i := 180) rfl)) rfl)
theorem wi_X2 : Cond.instantiable RX2 6 ∈ wl := (wt (mt_2 (List.mem_of_getElem? (i := 235) rfl)) rfl)
theorem wi_X3 : Cond.instantiable RX3 7 ∈ wl := (wt (mt_2 (List.mem_of_getElem? (i := 14) rfl)) rfl)
theorem wi_X4 : Cond.instantiable RX4 17 ∈ wl := (wt (mt_2 (List.mem_of_getElem? (i := 90) rfl)) rfl)
theorem wi_X5 : Cond.instantiable RX5 12 ∈ wl := (wt (mt_2 (List.mem_of_getElem? (i := 189) rfl)) rfl)
theorem wi_X6 : Cond.instantiable RX6 11 ∈ wl := (wt (mt_1 (List.mem_of_getElem? (i := 120) rfl)) rfl)
theorem wi_X7 : Cond.instantiable RX7 9 ∈ wl := (wt (mt_2 (List.mem_of_getElem? (i := 151) rfl)) rfl)
theorem wi_X8 : Cond.instantiable RX8 7 ∈ wl := (wt (mt_2 (List.mem_of_getElem? (i := 50) rfl)) rfl)
theorem wi_X9 : Cond.instantiable RX9 2 ∈ wl := (wt (mt_1 (List.mem_of_getElem? (i := 103) rfl)) rfl)
theorem wi_X10 : Cond.instantiable RX10 2 ∈ wl := (wt (mt_1 (List.mem_of_getElem? (i := 165) rfl)) rfl)
theorem wi_X11 : Cond.instantiable RX11 11 ∈ wl := (wt (mt_1 (List.mem_of_getElem? (i := 25) rfl)) rfl)
theorem wi_X12 : Cond.instantiable RX12 75 ∈ wl := (wt (mt_6 (List.mem_of_getElem? (i := 119) rfl)) rfl)
theorem wc_X0_init : cdw mX0_init ∈ wl := (wt (mt_1 (List.mem_of_getElem? (i := 36) rfl)) rfl)
theorem wd_X0_init : dOk mX0_init 0 := ⟨(by decide +kernel), (by decide +kernel), (by decide +kernel)⟩
theorem wv_X0_init : Cond.instanceMethod yX0_init ∈ wl := (wt (mt_1 (List.mem_of_getElem? (i := 35) rfl)) rfl)
theorem wc_X0_hasWire : cdw mX0_hasWire ∈ wl := (wt (mt_3 (List.mem_of_getElem? (i := 154) rfl)) rfl)
theorem wd_X0_hasWire : dOk mX0_hasWire 1 := ⟨(by decide +kernel), (by decide +kernel), (by decide +kernel)⟩
theorem wv_X0_hasWire : Cond.instanceMethod yX0_hasWire ∈ wl := (wt (mt_3 (List.mem_of_getElem? (i := 152) rfl)) rfl)
theorem wz_X0_hasWire : Cond.selects RX0 yX0_hasWire yX0_hasWire ∈ wl := (wt (mt_3 (List.mem_of_getElem? (i := 153) rfl)) rfl)
theorem wc_X0_hasLamp : cdw mX0_hasLamp ∈ wl := (wt (mt_3 (List.mem_of_getElem? (i := 190) rfl)) rfl)
theorem wd_X0_hasLamp : dOk mX0_hasLamp 1 := ⟨(by decide +kernel), (by decide +kernel), (by decide +kernel)⟩
theorem wv_X0_hasLamp : Cond.instanceMethod yX0_hasLamp ∈ wl := (wt (mt_3 (List.mem_of_getElem? (i := 188) rfl)) rfl)
theorem wz_X0_hasLamp : Cond.selects RX0 yX0_hasLamp yX0_hasLamp ∈ wl := (wt (mt_3 (List.mem_of_getElem? (i := 189) rfl)) rfl)
theorem wc_X0_hasPair : cdw mX0_hasPair ∈ wl := (wt (mt_3 (List.mem_of_getElem? (i := 186) rfl)) rfl)
theorem wd_X0_hasPair : dOk mX0_hasPair 2 := ⟨(by decide +kernel), (by decide +kernel), (by decide +kernel)⟩
theorem wv_X0_hasPair : Cond.instanceMethod yX0_hasPair ∈ wl := (wt (mt_3 (List.mem_of_getElem? (i := 184) rfl)) rfl)
theorem wz_X0_hasPair : Cond.selects RX0 yX0_hasPair yX0_hasPair ∈ wl := (wt (mt_3 (List.mem_of_getElem? (i := 185) rfl)) rfl)
theorem wc_X0_hasLamps : cdw mX0_hasLamps ∈ wl := (wt (mt_4 (List.mem_of_getElem? (i := 73) rfl)) rfl)
theorem wd_X0_hasLamps : dOk mX0_hasLamps 1 := ⟨(by decide +kernel), (by decide +kernel), (by decide +kernel)⟩
theorem wv_X0_hasLamps : Cond.instanceMethod yX0_hasLamps ∈ wl := (wt (mt_4 (List.mem_of_getElem? (i := 71) rfl)) rfl)
theorem wz_X0_hasLamps : Cond.selects RX0 yX0_hasLamps yX0_hasLamps ∈ wl := (wt (mt_4 (List.mem_of_getElem? (i := 72) rfl)) rfl)
theorem wc_X0_hasSetting : cdw mX0_hasSetting ∈ wl := (wt (mt_3 (List.mem_of_getElem? (i := 202) rfl)) rfl)
theorem wd_X0_hasSetting : dOk mX0_hasSetting 2 := ⟨(by decide +kernel), (by decide +kernel), (by decide +kernel)⟩
theorem wv_X0_hasSetting : Cond.instanceMethod yX0_hasSetting ∈ wl := (wt (mt_3 (List.mem_of_getElem? (i := 200) rfl)) rfl)
theorem wz_X0_hasSetting : Cond.selects RX0 yX0_hasSetting yX0_hasSetting ∈ wl := (wt (mt_3 (List.mem_of_getElem? (i := 201) rfl)) rfl)
theorem wc_X0_startAnew : cdw mX0_startAnew ∈ wl := (wt (mt_3 (List.mem_of_getElem? (i := 134) rfl)) rfl)
theorem wd_X0_startAnew : dOk mX0_startAnew 1 := ⟨(by decide +kernel), (by decide +kernel), (by decide +kernel)⟩
theorem wv_X0_startAnew : Cond.instanceMethod yX0_startAnew ∈ wl := (wt (mt_3 (List.mem_of_getElem? (i := 132) rfl)) rfl)
theorem wz_X0_startAnew : Cond.selects RX0 yX0_startAnew yX0_startAnew ∈ wl := (wt (mt_3 (List.mem_of_getElem? (i := 133) rfl)) rfl)
theorem wc_X0_add : cdw mX0_add ∈ wl := (wt (mt_3 (List.mem_of_getElem? (i := 158) rfl)) rfl)
theorem wd_X0_add : dOk mX0_add 3 := ⟨(by decide +kernel), (by decide +kernel), (by decide +kernel)⟩
theorem wv_X0_add : Cond.instanceMethod yX0_add ∈ wl := (wt (mt_3 (List.mem_of_getElem? (i := 156) rfl)) rfl)
theorem wz_X0_add : Cond.selects RX0 yX0_add yX0_add ∈ wl := (wt (mt_3 (List.mem_of_getElem? (i := 157) rfl)) rfl)
theorem wc_X0_resist : cdw mX0_resist ∈ wl := (wt (mt_3 (List.mem_of_getElem? (i := 150) rfl)) rfl)
theorem wd_X0_resist : dOk mX0_resist 2 := ⟨(by decide +kernel), (by decide +kernel), (by decide +kernel)⟩
theorem wv_X0_resist : Cond.instanceMethod yX0_resist ∈ wl := (wt (mt_3 (List.mem_of_getElem? (i := 148) rfl)) rfl)
theorem wz_X0_resist : Cond.selects RX0 yX0_resist yX0_resist ∈ wl := (wt (mt_3 (List.mem_of_getElem? (i := 149) rfl)) rfl)
theorem wc_X0_trade : cdw mX0_trade ∈ wl := (wt (mt_3 (List.mem_of_getElem? (i := 194) rfl)) rfl)
theorem wd_X0_trade : dOk mX0_trade 2 := ⟨(by decide +kernel), (by decide +kernel), (by decide +kernel)⟩
theorem wv_X0_trade : Cond.instanceMethod yX0_trade ∈ wl := (wt (mt_3 (List.mem_of_getElem? (i := 192) rfl)) rfl)
theorem wz_X0_trade : Cond.selects RX0 yX0_trade yX0_trade ∈ wl := (wt (mt_3 (List.mem_of_getElem? (i := 193) rfl)) rfl)
theorem wc_X0_rewire : cdw mX0_rewire ∈ wl := (wt (mt_3 (List.mem_of_getElem? (i := 138) rfl)) rfl)
theorem wd_X0_rewire : dOk mX0_rewire 0 := ⟨(by decide +kernel), (by decide +kernel), (by decide +kernel)⟩
theorem wv_X0_rewire : Cond.instanceMethod yX0_rewire ∈ wl := (wt (mt_3 (List.mem_of_getElem? (i := 136) rfl)) rfl)
theorem wz_X0_rewire : Cond.selects RX0 yX0_rewire yX0_rewire ∈ wl := (wt (mt_3 (List.mem_of_getElem? (i := 137) rfl)) rfl)
theorem wc_X0_asked : cdw mX0_asked ∈ wl := (wt (mt_4 (List.mem_of_getElem? (i := 33) rfl)) rfl)
theorem wd_X0_asked : dOk mX0_asked 2 := ⟨(by decide +kernel), (by decide +kernel), (by decide +kernel)⟩
theorem wv_X0_asked : Cond.instanceMethod yX0_asked ∈ wl := (wt (mt_4 (List.mem_of_getElem? (i := 31) rfl)) rfl)
theorem wz_X0_asked : Cond.selects RX0 yX0_asked yX0_asked ∈ wl := (wt (mt_4 (List.mem_of_getElem? (i := 32) rfl)) rfl)
theorem wc_X1_init : cdw mX1_init ∈ wl := (wt (mt_1 (List.mem_of_getElem? (i := 183) rfl)) rfl)
theorem wd_X1_init : dOk mX1_init 1 := ⟨(by decide +kernel), (by decide +kernel), (by decide +kernel)⟩
theorem wv_X1_init : Cond.instanceMethod yX1_init ∈ wl := (wt (mt_1 (List.mem_of_getElem? (i := 182) rfl)) rfl)
theorem wc_X1_glowing : cdw mX1_glowing ∈ wl := (wt (mt_3 (List.mem_of_getElem? (i := 206) rfl)) rfl)
theorem wd_X1_glowing : dOk mX1_glowing 2 := ⟨(by decide +kernel), (by decide +kernel), (by decide +kernel)⟩
theorem wv_X1_glowing : Cond.instanceMethod yX1_glowing ∈ wl := (wt (mt_3 (List.mem_of_getElem? (i := 204) rfl)) rfl)
theorem wz_X1_glowing : Cond.selects RX1 yX1_glowing yX1_glowing ∈ wl := (wt (mt_3 (List.mem_of_getElem? (i := 205) rfl)) rfl)
theorem wc_X1_watch : cdw mX1_watch ∈ wl := (wt (mt_4 (List.mem_of_getElem? (i := 43) rfl)) rfl)
theorem wd_X1_watch : dOk mX1_watch 3 := ⟨(by decide +kernel), (by decide +kernel), (by decide +kernel)⟩
theorem wv_X1_watch : Cond.instanceMethod yX1_watch ∈ wl := (wt (mt_4 (List.mem_of_getElem? (i := 41) rfl)) rfl)
theorem wz_X1_watch : Cond.selects RX1 yX1_watch yX1_watch ∈ wl := (wt (mt_4 (List.mem_of_getElem? (i := 42) rfl)) rfl)
theorem wc_X1_lay : cdw mX1_lay ∈ wl := (wt (mt_3 (List.mem_of_getElem? (i := 210) rfl)) rfl)
theorem wd_X1_lay : dOk mX1_lay 2 := ⟨(by decide +kernel), (by decide +kernel), (by decide +kernel)⟩
theorem wv_X1_lay : Cond.instanceMethod yX1_lay ∈ wl := (wt (mt_3 (List.mem_of_getElem? (i := 208) rfl)) rfl)
theorem wz_X1_lay : Cond.selects RX1 yX1_lay yX1_lay ∈ wl := (wt (mt_3 (List.mem_of_getElem? (i := 209) rfl)) rfl)
theorem wc_X1_cut : cdw mX1_cut ∈ wl := (wt (mt_5 (List.mem_of_getElem? (i := 93) rfl)) rfl)
theorem wd_X1_cut : dOk mX1_cut 1 := ⟨(by decide +kernel), (by decide +kernel), (by decide +kernel)⟩
theorem wv_X1_cut : Cond.instanceMethod yX1_cut ∈ wl := (wt (mt_5 (List.mem_of_getElem? (i := 91) rfl)) rfl)
theorem wz_X1_cut : Cond.selects RX1 yX1_cut yX1_cut ∈ wl := (wt (mt_5 (List.mem_of_getElem? (i := 92) rfl)) rfl)
theorem wc_X1_join : cdw mX1_join ∈ wl := (wt (mt_5 (List.mem_of_getElem? (i := 101) rfl)) rfl)
theorem wd_X1_join : dOk mX1_join 2 := ⟨(by decide +kernel), (by decide +kernel), (by decide +kernel)⟩
theorem wv_X1_join : Cond.instanceMethod yX1_join ∈ wl := (wt (mt_5 (List.mem_of_getElem? (i := 99) rfl)) rfl)
theorem wz_X1_join : Cond.selects RX1 yX1_join yX1_join ∈ wl := (wt (mt_5 (List.mem_of_getElem? (i := 100) rfl)) rfl)
theorem wc_X1_turn : cdw mX1_turn ∈ wl := (wt (mt_5 (List.mem_of_getElem? (i := 106) rfl)) rfl)
theorem wd_X1_turn : dOk mX1_turn 1 := ⟨(by decide +kernel), (by decide +kernel), (by decide +kernel)⟩
theorem wv_X1_turn : Cond.instanceMethod yX1_turn ∈ wl := (wt (mt_5 (List.mem_of_getElem? (i := 104) rfl)) rfl)
theorem wz_X1_turn : Cond.selects RX1 yX1_turn yX1_turn ∈ wl := (wt (mt_5 (List.mem_of_getElem? (i := 105) rfl)) rfl)
theorem wc_X1_run : cdw mX1_run ∈ wl := (wt (mt_3 (List.mem_of_getElem? (i := 214) rfl)) rfl)
theorem wd_X1_run : dOk mX1_run 0 := ⟨(by decide +kernel), (by decide +kernel), (by decide +kernel)⟩
theorem wv_X1_run : Cond.instanceMethod yX1_run ∈ wl := (wt (mt_3 (List.mem_of_getElem? (i := 212) rfl)) rfl)
theorem wz_X1_run : Cond.selects RX1 yX1_run yX1_run ∈ wl := (wt (mt_3 (List.mem_of_getElem? (i := 213) rfl)) rfl)
theorem wc_X1_putOut : cdw mX1_putOut ∈ wl := (wt (mt_3 (List.mem_of_getElem? (i := 218) rfl)) rfl)
theorem wd_X1_putOut : dOk mX1_putOut 0 := ⟨(by decide +kernel), (by decide +kernel), (by decide +kernel)⟩
theorem wv_X1_putOut : Cond.instanceMethod yX1_putOut ∈ wl := (wt (mt_3 (List.mem_of_getElem? (i := 217) rfl)) rfl)
theorem wz_X1_putOut : Cond.selects RX1 yX1_putOut yX1_putOut ∈ wl := wp (mp_1 (List.mem_of_getElem? (i := 13) rfl))
theorem wc_X1_follow : cdw mX1_follow ∈ wl := (wt (mt_3 (List.mem_of_getElem? (i := 236) rfl)) rfl)
theorem wd_X1_follow : dOk mX1_follow 4 := ⟨(by decide +kernel), (by decide +kernel), (by decide +kernel)⟩
theorem wv_X1_follow : Cond.instanceMethod yX1_follow ∈ wl := (wt (mt_3 (List.mem_of_getElem? (i := 235) rfl)) rfl)
theorem wz_X1_follow : Cond.selects RX1 yX1_follow yX1_follow ∈ wl := wp (mp_1 (List.mem_of_getElem? (i := 14) rfl))
theorem wc_X1_goalOf : cdw mX1_goalOf ∈ wl := (wt (mt_4 (List.mem_of_getElem? (i := 0) rfl)) rfl)
theorem wd_X1_goalOf : dOk mX1_goalOf 1 := ⟨(by decide +kernel), (by decide +kernel), (by decide +kernel)⟩
theorem wv_X1_goalOf : Cond.instanceMethod yX1_goalOf ∈ wl := (wt (mt_3 (List.mem_of_getElem? (i := 239) rfl)) rfl)
theorem wz_X1_goalOf : Cond.selects RX1 yX1_goalOf yX1_goalOf ∈ wl := wp (mp_1 (List.mem_of_getElem? (i := 15) rfl))
theorem wc_X1_carry : cdw mX1_carry ∈ wl := (wt (mt_4 (List.mem_of_getElem? (i := 4) rfl)) rfl)
theorem wd_X1_carry : dOk mX1_carry 4 := ⟨(by decide +kernel), (by decide +kernel), (by decide +kernel)⟩
theorem wv_X1_carry : Cond.instanceMethod yX1_carry ∈ wl := (wt (mt_4 (List.mem_of_getElem? (i := 3) rfl)) rfl)
theorem wz_X1_carry : Cond.selects RX1 yX1_carry yX1_carry ∈ wl := wp (mp_2 (List.mem_of_getElem? (i := 0) rfl))
theorem wc_X1_noteWay : cdw mX1_noteWay ∈ wl := (wt (mt_4 (List.mem_of_getElem? (i := 10) rfl)) rfl)
theorem wd_X1_noteWay : dOk mX1_noteWay 2 := ⟨(by decide +kernel), (by decide +kernel), (by decide +kernel)⟩
theorem wv_X1_noteWay : Cond.instanceMethod yX1_noteWay ∈ wl := (wt (mt_4 (List.mem_of_getElem? (i := 9) rfl)) rfl)
theorem wz_X1_noteWay : Cond.selects RX1 yX1_noteWay yX1_noteWay ∈ wl := wp (mp_2 (List.mem_of_getElem? (i := 1) rfl))
theorem wc_X1_isLessWay : cdw mX1_isLessWay ∈ wl := (wt (mt_4 (List.mem_of_getElem? (i := 14) rfl)) rfl)
theorem wd_X1_isLessWay : dOk mX1_isLessWay 1 := ⟨(by decide +kernel), (by decide +kernel), (by decide +kernel)⟩
theorem wv_X1_isLessWay : Cond.instanceMethod yX1_isLessWay ∈ wl := (wt (mt_4 (List.mem_of_getElem? (i := 13) rfl)) rfl)
theorem wz_X1_isLessWay : Cond.selects RX1 yX1_isLessWay yX1_isLessWay ∈ wl := wp (mp_2 (List.mem_of_getElem? (i := 2) rfl))
theorem wc_X1_bright : cdw mX1_bright ∈ wl := (wt (mt_4 (List.mem_of_getElem? (i := 18) rfl)) rfl)
theorem wd_X1_bright : dOk mX1_bright 0 := ⟨(by decide +kernel), (by decide +kernel), (by decide +kernel)⟩
theorem wv_X1_bright : Cond.instanceMethod yX1_bright ∈ wl := (wt (mt_4 (List.mem_of_getElem? (i := 17) rfl)) rfl)
theorem wz_X1_bright : Cond.selects RX1 yX1_bright yX1_bright ∈ wl := wp (mp_2 (List.mem_of_getElem? (i := 3) rfl))
theorem wc_X2_init : cdw mX2_init ∈ wl := (wt (mt_2 (List.mem_of_getElem? (i := 238) rfl)) rfl)
theorem wd_X2_init : dOk mX2_init 0 := ⟨(by decide +kernel), (by decide +kernel), (by decide +kernel)⟩
theorem wv_X2_init : Cond.instanceMethod yX2_init ∈ wl := (wt (mt_2 (List.mem_of_getElem? (i := 237) rfl)) rfl)
theorem wc_X2_take : cdw mX2_take ∈ wl := (wt (mt_6 (List.mem_of_getElem? (i := 12) rfl)) rfl)
theorem wd_X2_take : dOk mX2_take 2 := ⟨(by decide +kernel), (by decide +kernel), (by decide +kernel)⟩
theorem wv_X2_take : Cond.instanceMethod yX2_take ∈ wl := (wt (mt_6 (List.mem_of_getElem? (i := 10) rfl)) rfl)
theorem wz_X2_take : Cond.selects RX2 yX2_take yX2_take ∈ wl := (wt (mt_6 (List.mem_of_getElem? (i := 11) rfl)) rfl)
theorem wc_X2_give : cdw mX2_give ∈ wl := (wt (mt_6 (List.mem_of_getElem? (i := 26) rfl)) rfl)
theorem wd_X2_give : dOk mX2_give 2 := ⟨(by decide +kernel), (by decide +kernel), (by decide +kernel)⟩
theorem wv_X2_give : Cond.instanceMethod yX2_give ∈ wl := (wt (mt_6 (List.mem_of_getElem? (i := 24) rfl)) rfl)
theorem wz_X2_give : Cond.selects RX2 yX2_give yX2_give ∈ wl := (wt (mt_6 (List.mem_of_getElem? (i := 25) rfl)) rfl)
theorem wc_X3_init : cdw mX3_init ∈ wl := (wt (mt_2 (List.mem_of_getElem? (i := 17) rfl)) rfl)
theorem wd_X3_init : dOk mX3_init 0 := ⟨(by decide +kernel), (by decide +kernel), (by decide +kernel)⟩
theorem wv_X3_init : Cond.instanceMethod yX3_init ∈ wl := (wt (mt_2 (List.mem_of_getElem? (i := 16) rfl)) rfl)
theorem wc_X3_clear : cdw mX3_clear ∈ wl := (wt (mt_3 (List.mem_of_getElem? (i := 145) rfl)) rfl)
theorem wd_X3_clear : dOk mX3_clear 0 := ⟨(by decide +kernel), (by decide +kernel), (by decide +kernel)⟩
theorem wv_X3_clear : Cond.instanceMethod yX3_clear ∈ wl := (wt (mt_3 (List.mem_of_getElem? (i := 143) rfl)) rfl)
theorem wz_X3_clear : Cond.selects RX3 yX3_clear yX3_clear ∈ wl := (wt (mt_3 (List.mem_of_getElem? (i := 144) rfl)) rfl)
theorem wc_X3_addSeen : cdw mX3_addSeen ∈ wl := (wt (mt_5 (List.mem_of_getElem? (i := 137) rfl)) rfl)
theorem wd_X3_addSeen : dOk mX3_addSeen 3 := ⟨(by decide +kernel), (by decide +kernel), (by decide +kernel)⟩
theorem wv_X3_addSeen : Cond.instanceMethod yX3_addSeen ∈ wl := (wt (mt_5 (List.mem_of_getElem? (i := 135) rfl)) rfl)
theorem wz_X3_addSeen : Cond.selects RX3 yX3_addSeen yX3_addSeen ∈ wl := (wt (mt_5 (List.mem_of_getElem? (i := 136) rfl)) rfl)
theorem wc_X3_copyFrom : cdw mX3_copyFrom ∈ wl := (wt (mt_6 (List.mem_of_getElem? (i := 17) rfl)) rfl)
theorem wd_X3_copyFrom : dOk mX3_copyFrom 1 := ⟨(by decide +kernel), (by decide +kernel), (by decide +kernel)⟩
theorem wv_X3_copyFrom : Cond.instanceMethod yX3_copyFrom ∈ wl := (wt (mt_6 (List.mem_of_getElem? (i := 15) rfl)) rfl)
theorem wz_X3_copyFrom : Cond.selects RX3 yX3_copyFrom yX3_copyFrom ∈ wl := (wt (mt_6 (List.mem_of_getElem? (i := 16) rfl)) rfl)
theorem wc_X4_init : cdw mX4_init ∈ wl := (wt (mt_2 (List.mem_of_getElem? (i := 93) rfl)) rfl)
theorem wd_X4_init : dOk mX4_init 2 := ⟨(by decide +kernel), (by decide +kernel), (by decide +kernel)⟩
theorem wv_X4_init : Cond.instanceMethod yX4_init ∈ wl := (wt (mt_2 (List.mem_of_getElem? (i := 92) rfl)) rfl)
theorem wc_X4_open : cdw mX4_open ∈ wl := (wt (mt_4 (List.mem_of_getElem? (i := 165) rfl)) rfl)
theorem wd_X4_open : dOk mX4_open 1 := ⟨(by decide +kernel), (by decide +kernel), (by decide +kernel)⟩
theorem wv_X4_open : Cond.instanceMethod yX4_open ∈ wl := (wt (mt_4 (List.mem_of_getElem? (i := 163) rfl)) rfl)
theorem wz_X4_open : Cond.selects RX4 yX4_open yX4_open ∈ wl := (wt (mt_4 (List.mem_of_getElem? (i := 164) rfl)) rfl)
theorem wc_X4_numbered : cdw mX4_numbered ∈ wl := (wt (mt_4 (List.mem_of_getElem? (i := 173) rfl)) rfl)
theorem wd_X4_numbered : dOk mX4_numbered 1 := ⟨(by decide +kernel), (by decide +kernel), (by decide +kernel)⟩
theorem wv_X4_numbered : Cond.instanceMethod yX4_numbered ∈ wl := (wt (mt_4 (List.mem_of_getElem? (i := 172) rfl)) rfl)
theorem wz_X4_numbered : Cond.selects RX4 yX4_numbered yX4_numbered ∈ wl := wp (mp_2 (List.mem_of_getElem? (i := 9) rfl))
theorem wc_X4_part : cdw mX4_part ∈ wl := (wt (mt_4 (List.mem_of_getElem? (i := 177) rfl)) rfl)
theorem wd_X4_part : dOk mX4_part 0 := ⟨(by decide +kernel), (by decide +kernel), (by decide +kernel)⟩
theorem wv_X4_part : Cond.instanceMethod yX4_part ∈ wl := (wt (mt_4 (List.mem_of_getElem? (i := 175) rfl)) rfl)
theorem wz_X4_part : Cond.selects RX4 yX4_part yX4_part ∈ wl := (wt (mt_4 (List.mem_of_getElem? (i := 176) rfl)) rfl)
theorem wc_X4_findWidest : cdw mX4_findWidest ∈ wl := (wt (mt_4 (List.mem_of_getElem? (i := 181) rfl)) rfl)
theorem wd_X4_findWidest : dOk mX4_findWidest 0 := ⟨(by decide +kernel), (by decide +kernel), (by decide +kernel)⟩
theorem wv_X4_findWidest : Cond.instanceMethod yX4_findWidest ∈ wl := (wt (mt_4 (List.mem_of_getElem? (i := 180) rfl)) rfl)
theorem wz_X4_findWidest : Cond.selects RX4 yX4_findWidest yX4_findWidest ∈ wl := wp (mp_2 (List.mem_of_getElem? (i := 10) rfl))
theorem wc_X4_addWidest : cdw mX4_addWidest ∈ wl := (wt (mt_4 (List.mem_of_getElem? (i := 185) rfl)) rfl)
theorem wd_X4_addWidest : dOk mX4_addWidest 1 := ⟨(by decide +kernel), (by decide +kernel), (by decide +kernel)⟩
theorem wv_X4_addWidest : Cond.instanceMethod yX4_addWidest ∈ wl := (wt (mt_4 (List.mem_of_getElem? (i := 184) rfl)) rfl)
theorem wz_X4_addWidest : Cond.selects RX4 yX4_addWidest yX4_addWidest ∈ wl := wp (mp_2 (List.mem_of_getElem? (i := 11) rfl))
theorem wc_X4_fewestFor : cdw mX4_fewestFor ∈ wl := (wt (mt_4 (List.mem_of_getElem? (i := 195) rfl)) rfl)
theorem wd_X4_fewestFor : dOk mX4_fewestFor 2 := ⟨(by decide +kernel), (by decide +kernel), (by decide +kernel)⟩
theorem wv_X4_fewestFor : Cond.instanceMethod yX4_fewestFor ∈ wl := (wt (mt_4 (List.mem_of_getElem? (i := 194) rfl)) rfl)
theorem wz_X4_fewestFor : Cond.selects RX4 yX4_fewestFor yX4_fewestFor ∈ wl := wp (mp_2 (List.mem_of_getElem? (i := 12) rfl))
theorem wc_X4_choose : cdw mX4_choose ∈ wl := (wt (mt_4 (List.mem_of_getElem? (i := 200) rfl)) rfl)
theorem wd_X4_choose : dOk mX4_choose 1 := ⟨(by decide +kernel), (by decide +kernel), (by decide +kernel)⟩
theorem wv_X4_choose : Cond.instanceMethod yX4_choose ∈ wl := (wt (mt_4 (List.mem_of_getElem? (i := 199) rfl)) rfl)
theorem wz_X4_choose : Cond.selects RX4 yX4_choose yX4_choose ∈ wl := wp (mp_2 (List.mem_of_getElem? (i := 13) rfl))
theorem wc_X4_mostApart : cdw mX4_mostApart ∈ wl := (wt (mt_4 (List.mem_of_getElem? (i := 212) rfl)) rfl)
theorem wd_X4_mostApart : dOk mX4_mostApart 0 := ⟨(by decide +kernel), (by decide +kernel), (by decide +kernel)⟩
theorem wv_X4_mostApart : Cond.instanceMethod yX4_mostApart ∈ wl := (wt (mt_4 (List.mem_of_getElem? (i := 210) rfl)) rfl)
theorem wz_X4_mostApart : Cond.selects RX4 yX4_mostApart yX4_mostApart ∈ wl := (wt (mt_4 (List.mem_of_getElem? (i := 211) rfl)) rfl)
theorem wc_X4_findNear : cdw mX4_findNear ∈ wl := (wt (mt_4 (List.mem_of_getElem? (i := 216) rfl)) rfl)
theorem wd_X4_findNear : dOk mX4_findNear 0 := ⟨(by decide +kernel), (by decide +kernel), (by decide +kernel)⟩
theorem wv_X4_findNear : Cond.instanceMethod yX4_findNear ∈ wl := (wt (mt_4 (List.mem_of_getElem? (i := 215) rfl)) rfl)
theorem wz_X4_findNear : Cond.selects RX4 yX4_findNear yX4_findNear ∈ wl := wp (mp_2 (List.mem_of_getElem? (i := 15) rfl))
theorem wc_X4_isApart : cdw mX4_isApart ∈ wl := (wt (mt_4 (List.mem_of_getElem? (i := 227) rfl)) rfl)
theorem wd_X4_isApart : dOk mX4_isApart 1 := ⟨(by decide +kernel), (by decide +kernel), (by decide +kernel)⟩
theorem wv_X4_isApart : Cond.instanceMethod yX4_isApart ∈ wl := (wt (mt_4 (List.mem_of_getElem? (i := 226) rfl)) rfl)
theorem wz_X4_isApart : Cond.selects RX4 yX4_isApart yX4_isApart ∈ wl := wp (mp_3 (List.mem_of_getElem? (i := 0) rfl))
theorem wc_X4_putInOrder : cdw mX4_putInOrder ∈ wl := (wt (mt_5 (List.mem_of_getElem? (i := 0) rfl)) rfl)
theorem wd_X4_putInOrder : dOk mX4_putInOrder 0 := ⟨(by decide +kernel), (by decide +kernel), (by decide +kernel)⟩
theorem wv_X4_putInOrder : Cond.instanceMethod yX4_putInOrder ∈ wl := (wt (mt_4 (List.mem_of_getElem? (i := 238) rfl)) rfl)
theorem wz_X4_putInOrder : Cond.selects RX4 yX4_putInOrder yX4_putInOrder ∈ wl := (wt (mt_4 (List.mem_of_getElem? (i := 239) rfl)) rfl)
theorem wc_X4_tryOrder : cdw mX4_tryOrder ∈ wl := (wt (mt_5 (List.mem_of_getElem? (i := 4) rfl)) rfl)
theorem wd_X4_tryOrder : dOk mX4_tryOrder 4 := ⟨(by decide +kernel), (by decide +kernel), (by decide +kernel)⟩
theorem wv_X4_tryOrder : Cond.instanceMethod yX4_tryOrder ∈ wl := (wt (mt_5 (List.mem_of_getElem? (i := 3) rfl)) rfl)
theorem wz_X4_tryOrder : Cond.selects RX4 yX4_tryOrder yX4_tryOrder ∈ wl := wp (mp_3 (List.mem_of_getElem? (i := 1) rfl))
theorem wc_X4_differing : cdw mX4_differing ∈ wl := (wt (mt_5 (List.mem_of_getElem? (i := 10) rfl)) rfl)
theorem wd_X4_differing : dOk mX4_differing 2 := ⟨(by decide +kernel), (by decide +kernel), (by decide +kernel)⟩
theorem ws_X4_differing : Cond.static yX4_differing ∈ wl := (wt (mt_5 (List.mem_of_getElem? (i := 9) rfl)) rfl)
theorem wc_X4_giveSlots : cdw mX4_giveSlots ∈ wl := (wt (mt_5 (List.mem_of_getElem? (i := 18) rfl)) rfl)
theorem wd_X4_giveSlots : dOk mX4_giveSlots 1 := ⟨(by decide +kernel), (by decide +kernel), (by decide +kernel)⟩
theorem wv_X4_giveSlots : Cond.instanceMethod yX4_giveSlots ∈ wl := (wt (mt_5 (List.mem_of_getElem? (i := 16) rfl)) rfl)
theorem wz_X4_giveSlots : Cond.selects RX4 yX4_giveSlots yX4_giveSlots ∈ wl := (wt (mt_5 (List.mem_of_getElem? (i := 17) rfl)) rfl)
theorem wc_X4_takeLights : cdw mX4_takeLights ∈ wl := (wt (mt_5 (List.mem_of_getElem? (i := 23) rfl)) rfl)
theorem wd_X4_takeLights : dOk mX4_takeLights 0 := ⟨(by decide +kernel), (by decide +kernel), (by decide +kernel)⟩
theorem wv_X4_takeLights : Cond.instanceMethod yX4_takeLights ∈ wl := (wt (mt_5 (List.mem_of_getElem? (i := 22) rfl)) rfl)
theorem wz_X4_takeLights : Cond.selects RX4 yX4_takeLights yX4_takeLights ∈ wl := wp (mp_3 (List.mem_of_getElem? (i := 2) rfl))
theorem wc_X4_dimmest : cdw mX4_dimmest ∈ wl := (wt (mt_5 (List.mem_of_getElem? (i := 29) rfl)) rfl)
theorem wd_X4_dimmest : dOk mX4_dimmest 0 := ⟨(by decide +kernel), (by decide +kernel), (by decide +kernel)⟩
theorem wv_X4_dimmest : Cond.instanceMethod yX4_dimmest ∈ wl := (wt (mt_5 (List.mem_of_getElem? (i := 28) rfl)) rfl)
theorem wz_X4_dimmest : Cond.selects RX4 yX4_dimmest yX4_dimmest ∈ wl := wp (mp_3 (List.mem_of_getElem? (i := 3) rfl))
theorem wc_X4_brightestTurn : cdw mX4_brightestTurn ∈ wl := (wt (mt_5 (List.mem_of_getElem? (i := 33) rfl)) rfl)
theorem wd_X4_brightestTurn : dOk mX4_brightestTurn 1 := ⟨(by decide +kernel), (by decide +kernel), (by decide +kernel)⟩
theorem wv_X4_brightestTurn : Cond.instanceMethod yX4_brightestTurn ∈ wl := (wt (mt_5 (List.mem_of_getElem? (i := 32) rfl)) rfl)
theorem wz_X4_brightestTurn : Cond.selects RX4 yX4_brightestTurn yX4_brightestTurn ∈ wl := wp (mp_3 (List.mem_of_getElem? (i := 4) rfl))
theorem wc_X5_init : cdw mX5_init ∈ wl := (wt (mt_2 (List.mem_of_getElem? (i := 192) rfl)) rfl)
theorem wd_X5_init : dOk mX5_init 1 := ⟨(by decide +kernel), (by decide +kernel), (by decide +kernel)⟩
theorem wv_X5_init : Cond.instanceMethod yX5_init ∈ wl := (wt (mt_2 (List.mem_of_getElem? (i := 191) rfl)) rfl)
theorem wc_X5_addTest : cdw mX5_addTest ∈ wl := (wt (mt_5 (List.mem_of_getElem? (i := 179) rfl)) rfl)
theorem wd_X5_addTest : dOk mX5_addTest 2 := ⟨(by decide +kernel), (by decide +kernel), (by decide +kernel)⟩
theorem wv_X5_addTest : Cond.instanceMethod yX5_addTest ∈ wl := (wt (mt_5 (List.mem_of_getElem? (i := 177) rfl)) rfl)
theorem wz_X5_addTest : Cond.selects RX5 yX5_addTest yX5_addTest ∈ wl := (wt (mt_5 (List.mem_of_getElem? (i := 178) rfl)) rfl)
theorem wc_X5_grow : cdw mX5_grow ∈ wl := (wt (mt_5 (List.mem_of_getElem? (i := 187) rfl)) rfl)
theorem wd_X5_grow : dOk mX5_grow 0 := ⟨(by decide +kernel), (by decide +kernel), (by decide +kernel)⟩
theorem wv_X5_grow : Cond.instanceMethod yX5_grow ∈ wl := (wt (mt_5 (List.mem_of_getElem? (i := 185) rfl)) rfl)
theorem wz_X5_grow : Cond.selects RX5 yX5_grow yX5_grow ∈ wl := (wt (mt_5 (List.mem_of_getElem? (i := 186) rfl)) rfl)
theorem wc_X5_findGroup : cdw mX5_findGroup ∈ wl := (wt (mt_5 (List.mem_of_getElem? (i := 191) rfl)) rfl)
theorem wd_X5_findGroup : dOk mX5_findGroup 1 := ⟨(by decide +kernel), (by decide +kernel), (by decide +kernel)⟩
theorem wv_X5_findGroup : Cond.instanceMethod yX5_findGroup ∈ wl := (wt (mt_5 (List.mem_of_getElem? (i := 190) rfl)) rfl)
theorem wz_X5_findGroup : Cond.selects RX5 yX5_findGroup yX5_findGroup ∈ wl := wp (mp_3 (List.mem_of_getElem? (i := 10) rfl))
theorem wc_X5_isSameRow : cdw mX5_isSameRow ∈ wl := (wt (mt_5 (List.mem_of_getElem? (i := 196) rfl)) rfl)
theorem wd_X5_isSameRow : dOk mX5_isSameRow 2 := ⟨(by decide +kernel), (by decide +kernel), (by decide +kernel)⟩
theorem wv_X5_isSameRow : Cond.instanceMethod yX5_isSameRow ∈ wl := (wt (mt_5 (List.mem_of_getElem? (i := 195) rfl)) rfl)
theorem wz_X5_isSameRow : Cond.selects RX5 yX5_isSameRow yX5_isSameRow ∈ wl := wp (mp_3 (List.mem_of_getElem? (i := 11) rfl))
theorem wc_X5_place : cdw mX5_place ∈ wl := (wt (mt_5 (List.mem_of_getElem? (i := 199) rfl)) rfl)
theorem wd_X5_place : dOk mX5_place 2 := ⟨(by decide +kernel), (by decide +kernel), (by decide +kernel)⟩
theorem ws_X5_place : Cond.static yX5_place ∈ wl := (wt (mt_5 (List.mem_of_getElem? (i := 198) rfl)) rfl)
theorem wc_X5_partCells : cdw mX5_partCells ∈ wl := (wt (mt_5 (List.mem_of_getElem? (i := 203) rfl)) rfl)
theorem wd_X5_partCells : dOk mX5_partCells 1 := ⟨(by decide +kernel), (by decide +kernel), (by decide +kernel)⟩
theorem wv_X5_partCells : Cond.instanceMethod yX5_partCells ∈ wl := (wt (mt_5 (List.mem_of_getElem? (i := 202) rfl)) rfl)
theorem wz_X5_partCells : Cond.selects RX5 yX5_partCells yX5_partCells ∈ wl := wp (mp_3 (List.mem_of_getElem? (i := 12) rfl))
theorem wc_X5_isOneCell : cdw mX5_isOneCell ∈ wl := (wt (mt_5 (List.mem_of_getElem? (i := 208) rfl)) rfl)
theorem wd_X5_isOneCell : dOk mX5_isOneCell 4 := ⟨(by decide +kernel), (by decide +kernel), (by decide +kernel)⟩
theorem wv_X5_isOneCell : Cond.instanceMethod yX5_isOneCell ∈ wl := (wt (mt_5 (List.mem_of_getElem? (i := 207) rfl)) rfl)
theorem wz_X5_isOneCell : Cond.selects RX5 yX5_isOneCell yX5_isOneCell ∈ wl := wp (mp_3 (List.mem_of_getElem? (i := 13) rfl))
theorem wc_X5_reckonDepths : cdw mX5_reckonDepths ∈ wl := (wt (mt_5 (List.mem_of_getElem? (i := 212) rfl)) rfl)
theorem wd_X5_reckonDepths : dOk mX5_reckonDepths 1 := ⟨(by decide +kernel), (by decide +kernel), (by decide +kernel)⟩
theorem wv_X5_reckonDepths : Cond.instanceMethod yX5_reckonDepths ∈ wl := (wt (mt_5 (List.mem_of_getElem? (i := 211) rfl)) rfl)
theorem wz_X5_reckonDepths : Cond.selects RX5 yX5_reckonDepths yX5_reckonDepths ∈ wl := wp (mp_3 (List.mem_of_getElem? (i := 14) rfl))
theorem wc_X5_tryTest : cdw mX5_tryTest ∈ wl := (wt (mt_5 (List.mem_of_getElem? (i := 217) rfl)) rfl)
theorem wd_X5_tryTest : dOk mX5_tryTest 2 := ⟨(by decide +kernel), (by decide +kernel), (by decide +kernel)⟩
theorem wv_X5_tryTest : Cond.instanceMethod yX5_tryTest ∈ wl := (wt (mt_5 (List.mem_of_getElem? (i := 216) rfl)) rfl)
theorem wz_X5_tryTest : Cond.selects RX5 yX5_tryTest yX5_tryTest ∈ wl := wp (mp_3 (List.mem_of_getElem? (i := 15) rfl))
theorem wc_X5_depthAt : cdw mX5_depthAt ∈ wl := (wt (mt_5 (List.mem_of_getElem? (i := 221) rfl)) rfl)
theorem wd_X5_depthAt : dOk mX5_depthAt 2 := ⟨(by decide +kernel), (by decide +kernel), (by decide +kernel)⟩
theorem wv_X5_depthAt : Cond.instanceMethod yX5_depthAt ∈ wl := (wt (mt_5 (List.mem_of_getElem? (i := 219) rfl)) rfl)
theorem wz_X5_depthAt : Cond.selects RX5 yX5_depthAt yX5_depthAt ∈ wl := (wt (mt_5 (List.mem_of_getElem? (i := 220) rfl)) rfl)
theorem wc_X5_firstTest : cdw mX5_firstTest ∈ wl := (wt (mt_5 (List.mem_of_getElem? (i := 227) rfl)) rfl)
theorem wd_X5_firstTest : dOk mX5_firstTest 2 := ⟨(by decide +kernel), (by decide +kernel), (by decide +kernel)⟩
theorem wv_X5_firstTest : Cond.instanceMethod yX5_firstTest ∈ wl := (wt (mt_5 (List.mem_of_getElem? (i := 225) rfl)) rfl)
theorem wz_X5_firstTest : Cond.selects RX5 yX5_firstTest yX5_firstTest ∈ wl := (wt (mt_5 (List.mem_of_getElem? (i := 226) rfl)) rfl)
theorem wc_X5_worstBehind : cdw mX5_worstBehind ∈ wl := (wt (mt_5 (List.mem_of_getElem? (i := 231) rfl)) rfl)
theorem wd_X5_worstBehind : dOk mX5_worstBehind 3 := ⟨(by decide +kernel), (by decide +kernel), (by decide +kernel)⟩
theorem wv_X5_worstBehind : Cond.instanceMethod yX5_worstBehind ∈ wl := (wt (mt_5 (List.mem_of_getElem? (i := 230) rfl)) rfl)
theorem wz_X5_worstBehind : Cond.selects RX5 yX5_worstBehind yX5_worstBehind ∈ wl := wp (mp_4 (List.mem_of_getElem? (i := 0) rfl))
theorem wc_X5_groupOfFault : cdw mX5_groupOfFault ∈ wl := (wt (mt_6 (List.mem_of_getElem? (i := 0) rfl)) rfl)
theorem wd_X5_groupOfFault : dOk mX5_groupOfFault 1 := ⟨(by decide +kernel), (by decide +kernel), (by decide +kernel)⟩
theorem wv_X5_groupOfFault : Cond.instanceMethod yX5_groupOfFault ∈ wl := (wt (mt_5 (List.mem_of_getElem? (i := 238) rfl)) rfl)
theorem wz_X5_groupOfFault : Cond.selects RX5 yX5_groupOfFault yX5_groupOfFault ∈ wl := (wt (mt_5 (List.mem_of_getElem? (i := 239) rfl)) rfl)
theorem wc_X5_sizeOfGroup : cdw mX5_sizeOfGroup ∈ wl := (wt (mt_6 (List.mem_of_getElem? (i := 4) rfl)) rfl)
theorem wd_X5_sizeOfGroup : dOk mX5_sizeOfGroup 1 := ⟨(by decide +kernel), (by decide +kernel), (by decide +kernel)⟩
theorem wv_X5_sizeOfGroup : Cond.instanceMethod yX5_sizeOfGroup ∈ wl := (wt (mt_6 (List.mem_of_getElem? (i := 2) rfl)) rfl)
theorem wz_X5_sizeOfGroup : Cond.selects RX5 yX5_sizeOfGroup yX5_sizeOfGroup ∈ wl := (wt (mt_6 (List.mem_of_getElem? (i := 3) rfl)) rfl)
theorem wc_X6_init : cdw mX6_init ∈ wl := (wt (mt_1 (List.mem_of_getElem? (i := 123) rfl)) rfl)
theorem wd_X6_init : dOk mX6_init 1 := ⟨(by decide +kernel), (by decide +kernel), (by decide +kernel)⟩
theorem wv_X6_init : Cond.instanceMethod yX6_init ∈ wl := (wt (mt_1 (List.mem_of_getElem? (i := 122) rfl)) rfl)
theorem wc_X6_read : cdw mX6_read ∈ wl := (wt (mt_3 (List.mem_of_getElem? (i := 75) rfl)) rfl)
theorem wd_X6_read : dOk mX6_read 2 := ⟨(by decide +kernel), (by decide +kernel), (by decide +kernel)⟩
theorem wv_X6_read : Cond.instanceMethod yX6_read ∈ wl := (wt (mt_3 (List.mem_of_getElem? (i := 73) rfl)) rfl)
theorem wz_X6_read : Cond.selects RX6 yX6_read yX6_read ∈ wl := (wt (mt_3 (List.mem_of_getElem? (i := 74) rfl)) rfl)
theorem wc_X6_goesOn : cdw mX6_goesOn ∈ wl := (wt (mt_3 (List.mem_of_getElem? (i := 126) rfl)) rfl)
theorem wd_X6_goesOn : dOk mX6_goesOn 0 := ⟨(by decide +kernel), (by decide +kernel), (by decide +kernel)⟩
theorem wv_X6_goesOn : Cond.instanceMethod yX6_goesOn ∈ wl := (wt (mt_3 (List.mem_of_getElem? (i := 125) rfl)) rfl)
theorem wz_X6_goesOn : Cond.selects RX6 yX6_goesOn yX6_goesOn ∈ wl := wp (mp_1 (List.mem_of_getElem? (i := 11) rfl))
theorem wc_X6_readLine : cdw mX6_readLine ∈ wl := (wt (mt_3 (List.mem_of_getElem? (i := 82) rfl)) rfl)
theorem wd_X6_readLine : dOk mX6_readLine 0 := ⟨(by decide +kernel), (by decide +kernel), (by decide +kernel)⟩
theorem wv_X6_readLine : Cond.instanceMethod yX6_readLine ∈ wl := (wt (mt_3 (List.mem_of_getElem? (i := 81) rfl)) rfl)
theorem wz_X6_readLine : Cond.selects RX6 yX6_readLine yX6_readLine ∈ wl := wp (mp_1 (List.mem_of_getElem? (i := 0) rfl))
theorem wc_X6_readWidth : cdw mX6_readWidth ∈ wl := (wt (mt_3 (List.mem_of_getElem? (i := 90) rfl)) rfl)
theorem wd_X6_readWidth : dOk mX6_readWidth 0 := ⟨(by decide +kernel), (by decide +kernel), (by decide +kernel)⟩
theorem wv_X6_readWidth : Cond.instanceMethod yX6_readWidth ∈ wl := (wt (mt_3 (List.mem_of_getElem? (i := 89) rfl)) rfl)
theorem wz_X6_readWidth : Cond.selects RX6 yX6_readWidth yX6_readWidth ∈ wl := wp (mp_1 (List.mem_of_getElem? (i := 2) rfl))
theorem wc_X6_readOhms : cdw mX6_readOhms ∈ wl := (wt (mt_3 (List.mem_of_getElem? (i := 110) rfl)) rfl)
theorem wd_X6_readOhms : dOk mX6_readOhms 0 := ⟨(by decide +kernel), (by decide +kernel), (by decide +kernel)⟩
theorem wv_X6_readOhms : Cond.instanceMethod yX6_readOhms ∈ wl := (wt (mt_3 (List.mem_of_getElem? (i := 109) rfl)) rfl)
theorem wz_X6_readOhms : Cond.selects RX6 yX6_readOhms yX6_readOhms ∈ wl := wp (mp_1 (List.mem_of_getElem? (i := 7) rfl))
theorem wc_X6_readLamp : cdw mX6_readLamp ∈ wl := (wt (mt_3 (List.mem_of_getElem? (i := 122) rfl)) rfl)
theorem wd_X6_readLamp : dOk mX6_readLamp 0 := ⟨(by decide +kernel), (by decide +kernel), (by decide +kernel)⟩
theorem wv_X6_readLamp : Cond.instanceMethod yX6_readLamp ∈ wl := (wt (mt_3 (List.mem_of_getElem? (i := 121) rfl)) rfl)
theorem wz_X6_readLamp : Cond.selects RX6 yX6_readLamp yX6_readLamp ∈ wl := wp (mp_1 (List.mem_of_getElem? (i := 10) rfl))
theorem wc_X6_note : cdw mX6_note ∈ wl := (wt (mt_3 (List.mem_of_getElem? (i := 106) rfl)) rfl)
theorem wd_X6_note : dOk mX6_note 4 := ⟨(by decide +kernel), (by decide +kernel), (by decide +kernel)⟩
theorem wv_X6_note : Cond.instanceMethod yX6_note ∈ wl := (wt (mt_3 (List.mem_of_getElem? (i := 105) rfl)) rfl)
theorem wz_X6_note : Cond.selects RX6 yX6_note yX6_note ∈ wl := wp (mp_1 (List.mem_of_getElem? (i := 6) rfl))
theorem wc_X6_fail : cdw mX6_fail ∈ wl := (wt (mt_3 (List.mem_of_getElem? (i := 102) rfl)) rfl)
theorem wd_X6_fail : dOk mX6_fail 1 := ⟨(by decide +kernel), (by decide +kernel), (by decide +kernel)⟩
theorem wv_X6_fail : Cond.instanceMethod yX6_fail ∈ wl := (wt (mt_3 (List.mem_of_getElem? (i := 101) rfl)) rfl)
theorem wz_X6_fail : Cond.selects RX6 yX6_fail yX6_fail ∈ wl := wp (mp_1 (List.mem_of_getElem? (i := 5) rfl))
theorem wc_X6_isAt : cdw mX6_isAt ∈ wl := (wt (mt_3 (List.mem_of_getElem? (i := 86) rfl)) rfl)
theorem wd_X6_isAt : dOk mX6_isAt 1 := ⟨(by decide +kernel), (by decide +kernel), (by decide +kernel)⟩
theorem wv_X6_isAt : Cond.instanceMethod yX6_isAt ∈ wl := (wt (mt_3 (List.mem_of_getElem? (i := 85) rfl)) rfl)
theorem wz_X6_isAt : Cond.selects RX6 yX6_isAt yX6_isAt ∈ wl := wp (mp_1 (List.mem_of_getElem? (i := 1) rfl))
theorem wc_X6_isDigit : cdw mX6_isDigit ∈ wl := (wt (mt_3 (List.mem_of_getElem? (i := 98) rfl)) rfl)
theorem wd_X6_isDigit : dOk mX6_isDigit 0 := ⟨(by decide +kernel), (by decide +kernel), (by decide +kernel)⟩
theorem wv_X6_isDigit : Cond.instanceMethod yX6_isDigit ∈ wl := (wt (mt_3 (List.mem_of_getElem? (i := 97) rfl)) rfl)
theorem wz_X6_isDigit : Cond.selects RX6 yX6_isDigit yX6_isDigit ∈ wl := wp (mp_1 (List.mem_of_getElem? (i := 4) rfl))
theorem wc_X6_take : cdw mX6_take ∈ wl := (wt (mt_3 (List.mem_of_getElem? (i := 118) rfl)) rfl)
theorem wd_X6_take : dOk mX6_take 1 := ⟨(by decide +kernel), (by decide +kernel), (by decide +kernel)⟩
theorem wv_X6_take : Cond.instanceMethod yX6_take ∈ wl := (wt (mt_3 (List.mem_of_getElem? (i := 117) rfl)) rfl)
theorem wz_X6_take : Cond.selects RX6 yX6_take yX6_take ∈ wl := wp (mp_1 (List.mem_of_getElem? (i := 9) rfl))
theorem wc_X6_takeWire : cdw mX6_takeWire ∈ wl := (wt (mt_3 (List.mem_of_getElem? (i := 114) rfl)) rfl)
theorem wd_X6_takeWire : dOk mX6_takeWire 1 := ⟨(by decide +kernel), (by decide +kernel), (by decide +kernel)⟩
theorem wv_X6_takeWire : Cond.instanceMethod yX6_takeWire ∈ wl := (wt (mt_3 (List.mem_of_getElem? (i := 113) rfl)) rfl)
theorem wz_X6_takeWire : Cond.selects RX6 yX6_takeWire yX6_takeWire ∈ wl := wp (mp_1 (List.mem_of_getElem? (i := 8) rfl))
theorem wc_X6_takeNumber : cdw mX6_takeNumber ∈ wl := (wt (mt_3 (List.mem_of_getElem? (i := 94) rfl)) rfl)
theorem wd_X6_takeNumber : dOk mX6_takeNumber 2 := ⟨(by decide +kernel), (by decide +kernel), (by decide +kernel)⟩
theorem wv_X6_takeNumber : Cond.instanceMethod yX6_takeNumber ∈ wl := (wt (mt_3 (List.mem_of_getElem? (i := 93) rfl)) rfl)
theorem wz_X6_takeNumber : Cond.selects RX6 yX6_takeNumber yX6_takeNumber ∈ wl := wp (mp_1 (List.mem_of_getElem? (i := 3) rfl))
theorem wc_X7_init : cdw mX7_init ∈ wl := (wt (mt_2 (List.mem_of_getElem? (i := 154) rfl)) rfl)
theorem wd_X7_init : dOk mX7_init 3 := ⟨(by decide +kernel), (by decide +kernel), (by decide +kernel)⟩
theorem wv_X7_init : Cond.instanceMethod yX7_init ∈ wl := (wt (mt_2 (List.mem_of_getElem? (i := 153) rfl)) rfl)
theorem wc_X7_firstTouch : cdw mX7_firstTouch ∈ wl := (wt (mt_5 (List.mem_of_getElem? (i := 49) rfl)) rfl)
theorem wd_X7_firstTouch : dOk mX7_firstTouch 0 := ⟨(by decide +kernel), (by decide +kernel), (by decide +kernel)⟩
theorem wv_X7_firstTouch : Cond.instanceMethod yX7_firstTouch ∈ wl := (wt (mt_5 (List.mem_of_getElem? (i := 47) rfl)) rfl)
theorem wz_X7_firstTouch : Cond.selects RX7 yX7_firstTouch yX7_firstTouch ∈ wl := (wt (mt_5 (List.mem_of_getElem? (i := 48) rfl)) rfl)
theorem wc_X7_firstTurned : cdw mX7_firstTurned ∈ wl := (wt (mt_5 (List.mem_of_getElem? (i := 53) rfl)) rfl)
theorem wd_X7_firstTurned : dOk mX7_firstTurned 0 := ⟨(by decide +kernel), (by decide +kernel), (by decide +kernel)⟩
theorem wv_X7_firstTurned : Cond.instanceMethod yX7_firstTurned ∈ wl := (wt (mt_5 (List.mem_of_getElem? (i := 51) rfl)) rfl)
theorem wz_X7_firstTurned : Cond.selects RX7 yX7_firstTurned yX7_firstTurned ∈ wl := (wt (mt_5 (List.mem_of_getElem? (i := 52) rfl)) rfl)
theorem wc_X7_size : cdw mX7_size ∈ wl := (wt (mt_5 (List.mem_of_getElem? (i := 58) rfl)) rfl)
theorem wd_X7_size : dOk mX7_size 0 := ⟨(by decide +kernel), (by decide +kernel), (by decide +kernel)⟩
theorem wv_X7_size : Cond.instanceMethod yX7_size ∈ wl := (wt (mt_5 (List.mem_of_getElem? (i := 56) rfl)) rfl)
theorem wz_X7_size : Cond.selects RX7 yX7_size yX7_size ∈ wl := (wt (mt_5 (List.mem_of_getElem? (i := 57) rfl)) rfl)
theorem wc_X7_has : cdw mX7_has ∈ wl := (wt (mt_5 (List.mem_of_getElem? (i := 67) rfl)) rfl)
theorem wd_X7_has : dOk mX7_has 1 := ⟨(by decide +kernel), (by decide +kernel), (by decide +kernel)⟩
theorem wv_X7_has : Cond.instanceMethod yX7_has ∈ wl := (wt (mt_5 (List.mem_of_getElem? (i := 65) rfl)) rfl)
theorem wz_X7_has : Cond.selects RX7 yX7_has yX7_has ∈ wl := (wt (mt_5 (List.mem_of_getElem? (i := 66) rfl)) rfl)
theorem wc_X7_kindOf : cdw mX7_kindOf ∈ wl := (wt (mt_5 (List.mem_of_getElem? (i := 77) rfl)) rfl)
theorem wd_X7_kindOf : dOk mX7_kindOf 1 := ⟨(by decide +kernel), (by decide +kernel), (by decide +kernel)⟩
theorem wv_X7_kindOf : Cond.instanceMethod yX7_kindOf ∈ wl := (wt (mt_5 (List.mem_of_getElem? (i := 75) rfl)) rfl)
theorem wz_X7_kindOf : Cond.selects RX7 yX7_kindOf yX7_kindOf ∈ wl := (wt (mt_5 (List.mem_of_getElem? (i := 76) rfl)) rfl)
theorem wc_X7_firstOf : cdw mX7_firstOf ∈ wl := (wt (mt_5 (List.mem_of_getElem? (i := 81) rfl)) rfl)
theorem wd_X7_firstOf : dOk mX7_firstOf 1 := ⟨(by decide +kernel), (by decide +kernel), (by decide +kernel)⟩
theorem wv_X7_firstOf : Cond.instanceMethod yX7_firstOf ∈ wl := (wt (mt_5 (List.mem_of_getElem? (i := 79) rfl)) rfl)
theorem wz_X7_firstOf : Cond.selects RX7 yX7_firstOf yX7_firstOf ∈ wl := (wt (mt_5 (List.mem_of_getElem? (i := 80) rfl)) rfl)
theorem wc_X7_secondOf : cdw mX7_secondOf ∈ wl := (wt (mt_5 (List.mem_of_getElem? (i := 97) rfl)) rfl)
theorem wd_X7_secondOf : dOk mX7_secondOf 1 := ⟨(by decide +kernel), (by decide +kernel), (by decide +kernel)⟩
theorem wv_X7_secondOf : Cond.instanceMethod yX7_secondOf ∈ wl := (wt (mt_5 (List.mem_of_getElem? (i := 95) rfl)) rfl)
theorem wz_X7_secondOf : Cond.selects RX7 yX7_secondOf yX7_secondOf ∈ wl := (wt (mt_5 (List.mem_of_getElem? (i := 96) rfl)) rfl)
theorem wc_X7_pairsFrom : cdw mX7_pairsFrom ∈ wl := (wt (mt_5 (List.mem_of_getElem? (i := 89) rfl)) rfl)
theorem wd_X7_pairsFrom : dOk mX7_pairsFrom 1 := ⟨(by decide +kernel), (by decide +kernel), (by decide +kernel)⟩
theorem wv_X7_pairsFrom : Cond.instanceMethod yX7_pairsFrom ∈ wl := (wt (mt_5 (List.mem_of_getElem? (i := 88) rfl)) rfl)
theorem wz_X7_pairsFrom : Cond.selects RX7 yX7_pairsFrom yX7_pairsFrom ∈ wl := wp (mp_3 (List.mem_of_getElem? (i := 7) rfl))
theorem wc_X7_firstOfPair : cdw mX7_firstOfPair ∈ wl := (wt (mt_5 (List.mem_of_getElem? (i := 85) rfl)) rfl)
theorem wd_X7_firstOfPair : dOk mX7_firstOfPair 1 := ⟨(by decide +kernel), (by decide +kernel), (by decide +kernel)⟩
theorem wv_X7_firstOfPair : Cond.instanceMethod yX7_firstOfPair ∈ wl := (wt (mt_5 (List.mem_of_getElem? (i := 84) rfl)) rfl)
theorem wz_X7_firstOfPair : Cond.selects RX7 yX7_firstOfPair yX7_firstOfPair ∈ wl := wp (mp_3 (List.mem_of_getElem? (i := 6) rfl))
theorem wc_X7_glowWith : cdw mX7_glowWith ∈ wl := (wt (mt_5 (List.mem_of_getElem? (i := 72) rfl)) rfl)
theorem wd_X7_glowWith : dOk mX7_glowWith 3 := ⟨(by decide +kernel), (by decide +kernel), (by decide +kernel)⟩
theorem wv_X7_glowWith : Cond.instanceMethod yX7_glowWith ∈ wl := (wt (mt_5 (List.mem_of_getElem? (i := 70) rfl)) rfl)
theorem wz_X7_glowWith : Cond.selects RX7 yX7_glowWith yX7_glowWith ∈ wl := (wt (mt_5 (List.mem_of_getElem? (i := 71) rfl)) rfl)
theorem wc_X7_glowBy : cdw mX7_glowBy ∈ wl := (wt (mt_5 (List.mem_of_getElem? (i := 119) rfl)) rfl)
theorem wd_X7_glowBy : dOk mX7_glowBy 2 := ⟨(by decide +kernel), (by decide +kernel), (by decide +kernel)⟩
theorem wv_X7_glowBy : Cond.instanceMethod yX7_glowBy ∈ wl := (wt (mt_5 (List.mem_of_getElem? (i := 118) rfl)) rfl)
theorem wz_X7_glowBy : Cond.selects RX7 yX7_glowBy yX7_glowBy ∈ wl := wp (mp_3 (List.mem_of_getElem? (i := 8) rfl))
theorem wc_X7_firstParting : cdw mX7_firstParting ∈ wl := (wt (mt_5 (List.mem_of_getElem? (i := 115) rfl)) rfl)
theorem wd_X7_firstParting : dOk mX7_firstParting 3 := ⟨(by decide +kernel), (by decide +kernel), (by decide +kernel)⟩
theorem wv_X7_firstParting : Cond.instanceMethod yX7_firstParting ∈ wl := (wt (mt_5 (List.mem_of_getElem? (i := 113) rfl)) rfl)
theorem wz_X7_firstParting : Cond.selects RX7 yX7_firstParting yX7_firstParting ∈ wl := (wt (mt_5 (List.mem_of_getElem? (i := 114) rfl)) rfl)
theorem wc_X7_firstAgainst : cdw mX7_firstAgainst ∈ wl := (wt (mt_5 (List.mem_of_getElem? (i := 153) rfl)) rfl)
theorem wd_X7_firstAgainst : dOk mX7_firstAgainst 1 := ⟨(by decide +kernel), (by decide +kernel), (by decide +kernel)⟩
theorem wv_X7_firstAgainst : Cond.instanceMethod yX7_firstAgainst ∈ wl := (wt (mt_5 (List.mem_of_getElem? (i := 151) rfl)) rfl)
theorem wz_X7_firstAgainst : Cond.selects RX7 yX7_firstAgainst yX7_firstAgainst ∈ wl := (wt (mt_5 (List.mem_of_getElem? (i := 152) rfl)) rfl)
theorem wc_X7_gather : cdw mX7_gather ∈ wl := (wt (mt_5 (List.mem_of_getElem? (i := 149) rfl)) rfl)
theorem wd_X7_gather : dOk mX7_gather 0 := ⟨(by decide +kernel), (by decide +kernel), (by decide +kernel)⟩
theorem wv_X7_gather : Cond.instanceMethod yX7_gather ∈ wl := (wt (mt_5 (List.mem_of_getElem? (i := 147) rfl)) rfl)
theorem wz_X7_gather : Cond.selects RX7 yX7_gather yX7_gather ∈ wl := (wt (mt_5 (List.mem_of_getElem? (i := 148) rfl)) rfl)
theorem wc_X7_leftAtWorst : cdw mX7_leftAtWorst ∈ wl := (wt (mt_5 (List.mem_of_getElem? (i := 166) rfl)) rfl)
theorem wd_X7_leftAtWorst : dOk mX7_leftAtWorst 2 := ⟨(by decide +kernel), (by decide +kernel), (by decide +kernel)⟩
theorem wv_X7_leftAtWorst : Cond.instanceMethod yX7_leftAtWorst ∈ wl := (wt (mt_5 (List.mem_of_getElem? (i := 164) rfl)) rfl)
theorem wz_X7_leftAtWorst : Cond.selects RX7 yX7_leftAtWorst yX7_leftAtWorst ∈ wl := (wt (mt_5 (List.mem_of_getElem? (i := 165) rfl)) rfl)
theorem wc_X7_joinGroup : cdw mX7_joinGroup ∈ wl := (wt (mt_5 (List.mem_of_getElem? (i := 170) rfl)) rfl)
theorem wd_X7_joinGroup : dOk mX7_joinGroup 1 := ⟨(by decide +kernel), (by decide +kernel), (by decide +kernel)⟩
theorem wv_X7_joinGroup : Cond.instanceMethod yX7_joinGroup ∈ wl := (wt (mt_5 (List.mem_of_getElem? (i := 169) rfl)) rfl)
theorem wz_X7_joinGroup : Cond.selects RX7 yX7_joinGroup yX7_joinGroup ∈ wl := wp (mp_3 (List.mem_of_getElem? (i := 9) rfl))
theorem wc_X8_init : cdw mX8_init ∈ wl := (wt (mt_2 (List.mem_of_getElem? (i := 53) rfl)) rfl)
theorem wd_X8_init : dOk mX8_init 2 := ⟨(by decide +kernel), (by decide +kernel), (by decide +kernel)⟩
theorem wv_X8_init : Cond.instanceMethod yX8_init ∈ wl := (wt (mt_2 (List.mem_of_getElem? (i := 52) rfl)) rfl)
theorem wc_X8_refresh : cdw mX8_refresh ∈ wl := (wt (mt_4 (List.mem_of_getElem? (i := 85) rfl)) rfl)
theorem wd_X8_refresh : dOk mX8_refresh 0 := ⟨(by decide +kernel), (by decide +kernel), (by decide +kernel)⟩
theorem wv_X8_refresh : Cond.instanceMethod yX8_refresh ∈ wl := (wt (mt_4 (List.mem_of_getElem? (i := 83) rfl)) rfl)
theorem wz_X8_refresh : Cond.selects RX8 yX8_refresh yX8_refresh ∈ wl := (wt (mt_4 (List.mem_of_getElem? (i := 84) rfl)) rfl)
theorem wc_X8_isTurn : cdw mX8_isTurn ∈ wl := (wt (mt_4 (List.mem_of_getElem? (i := 169) rfl)) rfl)
theorem wd_X8_isTurn : dOk mX8_isTurn 2 := ⟨(by decide +kernel), (by decide +kernel), (by decide +kernel)⟩
theorem wv_X8_isTurn : Cond.instanceMethod yX8_isTurn ∈ wl := (wt (mt_4 (List.mem_of_getElem? (i := 167) rfl)) rfl)
theorem wz_X8_isTurn : Cond.selects RX8 yX8_isTurn yX8_isTurn ∈ wl := (wt (mt_4 (List.mem_of_getElem? (i := 168) rfl)) rfl)
theorem wc_X8_newSets : cdw mX8_newSets ∈ wl := (wt (mt_4 (List.mem_of_getElem? (i := 116) rfl)) rfl)
theorem wd_X8_newSets : dOk mX8_newSets 1 := ⟨(by decide +kernel), (by decide +kernel), (by decide +kernel)⟩
theorem wv_X8_newSets : Cond.instanceMethod yX8_newSets ∈ wl := (wt (mt_4 (List.mem_of_getElem? (i := 114) rfl)) rfl)
theorem wz_X8_newSets : Cond.selects RX8 yX8_newSets yX8_newSets ∈ wl := (wt (mt_4 (List.mem_of_getElem? (i := 115) rfl)) rfl)
theorem wc_X8_enter : cdw mX8_enter ∈ wl := (wt (mt_4 (List.mem_of_getElem? (i := 120) rfl)) rfl)
theorem wd_X8_enter : dOk mX8_enter 1 := ⟨(by decide +kernel), (by decide +kernel), (by decide +kernel)⟩
theorem wv_X8_enter : Cond.instanceMethod yX8_enter ∈ wl := (wt (mt_4 (List.mem_of_getElem? (i := 119) rfl)) rfl)
theorem wz_X8_enter : Cond.selects RX8 yX8_enter yX8_enter ∈ wl := wp (mp_2 (List.mem_of_getElem? (i := 6) rfl))
theorem wc_X8_likeBehind : cdw mX8_likeBehind ∈ wl := (wt (mt_4 (List.mem_of_getElem? (i := 138) rfl)) rfl)
theorem wd_X8_likeBehind : dOk mX8_likeBehind 1 := ⟨(by decide +kernel), (by decide +kernel), (by decide +kernel)⟩
theorem wv_X8_likeBehind : Cond.instanceMethod yX8_likeBehind ∈ wl := (wt (mt_4 (List.mem_of_getElem? (i := 136) rfl)) rfl)
theorem wz_X8_likeBehind : Cond.selects RX8 yX8_likeBehind yX8_likeBehind ∈ wl := (wt (mt_4 (List.mem_of_getElem? (i := 137) rfl)) rfl)
theorem wc_X9_init : cdw mX9_init ∈ wl := (wt (mt_1 (List.mem_of_getElem? (i := 106) rfl)) rfl)
theorem wd_X9_init : dOk mX9_init 0 := ⟨(by decide +kernel), (by decide +kernel), (by decide +kernel)⟩
theorem wv_X9_init : Cond.instanceMethod yX9_init ∈ wl := (wt (mt_1 (List.mem_of_getElem? (i := 105) rfl)) rfl)
theorem wc_X9_append : cdw mX9_append ∈ wl := (wt (mt_3 (List.mem_of_getElem? (i := 63) rfl)) rfl)
theorem wd_X9_append : dOk mX9_append 1 := ⟨(by decide +kernel), (by decide +kernel), (by decide +kernel)⟩
theorem wv_X9_append : Cond.instanceMethod yX9_append ∈ wl := (wt (mt_3 (List.mem_of_getElem? (i := 61) rfl)) rfl)
theorem wz_X9_append : Cond.selects RX9 yX9_append yX9_append ∈ wl := (wt (mt_3 (List.mem_of_getElem? (i := 62) rfl)) rfl)
theorem wc_X10_init : cdw mX10_init ∈ wl := (wt (mt_1 (List.mem_of_getElem? (i := 168) rfl)) rfl)
theorem wd_X10_init : dOk mX10_init 0 := ⟨(by decide +kernel), (by decide +kernel), (by decide +kernel)⟩
theorem wv_X10_init : Cond.instanceMethod yX10_init ∈ wl := (wt (mt_1 (List.mem_of_getElem? (i := 167) rfl)) rfl)
theorem wc_X10_clear : cdw mX10_clear ∈ wl := (wt (mt_4 (List.mem_of_getElem? (i := 47) rfl)) rfl)
theorem wd_X10_clear : dOk mX10_clear 0 := ⟨(by decide +kernel), (by decide +kernel), (by decide +kernel)⟩
theorem wv_X10_clear : Cond.instanceMethod yX10_clear ∈ wl := (wt (mt_4 (List.mem_of_getElem? (i := 45) rfl)) rfl)
theorem wz_X10_clear : Cond.selects RX10 yX10_clear yX10_clear ∈ wl := (wt (mt_4 (List.mem_of_getElem? (i := 46) rfl)) rfl)
theorem wc_X10_add : cdw mX10_add ∈ wl := (wt (mt_4 (List.mem_of_getElem? (i := 51) rfl)) rfl)
theorem wd_X10_add : dOk mX10_add 1 := ⟨(by decide +kernel), (by decide +kernel), (by decide +kernel)⟩
theorem wv_X10_add : Cond.instanceMethod yX10_add ∈ wl := (wt (mt_4 (List.mem_of_getElem? (i := 49) rfl)) rfl)
theorem wz_X10_add : Cond.selects RX10 yX10_add yX10_add ∈ wl := (wt (mt_4 (List.mem_of_getElem? (i := 50) rfl)) rfl)
theorem wc_X11_init : cdw mX11_init ∈ wl := (wt (mt_1 (List.mem_of_getElem? (i := 28) rfl)) rfl)
theorem wd_X11_init : dOk mX11_init 0 := ⟨(by decide +kernel), (by decide +kernel), (by decide +kernel)⟩
theorem wv_X11_init : Cond.instanceMethod yX11_init ∈ wl := (wt (mt_1 (List.mem_of_getElem? (i := 27) rfl)) rfl)
theorem wc_X11_sign : cdw mX11_sign ∈ wl := (wt (mt_3 (List.mem_of_getElem? (i := 59) rfl)) rfl)
theorem wd_X11_sign : dOk mX11_sign 1 := ⟨(by decide +kernel), (by decide +kernel), (by decide +kernel)⟩
theorem wv_X11_sign : Cond.instanceMethod yX11_sign ∈ wl := (wt (mt_3 (List.mem_of_getElem? (i := 57) rfl)) rfl)
theorem wz_X11_sign : Cond.selects RX11 yX11_sign yX11_sign ∈ wl := (wt (mt_3 (List.mem_of_getElem? (i := 58) rfl)) rfl)
theorem wc_X11_end : cdw mX11_end ∈ wl := (wt (mt_3 (List.mem_of_getElem? (i := 67) rfl)) rfl)
theorem wd_X11_end : dOk mX11_end 1 := ⟨(by decide +kernel), (by decide +kernel), (by decide +kernel)⟩
theorem wv_X11_end : Cond.instanceMethod yX11_end ∈ wl := (wt (mt_3 (List.mem_of_getElem? (i := 65) rfl)) rfl)
theorem wz_X11_end : Cond.selects RX11 yX11_end yX11_end ∈ wl := (wt (mt_3 (List.mem_of_getElem? (i := 66) rfl)) rfl)
theorem wc_X11_board : cdw mX11_board ∈ wl := (wt (mt_3 (List.mem_of_getElem? (i := 71) rfl)) rfl)
theorem wd_X11_board : dOk mX11_board 0 := ⟨(by decide +kernel), (by decide +kernel), (by decide +kernel)⟩
theorem wv_X11_board : Cond.instanceMethod yX11_board ∈ wl := (wt (mt_3 (List.mem_of_getElem? (i := 69) rfl)) rfl)
theorem wz_X11_board : Cond.selects RX11 yX11_board yX11_board ∈ wl := (wt (mt_3 (List.mem_of_getElem? (i := 70) rfl)) rfl)
theorem wc_X11_set : cdw mX11_set ∈ wl := (wt (mt_3 (List.mem_of_getElem? (i := 162) rfl)) rfl)
theorem wd_X11_set : dOk mX11_set 2 := ⟨(by decide +kernel), (by decide +kernel), (by decide +kernel)⟩
theorem wv_X11_set : Cond.instanceMethod yX11_set ∈ wl := (wt (mt_3 (List.mem_of_getElem? (i := 160) rfl)) rfl)
theorem wz_X11_set : Cond.selects RX11 yX11_set yX11_set ∈ wl := (wt (mt_3 (List.mem_of_getElem? (i := 161) rfl)) rfl)
theorem wc_X11_lamp : cdw mX11_lamp ∈ wl := (wt (mt_6 (List.mem_of_getElem? (i := 39) rfl)) rfl)
theorem wd_X11_lamp : dOk mX11_lamp 2 := ⟨(by decide +kernel), (by decide +kernel), (by decide +kernel)⟩
theorem wv_X11_lamp : Cond.instanceMethod yX11_lamp ∈ wl := (wt (mt_6 (List.mem_of_getElem? (i := 37) rfl)) rfl)
theorem wz_X11_lamp : Cond.selects RX11 yX11_lamp yX11_lamp ∈ wl := (wt (mt_6 (List.mem_of_getElem? (i := 38) rfl)) rfl)
theorem wc_X11_ohms : cdw mX11_ohms ∈ wl := (wt (mt_3 (List.mem_of_getElem? (i := 166) rfl)) rfl)
theorem wd_X11_ohms : dOk mX11_ohms 1 := ⟨(by decide +kernel), (by decide +kernel), (by decide +kernel)⟩
theorem wv_X11_ohms : Cond.instanceMethod yX11_ohms ∈ wl := (wt (mt_3 (List.mem_of_getElem? (i := 164) rfl)) rfl)
theorem wz_X11_ohms : Cond.selects RX11 yX11_ohms yX11_ohms ∈ wl := (wt (mt_3 (List.mem_of_getElem? (i := 165) rfl)) rfl)
theorem wc_X11_sheet : cdw mX11_sheet ∈ wl := (wt (mt_3 (List.mem_of_getElem? (i := 171) rfl)) rfl)
theorem wd_X11_sheet : dOk mX11_sheet 4 := ⟨(by decide +kernel), (by decide +kernel), (by decide +kernel)⟩
theorem wv_X11_sheet : Cond.instanceMethod yX11_sheet ∈ wl := (wt (mt_3 (List.mem_of_getElem? (i := 169) rfl)) rfl)
theorem wz_X11_sheet : Cond.selects RX11 yX11_sheet yX11_sheet ∈ wl := (wt (mt_3 (List.mem_of_getElem? (i := 170) rfl)) rfl)
theorem wc_X11_swap : cdw mX11_swap ∈ wl := (wt (mt_3 (List.mem_of_getElem? (i := 182) rfl)) rfl)
theorem wd_X11_swap : dOk mX11_swap 2 := ⟨(by decide +kernel), (by decide +kernel), (by decide +kernel)⟩
theorem wv_X11_swap : Cond.instanceMethod yX11_swap ∈ wl := (wt (mt_3 (List.mem_of_getElem? (i := 180) rfl)) rfl)
theorem wz_X11_swap : Cond.selects RX11 yX11_swap yX11_swap ∈ wl := (wt (mt_3 (List.mem_of_getElem? (i := 181) rfl)) rfl)
theorem wc_X11_put : cdw mX11_put ∈ wl := (wt (mt_3 (List.mem_of_getElem? (i := 198) rfl)) rfl)
theorem wd_X11_put : dOk mX11_put 2 := ⟨(by decide +kernel), (by decide +kernel), (by decide +kernel)⟩
theorem wv_X11_put : Cond.instanceMethod yX11_put ∈ wl := (wt (mt_3 (List.mem_of_getElem? (i := 196) rfl)) rfl)
theorem wz_X11_put : Cond.selects RX11 yX11_put yX11_put ∈ wl := (wt (mt_3 (List.mem_of_getElem? (i := 197) rfl)) rfl)
theorem wc_X11_glows : cdw mX11_glows ∈ wl := (wt (mt_4 (List.mem_of_getElem? (i := 25) rfl)) rfl)
theorem wd_X11_glows : dOk mX11_glows 0 := ⟨(by decide +kernel), (by decide +kernel), (by decide +kernel)⟩
theorem wv_X11_glows : Cond.instanceMethod yX11_glows ∈ wl := (wt (mt_4 (List.mem_of_getElem? (i := 23) rfl)) rfl)
theorem wz_X11_glows : Cond.selects RX11 yX11_glows yX11_glows ∈ wl := (wt (mt_4 (List.mem_of_getElem? (i := 24) rfl)) rfl)
theorem wc_X11_ghosts : cdw mX11_ghosts ∈ wl := (wt (mt_4 (List.mem_of_getElem? (i := 29) rfl)) rfl)
theorem wd_X11_ghosts : dOk mX11_ghosts 0 := ⟨(by decide +kernel), (by decide +kernel), (by decide +kernel)⟩
theorem wv_X11_ghosts : Cond.instanceMethod yX11_ghosts ∈ wl := (wt (mt_4 (List.mem_of_getElem? (i := 27) rfl)) rfl)
theorem wz_X11_ghosts : Cond.selects RX11 yX11_ghosts yX11_ghosts ∈ wl := (wt (mt_4 (List.mem_of_getElem? (i := 28) rfl)) rfl)
theorem wc_X11_light : cdw mX11_light ∈ wl := (wt (mt_4 (List.mem_of_getElem? (i := 38) rfl)) rfl)
theorem wd_X11_light : dOk mX11_light 1 := ⟨(by decide +kernel), (by decide +kernel), (by decide +kernel)⟩
theorem wv_X11_light : Cond.instanceMethod yX11_light ∈ wl := (wt (mt_4 (List.mem_of_getElem? (i := 36) rfl)) rfl)
theorem wz_X11_light : Cond.selects RX11 yX11_light yX11_light ∈ wl := (wt (mt_4 (List.mem_of_getElem? (i := 37) rfl)) rfl)
theorem wc_X11_why : cdw mX11_why ∈ wl := (wt (mt_4 (List.mem_of_getElem? (i := 55) rfl)) rfl)
theorem wd_X11_why : dOk mX11_why 1 := ⟨(by decide +kernel), (by decide +kernel), (by decide +kernel)⟩
theorem wv_X11_why : Cond.instanceMethod yX11_why ∈ wl := (wt (mt_4 (List.mem_of_getElem? (i := 53) rfl)) rfl)
theorem wz_X11_why : Cond.selects RX11 yX11_why yX11_why ∈ wl := (wt (mt_4 (List.mem_of_getElem? (i := 54) rfl)) rfl)
theorem wc_X11_draws : cdw mX11_draws ∈ wl := (wt (mt_4 (List.mem_of_getElem? (i := 60) rfl)) rfl)
theorem wd_X11_draws : dOk mX11_draws 1 := ⟨(by decide +kernel), (by decide +kernel), (by decide +kernel)⟩
theorem wv_X11_draws : Cond.instanceMethod yX11_draws ∈ wl := (wt (mt_4 (List.mem_of_getElem? (i := 58) rfl)) rfl)
theorem wz_X11_draws : Cond.selects RX11 yX11_draws yX11_draws ∈ wl := (wt (mt_4 (List.mem_of_getElem? (i := 59) rfl)) rfl)
theorem wc_X11_brightest : cdw mX11_brightest ∈ wl := (wt (mt_4 (List.mem_of_getElem? (i := 64) rfl)) rfl)
theorem wd_X11_brightest : dOk mX11_brightest 0 := ⟨(by decide +kernel), (by decide +kernel), (by decide +kernel)⟩
theorem wv_X11_brightest : Cond.instanceMethod yX11_brightest ∈ wl := (wt (mt_4 (List.mem_of_getElem? (i := 62) rfl)) rfl)
theorem wz_X11_brightest : Cond.selects RX11 yX11_brightest yX11_brightest ∈ wl := (wt (mt_4 (List.mem_of_getElem? (i := 63) rfl)) rfl)
theorem wc_X11_shows : cdw mX11_shows ∈ wl := (wt (mt_4 (List.mem_of_getElem? (i := 69) rfl)) rfl)
theorem wd_X11_shows : dOk mX11_shows 1 := ⟨(by decide +kernel), (by decide +kernel), (by decide +kernel)⟩
theorem wv_X11_shows : Cond.instanceMethod yX11_shows ∈ wl := (wt (mt_4 (List.mem_of_getElem? (i := 67) rfl)) rfl)
theorem wz_X11_shows : Cond.selects RX11 yX11_shows yX11_shows ∈ wl := (wt (mt_4 (List.mem_of_getElem? (i := 68) rfl)) rfl)
theorem wc_X11_bars : cdw mX11_bars ∈ wl := (wt (mt_4 (List.mem_of_getElem? (i := 101) rfl)) rfl)
theorem wd_X11_bars : dOk mX11_bars 1 := ⟨(by decide +kernel), (by decide +kernel), (by decide +kernel)⟩
theorem wv_X11_bars : Cond.instanceMethod yX11_bars ∈ wl := (wt (mt_4 (List.mem_of_getElem? (i := 99) rfl)) rfl)
theorem wz_X11_bars : Cond.selects RX11 yX11_bars yX11_bars ∈ wl := (wt (mt_4 (List.mem_of_getElem? (i := 100) rfl)) rfl)
theorem wc_X11_most : cdw mX11_most ∈ wl := (wt (mt_4 (List.mem_of_getElem? (i := 105) rfl)) rfl)
theorem wd_X11_most : dOk mX11_most 0 := ⟨(by decide +kernel), (by decide +kernel), (by decide +kernel)⟩
theorem wv_X11_most : Cond.instanceMethod yX11_most ∈ wl := (wt (mt_4 (List.mem_of_getElem? (i := 103) rfl)) rfl)
theorem wz_X11_most : Cond.selects RX11 yX11_most yX11_most ∈ wl := (wt (mt_4 (List.mem_of_getElem? (i := 104) rfl)) rfl)
theorem wc_X11_sets : cdw mX11_sets ∈ wl := (wt (mt_4 (List.mem_of_getElem? (i := 109) rfl)) rfl)
theorem wd_X11_sets : dOk mX11_sets 0 := ⟨(by decide +kernel), (by decide +kernel), (by decide +kernel)⟩
theorem wv_X11_sets : Cond.instanceMethod yX11_sets ∈ wl := (wt (mt_4 (List.mem_of_getElem? (i := 107) rfl)) rfl)
theorem wz_X11_sets : Cond.selects RX11 yX11_sets yX11_sets ∈ wl := (wt (mt_4 (List.mem_of_getElem? (i := 108) rfl)) rfl)
theorem wc_X11_fits : cdw mX11_fits ∈ wl := (wt (mt_4 (List.mem_of_getElem? (i := 125) rfl)) rfl)
theorem wd_X11_fits : dOk mX11_fits 2 := ⟨(by decide +kernel), (by decide +kernel), (by decide +kernel)⟩
theorem wv_X11_fits : Cond.instanceMethod yX11_fits ∈ wl := (wt (mt_4 (List.mem_of_getElem? (i := 123) rfl)) rfl)
theorem wz_X11_fits : Cond.selects RX11 yX11_fits yX11_fits ∈ wl := (wt (mt_4 (List.mem_of_getElem? (i := 124) rfl)) rfl)
theorem wc_X11_alone : cdw mX11_alone ∈ wl := (wt (mt_4 (List.mem_of_getElem? (i := 129) rfl)) rfl)
theorem wd_X11_alone : dOk mX11_alone 0 := ⟨(by decide +kernel), (by decide +kernel), (by decide +kernel)⟩
theorem wv_X11_alone : Cond.instanceMethod yX11_alone ∈ wl := (wt (mt_4 (List.mem_of_getElem? (i := 127) rfl)) rfl)
theorem wz_X11_alone : Cond.selects RX11 yX11_alone yX11_alone ∈ wl := (wt (mt_4 (List.mem_of_getElem? (i := 128) rfl)) rfl)
theorem wc_X11_twins : cdw mX11_twins ∈ wl := (wt (mt_4 (List.mem_of_getElem? (i := 134) rfl)) rfl)
theorem wd_X11_twins : dOk mX11_twins 0 := ⟨(by decide +kernel), (by decide +kernel), (by decide +kernel)⟩
theorem wv_X11_twins : Cond.instanceMethod yX11_twins ∈ wl := (wt (mt_4 (List.mem_of_getElem? (i := 132) rfl)) rfl)
theorem wz_X11_twins : Cond.selects RX11 yX11_twins yX11_twins ∈ wl := (wt (mt_4 (List.mem_of_getElem? (i := 133) rfl)) rfl)
theorem wc_X11_range : cdw mX11_range ∈ wl := (wt (mt_4 (List.mem_of_getElem? (i := 142) rfl)) rfl)
theorem wd_X11_range : dOk mX11_range 2 := ⟨(by decide +kernel), (by decide +kernel), (by decide +kernel)⟩
theorem wv_X11_range : Cond.instanceMethod yX11_range ∈ wl := (wt (mt_4 (List.mem_of_getElem? (i := 140) rfl)) rfl)
theorem wz_X11_range : Cond.selects RX11 yX11_range yX11_range ∈ wl := (wt (mt_4 (List.mem_of_getElem? (i := 141) rfl)) rfl)
theorem wc_X11_picture : cdw mX11_picture ∈ wl := (wt (mt_4 (List.mem_of_getElem? (i := 146) rfl)) rfl)
theorem wd_X11_picture : dOk mX11_picture 2 := ⟨(by decide +kernel), (by decide +kernel), (by decide +kernel)⟩
theorem wv_X11_picture : Cond.instanceMethod yX11_picture ∈ wl := (wt (mt_4 (List.mem_of_getElem? (i := 144) rfl)) rfl)
theorem wz_X11_picture : Cond.selects RX11 yX11_picture yX11_picture ∈ wl := (wt (mt_4 (List.mem_of_getElem? (i := 145) rfl)) rfl)
theorem wc_X11_parted : cdw mX11_parted ∈ wl := (wt (mt_4 (List.mem_of_getElem? (i := 153) rfl)) rfl)
theorem wd_X11_parted : dOk mX11_parted 1 := ⟨(by decide +kernel), (by decide +kernel), (by decide +kernel)⟩
theorem wv_X11_parted : Cond.instanceMethod yX11_parted ∈ wl := (wt (mt_4 (List.mem_of_getElem? (i := 151) rfl)) rfl)
theorem wz_X11_parted : Cond.selects RX11 yX11_parted yX11_parted ∈ wl := (wt (mt_4 (List.mem_of_getElem? (i := 152) rfl)) rfl)
theorem wc_X11_proof : cdw mX11_proof ∈ wl := (wt (mt_4 (List.mem_of_getElem? (i := 208) rfl)) rfl)
theorem wd_X11_proof : dOk mX11_proof 1 := ⟨(by decide +kernel), (by decide +kernel), (by decide +kernel)⟩
theorem wv_X11_proof : Cond.instanceMethod yX11_proof ∈ wl := (wt (mt_4 (List.mem_of_getElem? (i := 206) rfl)) rfl)
theorem wz_X11_proof : Cond.selects RX11 yX11_proof yX11_proof ∈ wl := (wt (mt_4 (List.mem_of_getElem? (i := 207) rfl)) rfl)
theorem wc_X11_never : cdw mX11_never ∈ wl := (wt (mt_4 (List.mem_of_getElem? (i := 231) rfl)) rfl)
theorem wd_X11_never : dOk mX11_never 1 := ⟨(by decide +kernel), (by decide +kernel), (by decide +kernel)⟩
theorem wv_X11_never : Cond.instanceMethod yX11_never ∈ wl := (wt (mt_4 (List.mem_of_getElem? (i := 229) rfl)) rfl)
theorem wz_X11_never : Cond.selects RX11 yX11_never yX11_never ∈ wl := (wt (mt_4 (List.mem_of_getElem? (i := 230) rfl)) rfl)
theorem wc_X11_changes : cdw mX11_changes ∈ wl := (wt (mt_4 (List.mem_of_getElem? (i := 236) rfl)) rfl)
theorem wd_X11_changes : dOk mX11_changes 1 := ⟨(by decide +kernel), (by decide +kernel), (by decide +kernel)⟩
theorem wv_X11_changes : Cond.instanceMethod yX11_changes ∈ wl := (wt (mt_4 (List.mem_of_getElem? (i := 234) rfl)) rfl)
theorem wz_X11_changes : Cond.selects RX11 yX11_changes yX11_changes ∈ wl := (wt (mt_4 (List.mem_of_getElem? (i := 235) rfl)) rfl)
theorem wc_X11_even : cdw mX11_even ∈ wl := (wt (mt_5 (List.mem_of_getElem? (i := 14) rfl)) rfl)
theorem wd_X11_even : dOk mX11_even 2 := ⟨(by decide +kernel), (by decide +kernel), (by decide +kernel)⟩
theorem wv_X11_even : Cond.instanceMethod yX11_even ∈ wl := (wt (mt_5 (List.mem_of_getElem? (i := 12) rfl)) rfl)
theorem wz_X11_even : Cond.selects RX11 yX11_even yX11_even ∈ wl := (wt (mt_5 (List.mem_of_getElem? (i := 13) rfl)) rfl)
theorem wc_X11_better : cdw mX11_better ∈ wl := (wt (mt_5 (List.mem_of_getElem? (i := 37) rfl)) rfl)
theorem wd_X11_better : dOk mX11_better 1 := ⟨(by decide +kernel), (by decide +kernel), (by decide +kernel)⟩
theorem wv_X11_better : Cond.instanceMethod yX11_better ∈ wl := (wt (mt_5 (List.mem_of_getElem? (i := 35) rfl)) rfl)
theorem wz_X11_better : Cond.selects RX11 yX11_better yX11_better ∈ wl := (wt (mt_5 (List.mem_of_getElem? (i := 36) rfl)) rfl)
theorem wc_X11_faults : cdw mX11_faults ∈ wl := (wt (mt_5 (List.mem_of_getElem? (i := 45) rfl)) rfl)
theorem wd_X11_faults : dOk mX11_faults 0 := ⟨(by decide +kernel), (by decide +kernel), (by decide +kernel)⟩
theorem wv_X11_faults : Cond.instanceMethod yX11_faults ∈ wl := (wt (mt_5 (List.mem_of_getElem? (i := 43) rfl)) rfl)
theorem wz_X11_faults : Cond.selects RX11 yX11_faults yX11_faults ∈ wl := (wt (mt_5 (List.mem_of_getElem? (i := 44) rfl)) rfl)
theorem wc_X11_fault : cdw mX11_fault ∈ wl := (wt (mt_6 (List.mem_of_getElem? (i := 107) rfl)) rfl)
theorem wd_X11_fault : dOk mX11_fault 2 := ⟨(by decide +kernel), (by decide +kernel), (by decide +kernel)⟩
theorem wv_X11_fault : Cond.instanceMethod yX11_fault ∈ wl := (wt (mt_6 (List.mem_of_getElem? (i := 105) rfl)) rfl)
theorem wz_X11_fault : Cond.selects RX11 yX11_fault yX11_fault ∈ wl := (wt (mt_6 (List.mem_of_getElem? (i := 106) rfl)) rfl)
theorem wc_X11_would : cdw mX11_would ∈ wl := (wt (mt_5 (List.mem_of_getElem? (i := 63) rfl)) rfl)
theorem wd_X11_would : dOk mX11_would 3 := ⟨(by decide +kernel), (by decide +kernel), (by decide +kernel)⟩
theorem wv_X11_would : Cond.instanceMethod yX11_would ∈ wl := (wt (mt_5 (List.mem_of_getElem? (i := 61) rfl)) rfl)
theorem wz_X11_would : Cond.selects RX11 yX11_would yX11_would ∈ wl := (wt (mt_5 (List.mem_of_getElem? (i := 62) rfl)) rfl)
theorem wc_X11_tells : cdw mX11_tells ∈ wl := (wt (mt_5 (List.mem_of_getElem? (i := 111) rfl)) rfl)
theorem wd_X11_tells : dOk mX11_tells 1 := ⟨(by decide +kernel), (by decide +kernel), (by decide +kernel)⟩
theorem wv_X11_tells : Cond.instanceMethod yX11_tells ∈ wl := (wt (mt_5 (List.mem_of_getElem? (i := 109) rfl)) rfl)
theorem wz_X11_tells : Cond.selects RX11 yX11_tells yX11_tells ∈ wl := (wt (mt_5 (List.mem_of_getElem? (i := 110) rfl)) rfl)
theorem wc_X11_hidden : cdw mX11_hidden ∈ wl := (wt (mt_5 (List.mem_of_getElem? (i := 125) rfl)) rfl)
theorem wd_X11_hidden : dOk mX11_hidden 0 := ⟨(by decide +kernel), (by decide +kernel), (by decide +kernel)⟩
theorem wv_X11_hidden : Cond.instanceMethod yX11_hidden ∈ wl := (wt (mt_5 (List.mem_of_getElem? (i := 123) rfl)) rfl)
theorem wz_X11_hidden : Cond.selects RX11 yX11_hidden yX11_hidden ∈ wl := (wt (mt_5 (List.mem_of_getElem? (i := 124) rfl)) rfl)
theorem wc_X11_alike : cdw mX11_alike ∈ wl := (wt (mt_5 (List.mem_of_getElem? (i := 129) rfl)) rfl)
theorem wd_X11_alike : dOk mX11_alike 2 := ⟨(by decide +kernel), (by decide +kernel), (by decide +kernel)⟩
theorem wv_X11_alike : Cond.instanceMethod yX11_alike ∈ wl := (wt (mt_5 (List.mem_of_getElem? (i := 127) rfl)) rfl)
theorem wz_X11_alike : Cond.selects RX11 yX11_alike yX11_alike ∈ wl := (wt (mt_5 (List.mem_of_getElem? (i := 128) rfl)) rfl)
theorem wc_X11_seen : cdw mX11_seen ∈ wl := (wt (mt_5 (List.mem_of_getElem? (i := 133) rfl)) rfl)
theorem wd_X11_seen : dOk mX11_seen 3 := ⟨(by decide +kernel), (by decide +kernel), (by decide +kernel)⟩
theorem wv_X11_seen : Cond.instanceMethod yX11_seen ∈ wl := (wt (mt_5 (List.mem_of_getElem? (i := 131) rfl)) rfl)
theorem wz_X11_seen : Cond.selects RX11 yX11_seen yX11_seen ∈ wl := (wt (mt_5 (List.mem_of_getElem? (i := 132) rfl)) rfl)
theorem wc_X11_forget : cdw mX11_forget ∈ wl := (wt (mt_5 (List.mem_of_getElem? (i := 141) rfl)) rfl)
theorem wd_X11_forget : dOk mX11_forget 0 := ⟨(by decide +kernel), (by decide +kernel), (by decide +kernel)⟩
theorem wv_X11_forget : Cond.instanceMethod yX11_forget ∈ wl := (wt (mt_5 (List.mem_of_getElem? (i := 139) rfl)) rfl)
theorem wz_X11_forget : Cond.selects RX11 yX11_forget yX11_forget ∈ wl := (wt (mt_5 (List.mem_of_getElem? (i := 140) rfl)) rfl)
theorem wc_X11_which : cdw mX11_which ∈ wl := (wt (mt_5 (List.mem_of_getElem? (i := 145) rfl)) rfl)
theorem wd_X11_which : dOk mX11_which 0 := ⟨(by decide +kernel), (by decide +kernel), (by decide +kernel)⟩
theorem wv_X11_which : Cond.instanceMethod yX11_which ∈ wl := (wt (mt_5 (List.mem_of_getElem? (i := 143) rfl)) rfl)
theorem wz_X11_which : Cond.selects RX11 yX11_which yX11_which ∈ wl := (wt (mt_5 (List.mem_of_getElem? (i := 144) rfl)) rfl)
theorem wc_X11_judge : cdw mX11_judge ∈ wl := (wt (mt_5 (List.mem_of_getElem? (i := 157) rfl)) rfl)
theorem wd_X11_judge : dOk mX11_judge 1 := ⟨(by decide +kernel), (by decide +kernel), (by decide +kernel)⟩
theorem wv_X11_judge : Cond.instanceMethod yX11_judge ∈ wl := (wt (mt_5 (List.mem_of_getElem? (i := 155) rfl)) rfl)
theorem wz_X11_judge : Cond.selects RX11 yX11_judge yX11_judge ∈ wl := (wt (mt_5 (List.mem_of_getElem? (i := 156) rfl)) rfl)
theorem wc_X11_next : cdw mX11_next ∈ wl := (wt (mt_5 (List.mem_of_getElem? (i := 162) rfl)) rfl)
theorem wd_X11_next : dOk mX11_next 0 := ⟨(by decide +kernel), (by decide +kernel), (by decide +kernel)⟩
theorem wv_X11_next : Cond.instanceMethod yX11_next ∈ wl := (wt (mt_5 (List.mem_of_getElem? (i := 160) rfl)) rfl)
theorem wz_X11_next : Cond.selects RX11 yX11_next yX11_next ∈ wl := (wt (mt_5 (List.mem_of_getElem? (i := 161) rfl)) rfl)
theorem wc_X11_test : cdw mX11_test ∈ wl := (wt (mt_5 (List.mem_of_getElem? (i := 175) rfl)) rfl)
theorem wd_X11_test : dOk mX11_test 2 := ⟨(by decide +kernel), (by decide +kernel), (by decide +kernel)⟩
theorem wv_X11_test : Cond.instanceMethod yX11_test ∈ wl := (wt (mt_5 (List.mem_of_getElem? (i := 173) rfl)) rfl)
theorem wz_X11_test : Cond.selects RX11 yX11_test yX11_test ∈ wl := (wt (mt_5 (List.mem_of_getElem? (i := 174) rfl)) rfl)
theorem wc_X11_tree : cdw mX11_tree ∈ wl := (wt (mt_5 (List.mem_of_getElem? (i := 183) rfl)) rfl)
theorem wd_X11_tree : dOk mX11_tree 0 := ⟨(by decide +kernel), (by decide +kernel), (by decide +kernel)⟩
theorem wv_X11_tree : Cond.instanceMethod yX11_tree ∈ wl := (wt (mt_5 (List.mem_of_getElem? (i := 181) rfl)) rfl)
theorem wz_X11_tree : Cond.selects RX11 yX11_tree yX11_tree ∈ wl := (wt (mt_5 (List.mem_of_getElem? (i := 182) rfl)) rfl)
theorem wc_X11_path : cdw mX11_path ∈ wl := (wt (mt_5 (List.mem_of_getElem? (i := 236) rfl)) rfl)
theorem wd_X11_path : dOk mX11_path 1 := ⟨(by decide +kernel), (by decide +kernel), (by decide +kernel)⟩
theorem wv_X11_path : Cond.instanceMethod yX11_path ∈ wl := (wt (mt_5 (List.mem_of_getElem? (i := 234) rfl)) rfl)
theorem wz_X11_path : Cond.selects RX11 yX11_path yX11_path ∈ wl := (wt (mt_5 (List.mem_of_getElem? (i := 235) rfl)) rfl)
theorem wc_X11_keep : cdw mX11_keep ∈ wl := (wt (mt_6 (List.mem_of_getElem? (i := 8) rfl)) rfl)
theorem wd_X11_keep : dOk mX11_keep 1 := ⟨(by decide +kernel), (by decide +kernel), (by decide +kernel)⟩
theorem wv_X11_keep : Cond.instanceMethod yX11_keep ∈ wl := (wt (mt_6 (List.mem_of_getElem? (i := 6) rfl)) rfl)
theorem wz_X11_keep : Cond.selects RX11 yX11_keep yX11_keep ∈ wl := (wt (mt_6 (List.mem_of_getElem? (i := 7) rfl)) rfl)
theorem wc_X11_again : cdw mX11_again ∈ wl := (wt (mt_6 (List.mem_of_getElem? (i := 22) rfl)) rfl)
theorem wd_X11_again : dOk mX11_again 1 := ⟨(by decide +kernel), (by decide +kernel), (by decide +kernel)⟩
theorem wv_X11_again : Cond.instanceMethod yX11_again ∈ wl := (wt (mt_6 (List.mem_of_getElem? (i := 20) rfl)) rfl)
theorem wz_X11_again : Cond.selects RX11 yX11_again yX11_again ∈ wl := (wt (mt_6 (List.mem_of_getElem? (i := 21) rfl)) rfl)
theorem wc_X11_count : cdw mX11_count ∈ wl := (wt (mt_6 (List.mem_of_getElem? (i := 31) rfl)) rfl)
theorem wd_X11_count : dOk mX11_count 1 := ⟨(by decide +kernel), (by decide +kernel), (by decide +kernel)⟩
theorem wv_X11_count : Cond.instanceMethod yX11_count ∈ wl := (wt (mt_6 (List.mem_of_getElem? (i := 29) rfl)) rfl)
theorem wz_X11_count : Cond.selects RX11 yX11_count yX11_count ∈ wl := (wt (mt_6 (List.mem_of_getElem? (i := 30) rfl)) rfl)
theorem wc_X11_row : cdw mX11_row ∈ wl := (wt (mt_6 (List.mem_of_getElem? (i := 117) rfl)) rfl)
theorem wd_X11_row : dOk mX11_row 1 := ⟨(by decide +kernel), (by decide +kernel), (by decide +kernel)⟩
theorem wv_X11_row : Cond.instanceMethod yX11_row ∈ wl := (wt (mt_6 (List.mem_of_getElem? (i := 115) rfl)) rfl)
theorem wz_X11_row : Cond.selects RX11 yX11_row yX11_row ∈ wl := (wt (mt_6 (List.mem_of_getElem? (i := 116) rfl)) rfl)
theorem wc_X11_takeLine : cdw mX11_takeLine ∈ wl := (wt (mt_3 (List.mem_of_getElem? (i := 130) rfl)) rfl)
theorem wd_X11_takeLine : dOk mX11_takeLine 1 := ⟨(by decide +kernel), (by decide +kernel), (by decide +kernel)⟩
theorem wv_X11_takeLine : Cond.instanceMethod yX11_takeLine ∈ wl := (wt (mt_3 (List.mem_of_getElem? (i := 129) rfl)) rfl)
theorem wz_X11_takeLine : Cond.selects RX11 yX11_takeLine yX11_takeLine ∈ wl := wp (mp_1 (List.mem_of_getElem? (i := 12) rfl))
theorem wc_X11_entryAs : cdw mX11_entryAs ∈ wl := (wt (mt_3 (List.mem_of_getElem? (i := 174) rfl)) rfl)
theorem wd_X11_entryAs : dOk mX11_entryAs 2 := ⟨(by decide +kernel), (by decide +kernel), (by decide +kernel)⟩
theorem ws_X11_entryAs : Cond.static yX11_entryAs ∈ wl := (wt (mt_3 (List.mem_of_getElem? (i := 173) rfl)) rfl)
theorem wc_X11_isSearchable : cdw mX11_isSearchable ∈ wl := (wt (mt_4 (List.mem_of_getElem? (i := 81) rfl)) rfl)
theorem wd_X11_isSearchable : dOk mX11_isSearchable 0 := ⟨(by decide +kernel), (by decide +kernel), (by decide +kernel)⟩
theorem wv_X11_isSearchable : Cond.instanceMethod yX11_isSearchable ∈ wl := (wt (mt_4 (List.mem_of_getElem? (i := 80) rfl)) rfl)
theorem wz_X11_isSearchable : Cond.selects RX11 yX11_isSearchable yX11_isSearchable ∈ wl := wp (mp_2 (List.mem_of_getElem? (i := 5) rfl))
theorem wc_X11_openTable : cdw mX11_openTable ∈ wl := (wt (mt_4 (List.mem_of_getElem? (i := 77) rfl)) rfl)
theorem wd_X11_openTable : dOk mX11_openTable 0 := ⟨(by decide +kernel), (by decide +kernel), (by decide +kernel)⟩
theorem wv_X11_openTable : Cond.instanceMethod yX11_openTable ∈ wl := (wt (mt_4 (List.mem_of_getElem? (i := 76) rfl)) rfl)
theorem wz_X11_openTable : Cond.selects RX11 yX11_openTable yX11_openTable ∈ wl := wp (mp_2 (List.mem_of_getElem? (i := 4) rfl))
theorem wc_X11_isPicture : cdw mX11_isPicture ∈ wl := (wt (mt_4 (List.mem_of_getElem? (i := 149) rfl)) rfl)
theorem wd_X11_isPicture : dOk mX11_isPicture 1 := ⟨(by decide +kernel), (by decide +kernel), (by decide +kernel)⟩
theorem ws_X11_isPicture : Cond.static yX11_isPicture ∈ wl := (wt (mt_4 (List.mem_of_getElem? (i := 148) rfl)) rfl)
theorem wc_X11_openParting : cdw mX11_openParting ∈ wl := (wt (mt_4 (List.mem_of_getElem? (i := 161) rfl)) rfl)
theorem wd_X11_openParting : dOk mX11_openParting 1 := ⟨(by decide +kernel), (by decide +kernel), (by decide +kernel)⟩
theorem wv_X11_openParting : Cond.instanceMethod yX11_openParting ∈ wl := (wt (mt_4 (List.mem_of_getElem? (i := 160) rfl)) rfl)
theorem wz_X11_openParting : Cond.selects RX11 yX11_openParting yX11_openParting ∈ wl := wp (mp_2 (List.mem_of_getElem? (i := 8) rfl))
theorem wc_X11_partInto : cdw mX11_partInto ∈ wl := (wt (mt_4 (List.mem_of_getElem? (i := 157) rfl)) rfl)
theorem wd_X11_partInto : dOk mX11_partInto 1 := ⟨(by decide +kernel), (by decide +kernel), (by decide +kernel)⟩
theorem wv_X11_partInto : Cond.instanceMethod yX11_partInto ∈ wl := (wt (mt_4 (List.mem_of_getElem? (i := 156) rfl)) rfl)
theorem wz_X11_partInto : Cond.selects RX11 yX11_partInto yX11_partInto ∈ wl := wp (mp_2 (List.mem_of_getElem? (i := 7) rfl))
theorem wc_X11_partTraded : cdw mX11_partTraded ∈ wl := (wt (mt_5 (List.mem_of_getElem? (i := 41) rfl)) rfl)
theorem wd_X11_partTraded : dOk mX11_partTraded 3 := ⟨(by decide +kernel), (by decide +kernel), (by decide +kernel)⟩
theorem wv_X11_partTraded : Cond.instanceMethod yX11_partTraded ∈ wl := (wt (mt_5 (List.mem_of_getElem? (i := 40) rfl)) rfl)
theorem wz_X11_partTraded : Cond.selects RX11 yX11_partTraded yX11_partTraded ∈ wl := wp (mp_3 (List.mem_of_getElem? (i := 5) rfl))
theorem wc_X11_tellTurns : cdw mX11_tellTurns ∈ wl := (wt (mt_4 (List.mem_of_getElem? (i := 204) rfl)) rfl)
theorem wd_X11_tellTurns : dOk mX11_tellTurns 2 := ⟨(by decide +kernel), (by decide +kernel), (by decide +kernel)⟩
theorem wv_X11_tellTurns : Cond.instanceMethod yX11_tellTurns ∈ wl := (wt (mt_4 (List.mem_of_getElem? (i := 203) rfl)) rfl)
theorem wz_X11_tellTurns : Cond.selects RX11 yX11_tellTurns yX11_tellTurns ∈ wl := wp (mp_2 (List.mem_of_getElem? (i := 14) rfl))
theorem wc_X11_settingsOf : cdw mX11_settingsOf ∈ wl := (wt (mt_4 (List.mem_of_getElem? (i := 88) rfl)) rfl)
theorem wd_X11_settingsOf : dOk mX11_settingsOf 1 := ⟨(by decide +kernel), (by decide +kernel), (by decide +kernel)⟩
theorem ws_X11_settingsOf : Cond.static yX11_settingsOf ∈ wl := (wt (mt_4 (List.mem_of_getElem? (i := 87) rfl)) rfl)
theorem wc_X11_wiresThatAre : cdw mX11_wiresThatAre ∈ wl := (wt (mt_4 (List.mem_of_getElem? (i := 92) rfl)) rfl)
theorem wd_X11_wiresThatAre : dOk mX11_wiresThatAre 3 := ⟨(by decide +kernel), (by decide +kernel), (by decide +kernel)⟩
theorem ws_X11_wiresThatAre : Cond.static yX11_wiresThatAre ∈ wl := (wt (mt_4 (List.mem_of_getElem? (i := 91) rfl)) rfl)
theorem wc_X12_init : cdw mX12_init ∈ wl := (wt (mt_6 (List.mem_of_getElem? (i := 122) rfl)) rfl)
theorem wd_X12_init : dOk mX12_init 0 := ⟨(by decide +kernel), (by decide +kernel), (by decide +kernel)⟩
theorem wv_X12_init : Cond.instanceMethod yX12_init ∈ wl := (wt (mt_6 (List.mem_of_getElem? (i := 121) rfl)) rfl)
theorem wc_X12_thrown : cdw mX12_thrown ∈ wl := (wt (mt_7 (List.mem_of_getElem? (i := 115) rfl)) rfl)
theorem wd_X12_thrown : dOk mX12_thrown 0 := ⟨(by decide +kernel), (by decide +kernel), (by decide +kernel)⟩
theorem wv_X12_thrown : Cond.instanceMethod yX12_thrown ∈ wl := (wt (mt_7 (List.mem_of_getElem? (i := 113) rfl)) rfl)
theorem wz_X12_thrown : Cond.selects RX12 yX12_thrown yX12_thrown ∈ wl := (wt (mt_7 (List.mem_of_getElem? (i := 114) rfl)) rfl)
theorem wc_X12_in : cdw mX12_in ∈ wl := (wt (mt_7 (List.mem_of_getElem? (i := 126) rfl)) rfl)
theorem wd_X12_in : dOk mX12_in 3 := ⟨(by decide +kernel), (by decide +kernel), (by decide +kernel)⟩
theorem ws_X12_in : Cond.static yX12_in ∈ wl := (wt (mt_7 (List.mem_of_getElem? (i := 125) rfl)) rfl)
theorem wc_X12_has : cdw mX12_has ∈ wl := (wt (mt_8 (List.mem_of_getElem? (i := 5) rfl)) rfl)
theorem wd_X12_has : dOk mX12_has 2 := ⟨(by decide +kernel), (by decide +kernel), (by decide +kernel)⟩
theorem ws_X12_has : Cond.static yX12_has ∈ wl := (wt (mt_8 (List.mem_of_getElem? (i := 4) rfl)) rfl)
theorem wc_X12_lost : cdw mX12_lost ∈ wl := (wt (mt_7 (List.mem_of_getElem? (i := 176) rfl)) rfl)
theorem wd_X12_lost : dOk mX12_lost 0 := ⟨(by decide +kernel), (by decide +kernel), (by decide +kernel)⟩
theorem wv_X12_lost : Cond.instanceMethod yX12_lost ∈ wl := (wt (mt_7 (List.mem_of_getElem? (i := 175) rfl)) rfl)
theorem wz_X12_lost : Cond.selects RX12 yX12_lost yX12_lost ∈ wl := wp (mp_4 (List.mem_of_getElem? (i := 9) rfl))
theorem wc_X12_tell : cdw mX12_tell ∈ wl := (wt (mt_8 (List.mem_of_getElem? (i := 56) rfl)) rfl)
theorem wd_X12_tell : dOk mX12_tell 1 := ⟨(by decide +kernel), (by decide +kernel), (by decide +kernel)⟩
theorem wv_X12_tell : Cond.instanceMethod yX12_tell ∈ wl := (wt (mt_8 (List.mem_of_getElem? (i := 55) rfl)) rfl)
theorem wz_X12_tell : Cond.selects RX12 yX12_tell yX12_tell ∈ wl := wp (mp_5 (List.mem_of_getElem? (i := 13) rfl))
theorem wc_X12_isWire : cdw mX12_isWire ∈ wl := (wt (mt_7 (List.mem_of_getElem? (i := 184) rfl)) rfl)
theorem wd_X12_isWire : dOk mX12_isWire 1 := ⟨(by decide +kernel), (by decide +kernel), (by decide +kernel)⟩
theorem wv_X12_isWire : Cond.instanceMethod yX12_isWire ∈ wl := (wt (mt_7 (List.mem_of_getElem? (i := 183) rfl)) rfl)
theorem wz_X12_isWire : Cond.selects RX12 yX12_isWire yX12_isWire ∈ wl := wp (mp_4 (List.mem_of_getElem? (i := 10) rfl))
theorem wc_X12_isLamp : cdw mX12_isLamp ∈ wl := (wt (mt_7 (List.mem_of_getElem? (i := 172) rfl)) rfl)
theorem wd_X12_isLamp : dOk mX12_isLamp 1 := ⟨(by decide +kernel), (by decide +kernel), (by decide +kernel)⟩
theorem wv_X12_isLamp : Cond.instanceMethod yX12_isLamp ∈ wl := (wt (mt_7 (List.mem_of_getElem? (i := 171) rfl)) rfl)
theorem wz_X12_isLamp : Cond.selects RX12 yX12_isLamp yX12_isLamp ∈ wl := wp (mp_4 (List.mem_of_getElem? (i := 8) rfl))
theorem wc_X12_areLamps : cdw mX12_areLamps ∈ wl := (wt (mt_8 (List.mem_of_getElem? (i := 77) rfl)) rfl)
theorem wd_X12_areLamps : dOk mX12_areLamps 1 := ⟨(by decide +kernel), (by decide +kernel), (by decide +kernel)⟩
theorem wv_X12_areLamps : Cond.instanceMethod yX12_areLamps ∈ wl := (wt (mt_8 (List.mem_of_getElem? (i := 76) rfl)) rfl)
theorem wz_X12_areLamps : Cond.selects RX12 yX12_areLamps yX12_areLamps ∈ wl := wp (mp_5 (List.mem_of_getElem? (i := 14) rfl))
theorem wc_X12_isSetting : cdw mX12_isSetting ∈ wl := (wt (mt_7 (List.mem_of_getElem? (i := 206) rfl)) rfl)
theorem wd_X12_isSetting : dOk mX12_isSetting 2 := ⟨(by decide +kernel), (by decide +kernel), (by decide +kernel)⟩
theorem wv_X12_isSetting : Cond.instanceMethod yX12_isSetting ∈ wl := (wt (mt_7 (List.mem_of_getElem? (i := 205) rfl)) rfl)
theorem wz_X12_isSetting : Cond.selects RX12 yX12_isSetting yX12_isSetting ∈ wl := wp (mp_4 (List.mem_of_getElem? (i := 12) rfl))
theorem wc_X12_sign : cdw mX12_sign ∈ wl := (wt (mt_7 (List.mem_of_getElem? (i := 119) rfl)) rfl)
theorem wd_X12_sign : dOk mX12_sign 1 := ⟨(by decide +kernel), (by decide +kernel), (by decide +kernel)⟩
theorem wv_X12_sign : Cond.instanceMethod yX12_sign ∈ wl := (wt (mt_7 (List.mem_of_getElem? (i := 117) rfl)) rfl)
theorem wz_X12_sign : Cond.selects RX12 yX12_sign yX12_sign ∈ wl := (wt (mt_7 (List.mem_of_getElem? (i := 118) rfl)) rfl)
theorem wc_X12_end : cdw mX12_end ∈ wl := (wt (mt_7 (List.mem_of_getElem? (i := 123) rfl)) rfl)
theorem wd_X12_end : dOk mX12_end 1 := ⟨(by decide +kernel), (by decide +kernel), (by decide +kernel)⟩
theorem wv_X12_end : Cond.instanceMethod yX12_end ∈ wl := (wt (mt_7 (List.mem_of_getElem? (i := 121) rfl)) rfl)
theorem wz_X12_end : Cond.selects RX12 yX12_end yX12_end ∈ wl := (wt (mt_7 (List.mem_of_getElem? (i := 122) rfl)) rfl)
theorem wc_X12_here : cdw mX12_here ∈ wl := (wt (mt_7 (List.mem_of_getElem? (i := 138) rfl)) rfl)
theorem wd_X12_here : dOk mX12_here 0 := ⟨(by decide +kernel), (by decide +kernel), (by decide +kernel)⟩
theorem wv_X12_here : Cond.instanceMethod yX12_here ∈ wl := (wt (mt_7 (List.mem_of_getElem? (i := 137) rfl)) rfl)
theorem wz_X12_here : Cond.selects RX12 yX12_here yX12_here ∈ wl := wp (mp_4 (List.mem_of_getElem? (i := 3) rfl))
theorem wc_X12_fault : cdw mX12_fault ∈ wl := (wt (mt_7 (List.mem_of_getElem? (i := 148) rfl)) rfl)
theorem wd_X12_fault : dOk mX12_fault 1 := ⟨(by decide +kernel), (by decide +kernel), (by decide +kernel)⟩
theorem wv_X12_fault : Cond.instanceMethod yX12_fault ∈ wl := (wt (mt_7 (List.mem_of_getElem? (i := 147) rfl)) rfl)
theorem wz_X12_fault : Cond.selects RX12 yX12_fault yX12_fault ∈ wl := wp (mp_4 (List.mem_of_getElem? (i := 5) rfl))
theorem wc_X12_passes : cdw mX12_passes ∈ wl := (wt (mt_7 (List.mem_of_getElem? (i := 134) rfl)) rfl)
theorem wd_X12_passes : dOk mX12_passes 1 := ⟨(by decide +kernel), (by decide +kernel), (by decide +kernel)⟩
theorem wv_X12_passes : Cond.instanceMethod yX12_passes ∈ wl := (wt (mt_7 (List.mem_of_getElem? (i := 133) rfl)) rfl)
theorem wz_X12_passes : Cond.selects RX12 yX12_passes yX12_passes ∈ wl := wp (mp_4 (List.mem_of_getElem? (i := 2) rfl))
theorem wc_X12_need : cdw mX12_need ∈ wl := (wt (mt_7 (List.mem_of_getElem? (i := 152) rfl)) rfl)
theorem wd_X12_need : dOk mX12_need 1 := ⟨(by decide +kernel), (by decide +kernel), (by decide +kernel)⟩
theorem wv_X12_need : Cond.instanceMethod yX12_need ∈ wl := (wt (mt_7 (List.mem_of_getElem? (i := 151) rfl)) rfl)
theorem wz_X12_need : Cond.selects RX12 yX12_need yX12_need ∈ wl := wp (mp_4 (List.mem_of_getElem? (i := 6) rfl))
theorem wc_X12_number : cdw mX12_number ∈ wl := (wt (mt_7 (List.mem_of_getElem? (i := 142) rfl)) rfl)
theorem wd_X12_number : dOk mX12_number 3 := ⟨(by decide +kernel), (by decide +kernel), (by decide +kernel)⟩
theorem wv_X12_number : Cond.instanceMethod yX12_number ∈ wl := (wt (mt_7 (List.mem_of_getElem? (i := 141) rfl)) rfl)
theorem wz_X12_number : Cond.selects RX12 yX12_number yX12_number ∈ wl := wp (mp_4 (List.mem_of_getElem? (i := 4) rfl))
theorem wc_X12_board : cdw mX12_board ∈ wl := (wt (mt_7 (List.mem_of_getElem? (i := 130) rfl)) rfl)
theorem wd_X12_board : dOk mX12_board 0 := ⟨(by decide +kernel), (by decide +kernel), (by decide +kernel)⟩
theorem wv_X12_board : Cond.instanceMethod yX12_board ∈ wl := (wt (mt_7 (List.mem_of_getElem? (i := 128) rfl)) rfl)
theorem wz_X12_board : Cond.selects RX12 yX12_board yX12_board ∈ wl := (wt (mt_7 (List.mem_of_getElem? (i := 129) rfl)) rfl)
theorem wc_X12_take : cdw mX12_take ∈ wl := (wt (mt_7 (List.mem_of_getElem? (i := 156) rfl)) rfl)
theorem wd_X12_take : dOk mX12_take 1 := ⟨(by decide +kernel), (by decide +kernel), (by decide +kernel)⟩
theorem wv_X12_take : Cond.instanceMethod yX12_take ∈ wl := (wt (mt_7 (List.mem_of_getElem? (i := 155) rfl)) rfl)
theorem wz_X12_take : Cond.selects RX12 yX12_take yX12_take ∈ wl := wp (mp_4 (List.mem_of_getElem? (i := 7) rfl))
theorem wc_X12_set : cdw mX12_set ∈ wl := (wt (mt_7 (List.mem_of_getElem? (i := 160) rfl)) rfl)
theorem wd_X12_set : dOk mX12_set 2 := ⟨(by decide +kernel), (by decide +kernel), (by decide +kernel)⟩
theorem wv_X12_set : Cond.instanceMethod yX12_set ∈ wl := (wt (mt_7 (List.mem_of_getElem? (i := 158) rfl)) rfl)
theorem wz_X12_set : Cond.selects RX12 yX12_set yX12_set ∈ wl := (wt (mt_7 (List.mem_of_getElem? (i := 159) rfl)) rfl)
theorem wc_X12_lamp : cdw mX12_lamp ∈ wl := (wt (mt_7 (List.mem_of_getElem? (i := 168) rfl)) rfl)
theorem wd_X12_lamp : dOk mX12_lamp 2 := ⟨(by decide +kernel), (by decide +kernel), (by decide +kernel)⟩
theorem wv_X12_lamp : Cond.instanceMethod yX12_lamp ∈ wl := (wt (mt_7 (List.mem_of_getElem? (i := 166) rfl)) rfl)
theorem wz_X12_lamp : Cond.selects RX12 yX12_lamp yX12_lamp ∈ wl := (wt (mt_7 (List.mem_of_getElem? (i := 167) rfl)) rfl)
theorem wc_X12_ohms : cdw mX12_ohms ∈ wl := (wt (mt_7 (List.mem_of_getElem? (i := 180) rfl)) rfl)
theorem wd_X12_ohms : dOk mX12_ohms 1 := ⟨(by decide +kernel), (by decide +kernel), (by decide +kernel)⟩
theorem wv_X12_ohms : Cond.instanceMethod yX12_ohms ∈ wl := (wt (mt_7 (List.mem_of_getElem? (i := 178) rfl)) rfl)
theorem wz_X12_ohms : Cond.selects RX12 yX12_ohms yX12_ohms ∈ wl := (wt (mt_7 (List.mem_of_getElem? (i := 179) rfl)) rfl)
theorem wc_X12_sheet : cdw mX12_sheet ∈ wl := (wt (mt_7 (List.mem_of_getElem? (i := 188) rfl)) rfl)
theorem wd_X12_sheet : dOk mX12_sheet 4 := ⟨(by decide +kernel), (by decide +kernel), (by decide +kernel)⟩
theorem wv_X12_sheet : Cond.instanceMethod yX12_sheet ∈ wl := (wt (mt_7 (List.mem_of_getElem? (i := 186) rfl)) rfl)
theorem wz_X12_sheet : Cond.selects RX12 yX12_sheet yX12_sheet ∈ wl := (wt (mt_7 (List.mem_of_getElem? (i := 187) rfl)) rfl)
theorem wc_X12_change : cdw mX12_change ∈ wl := (wt (mt_7 (List.mem_of_getElem? (i := 198) rfl)) rfl)
theorem wd_X12_change : dOk mX12_change 2 := ⟨(by decide +kernel), (by decide +kernel), (by decide +kernel)⟩
theorem wv_X12_change : Cond.instanceMethod yX12_change ∈ wl := (wt (mt_7 (List.mem_of_getElem? (i := 197) rfl)) rfl)
theorem wz_X12_change : Cond.selects RX12 yX12_change yX12_change ∈ wl := wp (mp_4 (List.mem_of_getElem? (i := 11) rfl))
theorem wc_X12_swap : cdw mX12_swap ∈ wl := (wt (mt_7 (List.mem_of_getElem? (i := 194) rfl)) rfl)
theorem wd_X12_swap : dOk mX12_swap 2 := ⟨(by decide +kernel), (by decide +kernel), (by decide +kernel)⟩
theorem wv_X12_swap : Cond.instanceMethod yX12_swap ∈ wl := (wt (mt_7 (List.mem_of_getElem? (i := 192) rfl)) rfl)
theorem wz_X12_swap : Cond.selects RX12 yX12_swap yX12_swap ∈ wl := (wt (mt_7 (List.mem_of_getElem? (i := 193) rfl)) rfl)
theorem wc_X12_touchFirst : cdw mX12_touchFirst ∈ wl := (wt (mt_7 (List.mem_of_getElem? (i := 226) rfl)) rfl)
theorem wd_X12_touchFirst : dOk mX12_touchFirst 0 := ⟨(by decide +kernel), (by decide +kernel), (by decide +kernel)⟩
theorem wv_X12_touchFirst : Cond.instanceMethod yX12_touchFirst ∈ wl := (wt (mt_7 (List.mem_of_getElem? (i := 225) rfl)) rfl)
theorem wz_X12_touchFirst : Cond.selects RX12 yX12_touchFirst yX12_touchFirst ∈ wl := wp (mp_5 (List.mem_of_getElem? (i := 1) rfl))
theorem wc_X12_turnedFirst : cdw mX12_turnedFirst ∈ wl := (wt (mt_7 (List.mem_of_getElem? (i := 230) rfl)) rfl)
theorem wd_X12_turnedFirst : dOk mX12_turnedFirst 0 := ⟨(by decide +kernel), (by decide +kernel), (by decide +kernel)⟩
theorem wv_X12_turnedFirst : Cond.instanceMethod yX12_turnedFirst ∈ wl := (wt (mt_7 (List.mem_of_getElem? (i := 229) rfl)) rfl)
theorem wz_X12_turnedFirst : Cond.selects RX12 yX12_turnedFirst yX12_turnedFirst ∈ wl := wp (mp_5 (List.mem_of_getElem? (i := 2) rfl))
theorem wc_X12_faultMany : cdw mX12_faultMany ∈ wl := (wt (mt_8 (List.mem_of_getElem? (i := 211) rfl)) rfl)
theorem wd_X12_faultMany : dOk mX12_faultMany 0 := ⟨(by decide +kernel), (by decide +kernel), (by decide +kernel)⟩
theorem wv_X12_faultMany : Cond.instanceMethod yX12_faultMany ∈ wl := (wt (mt_8 (List.mem_of_getElem? (i := 210) rfl)) rfl)
theorem wz_X12_faultMany : Cond.selects RX12 yX12_faultMany yX12_faultMany ∈ wl := wp (mp_6 (List.mem_of_getElem? (i := 15) rfl))
theorem wc_X12_isFault : cdw mX12_isFault ∈ wl := (wt (mt_8 (List.mem_of_getElem? (i := 219) rfl)) rfl)
theorem wd_X12_isFault : dOk mX12_isFault 1 := ⟨(by decide +kernel), (by decide +kernel), (by decide +kernel)⟩
theorem wv_X12_isFault : Cond.instanceMethod yX12_isFault ∈ wl := (wt (mt_8 (List.mem_of_getElem? (i := 218) rfl)) rfl)
theorem wz_X12_isFault : Cond.selects RX12 yX12_isFault yX12_isFault ∈ wl := wp (mp_7 (List.mem_of_getElem? (i := 0) rfl))
theorem wc_X12_kindOf : cdw mX12_kindOf ∈ wl := (wt (mt_7 (List.mem_of_getElem? (i := 222) rfl)) rfl)
theorem wd_X12_kindOf : dOk mX12_kindOf 1 := ⟨(by decide +kernel), (by decide +kernel), (by decide +kernel)⟩
theorem wv_X12_kindOf : Cond.instanceMethod yX12_kindOf ∈ wl := (wt (mt_7 (List.mem_of_getElem? (i := 221) rfl)) rfl)
theorem wz_X12_kindOf : Cond.selects RX12 yX12_kindOf yX12_kindOf ∈ wl := wp (mp_5 (List.mem_of_getElem? (i := 0) rfl))
theorem wc_X12_findFault : cdw mX12_findFault ∈ wl := (wt (mt_7 (List.mem_of_getElem? (i := 218) rfl)) rfl)
theorem wd_X12_findFault : dOk mX12_findFault 1 := ⟨(by decide +kernel), (by decide +kernel), (by decide +kernel)⟩
theorem wv_X12_findFault : Cond.instanceMethod yX12_findFault ∈ wl := (wt (mt_7 (List.mem_of_getElem? (i := 217) rfl)) rfl)
theorem wz_X12_findFault : Cond.selects RX12 yX12_findFault yX12_findFault ∈ wl := wp (mp_4 (List.mem_of_getElem? (i := 15) rfl))
theorem wc_X12_lay : cdw mX12_lay ∈ wl := (wt (mt_7 (List.mem_of_getElem? (i := 214) rfl)) rfl)
theorem wd_X12_lay : dOk mX12_lay 1 := ⟨(by decide +kernel), (by decide +kernel), (by decide +kernel)⟩
theorem wv_X12_lay : Cond.instanceMethod yX12_lay ∈ wl := (wt (mt_7 (List.mem_of_getElem? (i := 213) rfl)) rfl)
theorem wz_X12_lay : Cond.selects RX12 yX12_lay yX12_lay ∈ wl := wp (mp_4 (List.mem_of_getElem? (i := 14) rfl))
theorem wc_X12_begin : cdw mX12_begin ∈ wl := (wt (mt_8 (List.mem_of_getElem? (i := 2) rfl)) rfl)
theorem wd_X12_begin : dOk mX12_begin 2 := ⟨(by decide +kernel), (by decide +kernel), (by decide +kernel)⟩
theorem wv_X12_begin : Cond.instanceMethod yX12_begin ∈ wl := (wt (mt_8 (List.mem_of_getElem? (i := 1) rfl)) rfl)
theorem wz_X12_begin : Cond.selects RX12 yX12_begin yX12_begin ∈ wl := wp (mp_5 (List.mem_of_getElem? (i := 5) rfl))
theorem wc_X12_ohmsOf : cdw mX12_ohmsOf ∈ wl := (wt (mt_8 (List.mem_of_getElem? (i := 18) rfl)) rfl)
theorem wd_X12_ohmsOf : dOk mX12_ohmsOf 1 := ⟨(by decide +kernel), (by decide +kernel), (by decide +kernel)⟩
theorem wv_X12_ohmsOf : Cond.instanceMethod yX12_ohmsOf ∈ wl := (wt (mt_8 (List.mem_of_getElem? (i := 17) rfl)) rfl)
theorem wz_X12_ohmsOf : Cond.selects RX12 yX12_ohmsOf yX12_ohmsOf ∈ wl := wp (mp_5 (List.mem_of_getElem? (i := 8) rfl))
theorem wc_X12_shine : cdw mX12_shine ∈ wl := (wt (mt_7 (List.mem_of_getElem? (i := 238) rfl)) rfl)
theorem wd_X12_shine : dOk mX12_shine 2 := ⟨(by decide +kernel), (by decide +kernel), (by decide +kernel)⟩
theorem wv_X12_shine : Cond.instanceMethod yX12_shine ∈ wl := (wt (mt_7 (List.mem_of_getElem? (i := 237) rfl)) rfl)
theorem wz_X12_shine : Cond.selects RX12 yX12_shine yX12_shine ∈ wl := wp (mp_5 (List.mem_of_getElem? (i := 4) rfl))
theorem wc_X12_goOn : cdw mX12_goOn ∈ wl := (wt (mt_8 (List.mem_of_getElem? (i := 9) rfl)) rfl)
theorem wd_X12_goOn : dOk mX12_goOn 5 := ⟨(by decide +kernel), (by decide +kernel), (by decide +kernel)⟩
theorem wv_X12_goOn : Cond.instanceMethod yX12_goOn ∈ wl := (wt (mt_8 (List.mem_of_getElem? (i := 8) rfl)) rfl)
theorem wz_X12_goOn : Cond.selects RX12 yX12_goOn yX12_goOn ∈ wl := wp (mp_5 (List.mem_of_getElem? (i := 6) rfl))
theorem wc_X12_arrive : cdw mX12_arrive ∈ wl := (wt (mt_8 (List.mem_of_getElem? (i := 13) rfl)) rfl)
theorem wd_X12_arrive : dOk mX12_arrive 4 := ⟨(by decide +kernel), (by decide +kernel), (by decide +kernel)⟩
theorem wv_X12_arrive : Cond.instanceMethod yX12_arrive ∈ wl := (wt (mt_8 (List.mem_of_getElem? (i := 12) rfl)) rfl)
theorem wz_X12_arrive : Cond.selects RX12 yX12_arrive yX12_arrive ∈ wl := wp (mp_5 (List.mem_of_getElem? (i := 7) rfl))
theorem wc_X12_isBetter : cdw mX12_isBetter ∈ wl := (wt (mt_8 (List.mem_of_getElem? (i := 25) rfl)) rfl)
theorem wd_X12_isBetter : dOk mX12_isBetter 2 := ⟨(by decide +kernel), (by decide +kernel), (by decide +kernel)⟩
theorem wv_X12_isBetter : Cond.instanceMethod yX12_isBetter ∈ wl := (wt (mt_8 (List.mem_of_getElem? (i := 24) rfl)) rfl)
theorem wz_X12_isBetter : Cond.selects RX12 yX12_isBetter yX12_isBetter ∈ wl := wp (mp_5 (List.mem_of_getElem? (i := 9) rfl))
theorem wc_X12_isBright : cdw mX12_isBright ∈ wl := (wt (mt_8 (List.mem_of_getElem? (i := 29) rfl)) rfl)
theorem wd_X12_isBright : dOk mX12_isBright 1 := ⟨(by decide +kernel), (by decide +kernel), (by decide +kernel)⟩
theorem wv_X12_isBright : Cond.instanceMethod yX12_isBright ∈ wl := (wt (mt_8 (List.mem_of_getElem? (i := 28) rfl)) rfl)
theorem wz_X12_isBright : Cond.selects RX12 yX12_isBright yX12_isBright ∈ wl := wp (mp_5 (List.mem_of_getElem? (i := 10) rfl))
theorem wc_X12_glowing : cdw mX12_glowing ∈ wl := (wt (mt_7 (List.mem_of_getElem? (i := 234) rfl)) rfl)
theorem wd_X12_glowing : dOk mX12_glowing 2 := ⟨(by decide +kernel), (by decide +kernel), (by decide +kernel)⟩
theorem wv_X12_glowing : Cond.instanceMethod yX12_glowing ∈ wl := (wt (mt_7 (List.mem_of_getElem? (i := 233) rfl)) rfl)
theorem wz_X12_glowing : Cond.selects RX12 yX12_glowing yX12_glowing ∈ wl := wp (mp_5 (List.mem_of_getElem? (i := 3) rfl))
theorem wc_X12_askedFor : cdw mX12_askedFor ∈ wl := (wt (mt_8 (List.mem_of_getElem? (i := 43) rfl)) rfl)
theorem wd_X12_askedFor : dOk mX12_askedFor 2 := ⟨(by decide +kernel), (by decide +kernel), (by decide +kernel)⟩
theorem wv_X12_askedFor : Cond.instanceMethod yX12_askedFor ∈ wl := (wt (mt_8 (List.mem_of_getElem? (i := 42) rfl)) rfl)
theorem wz_X12_askedFor : Cond.selects RX12 yX12_askedFor yX12_askedFor ∈ wl := wp (mp_5 (List.mem_of_getElem? (i := 11) rfl))
theorem wc_X12_glowingWith : cdw mX12_glowingWith ∈ wl := (wt (mt_7 (List.mem_of_getElem? (i := 210) rfl)) rfl)
theorem wd_X12_glowingWith : dOk mX12_glowingWith 3 := ⟨(by decide +kernel), (by decide +kernel), (by decide +kernel)⟩
theorem wv_X12_glowingWith : Cond.instanceMethod yX12_glowingWith ∈ wl := (wt (mt_7 (List.mem_of_getElem? (i := 209) rfl)) rfl)
theorem wz_X12_glowingWith : Cond.selects RX12 yX12_glowingWith yX12_glowingWith ∈ wl := wp (mp_4 (List.mem_of_getElem? (i := 13) rfl))
theorem wc_X12_put : cdw mX12_put ∈ wl := (wt (mt_7 (List.mem_of_getElem? (i := 202) rfl)) rfl)
theorem wd_X12_put : dOk mX12_put 2 := ⟨(by decide +kernel), (by decide +kernel), (by decide +kernel)⟩
theorem wv_X12_put : Cond.instanceMethod yX12_put ∈ wl := (wt (mt_7 (List.mem_of_getElem? (i := 200) rfl)) rfl)
theorem wz_X12_put : Cond.selects RX12 yX12_put yX12_put ∈ wl := (wt (mt_7 (List.mem_of_getElem? (i := 201) rfl)) rfl)
theorem wc_X12_glows : cdw mX12_glows ∈ wl := (wt (mt_8 (List.mem_of_getElem? (i := 35) rfl)) rfl)
theorem wd_X12_glows : dOk mX12_glows 0 := ⟨(by decide +kernel), (by decide +kernel), (by decide +kernel)⟩
theorem wv_X12_glows : Cond.instanceMethod yX12_glows ∈ wl := (wt (mt_8 (List.mem_of_getElem? (i := 33) rfl)) rfl)
theorem wz_X12_glows : Cond.selects RX12 yX12_glows yX12_glows ∈ wl := (wt (mt_8 (List.mem_of_getElem? (i := 34) rfl)) rfl)
theorem wc_X12_ghosts : cdw mX12_ghosts ∈ wl := (wt (mt_8 (List.mem_of_getElem? (i := 39) rfl)) rfl)
theorem wd_X12_ghosts : dOk mX12_ghosts 0 := ⟨(by decide +kernel), (by decide +kernel), (by decide +kernel)⟩
theorem wv_X12_ghosts : Cond.instanceMethod yX12_ghosts ∈ wl := (wt (mt_8 (List.mem_of_getElem? (i := 37) rfl)) rfl)
theorem wz_X12_ghosts : Cond.selects RX12 yX12_ghosts yX12_ghosts ∈ wl := (wt (mt_8 (List.mem_of_getElem? (i := 38) rfl)) rfl)
theorem wc_X12_countAll : cdw mX12_countAll ∈ wl := (wt (mt_8 (List.mem_of_getElem? (i := 52) rfl)) rfl)
theorem wd_X12_countAll : dOk mX12_countAll 1 := ⟨(by decide +kernel), (by decide +kernel), (by decide +kernel)⟩
theorem wv_X12_countAll : Cond.instanceMethod yX12_countAll ∈ wl := (wt (mt_8 (List.mem_of_getElem? (i := 51) rfl)) rfl)
theorem wz_X12_countAll : Cond.selects RX12 yX12_countAll yX12_countAll ∈ wl := wp (mp_5 (List.mem_of_getElem? (i := 12) rfl))
theorem wc_X12_light : cdw mX12_light ∈ wl := (wt (mt_8 (List.mem_of_getElem? (i := 48) rfl)) rfl)
theorem wd_X12_light : dOk mX12_light 1 := ⟨(by decide +kernel), (by decide +kernel), (by decide +kernel)⟩
theorem wv_X12_light : Cond.instanceMethod yX12_light ∈ wl := (wt (mt_8 (List.mem_of_getElem? (i := 46) rfl)) rfl)
theorem wz_X12_light : Cond.selects RX12 yX12_light yX12_light ∈ wl := (wt (mt_8 (List.mem_of_getElem? (i := 47) rfl)) rfl)
theorem wc_X12_why : cdw mX12_why ∈ wl := (wt (mt_8 (List.mem_of_getElem? (i := 60) rfl)) rfl)
theorem wd_X12_why : dOk mX12_why 1 := ⟨(by decide +kernel), (by decide +kernel), (by decide +kernel)⟩
theorem wv_X12_why : Cond.instanceMethod yX12_why ∈ wl := (wt (mt_8 (List.mem_of_getElem? (i := 58) rfl)) rfl)
theorem wz_X12_why : Cond.selects RX12 yX12_why yX12_why ∈ wl := (wt (mt_8 (List.mem_of_getElem? (i := 59) rfl)) rfl)
theorem wc_X12_draws : cdw mX12_draws ∈ wl := (wt (mt_8 (List.mem_of_getElem? (i := 65) rfl)) rfl)
theorem wd_X12_draws : dOk mX12_draws 1 := ⟨(by decide +kernel), (by decide +kernel), (by decide +kernel)⟩
theorem wv_X12_draws : Cond.instanceMethod yX12_draws ∈ wl := (wt (mt_8 (List.mem_of_getElem? (i := 63) rfl)) rfl)
theorem wz_X12_draws : Cond.selects RX12 yX12_draws yX12_draws ∈ wl := (wt (mt_8 (List.mem_of_getElem? (i := 64) rfl)) rfl)
theorem wc_X12_brightest : cdw mX12_brightest ∈ wl := (wt (mt_8 (List.mem_of_getElem? (i := 69) rfl)) rfl)
theorem wd_X12_brightest : dOk mX12_brightest 0 := ⟨(by decide +kernel), (by decide +kernel), (by decide +kernel)⟩
theorem wv_X12_brightest : Cond.instanceMethod yX12_brightest ∈ wl := (wt (mt_8 (List.mem_of_getElem? (i := 67) rfl)) rfl)
theorem wz_X12_brightest : Cond.selects RX12 yX12_brightest yX12_brightest ∈ wl := (wt (mt_8 (List.mem_of_getElem? (i := 68) rfl)) rfl)
theorem wc_X12_settings : cdw mX12_settings ∈ wl := (wt (mt_8 (List.mem_of_getElem? (i := 93) rfl)) rfl)
theorem wd_X12_settings : dOk mX12_settings 0 := ⟨(by decide +kernel), (by decide +kernel), (by decide +kernel)⟩
theorem wv_X12_settings : Cond.instanceMethod yX12_settings ∈ wl := (wt (mt_8 (List.mem_of_getElem? (i := 92) rfl)) rfl)
theorem wz_X12_settings : Cond.selects RX12 yX12_settings yX12_settings ∈ wl := wp (mp_6 (List.mem_of_getElem? (i := 2) rfl))
theorem wc_X12_highOf : cdw mX12_highOf ∈ wl := (wt (mt_8 (List.mem_of_getElem? (i := 97) rfl)) rfl)
theorem wd_X12_highOf : dOk mX12_highOf 1 := ⟨(by decide +kernel), (by decide +kernel), (by decide +kernel)⟩
theorem wv_X12_highOf : Cond.instanceMethod yX12_highOf ∈ wl := (wt (mt_8 (List.mem_of_getElem? (i := 96) rfl)) rfl)
theorem wz_X12_highOf : Cond.selects RX12 yX12_highOf yX12_highOf ∈ wl := wp (mp_6 (List.mem_of_getElem? (i := 3) rfl))
theorem wc_X12_lowOf : cdw mX12_lowOf ∈ wl := (wt (mt_8 (List.mem_of_getElem? (i := 105) rfl)) rfl)
theorem wd_X12_lowOf : dOk mX12_lowOf 1 := ⟨(by decide +kernel), (by decide +kernel), (by decide +kernel)⟩
theorem wv_X12_lowOf : Cond.instanceMethod yX12_lowOf ∈ wl := (wt (mt_8 (List.mem_of_getElem? (i := 104) rfl)) rfl)
theorem wz_X12_lowOf : Cond.selects RX12 yX12_lowOf yX12_lowOf ∈ wl := wp (mp_6 (List.mem_of_getElem? (i := 5) rfl))
theorem wc_X12_wiresAt : cdw mX12_wiresAt ∈ wl := (wt (mt_8 (List.mem_of_getElem? (i := 101) rfl)) rfl)
theorem wd_X12_wiresAt : dOk mX12_wiresAt 2 := ⟨(by decide +kernel), (by decide +kernel), (by decide +kernel)⟩
theorem wv_X12_wiresAt : Cond.instanceMethod yX12_wiresAt ∈ wl := (wt (mt_8 (List.mem_of_getElem? (i := 100) rfl)) rfl)
theorem wz_X12_wiresAt : Cond.selects RX12 yX12_wiresAt yX12_wiresAt ∈ wl := wp (mp_6 (List.mem_of_getElem? (i := 4) rfl))
theorem wc_X12_canSearch : cdw mX12_canSearch ∈ wl := (wt (mt_8 (List.mem_of_getElem? (i := 81) rfl)) rfl)
theorem wd_X12_canSearch : dOk mX12_canSearch 0 := ⟨(by decide +kernel), (by decide +kernel), (by decide +kernel)⟩
theorem wv_X12_canSearch : Cond.instanceMethod yX12_canSearch ∈ wl := (wt (mt_8 (List.mem_of_getElem? (i := 80) rfl)) rfl)
theorem wz_X12_canSearch : Cond.selects RX12 yX12_canSearch yX12_canSearch ∈ wl := wp (mp_5 (List.mem_of_getElem? (i := 15) rfl))
theorem wc_X12_findGlow : cdw mX12_findGlow ∈ wl := (wt (mt_8 (List.mem_of_getElem? (i := 89) rfl)) rfl)
theorem wd_X12_findGlow : dOk mX12_findGlow 2 := ⟨(by decide +kernel), (by decide +kernel), (by decide +kernel)⟩
theorem wv_X12_findGlow : Cond.instanceMethod yX12_findGlow ∈ wl := (wt (mt_8 (List.mem_of_getElem? (i := 88) rfl)) rfl)
theorem wz_X12_findGlow : Cond.selects RX12 yX12_findGlow yX12_findGlow ∈ wl := wp (mp_6 (List.mem_of_getElem? (i := 1) rfl))
theorem wc_X12_findAll : cdw mX12_findAll ∈ wl := (wt (mt_8 (List.mem_of_getElem? (i := 85) rfl)) rfl)
theorem wd_X12_findAll : dOk mX12_findAll 0 := ⟨(by decide +kernel), (by decide +kernel), (by decide +kernel)⟩
theorem wv_X12_findAll : Cond.instanceMethod yX12_findAll ∈ wl := (wt (mt_8 (List.mem_of_getElem? (i := 84) rfl)) rfl)
theorem wz_X12_findAll : Cond.selects RX12 yX12_findAll yX12_findAll ∈ wl := wp (mp_6 (List.mem_of_getElem? (i := 0) rfl))
theorem wc_X12_shows : cdw mX12_shows ∈ wl := (wt (mt_8 (List.mem_of_getElem? (i := 73) rfl)) rfl)
theorem wd_X12_shows : dOk mX12_shows 1 := ⟨(by decide +kernel), (by decide +kernel), (by decide +kernel)⟩
theorem wv_X12_shows : Cond.instanceMethod yX12_shows ∈ wl := (wt (mt_8 (List.mem_of_getElem? (i := 71) rfl)) rfl)
theorem wz_X12_shows : Cond.selects RX12 yX12_shows yX12_shows ∈ wl := (wt (mt_8 (List.mem_of_getElem? (i := 72) rfl)) rfl)
theorem wc_X12_bars : cdw mX12_bars ∈ wl := (wt (mt_8 (List.mem_of_getElem? (i := 109) rfl)) rfl)
theorem wd_X12_bars : dOk mX12_bars 1 := ⟨(by decide +kernel), (by decide +kernel), (by decide +kernel)⟩
theorem wv_X12_bars : Cond.instanceMethod yX12_bars ∈ wl := (wt (mt_8 (List.mem_of_getElem? (i := 107) rfl)) rfl)
theorem wz_X12_bars : Cond.selects RX12 yX12_bars yX12_bars ∈ wl := (wt (mt_8 (List.mem_of_getElem? (i := 108) rfl)) rfl)
theorem wc_X12_most : cdw mX12_most ∈ wl := (wt (mt_8 (List.mem_of_getElem? (i := 114) rfl)) rfl)
theorem wd_X12_most : dOk mX12_most 0 := ⟨(by decide +kernel), (by decide +kernel), (by decide +kernel)⟩
theorem wv_X12_most : Cond.instanceMethod yX12_most ∈ wl := (wt (mt_8 (List.mem_of_getElem? (i := 112) rfl)) rfl)
theorem wz_X12_most : Cond.selects RX12 yX12_most yX12_most ∈ wl := (wt (mt_8 (List.mem_of_getElem? (i := 113) rfl)) rfl)
theorem wc_X12_sets : cdw mX12_sets ∈ wl := (wt (mt_8 (List.mem_of_getElem? (i := 118) rfl)) rfl)
theorem wd_X12_sets : dOk mX12_sets 0 := ⟨(by decide +kernel), (by decide +kernel), (by decide +kernel)⟩
theorem wv_X12_sets : Cond.instanceMethod yX12_sets ∈ wl := (wt (mt_8 (List.mem_of_getElem? (i := 116) rfl)) rfl)
theorem wz_X12_sets : Cond.selects RX12 yX12_sets yX12_sets ∈ wl := (wt (mt_8 (List.mem_of_getElem? (i := 117) rfl)) rfl)
theorem wc_X12_fits : cdw mX12_fits ∈ wl := (wt (mt_8 (List.mem_of_getElem? (i := 122) rfl)) rfl)
theorem wd_X12_fits : dOk mX12_fits 2 := ⟨(by decide +kernel), (by decide +kernel), (by decide +kernel)⟩
theorem wv_X12_fits : Cond.instanceMethod yX12_fits ∈ wl := (wt (mt_8 (List.mem_of_getElem? (i := 120) rfl)) rfl)
theorem wz_X12_fits : Cond.selects RX12 yX12_fits yX12_fits ∈ wl := (wt (mt_8 (List.mem_of_getElem? (i := 121) rfl)) rfl)
theorem wc_X12_alone : cdw mX12_alone ∈ wl := (wt (mt_8 (List.mem_of_getElem? (i := 126) rfl)) rfl)
theorem wd_X12_alone : dOk mX12_alone 0 := ⟨(by decide +kernel), (by decide +kernel), (by decide +kernel)⟩
theorem wv_X12_alone : Cond.instanceMethod yX12_alone ∈ wl := (wt (mt_8 (List.mem_of_getElem? (i := 124) rfl)) rfl)
theorem wz_X12_alone : Cond.selects RX12 yX12_alone yX12_alone ∈ wl := (wt (mt_8 (List.mem_of_getElem? (i := 125) rfl)) rfl)
theorem wc_X12_twins : cdw mX12_twins ∈ wl := (wt (mt_8 (List.mem_of_getElem? (i := 131) rfl)) rfl)
theorem wd_X12_twins : dOk mX12_twins 0 := ⟨(by decide +kernel), (by decide +kernel), (by decide +kernel)⟩
theorem wv_X12_twins : Cond.instanceMethod yX12_twins ∈ wl := (wt (mt_8 (List.mem_of_getElem? (i := 129) rfl)) rfl)
theorem wz_X12_twins : Cond.selects RX12 yX12_twins yX12_twins ∈ wl := (wt (mt_8 (List.mem_of_getElem? (i := 130) rfl)) rfl)
theorem wc_X12_range : cdw mX12_range ∈ wl := (wt (mt_8 (List.mem_of_getElem? (i := 135) rfl)) rfl)
theorem wd_X12_range : dOk mX12_range 2 := ⟨(by decide +kernel), (by decide +kernel), (by decide +kernel)⟩
theorem wv_X12_range : Cond.instanceMethod yX12_range ∈ wl := (wt (mt_8 (List.mem_of_getElem? (i := 133) rfl)) rfl)
theorem wz_X12_range : Cond.selects RX12 yX12_range yX12_range ∈ wl := (wt (mt_8 (List.mem_of_getElem? (i := 134) rfl)) rfl)
theorem wc_X12_picture : cdw mX12_picture ∈ wl := (wt (mt_8 (List.mem_of_getElem? (i := 139) rfl)) rfl)
theorem wd_X12_picture : dOk mX12_picture 2 := ⟨(by decide +kernel), (by decide +kernel), (by decide +kernel)⟩
theorem wv_X12_picture : Cond.instanceMethod yX12_picture ∈ wl := (wt (mt_8 (List.mem_of_getElem? (i := 137) rfl)) rfl)
theorem wz_X12_picture : Cond.selects RX12 yX12_picture yX12_picture ∈ wl := (wt (mt_8 (List.mem_of_getElem? (i := 138) rfl)) rfl)
theorem wc_X12_isTurn : cdw mX12_isTurn ∈ wl := (wt (mt_8 (List.mem_of_getElem? (i := 159) rfl)) rfl)
theorem wd_X12_isTurn : dOk mX12_isTurn 2 := ⟨(by decide +kernel), (by decide +kernel), (by decide +kernel)⟩
theorem wv_X12_isTurn : Cond.instanceMethod yX12_isTurn ∈ wl := (wt (mt_8 (List.mem_of_getElem? (i := 158) rfl)) rfl)
theorem wz_X12_isTurn : Cond.selects RX12 yX12_isTurn yX12_isTurn ∈ wl := wp (mp_6 (List.mem_of_getElem? (i := 9) rfl))
theorem wc_X12_refusal : cdw mX12_refusal ∈ wl := (wt (mt_8 (List.mem_of_getElem? (i := 147) rfl)) rfl)
theorem wd_X12_refusal : dOk mX12_refusal 1 := ⟨(by decide +kernel), (by decide +kernel), (by decide +kernel)⟩
theorem wv_X12_refusal : Cond.instanceMethod yX12_refusal ∈ wl := (wt (mt_8 (List.mem_of_getElem? (i := 146) rfl)) rfl)
theorem wz_X12_refusal : Cond.selects RX12 yX12_refusal yX12_refusal ∈ wl := wp (mp_6 (List.mem_of_getElem? (i := 6) rfl))
theorem wc_X12_findTurns : cdw mX12_findTurns ∈ wl := (wt (mt_8 (List.mem_of_getElem? (i := 155) rfl)) rfl)
theorem wd_X12_findTurns : dOk mX12_findTurns 1 := ⟨(by decide +kernel), (by decide +kernel), (by decide +kernel)⟩
theorem wv_X12_findTurns : Cond.instanceMethod yX12_findTurns ∈ wl := (wt (mt_8 (List.mem_of_getElem? (i := 154) rfl)) rfl)
theorem wz_X12_findTurns : Cond.selects RX12 yX12_findTurns yX12_findTurns ∈ wl := wp (mp_6 (List.mem_of_getElem? (i := 8) rfl))
theorem wc_X12_findParted : cdw mX12_findParted ∈ wl := (wt (mt_8 (List.mem_of_getElem? (i := 151) rfl)) rfl)
theorem wd_X12_findParted : dOk mX12_findParted 1 := ⟨(by decide +kernel), (by decide +kernel), (by decide +kernel)⟩
theorem wv_X12_findParted : Cond.instanceMethod yX12_findParted ∈ wl := (wt (mt_8 (List.mem_of_getElem? (i := 150) rfl)) rfl)
theorem wz_X12_findParted : Cond.selects RX12 yX12_findParted yX12_findParted ∈ wl := wp (mp_6 (List.mem_of_getElem? (i := 7) rfl))
theorem wc_X12_tellTurns : cdw mX12_tellTurns ∈ wl := (wt (mt_8 (List.mem_of_getElem? (i := 165) rfl)) rfl)
theorem wd_X12_tellTurns : dOk mX12_tellTurns 0 := ⟨(by decide +kernel), (by decide +kernel), (by decide +kernel)⟩
theorem wv_X12_tellTurns : Cond.instanceMethod yX12_tellTurns ∈ wl := (wt (mt_8 (List.mem_of_getElem? (i := 164) rfl)) rfl)
theorem wz_X12_tellTurns : Cond.selects RX12 yX12_tellTurns yX12_tellTurns ∈ wl := wp (mp_6 (List.mem_of_getElem? (i := 10) rfl))
theorem wc_X12_parted : cdw mX12_parted ∈ wl := (wt (mt_8 (List.mem_of_getElem? (i := 143) rfl)) rfl)
theorem wd_X12_parted : dOk mX12_parted 1 := ⟨(by decide +kernel), (by decide +kernel), (by decide +kernel)⟩
theorem wv_X12_parted : Cond.instanceMethod yX12_parted ∈ wl := (wt (mt_8 (List.mem_of_getElem? (i := 141) rfl)) rfl)
theorem wz_X12_parted : Cond.selects RX12 yX12_parted yX12_parted ∈ wl := (wt (mt_8 (List.mem_of_getElem? (i := 142) rfl)) rfl)
theorem wc_X12_proof : cdw mX12_proof ∈ wl := (wt (mt_8 (List.mem_of_getElem? (i := 169) rfl)) rfl)
theorem wd_X12_proof : dOk mX12_proof 1 := ⟨(by decide +kernel), (by decide +kernel), (by decide +kernel)⟩
theorem wv_X12_proof : Cond.instanceMethod yX12_proof ∈ wl := (wt (mt_8 (List.mem_of_getElem? (i := 167) rfl)) rfl)
theorem wz_X12_proof : Cond.selects RX12 yX12_proof yX12_proof ∈ wl := (wt (mt_8 (List.mem_of_getElem? (i := 168) rfl)) rfl)
theorem wc_X12_never : cdw mX12_never ∈ wl := (wt (mt_8 (List.mem_of_getElem? (i := 174) rfl)) rfl)
theorem wd_X12_never : dOk mX12_never 1 := ⟨(by decide +kernel), (by decide +kernel), (by decide +kernel)⟩
theorem wv_X12_never : Cond.instanceMethod yX12_never ∈ wl := (wt (mt_8 (List.mem_of_getElem? (i := 172) rfl)) rfl)
theorem wz_X12_never : Cond.selects RX12 yX12_never yX12_never ∈ wl := (wt (mt_8 (List.mem_of_getElem? (i := 173) rfl)) rfl)
theorem wc_X12_changed : cdw mX12_changed ∈ wl := (wt (mt_8 (List.mem_of_getElem? (i := 186) rfl)) rfl)
theorem wd_X12_changed : dOk mX12_changed 2 := ⟨(by decide +kernel), (by decide +kernel), (by decide +kernel)⟩
theorem wv_X12_changed : Cond.instanceMethod yX12_changed ∈ wl := (wt (mt_8 (List.mem_of_getElem? (i := 185) rfl)) rfl)
theorem wz_X12_changed : Cond.selects RX12 yX12_changed yX12_changed ∈ wl := wp (mp_6 (List.mem_of_getElem? (i := 12) rfl))
theorem wc_X12_goOrders : cdw mX12_goOrders ∈ wl := (wt (mt_8 (List.mem_of_getElem? (i := 182) rfl)) rfl)
theorem wd_X12_goOrders : dOk mX12_goOrders 4 := ⟨(by decide +kernel), (by decide +kernel), (by decide +kernel)⟩
theorem wv_X12_goOrders : Cond.instanceMethod yX12_goOrders ∈ wl := (wt (mt_8 (List.mem_of_getElem? (i := 181) rfl)) rfl)
theorem wz_X12_goOrders : Cond.selects RX12 yX12_goOrders yX12_goOrders ∈ wl := wp (mp_6 (List.mem_of_getElem? (i := 11) rfl))
theorem wc_X12_changes : cdw mX12_changes ∈ wl := (wt (mt_8 (List.mem_of_getElem? (i := 178) rfl)) rfl)
theorem wd_X12_changes : dOk mX12_changes 1 := ⟨(by decide +kernel), (by decide +kernel), (by decide +kernel)⟩
theorem wv_X12_changes : Cond.instanceMethod yX12_changes ∈ wl := (wt (mt_8 (List.mem_of_getElem? (i := 176) rfl)) rfl)
theorem wz_X12_changes : Cond.selects RX12 yX12_changes yX12_changes ∈ wl := (wt (mt_8 (List.mem_of_getElem? (i := 177) rfl)) rfl)
theorem wc_X12_sumOf : cdw mX12_sumOf ∈ wl := (wt (mt_8 (List.mem_of_getElem? (i := 199) rfl)) rfl)
theorem wd_X12_sumOf : dOk mX12_sumOf 1 := ⟨(by decide +kernel), (by decide +kernel), (by decide +kernel)⟩
theorem wv_X12_sumOf : Cond.instanceMethod yX12_sumOf ∈ wl := (wt (mt_8 (List.mem_of_getElem? (i := 198) rfl)) rfl)
theorem wz_X12_sumOf : Cond.selects RX12 yX12_sumOf yX12_sumOf ∈ wl := wp (mp_6 (List.mem_of_getElem? (i := 14) rfl))
theorem wc_X12_dimmest : cdw mX12_dimmest ∈ wl := (wt (mt_8 (List.mem_of_getElem? (i := 195) rfl)) rfl)
theorem wd_X12_dimmest : dOk mX12_dimmest 0 := ⟨(by decide +kernel), (by decide +kernel), (by decide +kernel)⟩
theorem wv_X12_dimmest : Cond.instanceMethod yX12_dimmest ∈ wl := (wt (mt_8 (List.mem_of_getElem? (i := 194) rfl)) rfl)
theorem wz_X12_dimmest : Cond.selects RX12 yX12_dimmest yX12_dimmest ∈ wl := wp (mp_6 (List.mem_of_getElem? (i := 13) rfl))
theorem wc_X12_even : cdw mX12_even ∈ wl := (wt (mt_8 (List.mem_of_getElem? (i := 190) rfl)) rfl)
theorem wd_X12_even : dOk mX12_even 2 := ⟨(by decide +kernel), (by decide +kernel), (by decide +kernel)⟩
theorem wv_X12_even : Cond.instanceMethod yX12_even ∈ wl := (wt (mt_8 (List.mem_of_getElem? (i := 188) rfl)) rfl)
theorem wz_X12_even : Cond.selects RX12 yX12_even yX12_even ∈ wl := (wt (mt_8 (List.mem_of_getElem? (i := 189) rfl)) rfl)
theorem wc_X12_better : cdw mX12_better ∈ wl := (wt (mt_8 (List.mem_of_getElem? (i := 203) rfl)) rfl)
theorem wd_X12_better : dOk mX12_better 1 := ⟨(by decide +kernel), (by decide +kernel), (by decide +kernel)⟩
theorem wv_X12_better : Cond.instanceMethod yX12_better ∈ wl := (wt (mt_8 (List.mem_of_getElem? (i := 201) rfl)) rfl)
theorem wz_X12_better : Cond.selects RX12 yX12_better yX12_better ∈ wl := (wt (mt_8 (List.mem_of_getElem? (i := 202) rfl)) rfl)
theorem wc_X12_faults : cdw mX12_faults ∈ wl := (wt (mt_8 (List.mem_of_getElem? (i := 207) rfl)) rfl)
theorem wd_X12_faults : dOk mX12_faults 0 := ⟨(by decide +kernel), (by decide +kernel), (by decide +kernel)⟩
theorem wv_X12_faults : Cond.instanceMethod yX12_faults ∈ wl := (wt (mt_8 (List.mem_of_getElem? (i := 205) rfl)) rfl)
theorem wz_X12_faults : Cond.selects RX12 yX12_faults yX12_faults ∈ wl := (wt (mt_8 (List.mem_of_getElem? (i := 206) rfl)) rfl)
theorem wc_X12_fault_ : cdw mX12_fault_ ∈ wl := (wt (mt_8 (List.mem_of_getElem? (i := 215) rfl)) rfl)
theorem wd_X12_fault_ : dOk mX12_fault_ 2 := ⟨(by decide +kernel), (by decide +kernel), (by decide +kernel)⟩
theorem wv_X12_fault_ : Cond.instanceMethod yX12_fault_ ∈ wl := (wt (mt_8 (List.mem_of_getElem? (i := 213) rfl)) rfl)
theorem wz_X12_fault_ : Cond.selects RX12 yX12_fault_ yX12_fault_ ∈ wl := (wt (mt_8 (List.mem_of_getElem? (i := 214) rfl)) rfl)
theorem wc_X12_would : cdw mX12_would ∈ wl := (wt (mt_8 (List.mem_of_getElem? (i := 223) rfl)) rfl)
theorem wd_X12_would : dOk mX12_would 3 := ⟨(by decide +kernel), (by decide +kernel), (by decide +kernel)⟩
theorem wv_X12_would : Cond.instanceMethod yX12_would ∈ wl := (wt (mt_8 (List.mem_of_getElem? (i := 221) rfl)) rfl)
theorem wz_X12_would : Cond.selects RX12 yX12_would yX12_would ∈ wl := (wt (mt_8 (List.mem_of_getElem? (i := 222) rfl)) rfl)
theorem wc_X12_tells : cdw mX12_tells ∈ wl := (wt (mt_8 (List.mem_of_getElem? (i := 227) rfl)) rfl)
theorem wd_X12_tells : dOk mX12_tells 1 := ⟨(by decide +kernel), (by decide +kernel), (by decide +kernel)⟩
theorem wv_X12_tells : Cond.instanceMethod yX12_tells ∈ wl := (wt (mt_8 (List.mem_of_getElem? (i := 225) rfl)) rfl)
theorem wz_X12_tells : Cond.selects RX12 yX12_tells yX12_tells ∈ wl := (wt (mt_8 (List.mem_of_getElem? (i := 226) rfl)) rfl)
theorem wc_X12_firstUnlike : cdw mX12_firstUnlike ∈ wl := (wt (mt_8 (List.mem_of_getElem? (i := 235) rfl)) rfl)
theorem wd_X12_firstUnlike : dOk mX12_firstUnlike 0 := ⟨(by decide +kernel), (by decide +kernel), (by decide +kernel)⟩
theorem wv_X12_firstUnlike : Cond.instanceMethod yX12_firstUnlike ∈ wl := (wt (mt_8 (List.mem_of_getElem? (i := 234) rfl)) rfl)
theorem wz_X12_firstUnlike : Cond.selects RX12 yX12_firstUnlike yX12_firstUnlike ∈ wl := wp (mp_7 (List.mem_of_getElem? (i := 1) rfl))
theorem wc_X12_hidden : cdw mX12_hidden ∈ wl := (wt (mt_8 (List.mem_of_getElem? (i := 231) rfl)) rfl)
theorem wd_X12_hidden : dOk mX12_hidden 0 := ⟨(by decide +kernel), (by decide +kernel), (by decide +kernel)⟩
theorem wv_X12_hidden : Cond.instanceMethod yX12_hidden ∈ wl := (wt (mt_8 (List.mem_of_getElem? (i := 229) rfl)) rfl)
theorem wz_X12_hidden : Cond.selects RX12 yX12_hidden yX12_hidden ∈ wl := (wt (mt_8 (List.mem_of_getElem? (i := 230) rfl)) rfl)
theorem wc_X12_alike : cdw mX12_alike ∈ wl := (wt (mt_8 (List.mem_of_getElem? (i := 239) rfl)) rfl)
theorem wd_X12_alike : dOk mX12_alike 2 := ⟨(by decide +kernel), (by decide +kernel), (by decide +kernel)⟩
theorem wv_X12_alike : Cond.instanceMethod yX12_alike ∈ wl := (wt (mt_8 (List.mem_of_getElem? (i := 237) rfl)) rfl)
theorem wz_X12_alike : Cond.selects RX12 yX12_alike yX12_alike ∈ wl := (wt (mt_8 (List.mem_of_getElem? (i := 238) rfl)) rfl)
theorem wc_X12_seen : cdw mX12_seen ∈ wl := (wt (mt_9 (List.mem_of_getElem? (i := 3) rfl)) rfl)
theorem wd_X12_seen : dOk mX12_seen 3 := ⟨(by decide +kernel), (by decide +kernel), (by decide +kernel)⟩
theorem wv_X12_seen : Cond.instanceMethod yX12_seen ∈ wl := (wt (mt_9 (List.mem_of_getElem? (i := 1) rfl)) rfl)
theorem wz_X12_seen : Cond.selects RX12 yX12_seen yX12_seen ∈ wl := (wt (mt_9 (List.mem_of_getElem? (i := 2) rfl)) rfl)
theorem wc_X12_forget : cdw mX12_forget ∈ wl := (wt (mt_9 (List.mem_of_getElem? (i := 7) rfl)) rfl)
theorem wd_X12_forget : dOk mX12_forget 0 := ⟨(by decide +kernel), (by decide +kernel), (by decide +kernel)⟩
theorem wv_X12_forget : Cond.instanceMethod yX12_forget ∈ wl := (wt (mt_9 (List.mem_of_getElem? (i := 5) rfl)) rfl)
theorem wz_X12_forget : Cond.selects RX12 yX12_forget yX12_forget ∈ wl := (wt (mt_9 (List.mem_of_getElem? (i := 6) rfl)) rfl)
theorem wc_X12_bar : cdw mX12_bar ∈ wl := (wt (mt_9 (List.mem_of_getElem? (i := 19) rfl)) rfl)
theorem wd_X12_bar : dOk mX12_bar 1 := ⟨(by decide +kernel), (by decide +kernel), (by decide +kernel)⟩
theorem wv_X12_bar : Cond.instanceMethod yX12_bar ∈ wl := (wt (mt_9 (List.mem_of_getElem? (i := 18) rfl)) rfl)
theorem wz_X12_bar : Cond.selects RX12 yX12_bar yX12_bar ∈ wl := wp (mp_7 (List.mem_of_getElem? (i := 3) rfl))
theorem wc_X12_findAgreed : cdw mX12_findAgreed ∈ wl := (wt (mt_9 (List.mem_of_getElem? (i := 15) rfl)) rfl)
theorem wd_X12_findAgreed : dOk mX12_findAgreed 0 := ⟨(by decide +kernel), (by decide +kernel), (by decide +kernel)⟩
theorem wv_X12_findAgreed : Cond.instanceMethod yX12_findAgreed ∈ wl := (wt (mt_9 (List.mem_of_getElem? (i := 14) rfl)) rfl)
theorem wz_X12_findAgreed : Cond.selects RX12 yX12_findAgreed yX12_findAgreed ∈ wl := wp (mp_7 (List.mem_of_getElem? (i := 2) rfl))
theorem wc_X12_which : cdw mX12_which ∈ wl := (wt (mt_9 (List.mem_of_getElem? (i := 11) rfl)) rfl)
theorem wd_X12_which : dOk mX12_which 0 := ⟨(by decide +kernel), (by decide +kernel), (by decide +kernel)⟩
theorem wv_X12_which : Cond.instanceMethod yX12_which ∈ wl := (wt (mt_9 (List.mem_of_getElem? (i := 9) rfl)) rfl)
theorem wz_X12_which : Cond.selects RX12 yX12_which yX12_which ∈ wl := (wt (mt_9 (List.mem_of_getElem? (i := 10) rfl)) rfl)
theorem wc_X12_judge : cdw mX12_judge ∈ wl := (wt (mt_9 (List.mem_of_getElem? (i := 23) rfl)) rfl)
theorem wd_X12_judge : dOk mX12_judge 1 := ⟨(by decide +kernel), (by decide +kernel), (by decide +kernel)⟩
theorem wv_X12_judge : Cond.instanceMethod yX12_judge ∈ wl := (wt (mt_9 (List.mem_of_getElem? (i := 21) rfl)) rfl)
theorem wz_X12_judge : Cond.selects RX12 yX12_judge yX12_judge ∈ wl := (wt (mt_9 (List.mem_of_getElem? (i := 22) rfl)) rfl)
theorem wc_X12_next : cdw mX12_next ∈ wl := (wt (mt_9 (List.mem_of_getElem? (i := 27) rfl)) rfl)
theorem wd_X12_next : dOk mX12_next 0 := ⟨(by decide +kernel), (by decide +kernel), (by decide +kernel)⟩
theorem wv_X12_next : Cond.instanceMethod yX12_next ∈ wl := (wt (mt_9 (List.mem_of_getElem? (i := 25) rfl)) rfl)
theorem wz_X12_next : Cond.selects RX12 yX12_next yX12_next ∈ wl := (wt (mt_9 (List.mem_of_getElem? (i := 26) rfl)) rfl)
theorem wc_X12_test : cdw mX12_test ∈ wl := (wt (mt_9 (List.mem_of_getElem? (i := 31) rfl)) rfl)
theorem wd_X12_test : dOk mX12_test 2 := ⟨(by decide +kernel), (by decide +kernel), (by decide +kernel)⟩
theorem wv_X12_test : Cond.instanceMethod yX12_test ∈ wl := (wt (mt_9 (List.mem_of_getElem? (i := 29) rfl)) rfl)
theorem wz_X12_test : Cond.selects RX12 yX12_test yX12_test ∈ wl := (wt (mt_9 (List.mem_of_getElem? (i := 30) rfl)) rfl)
theorem wc_X12_findAnswers : cdw mX12_findAnswers ∈ wl := (wt (mt_9 (List.mem_of_getElem? (i := 39) rfl)) rfl)
theorem wd_X12_findAnswers : dOk mX12_findAnswers 0 := ⟨(by decide +kernel), (by decide +kernel), (by decide +kernel)⟩
theorem wv_X12_findAnswers : Cond.instanceMethod yX12_findAnswers ∈ wl := (wt (mt_9 (List.mem_of_getElem? (i := 38) rfl)) rfl)
theorem wz_X12_findAnswers : Cond.selects RX12 yX12_findAnswers yX12_findAnswers ∈ wl := wp (mp_7 (List.mem_of_getElem? (i := 4) rfl))
theorem wc_X12_firstOf : cdw mX12_firstOf ∈ wl := (wt (mt_9 (List.mem_of_getElem? (i := 43) rfl)) rfl)
theorem wd_X12_firstOf : dOk mX12_firstOf 2 := ⟨(by decide +kernel), (by decide +kernel), (by decide +kernel)⟩
theorem wv_X12_firstOf : Cond.instanceMethod yX12_firstOf ∈ wl := (wt (mt_9 (List.mem_of_getElem? (i := 42) rfl)) rfl)
theorem wz_X12_firstOf : Cond.selects RX12 yX12_firstOf yX12_firstOf ∈ wl := wp (mp_7 (List.mem_of_getElem? (i := 5) rfl))
theorem wc_X12_areAlike : cdw mX12_areAlike ∈ wl := (wt (mt_9 (List.mem_of_getElem? (i := 55) rfl)) rfl)
theorem wd_X12_areAlike : dOk mX12_areAlike 3 := ⟨(by decide +kernel), (by decide +kernel), (by decide +kernel)⟩
theorem wv_X12_areAlike : Cond.instanceMethod yX12_areAlike ∈ wl := (wt (mt_9 (List.mem_of_getElem? (i := 54) rfl)) rfl)
theorem wz_X12_areAlike : Cond.selects RX12 yX12_areAlike yX12_areAlike ∈ wl := wp (mp_7 (List.mem_of_getElem? (i := 8) rfl))
theorem wc_X12_parts : cdw mX12_parts ∈ wl := (wt (mt_9 (List.mem_of_getElem? (i := 51) rfl)) rfl)
theorem wd_X12_parts : dOk mX12_parts 3 := ⟨(by decide +kernel), (by decide +kernel), (by decide +kernel)⟩
theorem wv_X12_parts : Cond.instanceMethod yX12_parts ∈ wl := (wt (mt_9 (List.mem_of_getElem? (i := 50) rfl)) rfl)
theorem wz_X12_parts : Cond.selects RX12 yX12_parts yX12_parts ∈ wl := wp (mp_7 (List.mem_of_getElem? (i := 7) rfl))
theorem wc_X12_depthOf : cdw mX12_depthOf ∈ wl := (wt (mt_9 (List.mem_of_getElem? (i := 47) rfl)) rfl)
theorem wd_X12_depthOf : dOk mX12_depthOf 2 := ⟨(by decide +kernel), (by decide +kernel), (by decide +kernel)⟩
theorem wv_X12_depthOf : Cond.instanceMethod yX12_depthOf ∈ wl := (wt (mt_9 (List.mem_of_getElem? (i := 46) rfl)) rfl)
theorem wz_X12_depthOf : Cond.selects RX12 yX12_depthOf yX12_depthOf ∈ wl := wp (mp_7 (List.mem_of_getElem? (i := 6) rfl))
theorem wc_X12_depthBy : cdw mX12_depthBy ∈ wl := (wt (mt_9 (List.mem_of_getElem? (i := 59) rfl)) rfl)
theorem wd_X12_depthBy : dOk mX12_depthBy 3 := ⟨(by decide +kernel), (by decide +kernel), (by decide +kernel)⟩
theorem wv_X12_depthBy : Cond.instanceMethod yX12_depthBy ∈ wl := (wt (mt_9 (List.mem_of_getElem? (i := 58) rfl)) rfl)
theorem wz_X12_depthBy : Cond.selects RX12 yX12_depthBy yX12_depthBy ∈ wl := wp (mp_7 (List.mem_of_getElem? (i := 9) rfl))
theorem wc_X12_firstTest : cdw mX12_firstTest ∈ wl := (wt (mt_9 (List.mem_of_getElem? (i := 63) rfl)) rfl)
theorem wd_X12_firstTest : dOk mX12_firstTest 2 := ⟨(by decide +kernel), (by decide +kernel), (by decide +kernel)⟩
theorem wv_X12_firstTest : Cond.instanceMethod yX12_firstTest ∈ wl := (wt (mt_9 (List.mem_of_getElem? (i := 62) rfl)) rfl)
theorem wz_X12_firstTest : Cond.selects RX12 yX12_firstTest yX12_firstTest ∈ wl := wp (mp_7 (List.mem_of_getElem? (i := 10) rfl))
theorem wc_X12_tree : cdw mX12_tree ∈ wl := (wt (mt_9 (List.mem_of_getElem? (i := 35) rfl)) rfl)
theorem wd_X12_tree : dOk mX12_tree 0 := ⟨(by decide +kernel), (by decide +kernel), (by decide +kernel)⟩
theorem wv_X12_tree : Cond.instanceMethod yX12_tree ∈ wl := (wt (mt_9 (List.mem_of_getElem? (i := 33) rfl)) rfl)
theorem wz_X12_tree : Cond.selects RX12 yX12_tree yX12_tree ∈ wl := (wt (mt_9 (List.mem_of_getElem? (i := 34) rfl)) rfl)
theorem wc_X12_path : cdw mX12_path ∈ wl := (wt (mt_9 (List.mem_of_getElem? (i := 67) rfl)) rfl)
theorem wd_X12_path : dOk mX12_path 1 := ⟨(by decide +kernel), (by decide +kernel), (by decide +kernel)⟩
theorem wv_X12_path : Cond.instanceMethod yX12_path ∈ wl := (wt (mt_9 (List.mem_of_getElem? (i := 65) rfl)) rfl)
theorem wz_X12_path : Cond.selects RX12 yX12_path yX12_path ∈ wl := (wt (mt_9 (List.mem_of_getElem? (i := 66) rfl)) rfl)
theorem wc_X12_keep : cdw mX12_keep ∈ wl := (wt (mt_9 (List.mem_of_getElem? (i := 71) rfl)) rfl)
theorem wd_X12_keep : dOk mX12_keep 1 := ⟨(by decide +kernel), (by decide +kernel), (by decide +kernel)⟩
theorem wv_X12_keep : Cond.instanceMethod yX12_keep ∈ wl := (wt (mt_9 (List.mem_of_getElem? (i := 69) rfl)) rfl)
theorem wz_X12_keep : Cond.selects RX12 yX12_keep yX12_keep ∈ wl := (wt (mt_9 (List.mem_of_getElem? (i := 70) rfl)) rfl)
theorem wc_X12_again : cdw mX12_again ∈ wl := (wt (mt_9 (List.mem_of_getElem? (i := 75) rfl)) rfl)
theorem wd_X12_again : dOk mX12_again 1 := ⟨(by decide +kernel), (by decide +kernel), (by decide +kernel)⟩
theorem wv_X12_again : Cond.instanceMethod yX12_again ∈ wl := (wt (mt_9 (List.mem_of_getElem? (i := 73) rfl)) rfl)
theorem wz_X12_again : Cond.selects RX12 yX12_again yX12_again ∈ wl := (wt (mt_9 (List.mem_of_getElem? (i := 74) rfl)) rfl)
theorem wc_X12_count : cdw mX12_count ∈ wl := (wt (mt_9 (List.mem_of_getElem? (i := 79) rfl)) rfl)
theorem wd_X12_count : dOk mX12_count 1 := ⟨(by decide +kernel), (by decide +kernel), (by decide +kernel)⟩
theorem wv_X12_count : Cond.instanceMethod yX12_count ∈ wl := (wt (mt_9 (List.mem_of_getElem? (i := 77) rfl)) rfl)
theorem wz_X12_count : Cond.selects RX12 yX12_count yX12_count ∈ wl := (wt (mt_9 (List.mem_of_getElem? (i := 78) rfl)) rfl)
theorem wc_X12_row : cdw mX12_row ∈ wl := (wt (mt_9 (List.mem_of_getElem? (i := 83) rfl)) rfl)
theorem wd_X12_row : dOk mX12_row 1 := ⟨(by decide +kernel), (by decide +kernel), (by decide +kernel)⟩
theorem wv_X12_row : Cond.instanceMethod yX12_row ∈ wl := (wt (mt_9 (List.mem_of_getElem? (i := 81) rfl)) rfl)
theorem wz_X12_row : Cond.selects RX12 yX12_row yX12_row ∈ wl := (wt (mt_9 (List.mem_of_getElem? (i := 82) rfl)) rfl)
theorem wc_J6_numberOfTrailingZeros_0f7a4 : cdw mJ6_numberOfTrailingZeros_0f7a4 ∈ wl := (wt (mt_3 (List.mem_of_getElem? (i := 230) rfl)) rfl)
theorem wd_J6_numberOfTrailingZeros_0f7a4 : dOk mJ6_numberOfTrailingZeros_0f7a4 1 := ⟨(by decide +kernel), (by decide +kernel), (by decide +kernel)⟩
theorem ws_J6_numberOfTrailingZeros_0f7a4 : Cond.static yJ6_numberOfTrailingZeros_0f7a4 ∈ wl := (wt (mt_3 (List.mem_of_getElem? (i := 229) rfl)) rfl)
theorem wc_J6_bitCount_0f7a4 : cdw mJ6_bitCount_0f7a4 ∈ wl := (wt (mt_4 (List.mem_of_getElem? (i := 220) rfl)) rfl)
theorem wd_J6_bitCount_0f7a4 : dOk mJ6_bitCount_0f7a4 1 := ⟨(by decide +kernel), (by decide +kernel), (by decide +kernel)⟩
theorem ws_J6_bitCount_0f7a4 : Cond.static yJ6_bitCount_0f7a4 ∈ wl := (wt (mt_4 (List.mem_of_getElem? (i := 219) rfl)) rfl)
theorem wc_J13_numberOfTrailingZeros_95d88 : cdw mJ13_numberOfTrailingZeros_95d88 ∈ wl := (wt (mt_3 (List.mem_of_getElem? (i := 227) rfl)) rfl)
theorem wd_J13_numberOfTrailingZeros_95d88 : dOk mJ13_numberOfTrailingZeros_95d88 1 := ⟨(by decide +kernel), (by decide +kernel), (by decide +kernel)⟩
theorem ws_J13_numberOfTrailingZeros_95d88 : Cond.static yJ13_numberOfTrailingZeros_95d88 ∈ wl := (wt (mt_3 (List.mem_of_getElem? (i := 226) rfl)) rfl)
theorem wc_J13_bitCount_95d88 : cdw mJ13_bitCount_95d88 ∈ wl := (wt (mt_3 (List.mem_of_getElem? (i := 221) rfl)) rfl)
theorem wd_J13_bitCount_95d88 : dOk mJ13_bitCount_95d88 1 := ⟨(by decide +kernel), (by decide +kernel), (by decide +kernel)⟩
theorem ws_J13_bitCount_95d88 : Cond.static yJ13_bitCount_95d88 ∈ wl := (wt (mt_3 (List.mem_of_getElem? (i := 220) rfl)) rfl)
theorem wc_J9_max_7cf53 : cdw mJ9_max_7cf53 ∈ wl := (wt (mt_3 (List.mem_of_getElem? (i := 178) rfl)) rfl)
theorem wd_J9_max_7cf53 : dOk mJ9_max_7cf53 2 := ⟨(by decide +kernel), (by decide +kernel), (by decide +kernel)⟩
theorem ws_J9_max_7cf53 : Cond.static yJ9_max_7cf53 ∈ wl := (wt (mt_3 (List.mem_of_getElem? (i := 177) rfl)) rfl)
theorem wc_J9_max_f86c9 : cdw mJ9_max_f86c9 ∈ wl := (wt (mt_8 (List.mem_of_getElem? (i := 21) rfl)) rfl)
theorem wd_J9_max_f86c9 : dOk mJ9_max_f86c9 2 := ⟨(by decide +kernel), (by decide +kernel), (by decide +kernel)⟩
theorem ws_J9_max_f86c9 : Cond.static yJ9_max_f86c9 ∈ wl := (wt (mt_8 (List.mem_of_getElem? (i := 20) rfl)) rfl)
theorem wc_J9_min_7cf53 : cdw mJ9_min_7cf53 ∈ wl := (wt (mt_3 (List.mem_of_getElem? (i := 78) rfl)) rfl)
theorem wd_J9_min_7cf53 : dOk mJ9_min_7cf53 2 := ⟨(by decide +kernel), (by decide +kernel), (by decide +kernel)⟩
theorem ws_J9_min_7cf53 : Cond.static yJ9_min_7cf53 ∈ wl := (wt (mt_3 (List.mem_of_getElem? (i := 77) rfl)) rfl)
theorem wc_J7_rangeCheck_23922 : cdw mJ7_rangeCheck_23922 ∈ wl := (wt (mt_4 (List.mem_of_getElem? (i := 191) rfl)) rfl)
theorem wd_J7_rangeCheck_23922 : dOk mJ7_rangeCheck_23922 3 := ⟨(by decide +kernel), (by decide +kernel), (by decide +kernel)⟩
theorem ws_J7_rangeCheck_23922 : Cond.static yJ7_rangeCheck_23922 ∈ wl := (wt (mt_4 (List.mem_of_getElem? (i := 190) rfl)) rfl)
theorem wc_J7_fill_d0a16 : cdw mJ7_fill_d0a16 ∈ wl := (wt (mt_3 (List.mem_of_getElem? (i := 141) rfl)) rfl)
theorem wd_J7_fill_d0a16 : dOk mJ7_fill_d0a16 2 := ⟨(by decide +kernel), (by decide +kernel), (by decide +kernel)⟩
theorem ws_J7_fill_d0a16 : Cond.static yJ7_fill_d0a16 ∈ wl := (wt (mt_3 (List.mem_of_getElem? (i := 140) rfl)) rfl)
theorem wc_J7_fill_53178 : cdw mJ7_fill_53178 ∈ wl := (wt (mt_4 (List.mem_of_getElem? (i := 112) rfl)) rfl)
theorem wd_J7_fill_53178 : dOk mJ7_fill_53178 2 := ⟨(by decide +kernel), (by decide +kernel), (by decide +kernel)⟩
theorem ws_J7_fill_53178 : Cond.static yJ7_fill_53178 ∈ wl := (wt (mt_4 (List.mem_of_getElem? (i := 111) rfl)) rfl)
theorem wc_J7_fill_fda19 : cdw mJ7_fill_fda19 ∈ wl := (wt (mt_4 (List.mem_of_getElem? (i := 188) rfl)) rfl)
theorem wd_J7_fill_fda19 : dOk mJ7_fill_fda19 4 := ⟨(by decide +kernel), (by decide +kernel), (by decide +kernel)⟩
theorem ws_J7_fill_fda19 : Cond.static yJ7_fill_fda19 ∈ wl := (wt (mt_4 (List.mem_of_getElem? (i := 187) rfl)) rfl)
theorem lo_X2_29 : Cond.classLink RX2 29 RX3 ∈ wl := (wt (mt_3 (List.mem_of_getElem? (i := 0) rfl)) rfl)
theorem lo_X11_16 : Cond.classLink RX11 16 RX9 ∈ wl := (wt (mt_1 (List.mem_of_getElem? (i := 102) rfl)) rfl)
theorem lo_X11_23 : Cond.classLink RX11 23 RX6 ∈ wl := (wt (mt_1 (List.mem_of_getElem? (i := 119) rfl)) rfl)
theorem lo_X11_32 : Cond.classLink RX11 32 RX10 ∈ wl := (wt (mt_1 (List.mem_of_getElem? (i := 164) rfl)) rfl)
theorem lo_X11_39 : Cond.classLink RX11 39 RX1 ∈ wl := (wt (mt_1 (List.mem_of_getElem? (i := 179) rfl)) rfl)
theorem lo_X11_48 : Cond.classLink RX11 48 RX3 ∈ wl := (wt (mt_2 (List.mem_of_getElem? (i := 13) rfl)) rfl)
theorem lo_X11_55 : Cond.classLink RX11 55 RX8 ∈ wl := (wt (mt_2 (List.mem_of_getElem? (i := 49) rfl)) rfl)
theorem lo_X11_64 : Cond.classLink RX11 64 RX4 ∈ wl := (wt (mt_2 (List.mem_of_getElem? (i := 89) rfl)) rfl)
theorem lo_X11_7 : Cond.classLink RX11 7 RX0 ∈ wl := (wt (mt_1 (List.mem_of_getElem? (i := 32) rfl)) rfl)
theorem lo_X11_73 : Cond.classLink RX11 73 RX7 ∈ wl := (wt (mt_2 (List.mem_of_getElem? (i := 150) rfl)) rfl)
theorem lo_X11_82 : Cond.classLink RX11 82 RX5 ∈ wl := (wt (mt_2 (List.mem_of_getElem? (i := 188) rfl)) rfl)
theorem lo_X11_91 : Cond.classLink RX11 91 RX2 ∈ wl := (wt (mt_2 (List.mem_of_getElem? (i := 233) rfl)) rfl)
theorem lo_L_23 : Cond.classLink RL 23 RX12 ∈ wl := (wt (mt_6 (List.mem_of_getElem? (i := 118) rfl)) rfl)
theorem lo_L_8 : Cond.classLink RL 8 RX11 ∈ wl := (wt (mt_1 (List.mem_of_getElem? (i := 24) rfl)) rfl)
theorem fo_X0_15 : FOk RX0 15 0 1 := ⟨_, rfl, by decide, (wt (mt_1 (List.mem_of_getElem? (i := 44) rfl)) rfl), rfl⟩
theorem fo_X0_18 : FOk RX0 18 0 2 := ⟨_, rfl, by decide, (wt (mt_1 (List.mem_of_getElem? (i := 49) rfl)) rfl), rfl⟩
theorem fo_X0_21 : FOk RX0 21 0 3 := ⟨_, rfl, by decide, (wt (mt_1 (List.mem_of_getElem? (i := 52) rfl)) rfl), rfl⟩
theorem fo_X0_24 : FOk RX0 24 0 4 := ⟨_, rfl, by decide, (wt (mt_1 (List.mem_of_getElem? (i := 55) rfl)) rfl), rfl⟩
theorem fo_X0_27 : FOk RX0 27 0 5 := ⟨_, rfl, by decide, (wt (mt_1 (List.mem_of_getElem? (i := 58) rfl)) rfl), rfl⟩
theorem fo_X0_31 : FOk RX0 31 0 6 := ⟨_, rfl, by decide, (wt (mt_1 (List.mem_of_getElem? (i := 61) rfl)) rfl), rfl⟩
theorem fo_X0_34 : FOk RX0 34 0 7 := ⟨_, rfl, by decide, (wt (mt_1 (List.mem_of_getElem? (i := 65) rfl)) rfl), rfl⟩
theorem fo_X0_37 : FOk RX0 37 0 8 := ⟨_, rfl, by decide, (wt (mt_1 (List.mem_of_getElem? (i := 69) rfl)) rfl), rfl⟩
theorem fo_X0_40 : FOk RX0 40 0 9 := ⟨_, rfl, by decide, (wt (mt_1 (List.mem_of_getElem? (i := 73) rfl)) rfl), rfl⟩
theorem fo_X0_44 : FOk RX0 44 0 10 := ⟨_, rfl, by decide, (wt (mt_1 (List.mem_of_getElem? (i := 75) rfl)) rfl), rfl⟩
theorem fo_X0_9 : FOk RX0 9 0 0 := ⟨_, rfl, by decide, (wt (mt_1 (List.mem_of_getElem? (i := 38) rfl)) rfl), rfl⟩
theorem fo_X1_107 : FOk RX1 107 1 15 := ⟨_, rfl, by decide, (wt (mt_1 (List.mem_of_getElem? (i := 204) rfl)) rfl), rfl⟩
theorem fo_X1_125 : FOk RX1 125 0 3 := ⟨_, rfl, by decide, (wt (mt_1 (List.mem_of_getElem? (i := 54) rfl)) rfl), rfl⟩
theorem fo_X1_128 : FOk RX1 128 0 8 := ⟨_, rfl, by decide, (wt (mt_1 (List.mem_of_getElem? (i := 72) rfl)) rfl), rfl⟩
theorem fo_X1_131 : FOk RX1 131 0 2 := ⟨_, rfl, by decide, (wt (mt_1 (List.mem_of_getElem? (i := 51) rfl)) rfl), rfl⟩
theorem fo_X1_141 : Cond.fieldLink RX1 141 "NinetyLamps$Flow" "SHARES" "[I" ∈ wl := (wt (mt_4 (List.mem_of_getElem? (i := 5) rfl)) rfl)
theorem fo_X1_15 : FOk RX1 15 1 2 := ⟨_, rfl, by decide, (wt (mt_1 (List.mem_of_getElem? (i := 187) rfl)) rfl), rfl⟩
theorem fo_X1_152 : FOk RX1 152 0 4 := ⟨_, rfl, by decide, (wt (mt_1 (List.mem_of_getElem? (i := 57) rfl)) rfl), rfl⟩
theorem fo_X1_155 : FOk RX1 155 0 1 := ⟨_, rfl, by decide, (wt (mt_1 (List.mem_of_getElem? (i := 48) rfl)) rfl), rfl⟩
theorem fo_X1_19 : FOk RX1 19 1 3 := ⟨_, rfl, by decide, (wt (mt_1 (List.mem_of_getElem? (i := 188) rfl)) rfl), rfl⟩
theorem fo_X1_22 : FOk RX1 22 1 4 := ⟨_, rfl, by decide, (wt (mt_1 (List.mem_of_getElem? (i := 189) rfl)) rfl), rfl⟩
theorem fo_X1_25 : FOk RX1 25 1 5 := ⟨_, rfl, by decide, (wt (mt_1 (List.mem_of_getElem? (i := 192) rfl)) rfl), rfl⟩
theorem fo_X1_28 : FOk RX1 28 1 6 := ⟨_, rfl, by decide, (wt (mt_1 (List.mem_of_getElem? (i := 194) rfl)) rfl), rfl⟩
theorem fo_X1_31 : FOk RX1 31 1 7 := ⟨_, rfl, by decide, (wt (mt_1 (List.mem_of_getElem? (i := 195) rfl)) rfl), rfl⟩
theorem fo_X1_34 : FOk RX1 34 1 10 := ⟨_, rfl, by decide, (wt (mt_1 (List.mem_of_getElem? (i := 199) rfl)) rfl), rfl⟩
theorem fo_X1_38 : FOk RX1 38 1 11 := ⟨_, rfl, by decide, (wt (mt_1 (List.mem_of_getElem? (i := 200) rfl)) rfl), rfl⟩
theorem fo_X1_41 : FOk RX1 41 1 12 := ⟨_, rfl, by decide, (wt (mt_1 (List.mem_of_getElem? (i := 201) rfl)) rfl), rfl⟩
theorem fo_X1_44 : FOk RX1 44 1 16 := ⟨_, rfl, by decide, (wt (mt_1 (List.mem_of_getElem? (i := 205) rfl)) rfl), rfl⟩
theorem fo_X1_47 : FOk RX1 47 1 0 := ⟨_, rfl, by decide, (wt (mt_1 (List.mem_of_getElem? (i := 185) rfl)) rfl), rfl⟩
theorem fo_X1_59 : FOk RX1 59 1 17 := ⟨_, rfl, by decide, (wt (mt_1 (List.mem_of_getElem? (i := 206) rfl)) rfl), rfl⟩
theorem fo_X1_62 : FOk RX1 62 1 18 := ⟨_, rfl, by decide, (wt (mt_1 (List.mem_of_getElem? (i := 208) rfl)) rfl), rfl⟩
theorem fo_X1_66 : FOk RX1 66 1 19 := ⟨_, rfl, by decide, (wt (mt_1 (List.mem_of_getElem? (i := 210) rfl)) rfl), rfl⟩
theorem fo_X1_69 : FOk RX1 69 1 8 := ⟨_, rfl, by decide, (wt (mt_1 (List.mem_of_getElem? (i := 197) rfl)) rfl), rfl⟩
theorem fo_X1_72 : FOk RX1 72 1 9 := ⟨_, rfl, by decide, (wt (mt_1 (List.mem_of_getElem? (i := 198) rfl)) rfl), rfl⟩
theorem fo_X1_75 : FOk RX1 75 0 0 := ⟨_, rfl, by decide, (wt (mt_1 (List.mem_of_getElem? (i := 42) rfl)) rfl), rfl⟩
theorem fo_X1_80 : FOk RX1 80 0 5 := ⟨_, rfl, by decide, (wt (mt_1 (List.mem_of_getElem? (i := 59) rfl)) rfl), rfl⟩
theorem fo_X1_81 : FOk RX1 81 0 9 := ⟨_, rfl, by decide, (wt (mt_1 (List.mem_of_getElem? (i := 74) rfl)) rfl), rfl⟩
theorem fo_X1_82 : FOk RX1 82 0 10 := ⟨_, rfl, by decide, (wt (mt_1 (List.mem_of_getElem? (i := 76) rfl)) rfl), rfl⟩
theorem fo_X1_85 : FOk RX1 85 0 6 := ⟨_, rfl, by decide, (wt (mt_1 (List.mem_of_getElem? (i := 64) rfl)) rfl), rfl⟩
theorem fo_X1_88 : FOk RX1 88 0 7 := ⟨_, rfl, by decide, (wt (mt_1 (List.mem_of_getElem? (i := 68) rfl)) rfl), rfl⟩
theorem fo_X1_9 : FOk RX1 9 1 1 := ⟨_, rfl, by decide, (wt (mt_1 (List.mem_of_getElem? (i := 186) rfl)) rfl), rfl⟩
theorem fo_X1_94 : FOk RX1 94 1 13 := ⟨_, rfl, by decide, (wt (mt_1 (List.mem_of_getElem? (i := 202) rfl)) rfl), rfl⟩
theorem fo_X1_97 : FOk RX1 97 1 14 := ⟨_, rfl, by decide, (wt (mt_1 (List.mem_of_getElem? (i := 203) rfl)) rfl), rfl⟩
theorem fo_X2_15 : FOk RX2 15 2 1 := ⟨_, rfl, by decide, (wt (mt_3 (List.mem_of_getElem? (i := 4) rfl)) rfl), rfl⟩
theorem fo_X2_19 : FOk RX2 19 2 2 := ⟨_, rfl, by decide, (wt (mt_3 (List.mem_of_getElem? (i := 5) rfl)) rfl), rfl⟩
theorem fo_X2_23 : FOk RX2 23 2 3 := ⟨_, rfl, by decide, (wt (mt_3 (List.mem_of_getElem? (i := 6) rfl)) rfl), rfl⟩
theorem fo_X2_26 : FOk RX2 26 2 4 := ⟨_, rfl, by decide, (wt (mt_3 (List.mem_of_getElem? (i := 7) rfl)) rfl), rfl⟩
theorem fo_X2_32 : FOk RX2 32 2 5 := ⟨_, rfl, by decide, (wt (mt_3 (List.mem_of_getElem? (i := 8) rfl)) rfl), rfl⟩
theorem fo_X2_36 : FOk RX2 36 0 1 := ⟨_, rfl, by decide, (wt (mt_1 (List.mem_of_getElem? (i := 45) rfl)) rfl), rfl⟩
theorem fo_X2_39 : FOk RX2 39 0 6 := ⟨_, rfl, by decide, (wt (mt_1 (List.mem_of_getElem? (i := 62) rfl)) rfl), rfl⟩
theorem fo_X2_46 : FOk RX2 46 0 7 := ⟨_, rfl, by decide, (wt (mt_1 (List.mem_of_getElem? (i := 66) rfl)) rfl), rfl⟩
theorem fo_X2_47 : FOk RX2 47 0 8 := ⟨_, rfl, by decide, (wt (mt_1 (List.mem_of_getElem? (i := 70) rfl)) rfl), rfl⟩
theorem fo_X2_9 : FOk RX2 9 2 0 := ⟨_, rfl, by decide, (wt (mt_3 (List.mem_of_getElem? (i := 2) rfl)) rfl), rfl⟩
theorem fo_X3_15 : FOk RX3 15 3 1 := ⟨_, rfl, by decide, (wt (mt_2 (List.mem_of_getElem? (i := 21) rfl)) rfl), rfl⟩
theorem fo_X3_18 : FOk RX3 18 3 2 := ⟨_, rfl, by decide, (wt (mt_2 (List.mem_of_getElem? (i := 23) rfl)) rfl), rfl⟩
theorem fo_X3_22 : FOk RX3 22 3 3 := ⟨_, rfl, by decide, (wt (mt_2 (List.mem_of_getElem? (i := 25) rfl)) rfl), rfl⟩
theorem fo_X3_25 : FOk RX3 25 3 4 := ⟨_, rfl, by decide, (wt (mt_2 (List.mem_of_getElem? (i := 28) rfl)) rfl), rfl⟩
theorem fo_X3_29 : FOk RX3 29 3 5 := ⟨_, rfl, by decide, (wt (mt_2 (List.mem_of_getElem? (i := 30) rfl)) rfl), rfl⟩
theorem fo_X3_32 : FOk RX3 32 3 6 := ⟨_, rfl, by decide, (wt (mt_2 (List.mem_of_getElem? (i := 32) rfl)) rfl), rfl⟩
theorem fo_X3_9 : FOk RX3 9 3 0 := ⟨_, rfl, by decide, (wt (mt_2 (List.mem_of_getElem? (i := 19) rfl)) rfl), rfl⟩
theorem fo_X4_121 : FOk RX4 121 4 13 := ⟨_, rfl, by decide, (wt (mt_2 (List.mem_of_getElem? (i := 110) rfl)) rfl), rfl⟩
theorem fo_X4_15 : FOk RX4 15 4 4 := ⟨_, rfl, by decide, (wt (mt_2 (List.mem_of_getElem? (i := 99) rfl)) rfl), rfl⟩
theorem fo_X4_150 : FOk RX4 150 8 0 := ⟨_, rfl, by decide, (wt (mt_2 (List.mem_of_getElem? (i := 57) rfl)) rfl), rfl⟩
theorem fo_X4_154 : FOk RX4 154 0 0 := ⟨_, rfl, by decide, (wt (mt_1 (List.mem_of_getElem? (i := 43) rfl)) rfl), rfl⟩
theorem fo_X4_169 : FOk RX4 169 1 4 := ⟨_, rfl, by decide, (wt (mt_1 (List.mem_of_getElem? (i := 191) rfl)) rfl), rfl⟩
theorem fo_X4_18 : FOk RX4 18 4 5 := ⟨_, rfl, by decide, (wt (mt_2 (List.mem_of_getElem? (i := 100) rfl)) rfl), rfl⟩
theorem fo_X4_21 : FOk RX4 21 4 7 := ⟨_, rfl, by decide, (wt (mt_2 (List.mem_of_getElem? (i := 102) rfl)) rfl), rfl⟩
theorem fo_X4_24 : FOk RX4 24 4 8 := ⟨_, rfl, by decide, (wt (mt_2 (List.mem_of_getElem? (i := 103) rfl)) rfl), rfl⟩
theorem fo_X4_27 : FOk RX4 27 4 9 := ⟨_, rfl, by decide, (wt (mt_2 (List.mem_of_getElem? (i := 104) rfl)) rfl), rfl⟩
theorem fo_X4_30 : FOk RX4 30 4 11 := ⟨_, rfl, by decide, (wt (mt_2 (List.mem_of_getElem? (i := 107) rfl)) rfl), rfl⟩
theorem fo_X4_33 : FOk RX4 33 4 12 := ⟨_, rfl, by decide, (wt (mt_2 (List.mem_of_getElem? (i := 109) rfl)) rfl), rfl⟩
theorem fo_X4_36 : FOk RX4 36 4 14 := ⟨_, rfl, by decide, (wt (mt_2 (List.mem_of_getElem? (i := 111) rfl)) rfl), rfl⟩
theorem fo_X4_39 : FOk RX4 39 4 15 := ⟨_, rfl, by decide, (wt (mt_2 (List.mem_of_getElem? (i := 113) rfl)) rfl), rfl⟩
theorem fo_X4_43 : FOk RX4 43 4 16 := ⟨_, rfl, by decide, (wt (mt_2 (List.mem_of_getElem? (i := 114) rfl)) rfl), rfl⟩
theorem fo_X4_46 : FOk RX4 46 4 0 := ⟨_, rfl, by decide, (wt (mt_2 (List.mem_of_getElem? (i := 95) rfl)) rfl), rfl⟩
theorem fo_X4_50 : FOk RX4 50 4 1 := ⟨_, rfl, by decide, (wt (mt_2 (List.mem_of_getElem? (i := 96) rfl)) rfl), rfl⟩
theorem fo_X4_54 : FOk RX4 54 4 3 := ⟨_, rfl, by decide, (wt (mt_2 (List.mem_of_getElem? (i := 98) rfl)) rfl), rfl⟩
theorem fo_X4_58 : FOk RX4 58 8 5 := ⟨_, rfl, by decide, (wt (mt_2 (List.mem_of_getElem? (i := 68) rfl)) rfl), rfl⟩
theorem fo_X4_67 : FOk RX4 67 8 2 := ⟨_, rfl, by decide, (wt (mt_2 (List.mem_of_getElem? (i := 60) rfl)) rfl), rfl⟩
theorem fo_X4_87 : FOk RX4 87 4 10 := ⟨_, rfl, by decide, (wt (mt_2 (List.mem_of_getElem? (i := 106) rfl)) rfl), rfl⟩
theorem fo_X4_9 : FOk RX4 9 4 2 := ⟨_, rfl, by decide, (wt (mt_2 (List.mem_of_getElem? (i := 97) rfl)) rfl), rfl⟩
theorem fo_X4_94 : FOk RX4 94 4 6 := ⟨_, rfl, by decide, (wt (mt_2 (List.mem_of_getElem? (i := 101) rfl)) rfl), rfl⟩
theorem fo_X5_15 : FOk RX5 15 5 2 := ⟨_, rfl, by decide, (wt (mt_2 (List.mem_of_getElem? (i := 196) rfl)) rfl), rfl⟩
theorem fo_X5_18 : FOk RX5 18 5 3 := ⟨_, rfl, by decide, (wt (mt_2 (List.mem_of_getElem? (i := 197) rfl)) rfl), rfl⟩
theorem fo_X5_22 : FOk RX5 22 5 4 := ⟨_, rfl, by decide, (wt (mt_2 (List.mem_of_getElem? (i := 199) rfl)) rfl), rfl⟩
theorem fo_X5_25 : FOk RX5 25 5 5 := ⟨_, rfl, by decide, (wt (mt_2 (List.mem_of_getElem? (i := 200) rfl)) rfl), rfl⟩
theorem fo_X5_28 : FOk RX5 28 5 6 := ⟨_, rfl, by decide, (wt (mt_2 (List.mem_of_getElem? (i := 202) rfl)) rfl), rfl⟩
theorem fo_X5_32 : FOk RX5 32 5 7 := ⟨_, rfl, by decide, (wt (mt_2 (List.mem_of_getElem? (i := 203) rfl)) rfl), rfl⟩
theorem fo_X5_35 : FOk RX5 35 5 8 := ⟨_, rfl, by decide, (wt (mt_2 (List.mem_of_getElem? (i := 204) rfl)) rfl), rfl⟩
theorem fo_X5_38 : FOk RX5 38 5 9 := ⟨_, rfl, by decide, (wt (mt_2 (List.mem_of_getElem? (i := 205) rfl)) rfl), rfl⟩
theorem fo_X5_41 : FOk RX5 41 5 10 := ⟨_, rfl, by decide, (wt (mt_2 (List.mem_of_getElem? (i := 206) rfl)) rfl), rfl⟩
theorem fo_X5_44 : FOk RX5 44 5 11 := ⟨_, rfl, by decide, (wt (mt_2 (List.mem_of_getElem? (i := 207) rfl)) rfl), rfl⟩
theorem fo_X5_47 : FOk RX5 47 5 0 := ⟨_, rfl, by decide, (wt (mt_2 (List.mem_of_getElem? (i := 194) rfl)) rfl), rfl⟩
theorem fo_X5_51 : FOk RX5 51 7 5 := ⟨_, rfl, by decide, (wt (mt_2 (List.mem_of_getElem? (i := 164) rfl)) rfl), rfl⟩
theorem fo_X5_56 : FOk RX5 56 7 4 := ⟨_, rfl, by decide, (wt (mt_2 (List.mem_of_getElem? (i := 161) rfl)) rfl), rfl⟩
theorem fo_X5_9 : FOk RX5 9 5 1 := ⟨_, rfl, by decide, (wt (mt_2 (List.mem_of_getElem? (i := 195) rfl)) rfl), rfl⟩
theorem fo_X6_11 : FOk RX6 11 6 1 := ⟨_, rfl, by decide, (wt (mt_1 (List.mem_of_getElem? (i := 126) rfl)) rfl), rfl⟩
theorem fo_X6_15 : FOk RX6 15 6 2 := ⟨_, rfl, by decide, (wt (mt_1 (List.mem_of_getElem? (i := 128) rfl)) rfl), rfl⟩
theorem fo_X6_18 : FOk RX6 18 6 3 := ⟨_, rfl, by decide, (wt (mt_1 (List.mem_of_getElem? (i := 130) rfl)) rfl), rfl⟩
theorem fo_X6_21 : FOk RX6 21 6 4 := ⟨_, rfl, by decide, (wt (mt_1 (List.mem_of_getElem? (i := 132) rfl)) rfl), rfl⟩
theorem fo_X6_24 : FOk RX6 24 6 0 := ⟨_, rfl, by decide, (wt (mt_1 (List.mem_of_getElem? (i := 125) rfl)) rfl), rfl⟩
theorem fo_X6_28 : FOk RX6 28 6 6 := ⟨_, rfl, by decide, (wt (mt_1 (List.mem_of_getElem? (i := 136) rfl)) rfl), rfl⟩
theorem fo_X6_32 : FOk RX6 32 6 7 := ⟨_, rfl, by decide, (wt (mt_1 (List.mem_of_getElem? (i := 137) rfl)) rfl), rfl⟩
theorem fo_X6_35 : FOk RX6 35 6 5 := ⟨_, rfl, by decide, (wt (mt_1 (List.mem_of_getElem? (i := 134) rfl)) rfl), rfl⟩
theorem fo_X6_38 : FOk RX6 38 6 9 := ⟨_, rfl, by decide, (wt (mt_1 (List.mem_of_getElem? (i := 139) rfl)) rfl), rfl⟩
theorem fo_X6_41 : FOk RX6 41 6 10 := ⟨_, rfl, by decide, (wt (mt_1 (List.mem_of_getElem? (i := 140) rfl)) rfl), rfl⟩
theorem fo_X6_44 : FOk RX6 44 9 1 := ⟨_, rfl, by decide, (wt (mt_1 (List.mem_of_getElem? (i := 112) rfl)) rfl), rfl⟩
theorem fo_X6_55 : FOk RX6 55 6 8 := ⟨_, rfl, by decide, (wt (mt_1 (List.mem_of_getElem? (i := 138) rfl)) rfl), rfl⟩
theorem fo_X6_96 : FOk RX6 96 9 0 := ⟨_, rfl, by decide, (wt (mt_1 (List.mem_of_getElem? (i := 109) rfl)) rfl), rfl⟩
theorem fo_X7_102 : FOk RX7 102 8 2 := ⟨_, rfl, by decide, (wt (mt_2 (List.mem_of_getElem? (i := 61) rfl)) rfl), rfl⟩
theorem fo_X7_113 : FOk RX7 113 8 5 := ⟨_, rfl, by decide, (wt (mt_2 (List.mem_of_getElem? (i := 69) rfl)) rfl), rfl⟩
theorem fo_X7_119 : FOk RX7 119 3 3 := ⟨_, rfl, by decide, (wt (mt_2 (List.mem_of_getElem? (i := 26) rfl)) rfl), rfl⟩
theorem fo_X7_124 : FOk RX7 124 3 4 := ⟨_, rfl, by decide, (wt (mt_2 (List.mem_of_getElem? (i := 29) rfl)) rfl), rfl⟩
theorem fo_X7_127 : FOk RX7 127 3 5 := ⟨_, rfl, by decide, (wt (mt_2 (List.mem_of_getElem? (i := 31) rfl)) rfl), rfl⟩
theorem fo_X7_130 : FOk RX7 130 3 6 := ⟨_, rfl, by decide, (wt (mt_2 (List.mem_of_getElem? (i := 33) rfl)) rfl), rfl⟩
theorem fo_X7_15 : FOk RX7 15 7 5 := ⟨_, rfl, by decide, (wt (mt_2 (List.mem_of_getElem? (i := 163) rfl)) rfl), rfl⟩
theorem fo_X7_19 : FOk RX7 19 7 6 := ⟨_, rfl, by decide, (wt (mt_2 (List.mem_of_getElem? (i := 166) rfl)) rfl), rfl⟩
theorem fo_X7_23 : FOk RX7 23 7 7 := ⟨_, rfl, by decide, (wt (mt_2 (List.mem_of_getElem? (i := 167) rfl)) rfl), rfl⟩
theorem fo_X7_26 : FOk RX7 26 7 8 := ⟨_, rfl, by decide, (wt (mt_2 (List.mem_of_getElem? (i := 168) rfl)) rfl), rfl⟩
theorem fo_X7_29 : FOk RX7 29 7 0 := ⟨_, rfl, by decide, (wt (mt_2 (List.mem_of_getElem? (i := 156) rfl)) rfl), rfl⟩
theorem fo_X7_33 : FOk RX7 33 8 0 := ⟨_, rfl, by decide, (wt (mt_2 (List.mem_of_getElem? (i := 56) rfl)) rfl), rfl⟩
theorem fo_X7_39 : FOk RX7 39 7 1 := ⟨_, rfl, by decide, (wt (mt_2 (List.mem_of_getElem? (i := 157) rfl)) rfl), rfl⟩
theorem fo_X7_40 : FOk RX7 40 7 2 := ⟨_, rfl, by decide, (wt (mt_2 (List.mem_of_getElem? (i := 158) rfl)) rfl), rfl⟩
theorem fo_X7_44 : FOk RX7 44 7 3 := ⟨_, rfl, by decide, (wt (mt_2 (List.mem_of_getElem? (i := 159) rfl)) rfl), rfl⟩
theorem fo_X7_48 : FOk RX7 48 0 0 := ⟨_, rfl, by decide, (wt (mt_1 (List.mem_of_getElem? (i := 39) rfl)) rfl), rfl⟩
theorem fo_X7_60 : FOk RX7 60 0 1 := ⟨_, rfl, by decide, (wt (mt_1 (List.mem_of_getElem? (i := 46) rfl)) rfl), rfl⟩
theorem fo_X7_9 : FOk RX7 9 7 4 := ⟨_, rfl, by decide, (wt (mt_2 (List.mem_of_getElem? (i := 160) rfl)) rfl), rfl⟩
theorem fo_X8_15 : FOk RX8 15 8 3 := ⟨_, rfl, by decide, (wt (mt_2 (List.mem_of_getElem? (i := 63) rfl)) rfl), rfl⟩
theorem fo_X8_19 : FOk RX8 19 8 4 := ⟨_, rfl, by decide, (wt (mt_2 (List.mem_of_getElem? (i := 65) rfl)) rfl), rfl⟩
theorem fo_X8_23 : FOk RX8 23 8 5 := ⟨_, rfl, by decide, (wt (mt_2 (List.mem_of_getElem? (i := 67) rfl)) rfl), rfl⟩
theorem fo_X8_27 : FOk RX8 27 8 6 := ⟨_, rfl, by decide, (wt (mt_2 (List.mem_of_getElem? (i := 71) rfl)) rfl), rfl⟩
theorem fo_X8_31 : FOk RX8 31 8 0 := ⟨_, rfl, by decide, (wt (mt_2 (List.mem_of_getElem? (i := 55) rfl)) rfl), rfl⟩
theorem fo_X8_35 : FOk RX8 35 8 1 := ⟨_, rfl, by decide, (wt (mt_2 (List.mem_of_getElem? (i := 58) rfl)) rfl), rfl⟩
theorem fo_X8_39 : FOk RX8 39 0 0 := ⟨_, rfl, by decide, (wt (mt_1 (List.mem_of_getElem? (i := 40) rfl)) rfl), rfl⟩
theorem fo_X8_9 : FOk RX8 9 8 2 := ⟨_, rfl, by decide, (wt (mt_2 (List.mem_of_getElem? (i := 59) rfl)) rfl), rfl⟩
theorem fo_X9_13 : FOk RX9 13 9 1 := ⟨_, rfl, by decide, (wt (mt_1 (List.mem_of_getElem? (i := 110) rfl)) rfl), rfl⟩
theorem fo_X9_7 : FOk RX9 7 9 0 := ⟨_, rfl, by decide, (wt (mt_1 (List.mem_of_getElem? (i := 108) rfl)) rfl), rfl⟩
theorem fo_X10_13 : FOk RX10 13 10 1 := ⟨_, rfl, by decide, (wt (mt_1 (List.mem_of_getElem? (i := 172) rfl)) rfl), rfl⟩
theorem fo_X10_7 : FOk RX10 7 10 0 := ⟨_, rfl, by decide, (wt (mt_1 (List.mem_of_getElem? (i := 170) rfl)) rfl), rfl⟩
theorem fo_X11_10 : FOk RX11 10 11 0 := ⟨_, rfl, by decide, (wt (mt_3 (List.mem_of_getElem? (i := 22) rfl)) rfl), rfl⟩
theorem fo_X11_102 : FOk RX11 102 9 1 := ⟨_, rfl, by decide, (wt (mt_1 (List.mem_of_getElem? (i := 111) rfl)) rfl), rfl⟩
theorem fo_X11_106 : FOk RX11 106 0 0 := ⟨_, rfl, by decide, (wt (mt_1 (List.mem_of_getElem? (i := 41) rfl)) rfl), rfl⟩
theorem fo_X11_109 : FOk RX11 109 0 1 := ⟨_, rfl, by decide, (wt (mt_1 (List.mem_of_getElem? (i := 47) rfl)) rfl), rfl⟩
theorem fo_X11_116 : FOk RX11 116 6 5 := ⟨_, rfl, by decide, (wt (mt_1 (List.mem_of_getElem? (i := 135) rfl)) rfl), rfl⟩
theorem fo_X11_123 : FOk RX11 123 8 6 := ⟨_, rfl, by decide, (wt (mt_2 (List.mem_of_getElem? (i := 72) rfl)) rfl), rfl⟩
theorem fo_X11_127 : FOk RX11 127 0 2 := ⟨_, rfl, by decide, (wt (mt_1 (List.mem_of_getElem? (i := 50) rfl)) rfl), rfl⟩
theorem fo_X11_130 : FOk RX11 130 0 3 := ⟨_, rfl, by decide, (wt (mt_1 (List.mem_of_getElem? (i := 53) rfl)) rfl), rfl⟩
theorem fo_X11_133 : FOk RX11 133 0 4 := ⟨_, rfl, by decide, (wt (mt_1 (List.mem_of_getElem? (i := 56) rfl)) rfl), rfl⟩
theorem fo_X11_142 : FOk RX11 142 0 6 := ⟨_, rfl, by decide, (wt (mt_1 (List.mem_of_getElem? (i := 63) rfl)) rfl), rfl⟩
theorem fo_X11_146 : FOk RX11 146 0 7 := ⟨_, rfl, by decide, (wt (mt_1 (List.mem_of_getElem? (i := 67) rfl)) rfl), rfl⟩
theorem fo_X11_149 : FOk RX11 149 0 8 := ⟨_, rfl, by decide, (wt (mt_1 (List.mem_of_getElem? (i := 71) rfl)) rfl), rfl⟩
theorem fo_X11_155 : FOk RX11 155 0 5 := ⟨_, rfl, by decide, (wt (mt_1 (List.mem_of_getElem? (i := 60) rfl)) rfl), rfl⟩
theorem fo_X11_180 : FOk RX11 180 3 0 := ⟨_, rfl, by decide, (wt (mt_2 (List.mem_of_getElem? (i := 20) rfl)) rfl), rfl⟩
theorem fo_X11_183 : FOk RX11 183 3 1 := ⟨_, rfl, by decide, (wt (mt_2 (List.mem_of_getElem? (i := 22) rfl)) rfl), rfl⟩
theorem fo_X11_19 : FOk RX11 19 11 1 := ⟨_, rfl, by decide, (wt (mt_3 (List.mem_of_getElem? (i := 23) rfl)) rfl), rfl⟩
theorem fo_X11_208 : FOk RX11 208 1 17 := ⟨_, rfl, by decide, (wt (mt_1 (List.mem_of_getElem? (i := 207) rfl)) rfl), rfl⟩
theorem fo_X11_215 : FOk RX11 215 1 18 := ⟨_, rfl, by decide, (wt (mt_1 (List.mem_of_getElem? (i := 209) rfl)) rfl), rfl⟩
theorem fo_X11_219 : FOk RX11 219 1 4 := ⟨_, rfl, by decide, (wt (mt_1 (List.mem_of_getElem? (i := 190) rfl)) rfl), rfl⟩
theorem fo_X11_225 : FOk RX11 225 1 19 := ⟨_, rfl, by decide, (wt (mt_1 (List.mem_of_getElem? (i := 211) rfl)) rfl), rfl⟩
theorem fo_X11_228 : FOk RX11 228 1 7 := ⟨_, rfl, by decide, (wt (mt_1 (List.mem_of_getElem? (i := 196) rfl)) rfl), rfl⟩
theorem fo_X11_231 : FOk RX11 231 1 5 := ⟨_, rfl, by decide, (wt (mt_1 (List.mem_of_getElem? (i := 193) rfl)) rfl), rfl⟩
theorem fo_X11_245 : FOk RX11 245 8 5 := ⟨_, rfl, by decide, (wt (mt_2 (List.mem_of_getElem? (i := 70) rfl)) rfl), rfl⟩
theorem fo_X11_246 : FOk RX11 246 8 2 := ⟨_, rfl, by decide, (wt (mt_2 (List.mem_of_getElem? (i := 62) rfl)) rfl), rfl⟩
theorem fo_X11_253 : FOk RX11 253 8 3 := ⟨_, rfl, by decide, (wt (mt_2 (List.mem_of_getElem? (i := 64) rfl)) rfl), rfl⟩
theorem fo_X11_257 : FOk RX11 257 8 4 := ⟨_, rfl, by decide, (wt (mt_2 (List.mem_of_getElem? (i := 66) rfl)) rfl), rfl⟩
theorem fo_X11_279 : FOk RX11 279 3 2 := ⟨_, rfl, by decide, (wt (mt_2 (List.mem_of_getElem? (i := 24) rfl)) rfl), rfl⟩
theorem fo_X11_28 : FOk RX11 28 11 2 := ⟨_, rfl, by decide, (wt (mt_3 (List.mem_of_getElem? (i := 24) rfl)) rfl), rfl⟩
theorem fo_X11_286 : FOk RX11 286 4 9 := ⟨_, rfl, by decide, (wt (mt_2 (List.mem_of_getElem? (i := 105) rfl)) rfl), rfl⟩
theorem fo_X11_307 : FOk RX11 307 4 11 := ⟨_, rfl, by decide, (wt (mt_2 (List.mem_of_getElem? (i := 108) rfl)) rfl), rfl⟩
theorem fo_X11_313 : FOk RX11 313 4 14 := ⟨_, rfl, by decide, (wt (mt_2 (List.mem_of_getElem? (i := 112) rfl)) rfl), rfl⟩
theorem fo_X11_349 : FOk RX11 349 3 3 := ⟨_, rfl, by decide, (wt (mt_2 (List.mem_of_getElem? (i := 27) rfl)) rfl), rfl⟩
theorem fo_X11_35 : FOk RX11 35 11 3 := ⟨_, rfl, by decide, (wt (mt_3 (List.mem_of_getElem? (i := 25) rfl)) rfl), rfl⟩
theorem fo_X11_355 : FOk RX11 355 7 5 := ⟨_, rfl, by decide, (wt (mt_2 (List.mem_of_getElem? (i := 165) rfl)) rfl), rfl⟩
theorem fo_X11_358 : FOk RX11 358 7 4 := ⟨_, rfl, by decide, (wt (mt_2 (List.mem_of_getElem? (i := 162) rfl)) rfl), rfl⟩
theorem fo_X11_370 : FOk RX11 370 5 3 := ⟨_, rfl, by decide, (wt (mt_2 (List.mem_of_getElem? (i := 198) rfl)) rfl), rfl⟩
theorem fo_X11_379 : FOk RX11 379 5 5 := ⟨_, rfl, by decide, (wt (mt_2 (List.mem_of_getElem? (i := 201) rfl)) rfl), rfl⟩
theorem fo_X11_395 : FOk RX11 395 2 0 := ⟨_, rfl, by decide, (wt (mt_3 (List.mem_of_getElem? (i := 3) rfl)) rfl), rfl⟩
theorem fo_X11_401 : FOk RX11 401 10 1 := ⟨_, rfl, by decide, (wt (mt_1 (List.mem_of_getElem? (i := 173) rfl)) rfl), rfl⟩
theorem fo_X11_402 : FOk RX11 402 10 0 := ⟨_, rfl, by decide, (wt (mt_1 (List.mem_of_getElem? (i := 171) rfl)) rfl), rfl⟩
theorem fo_X11_405 : FOk RX11 405 6 1 := ⟨_, rfl, by decide, (wt (mt_1 (List.mem_of_getElem? (i := 127) rfl)) rfl), rfl⟩
theorem fo_X11_408 : FOk RX11 408 6 4 := ⟨_, rfl, by decide, (wt (mt_1 (List.mem_of_getElem? (i := 133) rfl)) rfl), rfl⟩
theorem fo_X11_414 : FOk RX11 414 6 2 := ⟨_, rfl, by decide, (wt (mt_1 (List.mem_of_getElem? (i := 129) rfl)) rfl), rfl⟩
theorem fo_X11_420 : FOk RX11 420 6 3 := ⟨_, rfl, by decide, (wt (mt_1 (List.mem_of_getElem? (i := 131) rfl)) rfl), rfl⟩
theorem fo_X11_44 : FOk RX11 44 11 4 := ⟨_, rfl, by decide, (wt (mt_3 (List.mem_of_getElem? (i := 26) rfl)) rfl), rfl⟩
theorem fo_X11_51 : FOk RX11 51 11 5 := ⟨_, rfl, by decide, (wt (mt_3 (List.mem_of_getElem? (i := 27) rfl)) rfl), rfl⟩
theorem fo_X11_60 : FOk RX11 60 11 6 := ⟨_, rfl, by decide, (wt (mt_3 (List.mem_of_getElem? (i := 28) rfl)) rfl), rfl⟩
theorem fo_X11_69 : FOk RX11 69 11 7 := ⟨_, rfl, by decide, (wt (mt_3 (List.mem_of_getElem? (i := 29) rfl)) rfl), rfl⟩
theorem fo_X11_78 : FOk RX11 78 11 8 := ⟨_, rfl, by decide, (wt (mt_3 (List.mem_of_getElem? (i := 30) rfl)) rfl), rfl⟩
theorem fo_X11_87 : FOk RX11 87 11 9 := ⟨_, rfl, by decide, (wt (mt_3 (List.mem_of_getElem? (i := 31) rfl)) rfl), rfl⟩
theorem fo_X11_94 : FOk RX11 94 11 10 := ⟨_, rfl, by decide, (wt (mt_3 (List.mem_of_getElem? (i := 32) rfl)) rfl), rfl⟩
theorem fo_X12_101 : FOk RX12 101 12 52 := ⟨_, rfl, by decide, (wt (mt_6 (List.mem_of_getElem? (i := 177) rfl)) rfl), rfl⟩
theorem fo_X12_104 : FOk RX12 104 12 53 := ⟨_, rfl, by decide, (wt (mt_6 (List.mem_of_getElem? (i := 178) rfl)) rfl), rfl⟩
theorem fo_X12_107 : FOk RX12 107 12 55 := ⟨_, rfl, by decide, (wt (mt_6 (List.mem_of_getElem? (i := 180) rfl)) rfl), rfl⟩
theorem fo_X12_110 : FOk RX12 110 12 56 := ⟨_, rfl, by decide, (wt (mt_6 (List.mem_of_getElem? (i := 181) rfl)) rfl), rfl⟩
theorem fo_X12_113 : FOk RX12 113 12 57 := ⟨_, rfl, by decide, (wt (mt_6 (List.mem_of_getElem? (i := 182) rfl)) rfl), rfl⟩
theorem fo_X12_116 : FOk RX12 116 12 59 := ⟨_, rfl, by decide, (wt (mt_6 (List.mem_of_getElem? (i := 184) rfl)) rfl), rfl⟩
theorem fo_X12_119 : FOk RX12 119 12 60 := ⟨_, rfl, by decide, (wt (mt_6 (List.mem_of_getElem? (i := 185) rfl)) rfl), rfl⟩
theorem fo_X12_122 : FOk RX12 122 12 61 := ⟨_, rfl, by decide, (wt (mt_6 (List.mem_of_getElem? (i := 186) rfl)) rfl), rfl⟩
theorem fo_X12_125 : FOk RX12 125 12 62 := ⟨_, rfl, by decide, (wt (mt_6 (List.mem_of_getElem? (i := 187) rfl)) rfl), rfl⟩
theorem fo_X12_129 : FOk RX12 129 12 64 := ⟨_, rfl, by decide, (wt (mt_6 (List.mem_of_getElem? (i := 189) rfl)) rfl), rfl⟩
theorem fo_X12_13 : FOk RX12 13 12 2 := ⟨_, rfl, by decide, (wt (mt_6 (List.mem_of_getElem? (i := 127) rfl)) rfl), rfl⟩
theorem fo_X12_132 : FOk RX12 132 12 66 := ⟨_, rfl, by decide, (wt (mt_6 (List.mem_of_getElem? (i := 191) rfl)) rfl), rfl⟩
theorem fo_X12_135 : FOk RX12 135 12 67 := ⟨_, rfl, by decide, (wt (mt_6 (List.mem_of_getElem? (i := 192) rfl)) rfl), rfl⟩
theorem fo_X12_138 : FOk RX12 138 12 68 := ⟨_, rfl, by decide, (wt (mt_6 (List.mem_of_getElem? (i := 193) rfl)) rfl), rfl⟩
theorem fo_X12_141 : FOk RX12 141 12 69 := ⟨_, rfl, by decide, (wt (mt_6 (List.mem_of_getElem? (i := 194) rfl)) rfl), rfl⟩
theorem fo_X12_144 : FOk RX12 144 12 70 := ⟨_, rfl, by decide, (wt (mt_6 (List.mem_of_getElem? (i := 195) rfl)) rfl), rfl⟩
theorem fo_X12_147 : FOk RX12 147 12 71 := ⟨_, rfl, by decide, (wt (mt_6 (List.mem_of_getElem? (i := 196) rfl)) rfl), rfl⟩
theorem fo_X12_150 : FOk RX12 150 12 72 := ⟨_, rfl, by decide, (wt (mt_6 (List.mem_of_getElem? (i := 197) rfl)) rfl), rfl⟩
theorem fo_X12_153 : FOk RX12 153 12 73 := ⟨_, rfl, by decide, (wt (mt_6 (List.mem_of_getElem? (i := 198) rfl)) rfl), rfl⟩
theorem fo_X12_156 : FOk RX12 156 12 74 := ⟨_, rfl, by decide, (wt (mt_6 (List.mem_of_getElem? (i := 199) rfl)) rfl), rfl⟩
theorem fo_X12_159 : FOk RX12 159 12 14 := ⟨_, rfl, by decide, (wt (mt_6 (List.mem_of_getElem? (i := 139) rfl)) rfl), rfl⟩
theorem fo_X12_162 : FOk RX12 162 12 13 := ⟨_, rfl, by decide, (wt (mt_6 (List.mem_of_getElem? (i := 138) rfl)) rfl), rfl⟩
theorem fo_X12_169 : FOk RX12 169 12 1 := ⟨_, rfl, by decide, (wt (mt_6 (List.mem_of_getElem? (i := 126) rfl)) rfl), rfl⟩
theorem fo_X12_17 : FOk RX12 17 12 3 := ⟨_, rfl, by decide, (wt (mt_6 (List.mem_of_getElem? (i := 128) rfl)) rfl), rfl⟩
theorem fo_X12_172 : FOk RX12 172 12 11 := ⟨_, rfl, by decide, (wt (mt_6 (List.mem_of_getElem? (i := 136) rfl)) rfl), rfl⟩
theorem fo_X12_175 : FOk RX12 175 12 16 := ⟨_, rfl, by decide, (wt (mt_6 (List.mem_of_getElem? (i := 141) rfl)) rfl), rfl⟩
theorem fo_X12_178 : FOk RX12 178 12 15 := ⟨_, rfl, by decide, (wt (mt_6 (List.mem_of_getElem? (i := 140) rfl)) rfl), rfl⟩
theorem fo_X12_181 : FOk RX12 181 12 17 := ⟨_, rfl, by decide, (wt (mt_6 (List.mem_of_getElem? (i := 142) rfl)) rfl), rfl⟩
theorem fo_X12_20 : FOk RX12 20 12 4 := ⟨_, rfl, by decide, (wt (mt_6 (List.mem_of_getElem? (i := 129) rfl)) rfl), rfl⟩
theorem fo_X12_211 : FOk RX12 211 12 7 := ⟨_, rfl, by decide, (wt (mt_6 (List.mem_of_getElem? (i := 132) rfl)) rfl), rfl⟩
theorem fo_X12_214 : FOk RX12 214 12 8 := ⟨_, rfl, by decide, (wt (mt_6 (List.mem_of_getElem? (i := 133) rfl)) rfl), rfl⟩
theorem fo_X12_217 : FOk RX12 217 12 58 := ⟨_, rfl, by decide, (wt (mt_6 (List.mem_of_getElem? (i := 183) rfl)) rfl), rfl⟩
theorem fo_X12_220 : FOk RX12 220 12 65 := ⟨_, rfl, by decide, (wt (mt_6 (List.mem_of_getElem? (i := 190) rfl)) rfl), rfl⟩
theorem fo_X12_223 : FOk RX12 223 12 9 := ⟨_, rfl, by decide, (wt (mt_6 (List.mem_of_getElem? (i := 134) rfl)) rfl), rfl⟩
theorem fo_X12_23 : FOk RX12 23 12 5 := ⟨_, rfl, by decide, (wt (mt_6 (List.mem_of_getElem? (i := 130) rfl)) rfl), rfl⟩
theorem fo_X12_26 : FOk RX12 26 12 6 := ⟨_, rfl, by decide, (wt (mt_6 (List.mem_of_getElem? (i := 131) rfl)) rfl), rfl⟩
theorem fo_X12_270 : FOk RX12 270 12 19 := ⟨_, rfl, by decide, (wt (mt_6 (List.mem_of_getElem? (i := 144) rfl)) rfl), rfl⟩
theorem fo_X12_273 : FOk RX12 273 12 20 := ⟨_, rfl, by decide, (wt (mt_6 (List.mem_of_getElem? (i := 145) rfl)) rfl), rfl⟩
theorem fo_X12_279 : FOk RX12 279 12 24 := ⟨_, rfl, by decide, (wt (mt_6 (List.mem_of_getElem? (i := 149) rfl)) rfl), rfl⟩
theorem fo_X12_282 : FOk RX12 282 12 25 := ⟨_, rfl, by decide, (wt (mt_6 (List.mem_of_getElem? (i := 150) rfl)) rfl), rfl⟩
theorem fo_X12_285 : FOk RX12 285 12 26 := ⟨_, rfl, by decide, (wt (mt_6 (List.mem_of_getElem? (i := 151) rfl)) rfl), rfl⟩
theorem fo_X12_288 : FOk RX12 288 12 27 := ⟨_, rfl, by decide, (wt (mt_6 (List.mem_of_getElem? (i := 152) rfl)) rfl), rfl⟩
theorem fo_X12_29 : FOk RX12 29 12 10 := ⟨_, rfl, by decide, (wt (mt_6 (List.mem_of_getElem? (i := 135) rfl)) rfl), rfl⟩
theorem fo_X12_291 : FOk RX12 291 12 28 := ⟨_, rfl, by decide, (wt (mt_6 (List.mem_of_getElem? (i := 153) rfl)) rfl), rfl⟩
theorem fo_X12_298 : FOk RX12 298 12 29 := ⟨_, rfl, by decide, (wt (mt_6 (List.mem_of_getElem? (i := 154) rfl)) rfl), rfl⟩
theorem fo_X12_301 : FOk RX12 301 12 39 := ⟨_, rfl, by decide, (wt (mt_6 (List.mem_of_getElem? (i := 164) rfl)) rfl), rfl⟩
theorem fo_X12_328 : FOk RX12 328 12 36 := ⟨_, rfl, by decide, (wt (mt_6 (List.mem_of_getElem? (i := 161) rfl)) rfl), rfl⟩
theorem fo_X12_33 : FOk RX12 33 12 12 := ⟨_, rfl, by decide, (wt (mt_6 (List.mem_of_getElem? (i := 137) rfl)) rfl), rfl⟩
theorem fo_X12_332 : FOk RX12 332 12 37 := ⟨_, rfl, by decide, (wt (mt_6 (List.mem_of_getElem? (i := 162) rfl)) rfl), rfl⟩
theorem fo_X12_37 : FOk RX12 37 12 18 := ⟨_, rfl, by decide, (wt (mt_6 (List.mem_of_getElem? (i := 143) rfl)) rfl), rfl⟩
theorem fo_X12_40 : FOk RX12 40 12 21 := ⟨_, rfl, by decide, (wt (mt_6 (List.mem_of_getElem? (i := 146) rfl)) rfl), rfl⟩
theorem fo_X12_409 : FOk RX12 409 12 44 := ⟨_, rfl, by decide, (wt (mt_6 (List.mem_of_getElem? (i := 169) rfl)) rfl), rfl⟩
theorem fo_X12_424 : FOk RX12 424 12 51 := ⟨_, rfl, by decide, (wt (mt_6 (List.mem_of_getElem? (i := 176) rfl)) rfl), rfl⟩
theorem fo_X12_43 : FOk RX12 43 12 22 := ⟨_, rfl, by decide, (wt (mt_6 (List.mem_of_getElem? (i := 147) rfl)) rfl), rfl⟩
theorem fo_X12_438 : FOk RX12 438 12 54 := ⟨_, rfl, by decide, (wt (mt_6 (List.mem_of_getElem? (i := 179) rfl)) rfl), rfl⟩
theorem fo_X12_46 : FOk RX12 46 12 23 := ⟨_, rfl, by decide, (wt (mt_6 (List.mem_of_getElem? (i := 148) rfl)) rfl), rfl⟩
theorem fo_X12_462 : FOk RX12 462 12 63 := ⟨_, rfl, by decide, (wt (mt_6 (List.mem_of_getElem? (i := 188) rfl)) rfl), rfl⟩
theorem fo_X12_49 : FOk RX12 49 12 30 := ⟨_, rfl, by decide, (wt (mt_6 (List.mem_of_getElem? (i := 155) rfl)) rfl), rfl⟩
theorem fo_X12_52 : FOk RX12 52 12 31 := ⟨_, rfl, by decide, (wt (mt_6 (List.mem_of_getElem? (i := 156) rfl)) rfl), rfl⟩
theorem fo_X12_55 : FOk RX12 55 12 32 := ⟨_, rfl, by decide, (wt (mt_6 (List.mem_of_getElem? (i := 157) rfl)) rfl), rfl⟩
theorem fo_X12_58 : FOk RX12 58 12 33 := ⟨_, rfl, by decide, (wt (mt_6 (List.mem_of_getElem? (i := 158) rfl)) rfl), rfl⟩
theorem fo_X12_61 : FOk RX12 61 12 34 := ⟨_, rfl, by decide, (wt (mt_6 (List.mem_of_getElem? (i := 159) rfl)) rfl), rfl⟩
theorem fo_X12_64 : FOk RX12 64 12 35 := ⟨_, rfl, by decide, (wt (mt_6 (List.mem_of_getElem? (i := 160) rfl)) rfl), rfl⟩
theorem fo_X12_67 : FOk RX12 67 12 38 := ⟨_, rfl, by decide, (wt (mt_6 (List.mem_of_getElem? (i := 163) rfl)) rfl), rfl⟩
theorem fo_X12_70 : FOk RX12 70 12 40 := ⟨_, rfl, by decide, (wt (mt_6 (List.mem_of_getElem? (i := 165) rfl)) rfl), rfl⟩
theorem fo_X12_73 : FOk RX12 73 12 41 := ⟨_, rfl, by decide, (wt (mt_6 (List.mem_of_getElem? (i := 166) rfl)) rfl), rfl⟩
theorem fo_X12_77 : FOk RX12 77 12 42 := ⟨_, rfl, by decide, (wt (mt_6 (List.mem_of_getElem? (i := 167) rfl)) rfl), rfl⟩
theorem fo_X12_80 : FOk RX12 80 12 43 := ⟨_, rfl, by decide, (wt (mt_6 (List.mem_of_getElem? (i := 168) rfl)) rfl), rfl⟩
theorem fo_X12_83 : FOk RX12 83 12 45 := ⟨_, rfl, by decide, (wt (mt_6 (List.mem_of_getElem? (i := 170) rfl)) rfl), rfl⟩
theorem fo_X12_86 : FOk RX12 86 12 46 := ⟨_, rfl, by decide, (wt (mt_6 (List.mem_of_getElem? (i := 171) rfl)) rfl), rfl⟩
theorem fo_X12_89 : FOk RX12 89 12 47 := ⟨_, rfl, by decide, (wt (mt_6 (List.mem_of_getElem? (i := 172) rfl)) rfl), rfl⟩
theorem fo_X12_9 : FOk RX12 9 12 0 := ⟨_, rfl, by decide, (wt (mt_6 (List.mem_of_getElem? (i := 125) rfl)) rfl), rfl⟩
theorem fo_X12_92 : FOk RX12 92 12 48 := ⟨_, rfl, by decide, (wt (mt_6 (List.mem_of_getElem? (i := 173) rfl)) rfl), rfl⟩
theorem fo_X12_95 : FOk RX12 95 12 49 := ⟨_, rfl, by decide, (wt (mt_6 (List.mem_of_getElem? (i := 174) rfl)) rfl), rfl⟩
theorem fo_X12_98 : FOk RX12 98 12 50 := ⟨_, rfl, by decide, (wt (mt_6 (List.mem_of_getElem? (i := 175) rfl)) rfl), rfl⟩
theorem ko_X12_128 : Cond.constant RX12 128 (253692) ∈ wl := (wt (mt_6 (List.mem_of_getElem? (i := 124) rfl)) rfl)
theorem ko_X12_419 : Cond.constant RX12 419 (1000000) ∈ wl := (wt (mt_8 (List.mem_of_getElem? (i := 160) rfl)) rfl)
theorem ko_J6_264 : Cond.constant RJ6 264 (65536) ∈ wl := (wt (mt_3 (List.mem_of_getElem? (i := 231) rfl)) rfl)
theorem ko_J6_265 : Cond.constant RJ6 265 (1431655765) ∈ wl := (wt (mt_4 (List.mem_of_getElem? (i := 221) rfl)) rfl)
theorem ko_J6_266 : Cond.constant RJ6 266 (858993459) ∈ wl := (wt (mt_4 (List.mem_of_getElem? (i := 222) rfl)) rfl)
theorem ko_J6_267 : Cond.constant RJ6 267 (252645135) ∈ wl := (wt (mt_4 (List.mem_of_getElem? (i := 223) rfl)) rfl)
theorem ko_X1_158 : Cond.constantLong RX1 158 (100) ∈ wl := (wt (mt_4 (List.mem_of_getElem? (i := 19) rfl)) rfl)
theorem ko_X1_160 : Cond.constantLong RX1 160 (27720) ∈ wl := (wt (mt_4 (List.mem_of_getElem? (i := 20) rfl)) rfl)
theorem ko_X1_83 : Cond.constantLong RX1 83 (-1) ∈ wl := (wt (mt_5 (List.mem_of_getElem? (i := 102) rfl)) rfl)
theorem ko_X8_72 : Cond.constantLong RX8 72 (-1) ∈ wl := (wt (mt_4 (List.mem_of_getElem? (i := 96) rfl)) rfl)
theorem ko_X8_78 : Cond.constantLong RX8 78 (-7046029254386353131) ∈ wl := (wt (mt_4 (List.mem_of_getElem? (i := 121) rfl)) rfl)
theorem ko_X11_199 : Cond.constantLong RX11 199 (-1) ∈ wl := (wt (mt_4 (List.mem_of_getElem? (i := 34) rfl)) rfl)
theorem ko_X11_223 : Cond.constantLong RX11 223 (-2) ∈ wl := (wt (mt_4 (List.mem_of_getElem? (i := 56) rfl)) rfl)
theorem ko_X11_270 : Cond.constantLong RX11 270 (-3) ∈ wl := (wt (mt_4 (List.mem_of_getElem? (i := 130) rfl)) rfl)
theorem ko_L_97 : Cond.constantLong RL 97 (4294967295) ∈ wl := (wt (mt_9 (List.mem_of_getElem? (i := 84) rfl)) rfl)
theorem ko_X12_196 : Cond.constantLong RX12 196 (48) ∈ wl := (wt (mt_7 (List.mem_of_getElem? (i := 143) rfl)) rfl)
theorem ko_X12_198 : Cond.constantLong RX12 198 (57) ∈ wl := (wt (mt_7 (List.mem_of_getElem? (i := 144) rfl)) rfl)
theorem ko_X12_226 : Cond.constantLong RX12 226 (2) ∈ wl := (wt (mt_7 (List.mem_of_getElem? (i := 161) rfl)) rfl)
theorem ko_X12_228 : Cond.constantLong RX12 228 (20) ∈ wl := (wt (mt_7 (List.mem_of_getElem? (i := 162) rfl)) rfl)
theorem ko_X12_230 : Cond.constantLong RX12 230 (3) ∈ wl := (wt (mt_7 (List.mem_of_getElem? (i := 163) rfl)) rfl)
theorem ko_X12_232 : Cond.constantLong RX12 232 (99) ∈ wl := (wt (mt_7 (List.mem_of_getElem? (i := 164) rfl)) rfl)
theorem ko_X12_317 : Cond.constantLong RX12 317 (27720) ∈ wl := (wt (mt_8 (List.mem_of_getElem? (i := 14) rfl)) rfl)
theorem ko_X12_335 : Cond.constantLong RX12 335 (100) ∈ wl := (wt (mt_8 (List.mem_of_getElem? (i := 30) rfl)) rfl)
theorem ko_X12_366 : Cond.constantLong RX12 366 (-1) ∈ wl := (wt (mt_8 (List.mem_of_getElem? (i := 44) rfl)) rfl)
theorem ko_X12_375 : Cond.constantLong RX12 375 (-2) ∈ wl := (wt (mt_8 (List.mem_of_getElem? (i := 61) rfl)) rfl)
theorem ko_X12_407 : Cond.constantLong RX12 407 (-3) ∈ wl := (wt (mt_8 (List.mem_of_getElem? (i := 127) rfl)) rfl)
theorem ko_X12_451 : Cond.constantLong RX12 451 (200) ∈ wl := (wt (mt_8 (List.mem_of_getElem? (i := 191) rfl)) rfl)
theorem ko_J13_314 : Cond.constantLong RJ13 314 (6148914691236517205) ∈ wl := (wt (mt_3 (List.mem_of_getElem? (i := 222) rfl)) rfl)
theorem ko_J13_316 : Cond.constantLong RJ13 316 (3689348814741910323) ∈ wl := (wt (mt_3 (List.mem_of_getElem? (i := 223) rfl)) rfl)
theorem ko_J13_318 : Cond.constantLong RJ13 318 (1085102592571150095) ∈ wl := (wt (mt_3 (List.mem_of_getElem? (i := 224) rfl)) rfl)
theorem co_X0_3 : Cond.methodLink RX0 3 objectInit ∈ wl := (wt (mt_1 (List.mem_of_getElem? (i := 37) rfl)) rfl)
theorem co_X0_47 : VOk RX0 47 mX0_hasLamp 1 := ⟨gic (wt (mt_3 (List.mem_of_getElem? (i := 187) rfl)) rfl) rfl (gic wv_X0_hasLamp rfl (gic wz_X0_hasLamp rfl (gic wn_X0 rfl (gi1 wc_X0_hasLamp rfl)))), wd_X0_hasLamp⟩
theorem co_X0_51 : VOk RX0 51 mX0_rewire 0 := ⟨gic (wt (mt_3 (List.mem_of_getElem? (i := 135) rfl)) rfl) rfl (gic wv_X0_rewire rfl (gic wz_X0_rewire rfl (gic wn_X0 rfl (gi1 wc_X0_rewire rfl)))), wd_X0_rewire⟩
theorem co_X0_54 : VOk RX0 54 mX0_hasWire 1 := ⟨gic (wt (mt_3 (List.mem_of_getElem? (i := 151) rfl)) rfl) rfl (gic wv_X0_hasWire rfl (gic wz_X0_hasWire rfl (gic wn_X0 rfl (gi1 wc_X0_hasWire rfl)))), wd_X0_hasWire⟩
theorem co_X0_57 : SOk RX0 57 mJ7_fill_d0a16 2 := ⟨gic (wt (mt_3 (List.mem_of_getElem? (i := 139) rfl)) rfl) rfl (gic ws_J7_fill_d0a16 rfl (gic wn_J7 rfl (gi1 wc_J7_fill_d0a16 rfl))), wd_J7_fill_d0a16⟩
theorem co_X1_100 : VOk RX1 100 mX1_follow 4 := ⟨gic (wt (mt_3 (List.mem_of_getElem? (i := 233) rfl)) rfl) rfl (gic wv_X1_follow rfl (gic wz_X1_follow rfl (gic wn_X1 rfl (gi1 wc_X1_follow rfl)))), wd_X1_follow⟩
theorem co_X1_104 : VOk RX1 104 mX1_bright 0 := ⟨gic (wt (mt_4 (List.mem_of_getElem? (i := 15) rfl)) rfl) rfl (gic wv_X1_bright rfl (gic wz_X1_bright rfl (gic wn_X1 rfl (gi1 wc_X1_bright rfl)))), wd_X1_bright⟩
theorem co_X1_110 : SOk RX1 110 mJ13_bitCount_95d88 1 := ⟨gic (wt (mt_3 (List.mem_of_getElem? (i := 219) rfl)) rfl) rfl (gic ws_J13_bitCount_95d88 rfl (gic wn_J13 rfl (gi1 wc_J13_bitCount_95d88 rfl))), wd_J13_bitCount_95d88⟩
theorem co_X1_116 : SOk RX1 116 mJ13_numberOfTrailingZeros_95d88 1 := ⟨gic (wt (mt_3 (List.mem_of_getElem? (i := 225) rfl)) rfl) rfl (gic ws_J13_numberOfTrailingZeros_95d88 rfl (gic wn_J13 rfl (gi1 wc_J13_numberOfTrailingZeros_95d88 rfl))), wd_J13_numberOfTrailingZeros_95d88⟩
theorem co_X1_119 : SOk RX1 119 mJ7_fill_d0a16 2 := ⟨gic (wt (mt_3 (List.mem_of_getElem? (i := 232) rfl)) rfl) rfl (gic ws_J7_fill_d0a16 rfl (gic wn_J7 rfl (gi1 wc_J7_fill_d0a16 rfl))), wd_J7_fill_d0a16⟩
theorem co_X1_134 : VOk RX1 134 mX1_goalOf 1 := ⟨gic (wt (mt_3 (List.mem_of_getElem? (i := 237) rfl)) rfl) rfl (gic wv_X1_goalOf rfl (gic wz_X1_goalOf rfl (gic wn_X1 rfl (gi1 wc_X1_goalOf rfl)))), wd_X1_goalOf⟩
theorem co_X1_138 : VOk RX1 138 mX1_carry 4 := ⟨gic (wt (mt_4 (List.mem_of_getElem? (i := 1) rfl)) rfl) rfl (gic wv_X1_carry rfl (gic wz_X1_carry rfl (gic wn_X1 rfl (gi1 wc_X1_carry rfl)))), wd_X1_carry⟩
theorem co_X1_144 : VOk RX1 144 mX1_noteWay 2 := ⟨gic (wt (mt_4 (List.mem_of_getElem? (i := 7) rfl)) rfl) rfl (gic wv_X1_noteWay rfl (gic wz_X1_noteWay rfl (gic wn_X1 rfl (gi1 wc_X1_noteWay rfl)))), wd_X1_noteWay⟩
theorem co_X1_148 : VOk RX1 148 mX1_isLessWay 1 := ⟨gic (wt (mt_4 (List.mem_of_getElem? (i := 11) rfl)) rfl) rfl (gic wv_X1_isLessWay rfl (gic wz_X1_isLessWay rfl (gic wn_X1 rfl (gi1 wc_X1_isLessWay rfl)))), wd_X1_isLessWay⟩
theorem co_X1_3 : Cond.methodLink RX1 3 objectInit ∈ wl := (wt (mt_1 (List.mem_of_getElem? (i := 184) rfl)) rfl)
theorem co_X1_51 : VOk RX1 51 mX1_lay 2 := ⟨gic (wt (mt_3 (List.mem_of_getElem? (i := 207) rfl)) rfl) rfl (gic wv_X1_lay rfl (gic wz_X1_lay rfl (gic wn_X1 rfl (gi1 wc_X1_lay rfl)))), wd_X1_lay⟩
theorem co_X1_55 : VOk RX1 55 mX1_run 0 := ⟨gic (wt (mt_3 (List.mem_of_getElem? (i := 211) rfl)) rfl) rfl (gic wv_X1_run rfl (gic wz_X1_run rfl (gic wn_X1 rfl (gi1 wc_X1_run rfl)))), wd_X1_run⟩
theorem co_X1_91 : VOk RX1 91 mX1_putOut 0 := ⟨gic (wt (mt_3 (List.mem_of_getElem? (i := 215) rfl)) rfl) rfl (gic wv_X1_putOut rfl (gic wz_X1_putOut rfl (gic wn_X1 rfl (gi1 wc_X1_putOut rfl)))), wd_X1_putOut⟩
theorem co_X2_3 : Cond.methodLink RX2 3 objectInit ∈ wl := (wt (mt_2 (List.mem_of_getElem? (i := 239) rfl)) rfl)
theorem co_X2_31 : INOk RX2 31 mX3_init 0 := ⟨"NinetyLamps", gi1 wc_X3_init rfl, wn_X3, (wt (mt_3 (List.mem_of_getElem? (i := 1) rfl)) rfl), wv_X3_init, rfl, rfl, wd_X3_init⟩
theorem co_X2_40 : Cond.methodLink RX2 40 arraycopyName ∈ wl := (wt (mt_6 (List.mem_of_getElem? (i := 13) rfl)) rfl)
theorem co_X2_48 : VOk RX2 48 mX3_copyFrom 1 := ⟨gic (wt (mt_6 (List.mem_of_getElem? (i := 14) rfl)) rfl) rfl (gic wv_X3_copyFrom rfl (gic wz_X3_copyFrom rfl (gic wn_X3 rfl (gi1 wc_X3_copyFrom rfl)))), wd_X3_copyFrom⟩
theorem co_X2_52 : VOk RX2 52 mX0_rewire 0 := ⟨gic (wt (mt_6 (List.mem_of_getElem? (i := 27) rfl)) rfl) rfl (gic wv_X0_rewire rfl (gic wz_X0_rewire rfl (gic wn_X0 rfl (gi1 wc_X0_rewire rfl)))), wd_X0_rewire⟩
theorem co_X3_3 : Cond.methodLink RX3 3 objectInit ∈ wl := (wt (mt_2 (List.mem_of_getElem? (i := 18) rfl)) rfl)
theorem co_X3_35 : SOk RX3 35 mJ7_fill_d0a16 2 := ⟨gic (wt (mt_3 (List.mem_of_getElem? (i := 146) rfl)) rfl) rfl (gic ws_J7_fill_d0a16 rfl (gic wn_J7 rfl (gi1 wc_J7_fill_d0a16 rfl))), wd_J7_fill_d0a16⟩
theorem co_X3_41 : Cond.methodLink RX3 41 arraycopyName ∈ wl := (wt (mt_6 (List.mem_of_getElem? (i := 18) rfl)) rfl)
theorem co_X4_100 : SOk RX4 100 mJ9_min_7cf53 2 := ⟨gic (wt (mt_4 (List.mem_of_getElem? (i := 196) rfl)) rfl) rfl (gic ws_J9_min_7cf53 rfl (gic wn_J9 rfl (gi1 wc_J9_min_7cf53 rfl))), wd_J9_min_7cf53⟩
theorem co_X4_105 : VOk RX4 105 mX4_findNear 0 := ⟨gic (wt (mt_4 (List.mem_of_getElem? (i := 213) rfl)) rfl) rfl (gic wv_X4_findNear rfl (gic wz_X4_findNear rfl (gic wn_X4 rfl (gi1 wc_X4_findNear rfl)))), wd_X4_findNear⟩
theorem co_X4_108 : SOk RX4 108 mJ6_bitCount_0f7a4 1 := ⟨gic (wt (mt_4 (List.mem_of_getElem? (i := 218) rfl)) rfl) rfl (gic ws_J6_bitCount_0f7a4 rfl (gic wn_J6 rfl (gi1 wc_J6_bitCount_0f7a4 rfl))), wd_J6_bitCount_0f7a4⟩
theorem co_X4_114 : VOk RX4 114 mX4_isApart 1 := ⟨gic (wt (mt_4 (List.mem_of_getElem? (i := 224) rfl)) rfl) rfl (gic wv_X4_isApart rfl (gic wz_X4_isApart rfl (gic wn_X4 rfl (gi1 wc_X4_isApart rfl)))), wd_X4_isApart⟩
theorem co_X4_118 : SOk RX4 118 mJ7_fill_53178 2 := ⟨gic (wt (mt_4 (List.mem_of_getElem? (i := 217) rfl)) rfl) rfl (gic ws_J7_fill_53178 rfl (gic wn_J7 rfl (gi1 wc_J7_fill_53178 rfl))), wd_J7_fill_53178⟩
theorem co_X4_124 : VOk RX4 124 mX4_tryOrder 4 := ⟨gic (wt (mt_5 (List.mem_of_getElem? (i := 1) rfl)) rfl) rfl (gic wv_X4_tryOrder rfl (gic wz_X4_tryOrder rfl (gic wn_X4 rfl (gi1 wc_X4_tryOrder rfl)))), wd_X4_tryOrder⟩
theorem co_X4_128 : Cond.methodLink RX4 128 arraycopyName ∈ wl := (wt (mt_5 (List.mem_of_getElem? (i := 5) rfl)) rfl)
theorem co_X4_134 : SOk RX4 134 mX4_differing 2 := ⟨gic (wt (mt_5 (List.mem_of_getElem? (i := 8) rfl)) rfl) rfl (gic ws_X4_differing rfl (gic wn_X4 rfl (gi1 wc_X4_differing rfl))), wd_X4_differing⟩
theorem co_X4_137 : SOk RX4 137 mJ7_fill_d0a16 2 := ⟨gic (wt (mt_5 (List.mem_of_getElem? (i := 19) rfl)) rfl) rfl (gic ws_J7_fill_d0a16 rfl (gic wn_J7 rfl (gi1 wc_J7_fill_d0a16 rfl))), wd_J7_fill_d0a16⟩
theorem co_X4_140 : VOk RX4 140 mX4_takeLights 0 := ⟨gic (wt (mt_5 (List.mem_of_getElem? (i := 20) rfl)) rfl) rfl (gic wv_X4_takeLights rfl (gic wz_X4_takeLights rfl (gic wn_X4 rfl (gi1 wc_X4_takeLights rfl)))), wd_X4_takeLights⟩
theorem co_X4_143 : VOk RX4 143 mX4_dimmest 0 := ⟨gic (wt (mt_5 (List.mem_of_getElem? (i := 26) rfl)) rfl) rfl (gic wv_X4_dimmest rfl (gic wz_X4_dimmest rfl (gic wn_X4 rfl (gi1 wc_X4_dimmest rfl)))), wd_X4_dimmest⟩
theorem co_X4_147 : VOk RX4 147 mX4_brightestTurn 1 := ⟨gic (wt (mt_5 (List.mem_of_getElem? (i := 30) rfl)) rfl) rfl (gic wv_X4_brightestTurn rfl (gic wz_X4_brightestTurn rfl (gic wn_X4 rfl (gi1 wc_X4_brightestTurn rfl)))), wd_X4_brightestTurn⟩
theorem co_X4_159 : SNOk RX4 159 mX11_wiresThatAre 3 := ⟨"NinetyLamps", gi1 wc_X11_wiresThatAre rfl, wn_X11, (wt (mt_5 (List.mem_of_getElem? (i := 24) rfl)) rfl), ws_X11_wiresThatAre, wd_X11_wiresThatAre⟩
theorem co_X4_163 : VOk RX4 163 mX1_glowing 2 := ⟨gic (wt (mt_5 (List.mem_of_getElem? (i := 25) rfl)) rfl) rfl (gic wv_X1_glowing rfl (gic wz_X1_glowing rfl (gic wn_X1 rfl (gi1 wc_X1_glowing rfl)))), wd_X1_glowing⟩
theorem co_X4_3 : Cond.methodLink RX4 3 objectInit ∈ wl := (wt (mt_2 (List.mem_of_getElem? (i := 94) rfl)) rfl)
theorem co_X4_63 : VOk RX4 63 mX8_isTurn 2 := ⟨gic (wt (mt_4 (List.mem_of_getElem? (i := 166) rfl)) rfl) rfl (gic wv_X8_isTurn rfl (gic wz_X8_isTurn rfl (gic wn_X8 rfl (gi1 wc_X8_isTurn rfl)))), wd_X8_isTurn⟩
theorem co_X4_70 : VOk RX4 70 mX4_numbered 1 := ⟨gic (wt (mt_4 (List.mem_of_getElem? (i := 170) rfl)) rfl) rfl (gic wv_X4_numbered rfl (gic wz_X4_numbered rfl (gic wn_X4 rfl (gi1 wc_X4_numbered rfl)))), wd_X4_numbered⟩
theorem co_X4_74 : VOk RX4 74 mX4_findWidest 0 := ⟨gic (wt (mt_4 (List.mem_of_getElem? (i := 178) rfl)) rfl) rfl (gic wv_X4_findWidest rfl (gic wz_X4_findWidest rfl (gic wn_X4 rfl (gi1 wc_X4_findWidest rfl)))), wd_X4_findWidest⟩
theorem co_X4_77 : SOk RX4 77 mJ7_fill_fda19 4 := ⟨gic (wt (mt_4 (List.mem_of_getElem? (i := 186) rfl)) rfl) rfl (gic ws_J7_fill_fda19 rfl (gic wn_J7 rfl (gi1 wc_J7_fill_fda19 rfl))), wd_J7_fill_fda19⟩
theorem co_X4_83 : VOk RX4 83 mX4_fewestFor 2 := ⟨gic (wt (mt_4 (List.mem_of_getElem? (i := 192) rfl)) rfl) rfl (gic wv_X4_fewestFor rfl (gic wz_X4_fewestFor rfl (gic wn_X4 rfl (gi1 wc_X4_fewestFor rfl)))), wd_X4_fewestFor⟩
theorem co_X4_90 : VOk RX4 90 mX4_choose 1 := ⟨gic (wt (mt_4 (List.mem_of_getElem? (i := 197) rfl)) rfl) rfl (gic wv_X4_choose rfl (gic wz_X4_choose rfl (gic wn_X4 rfl (gi1 wc_X4_choose rfl)))), wd_X4_choose⟩
theorem co_X4_97 : VOk RX4 97 mX4_addWidest 1 := ⟨gic (wt (mt_4 (List.mem_of_getElem? (i := 182) rfl)) rfl) rfl (gic wv_X4_addWidest rfl (gic wz_X4_addWidest rfl (gic wn_X4 rfl (gi1 wc_X4_addWidest rfl)))), wd_X4_addWidest⟩
theorem co_X5_101 : VOk RX5 101 mX5_depthAt 2 := ⟨gic (wt (mt_5 (List.mem_of_getElem? (i := 218) rfl)) rfl) rfl (gic wv_X5_depthAt rfl (gic wz_X5_depthAt rfl (gic wn_X5 rfl (gi1 wc_X5_depthAt rfl)))), wd_X5_depthAt⟩
theorem co_X5_104 : SOk RX5 104 mJ9_max_7cf53 2 := ⟨gic (wt (mt_5 (List.mem_of_getElem? (i := 222) rfl)) rfl) rfl (gic ws_J9_max_7cf53 rfl (gic wn_J9 rfl (gi1 wc_J9_max_7cf53 rfl))), wd_J9_max_7cf53⟩
theorem co_X5_109 : SOk RX5 109 mJ9_min_7cf53 2 := ⟨gic (wt (mt_5 (List.mem_of_getElem? (i := 223) rfl)) rfl) rfl (gic ws_J9_min_7cf53 rfl (gic wn_J9 rfl (gi1 wc_J9_min_7cf53 rfl))), wd_J9_min_7cf53⟩
theorem co_X5_112 : VOk RX5 112 mX5_worstBehind 3 := ⟨gic (wt (mt_5 (List.mem_of_getElem? (i := 228) rfl)) rfl) rfl (gic wv_X5_worstBehind rfl (gic wz_X5_worstBehind rfl (gic wn_X5 rfl (gi1 wc_X5_worstBehind rfl)))), wd_X5_worstBehind⟩
theorem co_X5_3 : Cond.methodLink RX5 3 objectInit ∈ wl := (wt (mt_2 (List.mem_of_getElem? (i := 193) rfl)) rfl)
theorem co_X5_59 : VOk RX5 59 mX5_findGroup 1 := ⟨gic (wt (mt_5 (List.mem_of_getElem? (i := 188) rfl)) rfl) rfl (gic wv_X5_findGroup rfl (gic wz_X5_findGroup rfl (gic wn_X5 rfl (gi1 wc_X5_findGroup rfl)))), wd_X5_findGroup⟩
theorem co_X5_63 : SOk RX5 63 mX5_place 2 := ⟨gic (wt (mt_5 (List.mem_of_getElem? (i := 197) rfl)) rfl) rfl (gic ws_X5_place rfl (gic wn_X5 rfl (gi1 wc_X5_place rfl))), wd_X5_place⟩
theorem co_X5_67 : VOk RX5 67 mX5_partCells 1 := ⟨gic (wt (mt_5 (List.mem_of_getElem? (i := 200) rfl)) rfl) rfl (gic wv_X5_partCells rfl (gic wz_X5_partCells rfl (gic wn_X5 rfl (gi1 wc_X5_partCells rfl)))), wd_X5_partCells⟩
theorem co_X5_71 : VOk RX5 71 mX5_reckonDepths 1 := ⟨gic (wt (mt_5 (List.mem_of_getElem? (i := 209) rfl)) rfl) rfl (gic wv_X5_reckonDepths rfl (gic wz_X5_reckonDepths rfl (gic wn_X5 rfl (gi1 wc_X5_reckonDepths rfl)))), wd_X5_reckonDepths⟩
theorem co_X5_74 : VOk RX5 74 mX7_glowWith 3 := ⟨gic (wt (mt_5 (List.mem_of_getElem? (i := 192) rfl)) rfl) rfl (gic wv_X7_glowWith rfl (gic wz_X7_glowWith rfl (gic wn_X7 rfl (gi1 wc_X7_glowWith rfl)))), wd_X7_glowWith⟩
theorem co_X5_78 : VOk RX5 78 mX5_isSameRow 2 := ⟨gic (wt (mt_5 (List.mem_of_getElem? (i := 193) rfl)) rfl) rfl (gic wv_X5_isSameRow rfl (gic wz_X5_isSameRow rfl (gic wn_X5 rfl (gi1 wc_X5_isSameRow rfl)))), wd_X5_isSameRow⟩
theorem co_X5_82 : SOk RX5 82 mJ6_numberOfTrailingZeros_0f7a4 1 := ⟨gic (wt (mt_5 (List.mem_of_getElem? (i := 204) rfl)) rfl) rfl (gic ws_J6_numberOfTrailingZeros_0f7a4 rfl (gic wn_J6 rfl (gi1 wc_J6_numberOfTrailingZeros_0f7a4 rfl))), wd_J6_numberOfTrailingZeros_0f7a4⟩
theorem co_X5_87 : VOk RX5 87 mX5_isOneCell 4 := ⟨gic (wt (mt_5 (List.mem_of_getElem? (i := 205) rfl)) rfl) rfl (gic wv_X5_isOneCell rfl (gic wz_X5_isOneCell rfl (gic wn_X5 rfl (gi1 wc_X5_isOneCell rfl)))), wd_X5_isOneCell⟩
theorem co_X5_91 : SOk RX5 91 mJ7_fill_53178 2 := ⟨gic (wt (mt_5 (List.mem_of_getElem? (i := 213) rfl)) rfl) rfl (gic ws_J7_fill_53178 rfl (gic wn_J7 rfl (gi1 wc_J7_fill_53178 rfl))), wd_J7_fill_53178⟩
theorem co_X5_97 : VOk RX5 97 mX5_tryTest 2 := ⟨gic (wt (mt_5 (List.mem_of_getElem? (i := 214) rfl)) rfl) rfl (gic wv_X5_tryTest rfl (gic wz_X5_tryTest rfl (gic wn_X5 rfl (gi1 wc_X5_tryTest rfl)))), wd_X5_tryTest⟩
theorem co_X6_100 : VOk RX6 100 mX6_isDigit 0 := ⟨gic (wt (mt_3 (List.mem_of_getElem? (i := 95) rfl)) rfl) rfl (gic wv_X6_isDigit rfl (gic wz_X6_isDigit rfl (gic wn_X6 rfl (gi1 wc_X6_isDigit rfl)))), wd_X6_isDigit⟩
theorem co_X6_3 : Cond.methodLink RX6 3 objectInit ∈ wl := (wt (mt_1 (List.mem_of_getElem? (i := 124) rfl)) rfl)
theorem co_X6_49 : SOk RX6 49 mJ9_min_7cf53 2 := ⟨gic (wt (mt_3 (List.mem_of_getElem? (i := 76) rfl)) rfl) rfl (gic ws_J9_min_7cf53 rfl (gic wn_J9 rfl (gi1 wc_J9_min_7cf53 rfl))), wd_J9_min_7cf53⟩
theorem co_X6_58 : VOk RX6 58 mX6_readLine 0 := ⟨gic (wt (mt_3 (List.mem_of_getElem? (i := 79) rfl)) rfl) rfl (gic wv_X6_readLine rfl (gic wz_X6_readLine rfl (gic wn_X6 rfl (gi1 wc_X6_readLine rfl)))), wd_X6_readLine⟩
theorem co_X6_62 : VOk RX6 62 mX6_goesOn 0 := ⟨gic (wt (mt_3 (List.mem_of_getElem? (i := 123) rfl)) rfl) rfl (gic wv_X6_goesOn rfl (gic wz_X6_goesOn rfl (gic wn_X6 rfl (gi1 wc_X6_goesOn rfl)))), wd_X6_goesOn⟩
theorem co_X6_65 : VOk RX6 65 mX6_take 1 := ⟨gic (wt (mt_3 (List.mem_of_getElem? (i := 115) rfl)) rfl) rfl (gic wv_X6_take rfl (gic wz_X6_take rfl (gic wn_X6 rfl (gi1 wc_X6_take rfl)))), wd_X6_take⟩
theorem co_X6_69 : VOk RX6 69 mX6_isAt 1 := ⟨gic (wt (mt_3 (List.mem_of_getElem? (i := 83) rfl)) rfl) rfl (gic wv_X6_isAt rfl (gic wz_X6_isAt rfl (gic wn_X6 rfl (gi1 wc_X6_isAt rfl)))), wd_X6_isAt⟩
theorem co_X6_72 : VOk RX6 72 mX6_readWidth 0 := ⟨gic (wt (mt_3 (List.mem_of_getElem? (i := 87) rfl)) rfl) rfl (gic wv_X6_readWidth rfl (gic wz_X6_readWidth rfl (gic wn_X6 rfl (gi1 wc_X6_readWidth rfl)))), wd_X6_readWidth⟩
theorem co_X6_75 : VOk RX6 75 mX6_readOhms 0 := ⟨gic (wt (mt_3 (List.mem_of_getElem? (i := 107) rfl)) rfl) rfl (gic wv_X6_readOhms rfl (gic wz_X6_readOhms rfl (gic wn_X6 rfl (gi1 wc_X6_readOhms rfl)))), wd_X6_readOhms⟩
theorem co_X6_78 : VOk RX6 78 mX6_readLamp 0 := ⟨gic (wt (mt_3 (List.mem_of_getElem? (i := 119) rfl)) rfl) rfl (gic wv_X6_readLamp rfl (gic wz_X6_readLamp rfl (gic wn_X6 rfl (gi1 wc_X6_readLamp rfl)))), wd_X6_readLamp⟩
theorem co_X6_81 : VOk RX6 81 mX6_takeNumber 2 := ⟨gic (wt (mt_3 (List.mem_of_getElem? (i := 91) rfl)) rfl) rfl (gic wv_X6_takeNumber rfl (gic wz_X6_takeNumber rfl (gic wn_X6 rfl (gi1 wc_X6_takeNumber rfl)))), wd_X6_takeNumber⟩
theorem co_X6_84 : VOk RX6 84 mX6_note 4 := ⟨gic (wt (mt_3 (List.mem_of_getElem? (i := 103) rfl)) rfl) rfl (gic wv_X6_note rfl (gic wz_X6_note rfl (gic wn_X6 rfl (gi1 wc_X6_note rfl)))), wd_X6_note⟩
theorem co_X6_88 : VOk RX6 88 mX6_takeWire 1 := ⟨gic (wt (mt_3 (List.mem_of_getElem? (i := 111) rfl)) rfl) rfl (gic wv_X6_takeWire rfl (gic wz_X6_takeWire rfl (gic wn_X6 rfl (gi1 wc_X6_takeWire rfl)))), wd_X6_takeWire⟩
theorem co_X6_92 : VOk RX6 92 mX6_fail 1 := ⟨gic (wt (mt_3 (List.mem_of_getElem? (i := 99) rfl)) rfl) rfl (gic wv_X6_fail rfl (gic wz_X6_fail rfl (gic wn_X6 rfl (gi1 wc_X6_fail rfl)))), wd_X6_fail⟩
theorem co_X7_105 : SNOk RX7 105 mX11_wiresThatAre 3 := ⟨"NinetyLamps", gi1 wc_X11_wiresThatAre rfl, wn_X11, (wt (mt_5 (List.mem_of_getElem? (i := 120) rfl)) rfl), ws_X11_wiresThatAre, wd_X11_wiresThatAre⟩
theorem co_X7_109 : VOk RX7 109 mX7_glowWith 3 := ⟨gic (wt (mt_5 (List.mem_of_getElem? (i := 121) rfl)) rfl) rfl (gic wv_X7_glowWith rfl (gic wz_X7_glowWith rfl (gic wn_X7 rfl (gi1 wc_X7_glowWith rfl)))), wd_X7_glowWith⟩
theorem co_X7_115 : VOk RX7 115 mX7_glowBy 2 := ⟨gic (wt (mt_5 (List.mem_of_getElem? (i := 116) rfl)) rfl) rfl (gic wv_X7_glowBy rfl (gic wz_X7_glowBy rfl (gic wn_X7 rfl (gi1 wc_X7_glowBy rfl)))), wd_X7_glowBy⟩
theorem co_X7_133 : VOk RX7 133 mX7_firstAgainst 1 := ⟨gic (wt (mt_5 (List.mem_of_getElem? (i := 150) rfl)) rfl) rfl (gic wv_X7_firstAgainst rfl (gic wz_X7_firstAgainst rfl (gic wn_X7 rfl (gi1 wc_X7_firstAgainst rfl)))), wd_X7_firstAgainst⟩
theorem co_X7_136 : VOk RX7 136 mX7_joinGroup 1 := ⟨gic (wt (mt_5 (List.mem_of_getElem? (i := 167) rfl)) rfl) rfl (gic wv_X7_joinGroup rfl (gic wz_X7_joinGroup rfl (gic wn_X7 rfl (gi1 wc_X7_joinGroup rfl)))), wd_X7_joinGroup⟩
theorem co_X7_140 : SOk RX7 140 mJ9_max_7cf53 2 := ⟨gic (wt (mt_5 (List.mem_of_getElem? (i := 171) rfl)) rfl) rfl (gic ws_J9_max_7cf53 rfl (gic wn_J9 rfl (gi1 wc_J9_max_7cf53 rfl))), wd_J9_max_7cf53⟩
theorem co_X7_3 : Cond.methodLink RX7 3 objectInit ∈ wl := (wt (mt_2 (List.mem_of_getElem? (i := 155) rfl)) rfl)
theorem co_X7_53 : VOk RX7 53 mX7_firstTouch 0 := ⟨gic (wt (mt_5 (List.mem_of_getElem? (i := 54) rfl)) rfl) rfl (gic wv_X7_firstTouch rfl (gic wz_X7_firstTouch rfl (gic wn_X7 rfl (gi1 wc_X7_firstTouch rfl)))), wd_X7_firstTouch⟩
theorem co_X7_57 : VOk RX7 57 mX7_firstTurned 0 := ⟨gic (wt (mt_5 (List.mem_of_getElem? (i := 59) rfl)) rfl) rfl (gic wv_X7_firstTurned rfl (gic wz_X7_firstTurned rfl (gic wn_X7 rfl (gi1 wc_X7_firstTurned rfl)))), wd_X7_firstTurned⟩
theorem co_X7_63 : VOk RX7 63 mX7_size 0 := ⟨gic (wt (mt_5 (List.mem_of_getElem? (i := 68) rfl)) rfl) rfl (gic wv_X7_size rfl (gic wz_X7_size rfl (gic wn_X7 rfl (gi1 wc_X7_size rfl)))), wd_X7_size⟩
theorem co_X7_66 : VOk RX7 66 mX7_firstOfPair 1 := ⟨gic (wt (mt_5 (List.mem_of_getElem? (i := 82) rfl)) rfl) rfl (gic wv_X7_firstOfPair rfl (gic wz_X7_firstOfPair rfl (gic wn_X7 rfl (gi1 wc_X7_firstOfPair rfl)))), wd_X7_firstOfPair⟩
theorem co_X7_70 : VOk RX7 70 mX7_kindOf 1 := ⟨gic (wt (mt_5 (List.mem_of_getElem? (i := 74) rfl)) rfl) rfl (gic wv_X7_kindOf rfl (gic wz_X7_kindOf rfl (gic wn_X7 rfl (gi1 wc_X7_kindOf rfl)))), wd_X7_kindOf⟩
theorem co_X7_73 : VOk RX7 73 mX7_pairsFrom 1 := ⟨gic (wt (mt_5 (List.mem_of_getElem? (i := 86) rfl)) rfl) rfl (gic wv_X7_pairsFrom rfl (gic wz_X7_pairsFrom rfl (gic wn_X7 rfl (gi1 wc_X7_pairsFrom rfl)))), wd_X7_pairsFrom⟩
theorem co_X7_76 : VOk RX7 76 mX1_lay 2 := ⟨gic (wt (mt_5 (List.mem_of_getElem? (i := 73) rfl)) rfl) rfl (gic wv_X1_lay rfl (gic wz_X1_lay rfl (gic wn_X1 rfl (gi1 wc_X1_lay rfl)))), wd_X1_lay⟩
theorem co_X7_82 : VOk RX7 82 mX7_firstOf 1 := ⟨gic (wt (mt_5 (List.mem_of_getElem? (i := 78) rfl)) rfl) rfl (gic wv_X7_firstOf rfl (gic wz_X7_firstOf rfl (gic wn_X7 rfl (gi1 wc_X7_firstOf rfl)))), wd_X7_firstOf⟩
theorem co_X7_85 : VOk RX7 85 mX1_cut 1 := ⟨gic (wt (mt_5 (List.mem_of_getElem? (i := 90) rfl)) rfl) rfl (gic wv_X1_cut rfl (gic wz_X1_cut rfl (gic wn_X1 rfl (gi1 wc_X1_cut rfl)))), wd_X1_cut⟩
theorem co_X7_89 : VOk RX7 89 mX7_secondOf 1 := ⟨gic (wt (mt_5 (List.mem_of_getElem? (i := 94) rfl)) rfl) rfl (gic wv_X7_secondOf rfl (gic wz_X7_secondOf rfl (gic wn_X7 rfl (gi1 wc_X7_secondOf rfl)))), wd_X7_secondOf⟩
theorem co_X7_92 : VOk RX7 92 mX1_join 2 := ⟨gic (wt (mt_5 (List.mem_of_getElem? (i := 98) rfl)) rfl) rfl (gic wv_X1_join rfl (gic wz_X1_join rfl (gic wn_X1 rfl (gi1 wc_X1_join rfl)))), wd_X1_join⟩
theorem co_X7_95 : VOk RX7 95 mX1_turn 1 := ⟨gic (wt (mt_5 (List.mem_of_getElem? (i := 103) rfl)) rfl) rfl (gic wv_X1_turn rfl (gic wz_X1_turn rfl (gic wn_X1 rfl (gi1 wc_X1_turn rfl)))), wd_X1_turn⟩
theorem co_X7_98 : VOk RX7 98 mX1_run 0 := ⟨gic (wt (mt_5 (List.mem_of_getElem? (i := 107) rfl)) rfl) rfl (gic wv_X1_run rfl (gic wz_X1_run rfl (gic wn_X1 rfl (gi1 wc_X1_run rfl)))), wd_X1_run⟩
theorem co_X8_3 : Cond.methodLink RX8 3 objectInit ∈ wl := (wt (mt_2 (List.mem_of_getElem? (i := 54) rfl)) rfl)
theorem co_X8_44 : SNOk RX8 44 mX11_settingsOf 1 := ⟨"NinetyLamps", gi1 wc_X11_settingsOf rfl, wn_X11, (wt (mt_4 (List.mem_of_getElem? (i := 86) rfl)) rfl), ws_X11_settingsOf, wd_X11_settingsOf⟩
theorem co_X8_48 : SOk RX8 48 mJ9_min_7cf53 2 := ⟨gic (wt (mt_4 (List.mem_of_getElem? (i := 89) rfl)) rfl) rfl (gic ws_J9_min_7cf53 rfl (gic wn_J9 rfl (gi1 wc_J9_min_7cf53 rfl))), wd_J9_min_7cf53⟩
theorem co_X8_54 : SNOk RX8 54 mX11_wiresThatAre 3 := ⟨"NinetyLamps", gi1 wc_X11_wiresThatAre rfl, wn_X11, (wt (mt_4 (List.mem_of_getElem? (i := 90) rfl)) rfl), ws_X11_wiresThatAre, wd_X11_wiresThatAre⟩
theorem co_X8_58 : VOk RX8 58 mX1_lay 2 := ⟨gic (wt (mt_4 (List.mem_of_getElem? (i := 93) rfl)) rfl) rfl (gic wv_X1_lay rfl (gic wz_X1_lay rfl (gic wn_X1 rfl (gi1 wc_X1_lay rfl)))), wd_X1_lay⟩
theorem co_X8_64 : VOk RX8 64 mX1_run 0 := ⟨gic (wt (mt_4 (List.mem_of_getElem? (i := 94) rfl)) rfl) rfl (gic wv_X1_run rfl (gic wz_X1_run rfl (gic wn_X1 rfl (gi1 wc_X1_run rfl)))), wd_X1_run⟩
theorem co_X8_68 : VOk RX8 68 mX0_asked 2 := ⟨gic (wt (mt_4 (List.mem_of_getElem? (i := 95) rfl)) rfl) rfl (gic wv_X0_asked rfl (gic wz_X0_asked rfl (gic wn_X0 rfl (gi1 wc_X0_asked rfl)))), wd_X0_asked⟩
theorem co_X8_74 : VOk RX8 74 mX8_enter 1 := ⟨gic (wt (mt_4 (List.mem_of_getElem? (i := 117) rfl)) rfl) rfl (gic wv_X8_enter rfl (gic wz_X8_enter rfl (gic wn_X8 rfl (gi1 wc_X8_enter rfl)))), wd_X8_enter⟩
theorem co_X9_1 : Cond.methodLink RX9 1 objectInit ∈ wl := (wt (mt_1 (List.mem_of_getElem? (i := 107) rfl)) rfl)
theorem co_X10_1 : Cond.methodLink RX10 1 objectInit ∈ wl := (wt (mt_1 (List.mem_of_getElem? (i := 169) rfl)) rfl)
theorem co_X11_1 : Cond.methodLink RX11 1 objectInit ∈ wl := (wt (mt_1 (List.mem_of_getElem? (i := 29) rfl)) rfl)
theorem co_X11_112 : VOk RX11 112 mX6_read 2 := ⟨gic (wt (mt_3 (List.mem_of_getElem? (i := 72) rfl)) rfl) rfl (gic wv_X6_read rfl (gic wz_X6_read rfl (gic wn_X6 rfl (gi1 wc_X6_read rfl)))), wd_X6_read⟩
theorem co_X11_119 : VOk RX11 119 mX11_takeLine 1 := ⟨gic (wt (mt_3 (List.mem_of_getElem? (i := 127) rfl)) rfl) rfl (gic wv_X11_takeLine rfl (gic wz_X11_takeLine rfl (gic wn_X11 rfl (gi1 wc_X11_takeLine rfl)))), wd_X11_takeLine⟩
theorem co_X11_136 : VOk RX11 136 mX0_hasLamp 1 := ⟨gic (wt (mt_4 (List.mem_of_getElem? (i := 39) rfl)) rfl) rfl (gic wv_X0_hasLamp rfl (gic wz_X0_hasLamp rfl (gic wn_X0 rfl (gi1 wc_X0_hasLamp rfl)))), wd_X0_hasLamp⟩
theorem co_X11_152 : VOk RX11 152 mX0_hasWire 1 := ⟨gic (wt (mt_3 (List.mem_of_getElem? (i := 167) rfl)) rfl) rfl (gic wv_X0_hasWire rfl (gic wz_X0_hasWire rfl (gic wn_X0 rfl (gi1 wc_X0_hasWire rfl)))), wd_X0_hasWire⟩
theorem co_X11_158 : SOk RX11 158 mX11_entryAs 2 := ⟨gic (wt (mt_3 (List.mem_of_getElem? (i := 172) rfl)) rfl) rfl (gic ws_X11_entryAs rfl (gic wn_X11 rfl (gi1 wc_X11_entryAs rfl))), wd_X11_entryAs⟩
theorem co_X11_161 : SOk RX11 161 mJ9_min_7cf53 2 := ⟨gic (wt (mt_3 (List.mem_of_getElem? (i := 175) rfl)) rfl) rfl (gic ws_J9_min_7cf53 rfl (gic wn_J9 rfl (gi1 wc_J9_min_7cf53 rfl))), wd_J9_min_7cf53⟩
theorem co_X11_166 : SOk RX11 166 mJ9_max_7cf53 2 := ⟨gic (wt (mt_3 (List.mem_of_getElem? (i := 176) rfl)) rfl) rfl (gic ws_J9_max_7cf53 rfl (gic wn_J9 rfl (gi1 wc_J9_max_7cf53 rfl))), wd_J9_max_7cf53⟩
theorem co_X11_169 : VOk RX11 169 mX0_hasPair 2 := ⟨gic (wt (mt_3 (List.mem_of_getElem? (i := 183) rfl)) rfl) rfl (gic wv_X0_hasPair rfl (gic wz_X0_hasPair rfl (gic wn_X0 rfl (gi1 wc_X0_hasPair rfl)))), wd_X0_hasPair⟩
theorem co_X11_173 : VOk RX11 173 mX0_trade 2 := ⟨gic (wt (mt_3 (List.mem_of_getElem? (i := 191) rfl)) rfl) rfl (gic wv_X0_trade rfl (gic wz_X0_trade rfl (gic wn_X0 rfl (gi1 wc_X0_trade rfl)))), wd_X0_trade⟩
theorem co_X11_177 : VOk RX11 177 mX0_hasSetting 2 := ⟨gic (wt (mt_3 (List.mem_of_getElem? (i := 199) rfl)) rfl) rfl (gic wv_X0_hasSetting rfl (gic wz_X0_hasSetting rfl (gic wn_X0 rfl (gi1 wc_X0_hasSetting rfl)))), wd_X0_hasSetting⟩
theorem co_X11_18 : INOk RX11 18 mX9_init 0 := ⟨"NinetyLamps", gi1 wc_X9_init rfl, wn_X9, (wt (mt_1 (List.mem_of_getElem? (i := 104) rfl)) rfl), wv_X9_init, rfl, rfl, wd_X9_init⟩
theorem co_X11_186 : VOk RX11 186 mX1_glowing 2 := ⟨gic (wt (mt_3 (List.mem_of_getElem? (i := 203) rfl)) rfl) rfl (gic wv_X1_glowing rfl (gic wz_X1_glowing rfl (gic wn_X1 rfl (gi1 wc_X1_glowing rfl)))), wd_X1_glowing⟩
theorem co_X11_190 : SOk RX11 190 mJ13_bitCount_95d88 1 := ⟨gic (wt (mt_4 (List.mem_of_getElem? (i := 21) rfl)) rfl) rfl (gic ws_J13_bitCount_95d88 rfl (gic wn_J13 rfl (gi1 wc_J13_bitCount_95d88 rfl))), wd_J13_bitCount_95d88⟩
theorem co_X11_196 : VOk RX11 196 mX0_asked 2 := ⟨gic (wt (mt_4 (List.mem_of_getElem? (i := 30) rfl)) rfl) rfl (gic wv_X0_asked rfl (gic wz_X0_asked rfl (gic wn_X0 rfl (gi1 wc_X0_asked rfl)))), wd_X0_asked⟩
theorem co_X11_201 : VOk RX11 201 mX1_watch 3 := ⟨gic (wt (mt_4 (List.mem_of_getElem? (i := 40) rfl)) rfl) rfl (gic wv_X1_watch rfl (gic wz_X1_watch rfl (gic wn_X1 rfl (gi1 wc_X1_watch rfl)))), wd_X1_watch⟩
theorem co_X11_205 : VOk RX11 205 mX10_clear 0 := ⟨gic (wt (mt_4 (List.mem_of_getElem? (i := 44) rfl)) rfl) rfl (gic wv_X10_clear rfl (gic wz_X10_clear rfl (gic wn_X10 rfl (gi1 wc_X10_clear rfl)))), wd_X10_clear⟩
theorem co_X11_211 : VOk RX11 211 mX10_add 1 := ⟨gic (wt (mt_4 (List.mem_of_getElem? (i := 48) rfl)) rfl) rfl (gic wv_X10_add rfl (gic wz_X10_add rfl (gic wn_X10 rfl (gi1 wc_X10_add rfl)))), wd_X10_add⟩
theorem co_X11_234 : SOk RX11 234 mJ13_numberOfTrailingZeros_95d88 1 := ⟨gic (wt (mt_4 (List.mem_of_getElem? (i := 65) rfl)) rfl) rfl (gic ws_J13_numberOfTrailingZeros_95d88 rfl (gic wn_J13 rfl (gi1 wc_J13_numberOfTrailingZeros_95d88 rfl))), wd_J13_numberOfTrailingZeros_95d88⟩
theorem co_X11_237 : VOk RX11 237 mX0_hasLamps 1 := ⟨gic (wt (mt_4 (List.mem_of_getElem? (i := 70) rfl)) rfl) rfl (gic wv_X0_hasLamps rfl (gic wz_X0_hasLamps rfl (gic wn_X0 rfl (gi1 wc_X0_hasLamps rfl)))), wd_X0_hasLamps⟩
theorem co_X11_241 : VOk RX11 241 mX11_openTable 0 := ⟨gic (wt (mt_4 (List.mem_of_getElem? (i := 74) rfl)) rfl) rfl (gic wv_X11_openTable rfl (gic wz_X11_openTable rfl (gic wn_X11 rfl (gi1 wc_X11_openTable rfl)))), wd_X11_openTable⟩
theorem co_X11_249 : SOk RX11 249 mX11_wiresThatAre 3 := ⟨gic (wt (mt_4 (List.mem_of_getElem? (i := 97) rfl)) rfl) rfl (gic ws_X11_wiresThatAre rfl (gic wn_X11 rfl (gi1 wc_X11_wiresThatAre rfl))), wd_X11_wiresThatAre⟩
theorem co_X11_25 : IOk RX11 25 mX6_init 1 := ⟨gi1 wc_X6_init rfl, wn_X6, (wt (mt_1 (List.mem_of_getElem? (i := 121) rfl)) rfl), wv_X6_init, rfl, rfl, wd_X6_init⟩
theorem co_X11_260 : SOk RX11 260 mJ7_fill_53178 2 := ⟨gic (wt (mt_4 (List.mem_of_getElem? (i := 110) rfl)) rfl) rfl (gic ws_J7_fill_53178 rfl (gic wn_J7 rfl (gi1 wc_J7_fill_53178 rfl))), wd_J7_fill_53178⟩
theorem co_X11_266 : VOk RX11 266 mX8_newSets 1 := ⟨gic (wt (mt_4 (List.mem_of_getElem? (i := 113) rfl)) rfl) rfl (gic wv_X8_newSets rfl (gic wz_X8_newSets rfl (gic wn_X8 rfl (gi1 wc_X8_newSets rfl)))), wd_X8_newSets⟩
theorem co_X11_272 : VOk RX11 272 mX8_likeBehind 1 := ⟨gic (wt (mt_4 (List.mem_of_getElem? (i := 135) rfl)) rfl) rfl (gic wv_X8_likeBehind rfl (gic wz_X8_likeBehind rfl (gic wn_X8 rfl (gi1 wc_X8_likeBehind rfl)))), wd_X8_likeBehind⟩
theorem co_X11_276 : SOk RX11 276 mX11_isPicture 1 := ⟨gic (wt (mt_4 (List.mem_of_getElem? (i := 147) rfl)) rfl) rfl (gic ws_X11_isPicture rfl (gic wn_X11 rfl (gi1 wc_X11_isPicture rfl))), wd_X11_isPicture⟩
theorem co_X11_282 : VOk RX11 282 mX11_partInto 1 := ⟨gic (wt (mt_4 (List.mem_of_getElem? (i := 154) rfl)) rfl) rfl (gic wv_X11_partInto rfl (gic wz_X11_partInto rfl (gic wn_X11 rfl (gi1 wc_X11_partInto rfl)))), wd_X11_partInto⟩
theorem co_X11_289 : VOk RX11 289 mX11_tellTurns 2 := ⟨gic (wt (mt_4 (List.mem_of_getElem? (i := 201) rfl)) rfl) rfl (gic wv_X11_tellTurns rfl (gic wz_X11_tellTurns rfl (gic wn_X11 rfl (gi1 wc_X11_tellTurns rfl)))), wd_X11_tellTurns⟩
theorem co_X11_292 : VOk RX11 292 mX11_openParting 1 := ⟨gic (wt (mt_4 (List.mem_of_getElem? (i := 158) rfl)) rfl) rfl (gic wv_X11_openParting rfl (gic wz_X11_openParting rfl (gic wn_X11 rfl (gi1 wc_X11_openParting rfl)))), wd_X11_openParting⟩
theorem co_X11_295 : VOk RX11 295 mX4_mostApart 0 := ⟨gic (wt (mt_4 (List.mem_of_getElem? (i := 209) rfl)) rfl) rfl (gic wv_X4_mostApart rfl (gic wz_X4_mostApart rfl (gic wn_X4 rfl (gi1 wc_X4_mostApart rfl)))), wd_X4_mostApart⟩
theorem co_X11_299 : VOk RX11 299 mX8_isTurn 2 := ⟨gic (wt (mt_4 (List.mem_of_getElem? (i := 232) rfl)) rfl) rfl (gic wv_X8_isTurn rfl (gic wz_X8_isTurn rfl (gic wn_X8 rfl (gi1 wc_X8_isTurn rfl)))), wd_X8_isTurn⟩
theorem co_X11_303 : VOk RX11 303 mX4_putInOrder 0 := ⟨gic (wt (mt_4 (List.mem_of_getElem? (i := 237) rfl)) rfl) rfl (gic wv_X4_putInOrder rfl (gic wz_X4_putInOrder rfl (gic wn_X4 rfl (gi1 wc_X4_putInOrder rfl)))), wd_X4_putInOrder⟩
theorem co_X11_310 : VOk RX11 310 mX4_giveSlots 1 := ⟨gic (wt (mt_5 (List.mem_of_getElem? (i := 15) rfl)) rfl) rfl (gic wv_X4_giveSlots rfl (gic wz_X4_giveSlots rfl (gic wn_X4 rfl (gi1 wc_X4_giveSlots rfl)))), wd_X4_giveSlots⟩
theorem co_X11_314 : VOk RX11 314 mX11_partTraded 3 := ⟨gic (wt (mt_5 (List.mem_of_getElem? (i := 38) rfl)) rfl) rfl (gic wv_X11_partTraded rfl (gic wz_X11_partTraded rfl (gic wn_X11 rfl (gi1 wc_X11_partTraded rfl)))), wd_X11_partTraded⟩
theorem co_X11_318 : VOk RX11 318 mX7_firstTouch 0 := ⟨gic (wt (mt_5 (List.mem_of_getElem? (i := 46) rfl)) rfl) rfl (gic wv_X7_firstTouch rfl (gic wz_X7_firstTouch rfl (gic wn_X7 rfl (gi1 wc_X7_firstTouch rfl)))), wd_X7_firstTouch⟩
theorem co_X11_321 : VOk RX11 321 mX7_firstTurned 0 := ⟨gic (wt (mt_5 (List.mem_of_getElem? (i := 50) rfl)) rfl) rfl (gic wv_X7_firstTurned rfl (gic wz_X7_firstTurned rfl (gic wn_X7 rfl (gi1 wc_X7_firstTurned rfl)))), wd_X7_firstTurned⟩
theorem co_X11_324 : VOk RX11 324 mX7_size 0 := ⟨gic (wt (mt_5 (List.mem_of_getElem? (i := 55) rfl)) rfl) rfl (gic wv_X7_size rfl (gic wz_X7_size rfl (gic wn_X7 rfl (gi1 wc_X7_size rfl)))), wd_X7_size⟩
theorem co_X11_326 : VOk RX11 326 mX7_has 1 := ⟨gic (wt (mt_5 (List.mem_of_getElem? (i := 64) rfl)) rfl) rfl (gic wv_X7_has rfl (gic wz_X7_has rfl (gic wn_X7 rfl (gi1 wc_X7_has rfl)))), wd_X7_has⟩
theorem co_X11_329 : VOk RX11 329 mX7_kindOf 1 := ⟨gic (wt (mt_6 (List.mem_of_getElem? (i := 108) rfl)) rfl) rfl (gic wv_X7_kindOf rfl (gic wz_X7_kindOf rfl (gic wn_X7 rfl (gi1 wc_X7_kindOf rfl)))), wd_X7_kindOf⟩
theorem co_X11_332 : VOk RX11 332 mX7_firstOf 1 := ⟨gic (wt (mt_6 (List.mem_of_getElem? (i := 109) rfl)) rfl) rfl (gic wv_X7_firstOf rfl (gic wz_X7_firstOf rfl (gic wn_X7 rfl (gi1 wc_X7_firstOf rfl)))), wd_X7_firstOf⟩
theorem co_X11_335 : VOk RX11 335 mX7_secondOf 1 := ⟨gic (wt (mt_6 (List.mem_of_getElem? (i := 110) rfl)) rfl) rfl (gic wv_X7_secondOf rfl (gic wz_X7_secondOf rfl (gic wn_X7 rfl (gi1 wc_X7_secondOf rfl)))), wd_X7_secondOf⟩
theorem co_X11_338 : VOk RX11 338 mX7_glowWith 3 := ⟨gic (wt (mt_5 (List.mem_of_getElem? (i := 69) rfl)) rfl) rfl (gic wv_X7_glowWith rfl (gic wz_X7_glowWith rfl (gic wn_X7 rfl (gi1 wc_X7_glowWith rfl)))), wd_X7_glowWith⟩
theorem co_X11_34 : INOk RX11 34 mX10_init 0 := ⟨"NinetyLamps", gi1 wc_X10_init rfl, wn_X10, (wt (mt_1 (List.mem_of_getElem? (i := 166) rfl)) rfl), wv_X10_init, rfl, rfl, wd_X10_init⟩
theorem co_X11_342 : VOk RX11 342 mX7_firstParting 3 := ⟨gic (wt (mt_5 (List.mem_of_getElem? (i := 112) rfl)) rfl) rfl (gic wv_X7_firstParting rfl (gic wz_X7_firstParting rfl (gic wn_X7 rfl (gi1 wc_X7_firstParting rfl)))), wd_X7_firstParting⟩
theorem co_X11_345 : VOk RX11 345 mX3_addSeen 3 := ⟨gic (wt (mt_5 (List.mem_of_getElem? (i := 134) rfl)) rfl) rfl (gic wv_X3_addSeen rfl (gic wz_X3_addSeen rfl (gic wn_X3 rfl (gi1 wc_X3_addSeen rfl)))), wd_X3_addSeen⟩
theorem co_X11_352 : VOk RX11 352 mX7_gather 0 := ⟨gic (wt (mt_5 (List.mem_of_getElem? (i := 146) rfl)) rfl) rfl (gic wv_X7_gather rfl (gic wz_X7_gather rfl (gic wn_X7 rfl (gi1 wc_X7_gather rfl)))), wd_X7_gather⟩
theorem co_X11_361 : VOk RX11 361 mX7_firstAgainst 1 := ⟨gic (wt (mt_5 (List.mem_of_getElem? (i := 158) rfl)) rfl) rfl (gic wv_X7_firstAgainst rfl (gic wz_X7_firstAgainst rfl (gic wn_X7 rfl (gi1 wc_X7_firstAgainst rfl)))), wd_X7_firstAgainst⟩
theorem co_X11_364 : VOk RX11 364 mX7_leftAtWorst 2 := ⟨gic (wt (mt_5 (List.mem_of_getElem? (i := 163) rfl)) rfl) rfl (gic wv_X7_leftAtWorst rfl (gic wz_X7_leftAtWorst rfl (gic wn_X7 rfl (gi1 wc_X7_leftAtWorst rfl)))), wd_X7_leftAtWorst⟩
theorem co_X11_367 : VOk RX11 367 mX5_addTest 2 := ⟨gic (wt (mt_5 (List.mem_of_getElem? (i := 176) rfl)) rfl) rfl (gic wv_X5_addTest rfl (gic wz_X5_addTest rfl (gic wn_X5 rfl (gi1 wc_X5_addTest rfl)))), wd_X5_addTest⟩
theorem co_X11_373 : VOk RX11 373 mX5_grow 0 := ⟨gic (wt (mt_5 (List.mem_of_getElem? (i := 184) rfl)) rfl) rfl (gic wv_X5_grow rfl (gic wz_X5_grow rfl (gic wn_X5 rfl (gi1 wc_X5_grow rfl)))), wd_X5_grow⟩
theorem co_X11_376 : VOk RX11 376 mX5_firstTest 2 := ⟨gic (wt (mt_5 (List.mem_of_getElem? (i := 224) rfl)) rfl) rfl (gic wv_X5_firstTest rfl (gic wz_X5_firstTest rfl (gic wn_X5 rfl (gi1 wc_X5_firstTest rfl)))), wd_X5_firstTest⟩
theorem co_X11_382 : VOk RX11 382 mX5_depthAt 2 := ⟨gic (wt (mt_5 (List.mem_of_getElem? (i := 232) rfl)) rfl) rfl (gic wv_X5_depthAt rfl (gic wz_X5_depthAt rfl (gic wn_X5 rfl (gi1 wc_X5_depthAt rfl)))), wd_X5_depthAt⟩
theorem co_X11_385 : VOk RX11 385 mX5_groupOfFault 1 := ⟨gic (wt (mt_5 (List.mem_of_getElem? (i := 237) rfl)) rfl) rfl (gic wv_X5_groupOfFault rfl (gic wz_X5_groupOfFault rfl (gic wn_X5 rfl (gi1 wc_X5_groupOfFault rfl)))), wd_X5_groupOfFault⟩
theorem co_X11_388 : VOk RX11 388 mX5_sizeOfGroup 1 := ⟨gic (wt (mt_6 (List.mem_of_getElem? (i := 1) rfl)) rfl) rfl (gic wv_X5_sizeOfGroup rfl (gic wz_X5_sizeOfGroup rfl (gic wn_X5 rfl (gi1 wc_X5_sizeOfGroup rfl)))), wd_X5_sizeOfGroup⟩
theorem co_X11_391 : VOk RX11 391 mX2_take 2 := ⟨gic (wt (mt_6 (List.mem_of_getElem? (i := 9) rfl)) rfl) rfl (gic wv_X2_take rfl (gic wz_X2_take rfl (gic wn_X2 rfl (gi1 wc_X2_take rfl)))), wd_X2_take⟩
theorem co_X11_398 : VOk RX11 398 mX2_give 2 := ⟨gic (wt (mt_6 (List.mem_of_getElem? (i := 23) rfl)) rfl) rfl (gic wv_X2_give rfl (gic wz_X2_give rfl (gic wn_X2 rfl (gi1 wc_X2_give rfl)))), wd_X2_give⟩
theorem co_X11_41 : IOk RX11 41 mX1_init 1 := ⟨gi1 wc_X1_init rfl, wn_X1, (wt (mt_1 (List.mem_of_getElem? (i := 181) rfl)) rfl), wv_X1_init, rfl, rfl, wd_X1_init⟩
theorem co_X11_410 : VOk RX11 410 mX0_startAnew 1 := ⟨gic (wt (mt_3 (List.mem_of_getElem? (i := 131) rfl)) rfl) rfl (gic wv_X0_startAnew rfl (gic wz_X0_startAnew rfl (gic wn_X0 rfl (gi1 wc_X0_startAnew rfl)))), wd_X0_startAnew⟩
theorem co_X11_413 : VOk RX11 413 mX3_clear 0 := ⟨gic (wt (mt_3 (List.mem_of_getElem? (i := 142) rfl)) rfl) rfl (gic wv_X3_clear rfl (gic wz_X3_clear rfl (gic wn_X3 rfl (gi1 wc_X3_clear rfl)))), wd_X3_clear⟩
theorem co_X11_417 : VOk RX11 417 mX0_resist 2 := ⟨gic (wt (mt_3 (List.mem_of_getElem? (i := 147) rfl)) rfl) rfl (gic wv_X0_resist rfl (gic wz_X0_resist rfl (gic wn_X0 rfl (gi1 wc_X0_resist rfl)))), wd_X0_resist⟩
theorem co_X11_423 : VOk RX11 423 mX0_add 3 := ⟨gic (wt (mt_3 (List.mem_of_getElem? (i := 155) rfl)) rfl) rfl (gic wv_X0_add rfl (gic wz_X0_add rfl (gic wn_X0 rfl (gi1 wc_X0_add rfl)))), wd_X0_add⟩
theorem co_X11_425 : VOk RX11 425 mX11_isSearchable 0 := ⟨gic (wt (mt_4 (List.mem_of_getElem? (i := 78) rfl)) rfl) rfl (gic wv_X11_isSearchable rfl (gic wz_X11_isSearchable rfl (gic wn_X11 rfl (gi1 wc_X11_isSearchable rfl)))), wd_X11_isSearchable⟩
theorem co_X11_428 : VOk RX11 428 mX8_refresh 0 := ⟨gic (wt (mt_4 (List.mem_of_getElem? (i := 82) rfl)) rfl) rfl (gic wv_X8_refresh rfl (gic wz_X8_refresh rfl (gic wn_X8 rfl (gi1 wc_X8_refresh rfl)))), wd_X8_refresh⟩
theorem co_X11_431 : VOk RX11 431 mX4_open 1 := ⟨gic (wt (mt_4 (List.mem_of_getElem? (i := 162) rfl)) rfl) rfl (gic wv_X4_open rfl (gic wz_X4_open rfl (gic wn_X4 rfl (gi1 wc_X4_open rfl)))), wd_X4_open⟩
theorem co_X11_434 : VOk RX11 434 mX4_part 0 := ⟨gic (wt (mt_4 (List.mem_of_getElem? (i := 174) rfl)) rfl) rfl (gic wv_X4_part rfl (gic wz_X4_part rfl (gic wn_X4 rfl (gi1 wc_X4_part rfl)))), wd_X4_part⟩
theorem co_X11_50 : INOk RX11 50 mX3_init 0 := ⟨"NinetyLamps", gi1 wc_X3_init rfl, wn_X3, (wt (mt_2 (List.mem_of_getElem? (i := 15) rfl)) rfl), wv_X3_init, rfl, rfl, wd_X3_init⟩
theorem co_X11_57 : IOk RX11 57 mX8_init 2 := ⟨gi1 wc_X8_init rfl, wn_X8, (wt (mt_2 (List.mem_of_getElem? (i := 51) rfl)) rfl), wv_X8_init, rfl, rfl, wd_X8_init⟩
theorem co_X11_66 : IOk RX11 66 mX4_init 2 := ⟨gi1 wc_X4_init rfl, wn_X4, (wt (mt_2 (List.mem_of_getElem? (i := 91) rfl)) rfl), wv_X4_init, rfl, rfl, wd_X4_init⟩
theorem co_X11_75 : IOk RX11 75 mX7_init 3 := ⟨gi1 wc_X7_init rfl, wn_X7, (wt (mt_2 (List.mem_of_getElem? (i := 152) rfl)) rfl), wv_X7_init, rfl, rfl, wd_X7_init⟩
theorem co_X11_84 : IOk RX11 84 mX5_init 1 := ⟨gi1 wc_X5_init rfl, wn_X5, (wt (mt_2 (List.mem_of_getElem? (i := 190) rfl)) rfl), wv_X5_init, rfl, rfl, wd_X5_init⟩
theorem co_X11_9 : INOk RX11 9 mX0_init 0 := ⟨"NinetyLamps", gi1 wc_X0_init rfl, wn_X0, (wt (mt_1 (List.mem_of_getElem? (i := 34) rfl)) rfl), wv_X0_init, rfl, rfl, wd_X0_init⟩
theorem co_X11_93 : INOk RX11 93 mX2_init 0 := ⟨"NinetyLamps", gi1 wc_X2_init rfl, wn_X2, (wt (mt_2 (List.mem_of_getElem? (i := 236) rfl)) rfl), wv_X2_init, rfl, rfl, wd_X2_init⟩
theorem co_X11_98 : VOk RX11 98 mX9_append 1 := ⟨gic (wt (mt_3 (List.mem_of_getElem? (i := 60) rfl)) rfl) rfl (gic wv_X9_append rfl (gic wz_X9_append rfl (gic wn_X9 rfl (gi1 wc_X9_append rfl)))), wd_X9_append⟩
theorem co_L_103 : VOk RL 103 mX12_shows 1 := ⟨gic (wt (mt_8 (List.mem_of_getElem? (i := 70) rfl)) rfl) rfl (gic wv_X12_shows rfl (gic wz_X12_shows rfl (gic wn_X12 rfl (gi1 wc_X12_shows rfl)))), wd_X12_shows⟩
theorem co_L_104 : VOk RL 104 mX11_bars 1 := ⟨gic (wt (mt_4 (List.mem_of_getElem? (i := 98) rfl)) rfl) rfl (gic wv_X11_bars rfl (gic wz_X11_bars rfl (gic wn_X11 rfl (gi1 wc_X11_bars rfl)))), wd_X11_bars⟩
theorem co_L_107 : VOk RL 107 mX12_bars 1 := ⟨gic (wt (mt_8 (List.mem_of_getElem? (i := 106) rfl)) rfl) rfl (gic wv_X12_bars rfl (gic wz_X12_bars rfl (gic wn_X12 rfl (gi1 wc_X12_bars rfl)))), wd_X12_bars⟩
theorem co_L_108 : VOk RL 108 mX11_most 0 := ⟨gic (wt (mt_4 (List.mem_of_getElem? (i := 102) rfl)) rfl) rfl (gic wv_X11_most rfl (gic wz_X11_most rfl (gic wn_X11 rfl (gi1 wc_X11_most rfl)))), wd_X11_most⟩
theorem co_L_111 : VOk RL 111 mX12_most 0 := ⟨gic (wt (mt_8 (List.mem_of_getElem? (i := 111) rfl)) rfl) rfl (gic wv_X12_most rfl (gic wz_X12_most rfl (gic wn_X12 rfl (gi1 wc_X12_most rfl)))), wd_X12_most⟩
theorem co_L_112 : VOk RL 112 mX11_sets 0 := ⟨gic (wt (mt_4 (List.mem_of_getElem? (i := 106) rfl)) rfl) rfl (gic wv_X11_sets rfl (gic wz_X11_sets rfl (gic wn_X11 rfl (gi1 wc_X11_sets rfl)))), wd_X11_sets⟩
theorem co_L_115 : VOk RL 115 mX12_sets 0 := ⟨gic (wt (mt_8 (List.mem_of_getElem? (i := 115) rfl)) rfl) rfl (gic wv_X12_sets rfl (gic wz_X12_sets rfl (gic wn_X12 rfl (gi1 wc_X12_sets rfl)))), wd_X12_sets⟩
theorem co_L_116 : VOk RL 116 mX11_fits 2 := ⟨gic (wt (mt_4 (List.mem_of_getElem? (i := 122) rfl)) rfl) rfl (gic wv_X11_fits rfl (gic wz_X11_fits rfl (gic wn_X11 rfl (gi1 wc_X11_fits rfl)))), wd_X11_fits⟩
theorem co_L_119 : VOk RL 119 mX12_fits 2 := ⟨gic (wt (mt_8 (List.mem_of_getElem? (i := 119) rfl)) rfl) rfl (gic wv_X12_fits rfl (gic wz_X12_fits rfl (gic wn_X12 rfl (gi1 wc_X12_fits rfl)))), wd_X12_fits⟩
theorem co_L_120 : VOk RL 120 mX11_alone 0 := ⟨gic (wt (mt_4 (List.mem_of_getElem? (i := 126) rfl)) rfl) rfl (gic wv_X11_alone rfl (gic wz_X11_alone rfl (gic wn_X11 rfl (gi1 wc_X11_alone rfl)))), wd_X11_alone⟩
theorem co_L_123 : VOk RL 123 mX12_alone 0 := ⟨gic (wt (mt_8 (List.mem_of_getElem? (i := 123) rfl)) rfl) rfl (gic wv_X12_alone rfl (gic wz_X12_alone rfl (gic wn_X12 rfl (gi1 wc_X12_alone rfl)))), wd_X12_alone⟩
theorem co_L_124 : VOk RL 124 mX11_twins 0 := ⟨gic (wt (mt_4 (List.mem_of_getElem? (i := 131) rfl)) rfl) rfl (gic wv_X11_twins rfl (gic wz_X11_twins rfl (gic wn_X11 rfl (gi1 wc_X11_twins rfl)))), wd_X11_twins⟩
theorem co_L_127 : VOk RL 127 mX12_twins 0 := ⟨gic (wt (mt_8 (List.mem_of_getElem? (i := 128) rfl)) rfl) rfl (gic wv_X12_twins rfl (gic wz_X12_twins rfl (gic wn_X12 rfl (gi1 wc_X12_twins rfl)))), wd_X12_twins⟩
theorem co_L_128 : VOk RL 128 mX11_range 2 := ⟨gic (wt (mt_4 (List.mem_of_getElem? (i := 139) rfl)) rfl) rfl (gic wv_X11_range rfl (gic wz_X11_range rfl (gic wn_X11 rfl (gi1 wc_X11_range rfl)))), wd_X11_range⟩
theorem co_L_131 : VOk RL 131 mX12_range 2 := ⟨gic (wt (mt_8 (List.mem_of_getElem? (i := 132) rfl)) rfl) rfl (gic wv_X12_range rfl (gic wz_X12_range rfl (gic wn_X12 rfl (gi1 wc_X12_range rfl)))), wd_X12_range⟩
theorem co_L_132 : VOk RL 132 mX11_picture 2 := ⟨gic (wt (mt_4 (List.mem_of_getElem? (i := 143) rfl)) rfl) rfl (gic wv_X11_picture rfl (gic wz_X11_picture rfl (gic wn_X11 rfl (gi1 wc_X11_picture rfl)))), wd_X11_picture⟩
theorem co_L_136 : VOk RL 136 mX12_picture 2 := ⟨gic (wt (mt_8 (List.mem_of_getElem? (i := 136) rfl)) rfl) rfl (gic wv_X12_picture rfl (gic wz_X12_picture rfl (gic wn_X12 rfl (gi1 wc_X12_picture rfl)))), wd_X12_picture⟩
theorem co_L_137 : VOk RL 137 mX11_parted 1 := ⟨gic (wt (mt_4 (List.mem_of_getElem? (i := 150) rfl)) rfl) rfl (gic wv_X11_parted rfl (gic wz_X11_parted rfl (gic wn_X11 rfl (gi1 wc_X11_parted rfl)))), wd_X11_parted⟩
theorem co_L_140 : VOk RL 140 mX12_parted 1 := ⟨gic (wt (mt_8 (List.mem_of_getElem? (i := 140) rfl)) rfl) rfl (gic wv_X12_parted rfl (gic wz_X12_parted rfl (gic wn_X12 rfl (gi1 wc_X12_parted rfl)))), wd_X12_parted⟩
theorem co_L_141 : VOk RL 141 mX11_proof 1 := ⟨gic (wt (mt_4 (List.mem_of_getElem? (i := 205) rfl)) rfl) rfl (gic wv_X11_proof rfl (gic wz_X11_proof rfl (gic wn_X11 rfl (gi1 wc_X11_proof rfl)))), wd_X11_proof⟩
theorem co_L_144 : VOk RL 144 mX12_proof 1 := ⟨gic (wt (mt_8 (List.mem_of_getElem? (i := 166) rfl)) rfl) rfl (gic wv_X12_proof rfl (gic wz_X12_proof rfl (gic wn_X12 rfl (gi1 wc_X12_proof rfl)))), wd_X12_proof⟩
theorem co_L_145 : VOk RL 145 mX11_never 1 := ⟨gic (wt (mt_4 (List.mem_of_getElem? (i := 228) rfl)) rfl) rfl (gic wv_X11_never rfl (gic wz_X11_never rfl (gic wn_X11 rfl (gi1 wc_X11_never rfl)))), wd_X11_never⟩
theorem co_L_148 : VOk RL 148 mX12_never 1 := ⟨gic (wt (mt_8 (List.mem_of_getElem? (i := 171) rfl)) rfl) rfl (gic wv_X12_never rfl (gic wz_X12_never rfl (gic wn_X12 rfl (gi1 wc_X12_never rfl)))), wd_X12_never⟩
theorem co_L_149 : VOk RL 149 mX11_changes 1 := ⟨gic (wt (mt_4 (List.mem_of_getElem? (i := 233) rfl)) rfl) rfl (gic wv_X11_changes rfl (gic wz_X11_changes rfl (gic wn_X11 rfl (gi1 wc_X11_changes rfl)))), wd_X11_changes⟩
theorem co_L_15 : VOk RL 15 mX11_fault 2 := ⟨gic (wt (mt_6 (List.mem_of_getElem? (i := 104) rfl)) rfl) rfl (gic wv_X11_fault rfl (gic wz_X11_fault rfl (gic wn_X11 rfl (gi1 wc_X11_fault rfl)))), wd_X11_fault⟩
theorem co_L_152 : VOk RL 152 mX12_changes 1 := ⟨gic (wt (mt_8 (List.mem_of_getElem? (i := 175) rfl)) rfl) rfl (gic wv_X12_changes rfl (gic wz_X12_changes rfl (gic wn_X12 rfl (gi1 wc_X12_changes rfl)))), wd_X12_changes⟩
theorem co_L_153 : VOk RL 153 mX11_even 2 := ⟨gic (wt (mt_5 (List.mem_of_getElem? (i := 11) rfl)) rfl) rfl (gic wv_X11_even rfl (gic wz_X11_even rfl (gic wn_X11 rfl (gi1 wc_X11_even rfl)))), wd_X11_even⟩
theorem co_L_157 : VOk RL 157 mX12_even 2 := ⟨gic (wt (mt_8 (List.mem_of_getElem? (i := 187) rfl)) rfl) rfl (gic wv_X12_even rfl (gic wz_X12_even rfl (gic wn_X12 rfl (gi1 wc_X12_even rfl)))), wd_X12_even⟩
theorem co_L_158 : VOk RL 158 mX11_better 1 := ⟨gic (wt (mt_5 (List.mem_of_getElem? (i := 34) rfl)) rfl) rfl (gic wv_X11_better rfl (gic wz_X11_better rfl (gic wn_X11 rfl (gi1 wc_X11_better rfl)))), wd_X11_better⟩
theorem co_L_161 : VOk RL 161 mX12_better 1 := ⟨gic (wt (mt_8 (List.mem_of_getElem? (i := 200) rfl)) rfl) rfl (gic wv_X12_better rfl (gic wz_X12_better rfl (gic wn_X12 rfl (gi1 wc_X12_better rfl)))), wd_X12_better⟩
theorem co_L_162 : VOk RL 162 mX11_faults 0 := ⟨gic (wt (mt_5 (List.mem_of_getElem? (i := 42) rfl)) rfl) rfl (gic wv_X11_faults rfl (gic wz_X11_faults rfl (gic wn_X11 rfl (gi1 wc_X11_faults rfl)))), wd_X11_faults⟩
theorem co_L_165 : VOk RL 165 mX12_faults 0 := ⟨gic (wt (mt_8 (List.mem_of_getElem? (i := 204) rfl)) rfl) rfl (gic wv_X12_faults rfl (gic wz_X12_faults rfl (gic wn_X12 rfl (gi1 wc_X12_faults rfl)))), wd_X12_faults⟩
theorem co_L_168 : VOk RL 168 mX12_fault_ 2 := ⟨gic (wt (mt_8 (List.mem_of_getElem? (i := 212) rfl)) rfl) rfl (gic wv_X12_fault_ rfl (gic wz_X12_fault_ rfl (gic wn_X12 rfl (gi1 wc_X12_fault_ rfl)))), wd_X12_fault_⟩
theorem co_L_169 : VOk RL 169 mX11_would 3 := ⟨gic (wt (mt_5 (List.mem_of_getElem? (i := 60) rfl)) rfl) rfl (gic wv_X11_would rfl (gic wz_X11_would rfl (gic wn_X11 rfl (gi1 wc_X11_would rfl)))), wd_X11_would⟩
theorem co_L_173 : VOk RL 173 mX12_would 3 := ⟨gic (wt (mt_8 (List.mem_of_getElem? (i := 220) rfl)) rfl) rfl (gic wv_X12_would rfl (gic wz_X12_would rfl (gic wn_X12 rfl (gi1 wc_X12_would rfl)))), wd_X12_would⟩
theorem co_L_174 : VOk RL 174 mX11_tells 1 := ⟨gic (wt (mt_5 (List.mem_of_getElem? (i := 108) rfl)) rfl) rfl (gic wv_X11_tells rfl (gic wz_X11_tells rfl (gic wn_X11 rfl (gi1 wc_X11_tells rfl)))), wd_X11_tells⟩
theorem co_L_177 : VOk RL 177 mX12_tells 1 := ⟨gic (wt (mt_8 (List.mem_of_getElem? (i := 224) rfl)) rfl) rfl (gic wv_X12_tells rfl (gic wz_X12_tells rfl (gic wn_X12 rfl (gi1 wc_X12_tells rfl)))), wd_X12_tells⟩
theorem co_L_178 : VOk RL 178 mX11_hidden 0 := ⟨gic (wt (mt_5 (List.mem_of_getElem? (i := 122) rfl)) rfl) rfl (gic wv_X11_hidden rfl (gic wz_X11_hidden rfl (gic wn_X11 rfl (gi1 wc_X11_hidden rfl)))), wd_X11_hidden⟩
theorem co_L_18 : VOk RL 18 mX11_row 1 := ⟨gic (wt (mt_6 (List.mem_of_getElem? (i := 114) rfl)) rfl) rfl (gic wv_X11_row rfl (gic wz_X11_row rfl (gic wn_X11 rfl (gi1 wc_X11_row rfl)))), wd_X11_row⟩
theorem co_L_181 : VOk RL 181 mX12_hidden 0 := ⟨gic (wt (mt_8 (List.mem_of_getElem? (i := 228) rfl)) rfl) rfl (gic wv_X12_hidden rfl (gic wz_X12_hidden rfl (gic wn_X12 rfl (gi1 wc_X12_hidden rfl)))), wd_X12_hidden⟩
theorem co_L_182 : VOk RL 182 mX11_alike 2 := ⟨gic (wt (mt_5 (List.mem_of_getElem? (i := 126) rfl)) rfl) rfl (gic wv_X11_alike rfl (gic wz_X11_alike rfl (gic wn_X11 rfl (gi1 wc_X11_alike rfl)))), wd_X11_alike⟩
theorem co_L_185 : VOk RL 185 mX12_alike 2 := ⟨gic (wt (mt_8 (List.mem_of_getElem? (i := 236) rfl)) rfl) rfl (gic wv_X12_alike rfl (gic wz_X12_alike rfl (gic wn_X12 rfl (gi1 wc_X12_alike rfl)))), wd_X12_alike⟩
theorem co_L_186 : VOk RL 186 mX11_seen 3 := ⟨gic (wt (mt_5 (List.mem_of_getElem? (i := 130) rfl)) rfl) rfl (gic wv_X11_seen rfl (gic wz_X11_seen rfl (gic wn_X11 rfl (gi1 wc_X11_seen rfl)))), wd_X11_seen⟩
theorem co_L_190 : VOk RL 190 mX12_seen 3 := ⟨gic (wt (mt_9 (List.mem_of_getElem? (i := 0) rfl)) rfl) rfl (gic wv_X12_seen rfl (gic wz_X12_seen rfl (gic wn_X12 rfl (gi1 wc_X12_seen rfl)))), wd_X12_seen⟩
theorem co_L_191 : VOk RL 191 mX11_forget 0 := ⟨gic (wt (mt_5 (List.mem_of_getElem? (i := 138) rfl)) rfl) rfl (gic wv_X11_forget rfl (gic wz_X11_forget rfl (gic wn_X11 rfl (gi1 wc_X11_forget rfl)))), wd_X11_forget⟩
theorem co_L_194 : VOk RL 194 mX12_forget 0 := ⟨gic (wt (mt_9 (List.mem_of_getElem? (i := 4) rfl)) rfl) rfl (gic wv_X12_forget rfl (gic wz_X12_forget rfl (gic wn_X12 rfl (gi1 wc_X12_forget rfl)))), wd_X12_forget⟩
theorem co_L_195 : VOk RL 195 mX11_which 0 := ⟨gic (wt (mt_5 (List.mem_of_getElem? (i := 142) rfl)) rfl) rfl (gic wv_X11_which rfl (gic wz_X11_which rfl (gic wn_X11 rfl (gi1 wc_X11_which rfl)))), wd_X11_which⟩
theorem co_L_198 : VOk RL 198 mX12_which 0 := ⟨gic (wt (mt_9 (List.mem_of_getElem? (i := 8) rfl)) rfl) rfl (gic wv_X12_which rfl (gic wz_X12_which rfl (gic wn_X12 rfl (gi1 wc_X12_which rfl)))), wd_X12_which⟩
theorem co_L_199 : VOk RL 199 mX11_judge 1 := ⟨gic (wt (mt_5 (List.mem_of_getElem? (i := 154) rfl)) rfl) rfl (gic wv_X11_judge rfl (gic wz_X11_judge rfl (gic wn_X11 rfl (gi1 wc_X11_judge rfl)))), wd_X11_judge⟩
theorem co_L_202 : VOk RL 202 mX12_judge 1 := ⟨gic (wt (mt_9 (List.mem_of_getElem? (i := 20) rfl)) rfl) rfl (gic wv_X12_judge rfl (gic wz_X12_judge rfl (gic wn_X12 rfl (gi1 wc_X12_judge rfl)))), wd_X12_judge⟩
theorem co_L_203 : VOk RL 203 mX11_next 0 := ⟨gic (wt (mt_5 (List.mem_of_getElem? (i := 159) rfl)) rfl) rfl (gic wv_X11_next rfl (gic wz_X11_next rfl (gic wn_X11 rfl (gi1 wc_X11_next rfl)))), wd_X11_next⟩
theorem co_L_206 : VOk RL 206 mX12_next 0 := ⟨gic (wt (mt_9 (List.mem_of_getElem? (i := 24) rfl)) rfl) rfl (gic wv_X12_next rfl (gic wz_X12_next rfl (gic wn_X12 rfl (gi1 wc_X12_next rfl)))), wd_X12_next⟩
theorem co_L_207 : VOk RL 207 mX11_test 2 := ⟨gic (wt (mt_5 (List.mem_of_getElem? (i := 172) rfl)) rfl) rfl (gic wv_X11_test rfl (gic wz_X11_test rfl (gic wn_X11 rfl (gi1 wc_X11_test rfl)))), wd_X11_test⟩
theorem co_L_210 : VOk RL 210 mX12_test 2 := ⟨gic (wt (mt_9 (List.mem_of_getElem? (i := 28) rfl)) rfl) rfl (gic wv_X12_test rfl (gic wz_X12_test rfl (gic wn_X12 rfl (gi1 wc_X12_test rfl)))), wd_X12_test⟩
theorem co_L_211 : VOk RL 211 mX11_tree 0 := ⟨gic (wt (mt_5 (List.mem_of_getElem? (i := 180) rfl)) rfl) rfl (gic wv_X11_tree rfl (gic wz_X11_tree rfl (gic wn_X11 rfl (gi1 wc_X11_tree rfl)))), wd_X11_tree⟩
theorem co_L_214 : VOk RL 214 mX12_tree 0 := ⟨gic (wt (mt_9 (List.mem_of_getElem? (i := 32) rfl)) rfl) rfl (gic wv_X12_tree rfl (gic wz_X12_tree rfl (gic wn_X12 rfl (gi1 wc_X12_tree rfl)))), wd_X12_tree⟩
theorem co_L_215 : VOk RL 215 mX11_path 1 := ⟨gic (wt (mt_5 (List.mem_of_getElem? (i := 233) rfl)) rfl) rfl (gic wv_X11_path rfl (gic wz_X11_path rfl (gic wn_X11 rfl (gi1 wc_X11_path rfl)))), wd_X11_path⟩
theorem co_L_218 : VOk RL 218 mX12_path 1 := ⟨gic (wt (mt_9 (List.mem_of_getElem? (i := 64) rfl)) rfl) rfl (gic wv_X12_path rfl (gic wz_X12_path rfl (gic wn_X12 rfl (gi1 wc_X12_path rfl)))), wd_X12_path⟩
theorem co_L_219 : VOk RL 219 mX11_keep 1 := ⟨gic (wt (mt_6 (List.mem_of_getElem? (i := 5) rfl)) rfl) rfl (gic wv_X11_keep rfl (gic wz_X11_keep rfl (gic wn_X11 rfl (gi1 wc_X11_keep rfl)))), wd_X11_keep⟩
theorem co_L_22 : IOk RL 22 mX11_init 0 := ⟨gi1 wc_X11_init rfl, wn_X11, (wt (mt_1 (List.mem_of_getElem? (i := 26) rfl)) rfl), wv_X11_init, rfl, rfl, wd_X11_init⟩
theorem co_L_222 : VOk RL 222 mX12_keep 1 := ⟨gic (wt (mt_9 (List.mem_of_getElem? (i := 68) rfl)) rfl) rfl (gic wv_X12_keep rfl (gic wz_X12_keep rfl (gic wn_X12 rfl (gi1 wc_X12_keep rfl)))), wd_X12_keep⟩
theorem co_L_223 : VOk RL 223 mX11_again 1 := ⟨gic (wt (mt_6 (List.mem_of_getElem? (i := 19) rfl)) rfl) rfl (gic wv_X11_again rfl (gic wz_X11_again rfl (gic wn_X11 rfl (gi1 wc_X11_again rfl)))), wd_X11_again⟩
theorem co_L_226 : VOk RL 226 mX12_again 1 := ⟨gic (wt (mt_9 (List.mem_of_getElem? (i := 72) rfl)) rfl) rfl (gic wv_X12_again rfl (gic wz_X12_again rfl (gic wn_X12 rfl (gi1 wc_X12_again rfl)))), wd_X12_again⟩
theorem co_L_227 : VOk RL 227 mX11_count 1 := ⟨gic (wt (mt_6 (List.mem_of_getElem? (i := 28) rfl)) rfl) rfl (gic wv_X11_count rfl (gic wz_X11_count rfl (gic wn_X11 rfl (gi1 wc_X11_count rfl)))), wd_X11_count⟩
theorem co_L_230 : VOk RL 230 mX12_count 1 := ⟨gic (wt (mt_9 (List.mem_of_getElem? (i := 76) rfl)) rfl) rfl (gic wv_X12_count rfl (gic wz_X12_count rfl (gic wn_X12 rfl (gi1 wc_X12_count rfl)))), wd_X12_count⟩
theorem co_L_234 : VOk RL 234 mX12_row 1 := ⟨gic (wt (mt_9 (List.mem_of_getElem? (i := 80) rfl)) rfl) rfl (gic wv_X12_row rfl (gic wz_X12_row rfl (gic wn_X12 rfl (gi1 wc_X12_row rfl)))), wd_X12_row⟩
theorem co_L_25 : IOk RL 25 mX12_init 0 := ⟨gi1 wc_X12_init rfl, wn_X12, (wt (mt_6 (List.mem_of_getElem? (i := 120) rfl)) rfl), wv_X12_init, rfl, rfl, wd_X12_init⟩
theorem co_L_26 : VOk RL 26 mX11_sign 1 := ⟨gic (wt (mt_3 (List.mem_of_getElem? (i := 56) rfl)) rfl) rfl (gic wv_X11_sign rfl (gic wz_X11_sign rfl (gic wn_X11 rfl (gi1 wc_X11_sign rfl)))), wd_X11_sign⟩
theorem co_L_30 : VOk RL 30 mX12_sign 1 := ⟨gic (wt (mt_7 (List.mem_of_getElem? (i := 116) rfl)) rfl) rfl (gic wv_X12_sign rfl (gic wz_X12_sign rfl (gic wn_X12 rfl (gi1 wc_X12_sign rfl)))), wd_X12_sign⟩
theorem co_L_31 : VOk RL 31 mX11_end 1 := ⟨gic (wt (mt_3 (List.mem_of_getElem? (i := 64) rfl)) rfl) rfl (gic wv_X11_end rfl (gic wz_X11_end rfl (gic wn_X11 rfl (gi1 wc_X11_end rfl)))), wd_X11_end⟩
theorem co_L_35 : VOk RL 35 mX12_end 1 := ⟨gic (wt (mt_7 (List.mem_of_getElem? (i := 120) rfl)) rfl) rfl (gic wv_X12_end rfl (gic wz_X12_end rfl (gic wn_X12 rfl (gi1 wc_X12_end rfl)))), wd_X12_end⟩
theorem co_L_36 : VOk RL 36 mX11_board 0 := ⟨gic (wt (mt_3 (List.mem_of_getElem? (i := 68) rfl)) rfl) rfl (gic wv_X11_board rfl (gic wz_X11_board rfl (gic wn_X11 rfl (gi1 wc_X11_board rfl)))), wd_X11_board⟩
theorem co_L_40 : VOk RL 40 mX12_board 0 := ⟨gic (wt (mt_7 (List.mem_of_getElem? (i := 127) rfl)) rfl) rfl (gic wv_X12_board rfl (gic wz_X12_board rfl (gic wn_X12 rfl (gi1 wc_X12_board rfl)))), wd_X12_board⟩
theorem co_L_41 : VOk RL 41 mX11_set 2 := ⟨gic (wt (mt_3 (List.mem_of_getElem? (i := 159) rfl)) rfl) rfl (gic wv_X11_set rfl (gic wz_X11_set rfl (gic wn_X11 rfl (gi1 wc_X11_set rfl)))), wd_X11_set⟩
theorem co_L_44 : VOk RL 44 mX12_set 2 := ⟨gic (wt (mt_7 (List.mem_of_getElem? (i := 157) rfl)) rfl) rfl (gic wv_X12_set rfl (gic wz_X12_set rfl (gic wn_X12 rfl (gi1 wc_X12_set rfl)))), wd_X12_set⟩
theorem co_L_50 : VOk RL 50 mX12_lamp 2 := ⟨gic (wt (mt_7 (List.mem_of_getElem? (i := 165) rfl)) rfl) rfl (gic wv_X12_lamp rfl (gic wz_X12_lamp rfl (gic wn_X12 rfl (gi1 wc_X12_lamp rfl)))), wd_X12_lamp⟩
theorem co_L_51 : VOk RL 51 mX12_thrown 0 := ⟨gic (wt (mt_7 (List.mem_of_getElem? (i := 112) rfl)) rfl) rfl (gic wv_X12_thrown rfl (gic wz_X12_thrown rfl (gic wn_X12 rfl (gi1 wc_X12_thrown rfl)))), wd_X12_thrown⟩
theorem co_L_54 : VOk RL 54 mX11_ohms 1 := ⟨gic (wt (mt_3 (List.mem_of_getElem? (i := 163) rfl)) rfl) rfl (gic wv_X11_ohms rfl (gic wz_X11_ohms rfl (gic wn_X11 rfl (gi1 wc_X11_ohms rfl)))), wd_X11_ohms⟩
theorem co_L_57 : VOk RL 57 mX12_ohms 1 := ⟨gic (wt (mt_7 (List.mem_of_getElem? (i := 177) rfl)) rfl) rfl (gic wv_X12_ohms rfl (gic wz_X12_ohms rfl (gic wn_X12 rfl (gi1 wc_X12_ohms rfl)))), wd_X12_ohms⟩
theorem co_L_58 : VOk RL 58 mX11_sheet 4 := ⟨gic (wt (mt_3 (List.mem_of_getElem? (i := 168) rfl)) rfl) rfl (gic wv_X11_sheet rfl (gic wz_X11_sheet rfl (gic wn_X11 rfl (gi1 wc_X11_sheet rfl)))), wd_X11_sheet⟩
theorem co_L_62 : VOk RL 62 mX12_sheet 4 := ⟨gic (wt (mt_7 (List.mem_of_getElem? (i := 185) rfl)) rfl) rfl (gic wv_X12_sheet rfl (gic wz_X12_sheet rfl (gic wn_X12 rfl (gi1 wc_X12_sheet rfl)))), wd_X12_sheet⟩
theorem co_L_63 : VOk RL 63 mX11_swap 2 := ⟨gic (wt (mt_3 (List.mem_of_getElem? (i := 179) rfl)) rfl) rfl (gic wv_X11_swap rfl (gic wz_X11_swap rfl (gic wn_X11 rfl (gi1 wc_X11_swap rfl)))), wd_X11_swap⟩
theorem co_L_67 : VOk RL 67 mX12_swap 2 := ⟨gic (wt (mt_7 (List.mem_of_getElem? (i := 191) rfl)) rfl) rfl (gic wv_X12_swap rfl (gic wz_X12_swap rfl (gic wn_X12 rfl (gi1 wc_X12_swap rfl)))), wd_X12_swap⟩
theorem co_L_68 : VOk RL 68 mX11_put 2 := ⟨gic (wt (mt_3 (List.mem_of_getElem? (i := 195) rfl)) rfl) rfl (gic wv_X11_put rfl (gic wz_X11_put rfl (gic wn_X11 rfl (gi1 wc_X11_put rfl)))), wd_X11_put⟩
theorem co_L_7 : VOk RL 7 mX11_lamp 2 := ⟨gic (wt (mt_6 (List.mem_of_getElem? (i := 36) rfl)) rfl) rfl (gic wv_X11_lamp rfl (gic wz_X11_lamp rfl (gic wn_X11 rfl (gi1 wc_X11_lamp rfl)))), wd_X11_lamp⟩
theorem co_L_71 : VOk RL 71 mX12_put 2 := ⟨gic (wt (mt_7 (List.mem_of_getElem? (i := 199) rfl)) rfl) rfl (gic wv_X12_put rfl (gic wz_X12_put rfl (gic wn_X12 rfl (gi1 wc_X12_put rfl)))), wd_X12_put⟩
theorem co_L_72 : VOk RL 72 mX11_glows 0 := ⟨gic (wt (mt_4 (List.mem_of_getElem? (i := 22) rfl)) rfl) rfl (gic wv_X11_glows rfl (gic wz_X11_glows rfl (gic wn_X11 rfl (gi1 wc_X11_glows rfl)))), wd_X11_glows⟩
theorem co_L_76 : VOk RL 76 mX12_glows 0 := ⟨gic (wt (mt_8 (List.mem_of_getElem? (i := 32) rfl)) rfl) rfl (gic wv_X12_glows rfl (gic wz_X12_glows rfl (gic wn_X12 rfl (gi1 wc_X12_glows rfl)))), wd_X12_glows⟩
theorem co_L_77 : VOk RL 77 mX11_ghosts 0 := ⟨gic (wt (mt_4 (List.mem_of_getElem? (i := 26) rfl)) rfl) rfl (gic wv_X11_ghosts rfl (gic wz_X11_ghosts rfl (gic wn_X11 rfl (gi1 wc_X11_ghosts rfl)))), wd_X11_ghosts⟩
theorem co_L_80 : VOk RL 80 mX12_ghosts 0 := ⟨gic (wt (mt_8 (List.mem_of_getElem? (i := 36) rfl)) rfl) rfl (gic wv_X12_ghosts rfl (gic wz_X12_ghosts rfl (gic wn_X12 rfl (gi1 wc_X12_ghosts rfl)))), wd_X12_ghosts⟩
theorem co_L_81 : VOk RL 81 mX11_light 1 := ⟨gic (wt (mt_4 (List.mem_of_getElem? (i := 35) rfl)) rfl) rfl (gic wv_X11_light rfl (gic wz_X11_light rfl (gic wn_X11 rfl (gi1 wc_X11_light rfl)))), wd_X11_light⟩
theorem co_L_84 : VOk RL 84 mX12_light 1 := ⟨gic (wt (mt_8 (List.mem_of_getElem? (i := 45) rfl)) rfl) rfl (gic wv_X12_light rfl (gic wz_X12_light rfl (gic wn_X12 rfl (gi1 wc_X12_light rfl)))), wd_X12_light⟩
theorem co_L_85 : VOk RL 85 mX11_why 1 := ⟨gic (wt (mt_4 (List.mem_of_getElem? (i := 52) rfl)) rfl) rfl (gic wv_X11_why rfl (gic wz_X11_why rfl (gic wn_X11 rfl (gi1 wc_X11_why rfl)))), wd_X11_why⟩
theorem co_L_88 : VOk RL 88 mX12_why 1 := ⟨gic (wt (mt_8 (List.mem_of_getElem? (i := 57) rfl)) rfl) rfl (gic wv_X12_why rfl (gic wz_X12_why rfl (gic wn_X12 rfl (gi1 wc_X12_why rfl)))), wd_X12_why⟩
theorem co_L_89 : VOk RL 89 mX11_draws 1 := ⟨gic (wt (mt_4 (List.mem_of_getElem? (i := 57) rfl)) rfl) rfl (gic wv_X11_draws rfl (gic wz_X11_draws rfl (gic wn_X11 rfl (gi1 wc_X11_draws rfl)))), wd_X11_draws⟩
theorem co_L_92 : VOk RL 92 mX12_draws 1 := ⟨gic (wt (mt_8 (List.mem_of_getElem? (i := 62) rfl)) rfl) rfl (gic wv_X12_draws rfl (gic wz_X12_draws rfl (gic wn_X12 rfl (gi1 wc_X12_draws rfl)))), wd_X12_draws⟩
theorem co_L_93 : VOk RL 93 mX11_brightest 0 := ⟨gic (wt (mt_4 (List.mem_of_getElem? (i := 61) rfl)) rfl) rfl (gic wv_X11_brightest rfl (gic wz_X11_brightest rfl (gic wn_X11 rfl (gi1 wc_X11_brightest rfl)))), wd_X11_brightest⟩
theorem co_L_96 : VOk RL 96 mX12_brightest 0 := ⟨gic (wt (mt_8 (List.mem_of_getElem? (i := 66) rfl)) rfl) rfl (gic wv_X12_brightest rfl (gic wz_X12_brightest rfl (gic wn_X12 rfl (gi1 wc_X12_brightest rfl)))), wd_X12_brightest⟩
theorem co_L_99 : VOk RL 99 mX11_shows 1 := ⟨gic (wt (mt_4 (List.mem_of_getElem? (i := 66) rfl)) rfl) rfl (gic wv_X11_shows rfl (gic wz_X11_shows rfl (gic wn_X11 rfl (gi1 wc_X11_shows rfl)))), wd_X11_shows⟩
theorem co_X12_165 : SOk RX12 165 mX12_in 3 := ⟨gic (wt (mt_7 (List.mem_of_getElem? (i := 124) rfl)) rfl) rfl (gic ws_X12_in rfl (gic wn_X12 rfl (gi1 wc_X12_in rfl))), wd_X12_in⟩
theorem co_X12_184 : VOk RX12 184 mX12_here 0 := ⟨gic (wt (mt_7 (List.mem_of_getElem? (i := 135) rfl)) rfl) rfl (gic wv_X12_here rfl (gic wz_X12_here rfl (gic wn_X12 rfl (gi1 wc_X12_here rfl)))), wd_X12_here⟩
theorem co_X12_188 : VOk RX12 188 mX12_passes 1 := ⟨gic (wt (mt_7 (List.mem_of_getElem? (i := 131) rfl)) rfl) rfl (gic wv_X12_passes rfl (gic wz_X12_passes rfl (gic wn_X12 rfl (gi1 wc_X12_passes rfl)))), wd_X12_passes⟩
theorem co_X12_192 : VOk RX12 192 mX12_fault 1 := ⟨gic (wt (mt_7 (List.mem_of_getElem? (i := 145) rfl)) rfl) rfl (gic wv_X12_fault rfl (gic wz_X12_fault rfl (gic wn_X12 rfl (gi1 wc_X12_fault rfl)))), wd_X12_fault⟩
theorem co_X12_200 : VOk RX12 200 mX12_number 3 := ⟨gic (wt (mt_7 (List.mem_of_getElem? (i := 139) rfl)) rfl) rfl (gic wv_X12_number rfl (gic wz_X12_number rfl (gic wn_X12 rfl (gi1 wc_X12_number rfl)))), wd_X12_number⟩
theorem co_X12_204 : VOk RX12 204 mX12_need 1 := ⟨gic (wt (mt_7 (List.mem_of_getElem? (i := 149) rfl)) rfl) rfl (gic wv_X12_need rfl (gic wz_X12_need rfl (gic wn_X12 rfl (gi1 wc_X12_need rfl)))), wd_X12_need⟩
theorem co_X12_208 : VOk RX12 208 mX12_take 1 := ⟨gic (wt (mt_7 (List.mem_of_getElem? (i := 153) rfl)) rfl) rfl (gic wv_X12_take rfl (gic wz_X12_take rfl (gic wn_X12 rfl (gi1 wc_X12_take rfl)))), wd_X12_take⟩
theorem co_X12_234 : VOk RX12 234 mX12_isLamp 1 := ⟨gic (wt (mt_7 (List.mem_of_getElem? (i := 169) rfl)) rfl) rfl (gic wv_X12_isLamp rfl (gic wz_X12_isLamp rfl (gic wn_X12 rfl (gi1 wc_X12_isLamp rfl)))), wd_X12_isLamp⟩
theorem co_X12_238 : VOk RX12 238 mX12_lost 0 := ⟨gic (wt (mt_7 (List.mem_of_getElem? (i := 173) rfl)) rfl) rfl (gic wv_X12_lost rfl (gic wz_X12_lost rfl (gic wn_X12 rfl (gi1 wc_X12_lost rfl)))), wd_X12_lost⟩
theorem co_X12_241 : VOk RX12 241 mX12_isWire 1 := ⟨gic (wt (mt_7 (List.mem_of_getElem? (i := 181) rfl)) rfl) rfl (gic wv_X12_isWire rfl (gic wz_X12_isWire rfl (gic wn_X12 rfl (gi1 wc_X12_isWire rfl)))), wd_X12_isWire⟩
theorem co_X12_244 : SOk RX12 244 mJ9_min_7cf53 2 := ⟨gic (wt (mt_7 (List.mem_of_getElem? (i := 189) rfl)) rfl) rfl (gic ws_J9_min_7cf53 rfl (gic wn_J9 rfl (gi1 wc_J9_min_7cf53 rfl))), wd_J9_min_7cf53⟩
theorem co_X12_250 : SOk RX12 250 mJ9_max_7cf53 2 := ⟨gic (wt (mt_7 (List.mem_of_getElem? (i := 190) rfl)) rfl) rfl (gic ws_J9_max_7cf53 rfl (gic wn_J9 rfl (gi1 wc_J9_max_7cf53 rfl))), wd_J9_max_7cf53⟩
theorem co_X12_253 : VOk RX12 253 mX12_change 2 := ⟨gic (wt (mt_7 (List.mem_of_getElem? (i := 195) rfl)) rfl) rfl (gic wv_X12_change rfl (gic wz_X12_change rfl (gic wn_X12 rfl (gi1 wc_X12_change rfl)))), wd_X12_change⟩
theorem co_X12_257 : VOk RX12 257 mX12_turnedFirst 0 := ⟨gic (wt (mt_7 (List.mem_of_getElem? (i := 227) rfl)) rfl) rfl (gic wv_X12_turnedFirst rfl (gic wz_X12_turnedFirst rfl (gic wn_X12 rfl (gi1 wc_X12_turnedFirst rfl)))), wd_X12_turnedFirst⟩
theorem co_X12_260 : VOk RX12 260 mX12_faultMany 0 := ⟨gic (wt (mt_8 (List.mem_of_getElem? (i := 208) rfl)) rfl) rfl (gic wv_X12_faultMany rfl (gic wz_X12_faultMany rfl (gic wn_X12 rfl (gi1 wc_X12_faultMany rfl)))), wd_X12_faultMany⟩
theorem co_X12_263 : VOk RX12 263 mX12_touchFirst 0 := ⟨gic (wt (mt_7 (List.mem_of_getElem? (i := 223) rfl)) rfl) rfl (gic wv_X12_touchFirst rfl (gic wz_X12_touchFirst rfl (gic wn_X12 rfl (gi1 wc_X12_touchFirst rfl)))), wd_X12_touchFirst⟩
theorem co_X12_266 : VOk RX12 266 mX12_kindOf 1 := ⟨gic (wt (mt_7 (List.mem_of_getElem? (i := 219) rfl)) rfl) rfl (gic wv_X12_kindOf rfl (gic wz_X12_kindOf rfl (gic wn_X12 rfl (gi1 wc_X12_kindOf rfl)))), wd_X12_kindOf⟩
theorem co_X12_276 : VOk RX12 276 mX12_findFault 1 := ⟨gic (wt (mt_7 (List.mem_of_getElem? (i := 215) rfl)) rfl) rfl (gic wv_X12_findFault rfl (gic wz_X12_findFault rfl (gic wn_X12 rfl (gi1 wc_X12_findFault rfl)))), wd_X12_findFault⟩
theorem co_X12_294 : SOk RX12 294 mX12_has 2 := ⟨gic (wt (mt_8 (List.mem_of_getElem? (i := 3) rfl)) rfl) rfl (gic ws_X12_has rfl (gic wn_X12 rfl (gi1 wc_X12_has rfl))), wd_X12_has⟩
theorem co_X12_3 : Cond.methodLink RX12 3 objectInit ∈ wl := (wt (mt_6 (List.mem_of_getElem? (i := 123) rfl)) rfl)
theorem co_X12_305 : VOk RX12 305 mX12_begin 2 := ⟨gic (wt (mt_7 (List.mem_of_getElem? (i := 239) rfl)) rfl) rfl (gic wv_X12_begin rfl (gic wz_X12_begin rfl (gic wn_X12 rfl (gi1 wc_X12_begin rfl)))), wd_X12_begin⟩
theorem co_X12_309 : VOk RX12 309 mX12_goOn 5 := ⟨gic (wt (mt_8 (List.mem_of_getElem? (i := 6) rfl)) rfl) rfl (gic wv_X12_goOn rfl (gic wz_X12_goOn rfl (gic wn_X12 rfl (gi1 wc_X12_goOn rfl)))), wd_X12_goOn⟩
theorem co_X12_313 : VOk RX12 313 mX12_arrive 4 := ⟨gic (wt (mt_8 (List.mem_of_getElem? (i := 10) rfl)) rfl) rfl (gic wv_X12_arrive rfl (gic wz_X12_arrive rfl (gic wn_X12 rfl (gi1 wc_X12_arrive rfl)))), wd_X12_arrive⟩
theorem co_X12_319 : VOk RX12 319 mX12_ohmsOf 1 := ⟨gic (wt (mt_8 (List.mem_of_getElem? (i := 15) rfl)) rfl) rfl (gic wv_X12_ohmsOf rfl (gic wz_X12_ohmsOf rfl (gic wn_X12 rfl (gi1 wc_X12_ohmsOf rfl)))), wd_X12_ohmsOf⟩
theorem co_X12_322 : SOk RX12 322 mJ9_max_f86c9 2 := ⟨gic (wt (mt_8 (List.mem_of_getElem? (i := 19) rfl)) rfl) rfl (gic ws_J9_max_f86c9 rfl (gic wn_J9 rfl (gi1 wc_J9_max_f86c9 rfl))), wd_J9_max_f86c9⟩
theorem co_X12_325 : VOk RX12 325 mX12_isBetter 2 := ⟨gic (wt (mt_8 (List.mem_of_getElem? (i := 22) rfl)) rfl) rfl (gic wv_X12_isBetter rfl (gic wz_X12_isBetter rfl (gic wn_X12 rfl (gi1 wc_X12_isBetter rfl)))), wd_X12_isBetter⟩
theorem co_X12_337 : VOk RX12 337 mX12_shine 2 := ⟨gic (wt (mt_7 (List.mem_of_getElem? (i := 235) rfl)) rfl) rfl (gic wv_X12_shine rfl (gic wz_X12_shine rfl (gic wn_X12 rfl (gi1 wc_X12_shine rfl)))), wd_X12_shine⟩
theorem co_X12_340 : VOk RX12 340 mX12_isBright 1 := ⟨gic (wt (mt_8 (List.mem_of_getElem? (i := 26) rfl)) rfl) rfl (gic wv_X12_isBright rfl (gic wz_X12_isBright rfl (gic wn_X12 rfl (gi1 wc_X12_isBright rfl)))), wd_X12_isBright⟩
theorem co_X12_343 : VOk RX12 343 mX12_lay 1 := ⟨gic (wt (mt_7 (List.mem_of_getElem? (i := 211) rfl)) rfl) rfl (gic wv_X12_lay rfl (gic wz_X12_lay rfl (gic wn_X12 rfl (gi1 wc_X12_lay rfl)))), wd_X12_lay⟩
theorem co_X12_346 : VOk RX12 346 mX12_glowing 2 := ⟨gic (wt (mt_7 (List.mem_of_getElem? (i := 231) rfl)) rfl) rfl (gic wv_X12_glowing rfl (gic wz_X12_glowing rfl (gic wn_X12 rfl (gi1 wc_X12_glowing rfl)))), wd_X12_glowing⟩
theorem co_X12_350 : VOk RX12 350 mX12_isSetting 2 := ⟨gic (wt (mt_7 (List.mem_of_getElem? (i := 203) rfl)) rfl) rfl (gic wv_X12_isSetting rfl (gic wz_X12_isSetting rfl (gic wn_X12 rfl (gi1 wc_X12_isSetting rfl)))), wd_X12_isSetting⟩
theorem co_X12_353 : VOk RX12 353 mX12_glowingWith 3 := ⟨gic (wt (mt_7 (List.mem_of_getElem? (i := 207) rfl)) rfl) rfl (gic wv_X12_glowingWith rfl (gic wz_X12_glowingWith rfl (gic wn_X12 rfl (gi1 wc_X12_glowingWith rfl)))), wd_X12_glowingWith⟩
theorem co_X12_357 : SOk RX12 357 mJ13_bitCount_95d88 1 := ⟨gic (wt (mt_8 (List.mem_of_getElem? (i := 31) rfl)) rfl) rfl (gic ws_J13_bitCount_95d88 rfl (gic wn_J13 rfl (gi1 wc_J13_bitCount_95d88 rfl))), wd_J13_bitCount_95d88⟩
theorem co_X12_363 : VOk RX12 363 mX12_askedFor 2 := ⟨gic (wt (mt_8 (List.mem_of_getElem? (i := 40) rfl)) rfl) rfl (gic wv_X12_askedFor rfl (gic wz_X12_askedFor rfl (gic wn_X12 rfl (gi1 wc_X12_askedFor rfl)))), wd_X12_askedFor⟩
theorem co_X12_368 : VOk RX12 368 mX12_countAll 1 := ⟨gic (wt (mt_8 (List.mem_of_getElem? (i := 49) rfl)) rfl) rfl (gic wv_X12_countAll rfl (gic wz_X12_countAll rfl (gic wn_X12 rfl (gi1 wc_X12_countAll rfl)))), wd_X12_countAll⟩
theorem co_X12_371 : VOk RX12 371 mX12_tell 1 := ⟨gic (wt (mt_8 (List.mem_of_getElem? (i := 53) rfl)) rfl) rfl (gic wv_X12_tell rfl (gic wz_X12_tell rfl (gic wn_X12 rfl (gi1 wc_X12_tell rfl)))), wd_X12_tell⟩
theorem co_X12_377 : VOk RX12 377 mX12_wiresAt 2 := ⟨gic (wt (mt_8 (List.mem_of_getElem? (i := 98) rfl)) rfl) rfl (gic wv_X12_wiresAt rfl (gic wz_X12_wiresAt rfl (gic wn_X12 rfl (gi1 wc_X12_wiresAt rfl)))), wd_X12_wiresAt⟩
theorem co_X12_380 : VOk RX12 380 mX12_settings 0 := ⟨gic (wt (mt_8 (List.mem_of_getElem? (i := 90) rfl)) rfl) rfl (gic wv_X12_settings rfl (gic wz_X12_settings rfl (gic wn_X12 rfl (gi1 wc_X12_settings rfl)))), wd_X12_settings⟩
theorem co_X12_383 : VOk RX12 383 mX12_highOf 1 := ⟨gic (wt (mt_8 (List.mem_of_getElem? (i := 94) rfl)) rfl) rfl (gic wv_X12_highOf rfl (gic wz_X12_highOf rfl (gic wn_X12 rfl (gi1 wc_X12_highOf rfl)))), wd_X12_highOf⟩
theorem co_X12_386 : VOk RX12 386 mX12_lowOf 1 := ⟨gic (wt (mt_8 (List.mem_of_getElem? (i := 102) rfl)) rfl) rfl (gic wv_X12_lowOf rfl (gic wz_X12_lowOf rfl (gic wn_X12 rfl (gi1 wc_X12_lowOf rfl)))), wd_X12_lowOf⟩
theorem co_X12_389 : VOk RX12 389 mX12_findGlow 2 := ⟨gic (wt (mt_8 (List.mem_of_getElem? (i := 86) rfl)) rfl) rfl (gic wv_X12_findGlow rfl (gic wz_X12_findGlow rfl (gic wn_X12 rfl (gi1 wc_X12_findGlow rfl)))), wd_X12_findGlow⟩
theorem co_X12_393 : VOk RX12 393 mX12_areLamps 1 := ⟨gic (wt (mt_8 (List.mem_of_getElem? (i := 74) rfl)) rfl) rfl (gic wv_X12_areLamps rfl (gic wz_X12_areLamps rfl (gic wn_X12 rfl (gi1 wc_X12_areLamps rfl)))), wd_X12_areLamps⟩
theorem co_X12_397 : VOk RX12 397 mX12_canSearch 0 := ⟨gic (wt (mt_8 (List.mem_of_getElem? (i := 78) rfl)) rfl) rfl (gic wv_X12_canSearch rfl (gic wz_X12_canSearch rfl (gic wn_X12 rfl (gi1 wc_X12_canSearch rfl)))), wd_X12_canSearch⟩
theorem co_X12_401 : VOk RX12 401 mX12_findAll 0 := ⟨gic (wt (mt_8 (List.mem_of_getElem? (i := 82) rfl)) rfl) rfl (gic wv_X12_findAll rfl (gic wz_X12_findAll rfl (gic wn_X12 rfl (gi1 wc_X12_findAll rfl)))), wd_X12_findAll⟩
theorem co_X12_404 : SOk RX12 404 mJ13_numberOfTrailingZeros_95d88 1 := ⟨gic (wt (mt_8 (List.mem_of_getElem? (i := 110) rfl)) rfl) rfl (gic ws_J13_numberOfTrailingZeros_95d88 rfl (gic wn_J13 rfl (gi1 wc_J13_numberOfTrailingZeros_95d88 rfl))), wd_J13_numberOfTrailingZeros_95d88⟩
theorem co_X12_412 : VOk RX12 412 mX12_isTurn 2 := ⟨gic (wt (mt_8 (List.mem_of_getElem? (i := 156) rfl)) rfl) rfl (gic wv_X12_isTurn rfl (gic wz_X12_isTurn rfl (gic wn_X12 rfl (gi1 wc_X12_isTurn rfl)))), wd_X12_isTurn⟩
theorem co_X12_416 : VOk RX12 416 mX12_findTurns 1 := ⟨gic (wt (mt_8 (List.mem_of_getElem? (i := 152) rfl)) rfl) rfl (gic wv_X12_findTurns rfl (gic wz_X12_findTurns rfl (gic wn_X12 rfl (gi1 wc_X12_findTurns rfl)))), wd_X12_findTurns⟩
theorem co_X12_420 : SOk RX12 420 mJ6_numberOfTrailingZeros_0f7a4 1 := ⟨gic (wt (mt_8 (List.mem_of_getElem? (i := 161) rfl)) rfl) rfl (gic ws_J6_numberOfTrailingZeros_0f7a4 rfl (gic wn_J6 rfl (gi1 wc_J6_numberOfTrailingZeros_0f7a4 rfl))), wd_J6_numberOfTrailingZeros_0f7a4⟩
theorem co_X12_427 : VOk RX12 427 mX12_refusal 1 := ⟨gic (wt (mt_8 (List.mem_of_getElem? (i := 144) rfl)) rfl) rfl (gic wv_X12_refusal rfl (gic wz_X12_refusal rfl (gic wn_X12 rfl (gi1 wc_X12_refusal rfl)))), wd_X12_refusal⟩
theorem co_X12_430 : VOk RX12 430 mX12_findParted 1 := ⟨gic (wt (mt_8 (List.mem_of_getElem? (i := 148) rfl)) rfl) rfl (gic wv_X12_findParted rfl (gic wz_X12_findParted rfl (gic wn_X12 rfl (gi1 wc_X12_findParted rfl)))), wd_X12_findParted⟩
theorem co_X12_433 : VOk RX12 433 mX12_tellTurns 0 := ⟨gic (wt (mt_8 (List.mem_of_getElem? (i := 162) rfl)) rfl) rfl (gic wv_X12_tellTurns rfl (gic wz_X12_tellTurns rfl (gic wn_X12 rfl (gi1 wc_X12_tellTurns rfl)))), wd_X12_tellTurns⟩
theorem co_X12_436 : SOk RX12 436 mJ6_bitCount_0f7a4 1 := ⟨gic (wt (mt_8 (List.mem_of_getElem? (i := 170) rfl)) rfl) rfl (gic ws_J6_bitCount_0f7a4 rfl (gic wn_J6 rfl (gi1 wc_J6_bitCount_0f7a4 rfl))), wd_J6_bitCount_0f7a4⟩
theorem co_X12_441 : VOk RX12 441 mX12_changed 2 := ⟨gic (wt (mt_8 (List.mem_of_getElem? (i := 183) rfl)) rfl) rfl (gic wv_X12_changed rfl (gic wz_X12_changed rfl (gic wn_X12 rfl (gi1 wc_X12_changed rfl)))), wd_X12_changed⟩
theorem co_X12_444 : VOk RX12 444 mX12_goOrders 4 := ⟨gic (wt (mt_8 (List.mem_of_getElem? (i := 179) rfl)) rfl) rfl (gic wv_X12_goOrders rfl (gic wz_X12_goOrders rfl (gic wn_X12 rfl (gi1 wc_X12_goOrders rfl)))), wd_X12_goOrders⟩
theorem co_X12_447 : VOk RX12 447 mX12_sumOf 1 := ⟨gic (wt (mt_8 (List.mem_of_getElem? (i := 196) rfl)) rfl) rfl (gic wv_X12_sumOf rfl (gic wz_X12_sumOf rfl (gic wn_X12 rfl (gi1 wc_X12_sumOf rfl)))), wd_X12_sumOf⟩
theorem co_X12_453 : VOk RX12 453 mX12_dimmest 0 := ⟨gic (wt (mt_8 (List.mem_of_getElem? (i := 192) rfl)) rfl) rfl (gic wv_X12_dimmest rfl (gic wz_X12_dimmest rfl (gic wn_X12 rfl (gi1 wc_X12_dimmest rfl)))), wd_X12_dimmest⟩
theorem co_X12_456 : VOk RX12 456 mX12_isFault 1 := ⟨gic (wt (mt_8 (List.mem_of_getElem? (i := 216) rfl)) rfl) rfl (gic wv_X12_isFault rfl (gic wz_X12_isFault rfl (gic wn_X12 rfl (gi1 wc_X12_isFault rfl)))), wd_X12_isFault⟩
theorem co_X12_459 : VOk RX12 459 mX12_firstUnlike 0 := ⟨gic (wt (mt_8 (List.mem_of_getElem? (i := 232) rfl)) rfl) rfl (gic wv_X12_firstUnlike rfl (gic wz_X12_firstUnlike rfl (gic wn_X12 rfl (gi1 wc_X12_firstUnlike rfl)))), wd_X12_firstUnlike⟩
theorem co_X12_465 : VOk RX12 465 mX12_bar 1 := ⟨gic (wt (mt_9 (List.mem_of_getElem? (i := 16) rfl)) rfl) rfl (gic wv_X12_bar rfl (gic wz_X12_bar rfl (gic wn_X12 rfl (gi1 wc_X12_bar rfl)))), wd_X12_bar⟩
theorem co_X12_468 : VOk RX12 468 mX12_findAgreed 0 := ⟨gic (wt (mt_9 (List.mem_of_getElem? (i := 12) rfl)) rfl) rfl (gic wv_X12_findAgreed rfl (gic wz_X12_findAgreed rfl (gic wn_X12 rfl (gi1 wc_X12_findAgreed rfl)))), wd_X12_findAgreed⟩
theorem co_X12_471 : VOk RX12 471 mX12_firstOf 2 := ⟨gic (wt (mt_9 (List.mem_of_getElem? (i := 40) rfl)) rfl) rfl (gic wv_X12_firstOf rfl (gic wz_X12_firstOf rfl (gic wn_X12 rfl (gi1 wc_X12_firstOf rfl)))), wd_X12_firstOf⟩
theorem co_X12_474 : VOk RX12 474 mX12_areAlike 3 := ⟨gic (wt (mt_9 (List.mem_of_getElem? (i := 52) rfl)) rfl) rfl (gic wv_X12_areAlike rfl (gic wz_X12_areAlike rfl (gic wn_X12 rfl (gi1 wc_X12_areAlike rfl)))), wd_X12_areAlike⟩
theorem co_X12_478 : VOk RX12 478 mX12_parts 3 := ⟨gic (wt (mt_9 (List.mem_of_getElem? (i := 48) rfl)) rfl) rfl (gic wv_X12_parts rfl (gic wz_X12_parts rfl (gic wn_X12 rfl (gi1 wc_X12_parts rfl)))), wd_X12_parts⟩
theorem co_X12_481 : VOk RX12 481 mX12_depthBy 3 := ⟨gic (wt (mt_9 (List.mem_of_getElem? (i := 56) rfl)) rfl) rfl (gic wv_X12_depthBy rfl (gic wz_X12_depthBy rfl (gic wn_X12 rfl (gi1 wc_X12_depthBy rfl)))), wd_X12_depthBy⟩
theorem co_X12_484 : VOk RX12 484 mX12_depthOf 2 := ⟨gic (wt (mt_9 (List.mem_of_getElem? (i := 44) rfl)) rfl) rfl (gic wv_X12_depthOf rfl (gic wz_X12_depthOf rfl (gic wn_X12 rfl (gi1 wc_X12_depthOf rfl)))), wd_X12_depthOf⟩
theorem co_X12_487 : VOk RX12 487 mX12_findAnswers 0 := ⟨gic (wt (mt_9 (List.mem_of_getElem? (i := 36) rfl)) rfl) rfl (gic wv_X12_findAnswers rfl (gic wz_X12_findAnswers rfl (gic wn_X12 rfl (gi1 wc_X12_findAnswers rfl)))), wd_X12_findAnswers⟩
theorem co_X12_490 : VOk RX12 490 mX12_firstTest 2 := ⟨gic (wt (mt_9 (List.mem_of_getElem? (i := 60) rfl)) rfl) rfl (gic wv_X12_firstTest rfl (gic wz_X12_firstTest rfl (gic wn_X12 rfl (gi1 wc_X12_firstTest rfl)))), wd_X12_firstTest⟩
theorem co_J13_311 : SOk RJ13 311 mJ6_numberOfTrailingZeros_0f7a4 1 := ⟨gic (wt (mt_3 (List.mem_of_getElem? (i := 228) rfl)) rfl) rfl (gic ws_J6_numberOfTrailingZeros_0f7a4 rfl (gic wn_J6 rfl (gi1 wc_J6_numberOfTrailingZeros_0f7a4 rfl))), wd_J6_numberOfTrailingZeros_0f7a4⟩
theorem co_J7_13 : SOk RJ7 13 mJ7_rangeCheck_23922 3 := ⟨gic (wt (mt_4 (List.mem_of_getElem? (i := 189) rfl)) rfl) rfl (gic ws_J7_rangeCheck_23922 rfl (gic wn_J7 rfl (gi1 wc_J7_rangeCheck_23922 rfl))), wd_J7_rangeCheck_23922⟩
end
