section
-- ===== PART A: goes FIRST, ahead of the names: the tables' words, and 'selects' of the private methods out of them =====
/-- a private method of a class that the tables say can be made, by its rows of tables_1 -/
def lw_okq (q : MethodName × Nat) : Prop := (q.1.cls ≠ "java/lang/invoke/MethodHandle" ∧ q.1.cls ≠ "java/lang/invoke/VarHandle") ∧ Cond.instantiable q.1.cls q.2 ∈ tables_1 ∧ Cond.privateMethod q.1 ∈ tables_1 ∧ Cond.instanceMethod q.1 ∈ tables_1
theorem lw_p0 : lw_okq (⟨"AtomTables$Table", "keepFixed", "()V"⟩, 3) := ⟨⟨by decide +kernel, by decide +kernel⟩, List.mem_of_getElem? (i := 36) (by decide +kernel), List.mem_of_getElem? (i := 46) (by decide +kernel), List.mem_of_getElem? (i := 47) (by decide +kernel)⟩
theorem lw_p1 : lw_okq (⟨"AtomTables", "forgetNetworks", "()V"⟩, 12) := ⟨⟨by decide +kernel, by decide +kernel⟩, List.mem_of_getElem? (i := 22) (by decide +kernel), List.mem_of_getElem? (i := 350) (by decide +kernel), List.mem_of_getElem? (i := 351) (by decide +kernel)⟩
theorem lw_p2 : lw_okq (⟨"AtomTables", "isAtomButZero", "(I)Z"⟩, 12) := ⟨⟨by decide +kernel, by decide +kernel⟩, List.mem_of_getElem? (i := 22) (by decide +kernel), List.mem_of_getElem? (i := 362) (by decide +kernel), List.mem_of_getElem? (i := 363) (by decide +kernel)⟩
theorem lw_p3 : lw_okq (⟨"AtomTables$Table", "free", "(I)V"⟩, 3) := ⟨⟨by decide +kernel, by decide +kernel⟩, List.mem_of_getElem? (i := 36) (by decide +kernel), List.mem_of_getElem? (i := 370) (by decide +kernel), List.mem_of_getElem? (i := 371) (by decide +kernel)⟩
theorem lw_p4 : lw_okq (⟨"AtomTables", "isRelation", "(I)Z"⟩, 12) := ⟨⟨by decide +kernel, by decide +kernel⟩, List.mem_of_getElem? (i := 22) (by decide +kernel), List.mem_of_getElem? (i := 382) (by decide +kernel), List.mem_of_getElem? (i := 383) (by decide +kernel)⟩
theorem lw_p5 : lw_okq (⟨"AtomTables", "isAtom", "(I)Z"⟩, 12) := ⟨⟨by decide +kernel, by decide +kernel⟩, List.mem_of_getElem? (i := 22) (by decide +kernel), List.mem_of_getElem? (i := 398) (by decide +kernel), List.mem_of_getElem? (i := 399) (by decide +kernel)⟩
theorem lw_p6 : lw_okq (⟨"AtomTables$Table", "sided", "(III)I"⟩, 3) := ⟨⟨by decide +kernel, by decide +kernel⟩, List.mem_of_getElem? (i := 36) (by decide +kernel), List.mem_of_getElem? (i := 444) (by decide +kernel), List.mem_of_getElem? (i := 445) (by decide +kernel)⟩
theorem lw_p7 : lw_okq (⟨"AtomTables$Table", "isUnbalanced", "(III)Z"⟩, 3) := ⟨⟨by decide +kernel, by decide +kernel⟩, List.mem_of_getElem? (i := 36) (by decide +kernel), List.mem_of_getElem? (i := 483) (by decide +kernel), List.mem_of_getElem? (i := 484) (by decide +kernel)⟩
theorem lw_p8 : lw_okq (⟨"AtomTables", "isNode", "(II)Z"⟩, 12) := ⟨⟨by decide +kernel, by decide +kernel⟩, List.mem_of_getElem? (i := 22) (by decide +kernel), List.mem_of_getElem? (i := 535) (by decide +kernel), List.mem_of_getElem? (i := 536) (by decide +kernel)⟩
theorem lw_p9 : lw_okq (⟨"AtomTables$Pictures", "goes", "(I)Z"⟩, 8) := ⟨⟨by decide +kernel, by decide +kernel⟩, List.mem_of_getElem? (i := 267) (by decide +kernel), List.mem_of_getElem? (i := 639) (by decide +kernel), List.mem_of_getElem? (i := 640) (by decide +kernel)⟩
theorem lw_p10 : lw_okq (⟨"AtomTables$Filler", "isAllowed", "([I)Z"⟩, 5) := ⟨⟨by decide +kernel, by decide +kernel⟩, List.mem_of_getElem? (i := 164) (by decide +kernel), List.mem_of_getElem? (i := 654) (by decide +kernel), List.mem_of_getElem? (i := 655) (by decide +kernel)⟩
theorem lw_p11 : lw_okq (⟨"AtomTables$Patterns", "look", "(LAtomTables$Net;LAtomTables$Net;)V"⟩, 7) := ⟨⟨by decide +kernel, by decide +kernel⟩, List.mem_of_getElem? (i := 119) (by decide +kernel), List.mem_of_getElem? (i := 663) (by decide +kernel), List.mem_of_getElem? (i := 664) (by decide +kernel)⟩
theorem lw_p12 : lw_okq (⟨"AtomTables", "gameRefusal", "(II)I"⟩, 12) := ⟨⟨by decide +kernel, by decide +kernel⟩, List.mem_of_getElem? (i := 22) (by decide +kernel), List.mem_of_getElem? (i := 708) (by decide +kernel), List.mem_of_getElem? (i := 709) (by decide +kernel)⟩
theorem lw_p13 : lw_okq (⟨"AtomTables", "isPlayable", "(LAtomTables$Net;)Z"⟩, 12) := ⟨⟨by decide +kernel, by decide +kernel⟩, List.mem_of_getElem? (i := 22) (by decide +kernel), List.mem_of_getElem? (i := 712) (by decide +kernel), List.mem_of_getElem? (i := 713) (by decide +kernel)⟩
theorem lw_p14 : lw_okq (⟨"AtomTables$Game", "outlives", "(I)Z"⟩, 5) := ⟨⟨by decide +kernel, by decide +kernel⟩, List.mem_of_getElem? (i := 206) (by decide +kernel), List.mem_of_getElem? (i := 722) (by decide +kernel), List.mem_of_getElem? (i := 723) (by decide +kernel)⟩
theorem lw_p15 : lw_okq (⟨"AtomTables$Game", "findGaps", "([I)V"⟩, 5) := ⟨⟨by decide +kernel, by decide +kernel⟩, List.mem_of_getElem? (i := 206) (by decide +kernel), List.mem_of_getElem? (i := 726) (by decide +kernel), List.mem_of_getElem? (i := 727) (by decide +kernel)⟩
def lw_privs_1 : List (MethodName × Nat) := [(⟨"AtomTables$Table", "keepFixed", "()V"⟩, 3), (⟨"AtomTables", "forgetNetworks", "()V"⟩, 12), (⟨"AtomTables", "isAtomButZero", "(I)Z"⟩, 12), (⟨"AtomTables$Table", "free", "(I)V"⟩, 3), (⟨"AtomTables", "isRelation", "(I)Z"⟩, 12), (⟨"AtomTables", "isAtom", "(I)Z"⟩, 12), (⟨"AtomTables$Table", "sided", "(III)I"⟩, 3), (⟨"AtomTables$Table", "isUnbalanced", "(III)Z"⟩, 3), (⟨"AtomTables", "isNode", "(II)Z"⟩, 12), (⟨"AtomTables$Pictures", "goes", "(I)Z"⟩, 8), (⟨"AtomTables$Filler", "isAllowed", "([I)Z"⟩, 5), (⟨"AtomTables$Patterns", "look", "(LAtomTables$Net;LAtomTables$Net;)V"⟩, 7), (⟨"AtomTables", "gameRefusal", "(II)I"⟩, 12), (⟨"AtomTables", "isPlayable", "(LAtomTables$Net;)Z"⟩, 12), (⟨"AtomTables$Game", "outlives", "(I)Z"⟩, 5), (⟨"AtomTables$Game", "findGaps", "([I)V"⟩, 5)]
theorem lw_r1 : ∀ q ∈ lw_privs_1, lw_okq q := List.forall_mem_cons.mpr ⟨lw_p0, List.forall_mem_cons.mpr ⟨lw_p1, List.forall_mem_cons.mpr ⟨lw_p2, List.forall_mem_cons.mpr ⟨lw_p3, List.forall_mem_cons.mpr ⟨lw_p4, List.forall_mem_cons.mpr ⟨lw_p5, List.forall_mem_cons.mpr ⟨lw_p6, List.forall_mem_cons.mpr ⟨lw_p7, List.forall_mem_cons.mpr ⟨lw_p8, List.forall_mem_cons.mpr ⟨lw_p9, List.forall_mem_cons.mpr ⟨lw_p10, List.forall_mem_cons.mpr ⟨lw_p11, List.forall_mem_cons.mpr ⟨lw_p12, List.forall_mem_cons.mpr ⟨lw_p13, List.forall_mem_cons.mpr ⟨lw_p14, List.forall_mem_cons.mpr ⟨lw_p15, fun _ h => absurd h List.not_mem_nil⟩⟩⟩⟩⟩⟩⟩⟩⟩⟩⟩⟩⟩⟩⟩⟩
theorem lw_p16 : lw_okq (⟨"AtomTables$Game", "isOpen", "([I)Z"⟩, 5) := ⟨⟨by decide +kernel, by decide +kernel⟩, List.mem_of_getElem? (i := 206) (by decide +kernel), List.mem_of_getElem? (i := 732) (by decide +kernel), List.mem_of_getElem? (i := 733) (by decide +kernel)⟩
theorem lw_p17 : lw_okq (⟨"AtomTables$Game", "answers", "([I[I)Z"⟩, 5) := ⟨⟨by decide +kernel, by decide +kernel⟩, List.mem_of_getElem? (i := 206) (by decide +kernel), List.mem_of_getElem? (i := 738) (by decide +kernel), List.mem_of_getElem? (i := 739) (by decide +kernel)⟩
theorem lw_p18 : lw_okq (⟨"AtomTables$Game", "stands", "([II)Z"⟩, 5) := ⟨⟨by decide +kernel, by decide +kernel⟩, List.mem_of_getElem? (i := 206) (by decide +kernel), List.mem_of_getElem? (i := 742) (by decide +kernel), List.mem_of_getElem? (i := 743) (by decide +kernel)⟩
theorem lw_p19 : lw_okq (⟨"AtomTables$Game", "strike", "([I[I)V"⟩, 5) := ⟨⟨by decide +kernel, by decide +kernel⟩, List.mem_of_getElem? (i := 206) (by decide +kernel), List.mem_of_getElem? (i := 748) (by decide +kernel), List.mem_of_getElem? (i := 749) (by decide +kernel)⟩
theorem lw_p20 : lw_okq (⟨"AtomTables$Board", "append", "(II)V"⟩, 6) := ⟨⟨by decide +kernel, by decide +kernel⟩, List.mem_of_getElem? (i := 235) (by decide +kernel), List.mem_of_getElem? (i := 776) (by decide +kernel), List.mem_of_getElem? (i := 777) (by decide +kernel)⟩
theorem lw_p21 : lw_okq (⟨"AtomTables$Board", "dropClosed", "()V"⟩, 6) := ⟨⟨by decide +kernel, by decide +kernel⟩, List.mem_of_getElem? (i := 235) (by decide +kernel), List.mem_of_getElem? (i := 802) (by decide +kernel), List.mem_of_getElem? (i := 803) (by decide +kernel)⟩
theorem lw_p22 : lw_okq (⟨"AtomTables$Pictures", "isFull", "()Z"⟩, 8) := ⟨⟨by decide +kernel, by decide +kernel⟩, List.mem_of_getElem? (i := 267) (by decide +kernel), List.mem_of_getElem? (i := 834) (by decide +kernel), List.mem_of_getElem? (i := 835) (by decide +kernel)⟩
theorem lw_p23 : lw_okq (⟨"AtomTables$Pictures", "readDue", "()V"⟩, 8) := ⟨⟨by decide +kernel, by decide +kernel⟩, List.mem_of_getElem? (i := 267) (by decide +kernel), List.mem_of_getElem? (i := 839) (by decide +kernel), List.mem_of_getElem? (i := 840) (by decide +kernel)⟩
theorem lw_p24 : lw_okq (⟨"AtomTables$Pictures", "misfit", "()I"⟩, 8) := ⟨⟨by decide +kernel, by decide +kernel⟩, List.mem_of_getElem? (i := 267) (by decide +kernel), List.mem_of_getElem? (i := 847) (by decide +kernel), List.mem_of_getElem? (i := 848) (by decide +kernel)⟩
theorem lw_p25 : lw_okq (⟨"AtomTables$Tape", "isWord", "(IILjava/lang/String;)Z"⟩, 2) := ⟨⟨by decide +kernel, by decide +kernel⟩, List.mem_of_getElem? (i := 291) (by decide +kernel), List.mem_of_getElem? (i := 912) (by decide +kernel), List.mem_of_getElem? (i := 913) (by decide +kernel)⟩
theorem lw_p26 : lw_okq (⟨"AtomTables$Tape", "goodFigures", "(II)I"⟩, 2) := ⟨⟨by decide +kernel, by decide +kernel⟩, List.mem_of_getElem? (i := 291) (by decide +kernel), List.mem_of_getElem? (i := 971) (by decide +kernel), List.mem_of_getElem? (i := 972) (by decide +kernel)⟩
theorem lw_p27 : lw_okq (⟨"AtomTables$Tape", "isDue", "(IZ)Z"⟩, 2) := ⟨⟨by decide +kernel, by decide +kernel⟩, List.mem_of_getElem? (i := 291) (by decide +kernel), List.mem_of_getElem? (i := 975) (by decide +kernel), List.mem_of_getElem? (i := 976) (by decide +kernel)⟩
theorem lw_p28 : lw_okq (⟨"AtomTables", "perform", "()I"⟩, 12) := ⟨⟨by decide +kernel, by decide +kernel⟩, List.mem_of_getElem? (i := 22) (by decide +kernel), List.mem_of_getElem? (i := 979) (by decide +kernel), List.mem_of_getElem? (i := 980) (by decide +kernel)⟩
theorem lw_p29 : lw_okq (⟨"AtomTables", "statement", "(II)I"⟩, 12) := ⟨⟨by decide +kernel, by decide +kernel⟩, List.mem_of_getElem? (i := 22) (by decide +kernel), List.mem_of_getElem? (i := 985) (by decide +kernel), List.mem_of_getElem? (i := 986) (by decide +kernel)⟩
theorem lw_p30 : lw_okq (⟨"AtomTables$Tape", "writeWord", "(Ljava/lang/String;)V"⟩, 2) := ⟨⟨by decide +kernel, by decide +kernel⟩, List.mem_of_getElem? (i := 291) (by decide +kernel), List.mem_of_getElem? (i := 1005) (by decide +kernel), List.mem_of_getElem? (i := 1006) (by decide +kernel)⟩
theorem lw_p31 : lw_okq (⟨"AtomTables$Tape", "writeFigure", "(I)V"⟩, 2) := ⟨⟨by decide +kernel, by decide +kernel⟩, List.mem_of_getElem? (i := 291) (by decide +kernel), List.mem_of_getElem? (i := 1010) (by decide +kernel), List.mem_of_getElem? (i := 1011) (by decide +kernel)⟩
def lw_privs_2 : List (MethodName × Nat) := [(⟨"AtomTables$Game", "isOpen", "([I)Z"⟩, 5), (⟨"AtomTables$Game", "answers", "([I[I)Z"⟩, 5), (⟨"AtomTables$Game", "stands", "([II)Z"⟩, 5), (⟨"AtomTables$Game", "strike", "([I[I)V"⟩, 5), (⟨"AtomTables$Board", "append", "(II)V"⟩, 6), (⟨"AtomTables$Board", "dropClosed", "()V"⟩, 6), (⟨"AtomTables$Pictures", "isFull", "()Z"⟩, 8), (⟨"AtomTables$Pictures", "readDue", "()V"⟩, 8), (⟨"AtomTables$Pictures", "misfit", "()I"⟩, 8), (⟨"AtomTables$Tape", "isWord", "(IILjava/lang/String;)Z"⟩, 2), (⟨"AtomTables$Tape", "goodFigures", "(II)I"⟩, 2), (⟨"AtomTables$Tape", "isDue", "(IZ)Z"⟩, 2), (⟨"AtomTables", "perform", "()I"⟩, 12), (⟨"AtomTables", "statement", "(II)I"⟩, 12), (⟨"AtomTables$Tape", "writeWord", "(Ljava/lang/String;)V"⟩, 2), (⟨"AtomTables$Tape", "writeFigure", "(I)V"⟩, 2)]
theorem lw_r2 : ∀ q ∈ lw_privs_2, lw_okq q := List.forall_mem_cons.mpr ⟨lw_p16, List.forall_mem_cons.mpr ⟨lw_p17, List.forall_mem_cons.mpr ⟨lw_p18, List.forall_mem_cons.mpr ⟨lw_p19, List.forall_mem_cons.mpr ⟨lw_p20, List.forall_mem_cons.mpr ⟨lw_p21, List.forall_mem_cons.mpr ⟨lw_p22, List.forall_mem_cons.mpr ⟨lw_p23, List.forall_mem_cons.mpr ⟨lw_p24, List.forall_mem_cons.mpr ⟨lw_p25, List.forall_mem_cons.mpr ⟨lw_p26, List.forall_mem_cons.mpr ⟨lw_p27, List.forall_mem_cons.mpr ⟨lw_p28, List.forall_mem_cons.mpr ⟨lw_p29, List.forall_mem_cons.mpr ⟨lw_p30, List.forall_mem_cons.mpr ⟨lw_p31, fun _ h => absurd h List.not_mem_nil⟩⟩⟩⟩⟩⟩⟩⟩⟩⟩⟩⟩⟩⟩⟩⟩
theorem lw_p32 : lw_okq (⟨"AtomTables$Tape", "writeThree", "(III)V"⟩, 2) := ⟨⟨by decide +kernel, by decide +kernel⟩, List.mem_of_getElem? (i := 291) (by decide +kernel), List.mem_of_getElem? (i := 1017) (by decide +kernel), List.mem_of_getElem? (i := 1018) (by decide +kernel)⟩
theorem lw_p33 : lw_okq (⟨"AtomTables", "listsPresent", "()I"⟩, 12) := ⟨⟨by decide +kernel, by decide +kernel⟩, List.mem_of_getElem? (i := 22) (by decide +kernel), List.mem_of_getElem? (i := 1043) (by decide +kernel), List.mem_of_getElem? (i := 1044) (by decide +kernel)⟩
theorem lw_p34 : lw_okq (⟨"AtomTablesModel", "fixes", "()V"⟩, 34) := ⟨⟨by decide +kernel, by decide +kernel⟩, List.mem_of_getElem? (i := 1047) (by decide +kernel), List.mem_of_getElem? (i := 1053) (by decide +kernel), List.mem_of_getElem? (i := 1054) (by decide +kernel)⟩
theorem lw_p35 : lw_okq (⟨"AtomTablesModel", "isOther", "(I)Z"⟩, 34) := ⟨⟨by decide +kernel, by decide +kernel⟩, List.mem_of_getElem? (i := 1047) (by decide +kernel), List.mem_of_getElem? (i := 1174) (by decide +kernel), List.mem_of_getElem? (i := 1175) (by decide +kernel)⟩
theorem lw_p36 : lw_okq (⟨"AtomTablesModel", "isRelation", "(I)Z"⟩, 34) := ⟨⟨by decide +kernel, by decide +kernel⟩, List.mem_of_getElem? (i := 1047) (by decide +kernel), List.mem_of_getElem? (i := 1182) (by decide +kernel), List.mem_of_getElem? (i := 1183) (by decide +kernel)⟩
theorem lw_p37 : lw_okq (⟨"AtomTablesModel", "turned", "(I)I"⟩, 34) := ⟨⟨by decide +kernel, by decide +kernel⟩, List.mem_of_getElem? (i := 1047) (by decide +kernel), List.mem_of_getElem? (i := 1186) (by decide +kernel), List.mem_of_getElem? (i := 1187) (by decide +kernel)⟩
theorem lw_p38 : lw_okq (⟨"AtomTablesModel", "isAtom", "(I)Z"⟩, 34) := ⟨⟨by decide +kernel, by decide +kernel⟩, List.mem_of_getElem? (i := 1047) (by decide +kernel), List.mem_of_getElem? (i := 1197) (by decide +kernel), List.mem_of_getElem? (i := 1198) (by decide +kernel)⟩
theorem lw_p39 : lw_okq (⟨"AtomTablesModel", "turn", "(IIII)I"⟩, 34) := ⟨⟨by decide +kernel, by decide +kernel⟩, List.mem_of_getElem? (i := 1047) (by decide +kernel), List.mem_of_getElem? (i := 1201) (by decide +kernel), List.mem_of_getElem? (i := 1202) (by decide +kernel)⟩
theorem lw_p40 : lw_okq (⟨"AtomTablesModel", "is", "(III)Z"⟩, 34) := ⟨⟨by decide +kernel, by decide +kernel⟩, List.mem_of_getElem? (i := 1047) (by decide +kernel), List.mem_of_getElem? (i := 1209) (by decide +kernel), List.mem_of_getElem? (i := 1210) (by decide +kernel)⟩
theorem lw_p41 : lw_okq (⟨"AtomTablesModel", "composed", "(II)I"⟩, 34) := ⟨⟨by decide +kernel, by decide +kernel⟩, List.mem_of_getElem? (i := 1047) (by decide +kernel), List.mem_of_getElem? (i := 1217) (by decide +kernel), List.mem_of_getElem? (i := 1218) (by decide +kernel)⟩
theorem lw_p42 : lw_okq (⟨"AtomTablesModel", "composedBy", "(III)I"⟩, 34) := ⟨⟨by decide +kernel, by decide +kernel⟩, List.mem_of_getElem? (i := 1047) (by decide +kernel), List.mem_of_getElem? (i := 1225) (by decide +kernel), List.mem_of_getElem? (i := 1226) (by decide +kernel)⟩
theorem lw_p43 : lw_okq (⟨"AtomTablesModel", "powerOf", "(II)I"⟩, 34) := ⟨⟨by decide +kernel, by decide +kernel⟩, List.mem_of_getElem? (i := 1047) (by decide +kernel), List.mem_of_getElem? (i := 1233) (by decide +kernel), List.mem_of_getElem? (i := 1234) (by decide +kernel)⟩
theorem lw_p44 : lw_okq (⟨"AtomTablesModel", "isEquivalence", "(I)Z"⟩, 34) := ⟨⟨by decide +kernel, by decide +kernel⟩, List.mem_of_getElem? (i := 1047) (by decide +kernel), List.mem_of_getElem? (i := 1241) (by decide +kernel), List.mem_of_getElem? (i := 1242) (by decide +kernel)⟩
theorem lw_p45 : lw_okq (⟨"AtomTablesModel", "isLeast", "(III)Z"⟩, 34) := ⟨⟨by decide +kernel, by decide +kernel⟩, List.mem_of_getElem? (i := 1047) (by decide +kernel), List.mem_of_getElem? (i := 1259) (by decide +kernel), List.mem_of_getElem? (i := 1260) (by decide +kernel)⟩
theorem lw_p46 : lw_okq (⟨"AtomTablesModel", "cycleOf", "(III)I"⟩, 34) := ⟨⟨by decide +kernel, by decide +kernel⟩, List.mem_of_getElem? (i := 1047) (by decide +kernel), List.mem_of_getElem? (i := 1263) (by decide +kernel), List.mem_of_getElem? (i := 1264) (by decide +kernel)⟩
theorem lw_p47 : lw_okq (⟨"AtomTablesModel", "areAtoms", "(II)Z"⟩, 34) := ⟨⟨by decide +kernel, by decide +kernel⟩, List.mem_of_getElem? (i := 1047) (by decide +kernel), List.mem_of_getElem? (i := 1275) (by decide +kernel), List.mem_of_getElem? (i := 1276) (by decide +kernel)⟩
def lw_privs_3 : List (MethodName × Nat) := [(⟨"AtomTables$Tape", "writeThree", "(III)V"⟩, 2), (⟨"AtomTables", "listsPresent", "()I"⟩, 12), (⟨"AtomTablesModel", "fixes", "()V"⟩, 34), (⟨"AtomTablesModel", "isOther", "(I)Z"⟩, 34), (⟨"AtomTablesModel", "isRelation", "(I)Z"⟩, 34), (⟨"AtomTablesModel", "turned", "(I)I"⟩, 34), (⟨"AtomTablesModel", "isAtom", "(I)Z"⟩, 34), (⟨"AtomTablesModel", "turn", "(IIII)I"⟩, 34), (⟨"AtomTablesModel", "is", "(III)Z"⟩, 34), (⟨"AtomTablesModel", "composed", "(II)I"⟩, 34), (⟨"AtomTablesModel", "composedBy", "(III)I"⟩, 34), (⟨"AtomTablesModel", "powerOf", "(II)I"⟩, 34), (⟨"AtomTablesModel", "isEquivalence", "(I)Z"⟩, 34), (⟨"AtomTablesModel", "isLeast", "(III)Z"⟩, 34), (⟨"AtomTablesModel", "cycleOf", "(III)I"⟩, 34), (⟨"AtomTablesModel", "areAtoms", "(II)Z"⟩, 34)]
theorem lw_r3 : ∀ q ∈ lw_privs_3, lw_okq q := List.forall_mem_cons.mpr ⟨lw_p32, List.forall_mem_cons.mpr ⟨lw_p33, List.forall_mem_cons.mpr ⟨lw_p34, List.forall_mem_cons.mpr ⟨lw_p35, List.forall_mem_cons.mpr ⟨lw_p36, List.forall_mem_cons.mpr ⟨lw_p37, List.forall_mem_cons.mpr ⟨lw_p38, List.forall_mem_cons.mpr ⟨lw_p39, List.forall_mem_cons.mpr ⟨lw_p40, List.forall_mem_cons.mpr ⟨lw_p41, List.forall_mem_cons.mpr ⟨lw_p42, List.forall_mem_cons.mpr ⟨lw_p43, List.forall_mem_cons.mpr ⟨lw_p44, List.forall_mem_cons.mpr ⟨lw_p45, List.forall_mem_cons.mpr ⟨lw_p46, List.forall_mem_cons.mpr ⟨lw_p47, fun _ h => absurd h List.not_mem_nil⟩⟩⟩⟩⟩⟩⟩⟩⟩⟩⟩⟩⟩⟩⟩⟩
theorem lw_p48 : lw_okq (⟨"AtomTablesModel", "comes", "(II)V"⟩, 34) := ⟨⟨by decide +kernel, by decide +kernel⟩, List.mem_of_getElem? (i := 1047) (by decide +kernel), List.mem_of_getElem? (i := 1279) (by decide +kernel), List.mem_of_getElem? (i := 1280) (by decide +kernel)⟩
theorem lw_p49 : lw_okq (⟨"AtomTablesModel", "lays", "(IIII)V"⟩, 34) := ⟨⟨by decide +kernel, by decide +kernel⟩, List.mem_of_getElem? (i := 1047) (by decide +kernel), List.mem_of_getElem? (i := 1286) (by decide +kernel), List.mem_of_getElem? (i := 1287) (by decide +kernel)⟩
theorem lw_p50 : lw_okq (⟨"AtomTablesModel", "isNode", "(II)Z"⟩, 34) := ⟨⟨by decide +kernel, by decide +kernel⟩, List.mem_of_getElem? (i := 1047) (by decide +kernel), List.mem_of_getElem? (i := 1298) (by decide +kernel), List.mem_of_getElem? (i := 1299) (by decide +kernel)⟩
theorem lw_p51 : lw_okq (⟨"AtomTablesModel", "labelOf", "(III)I"⟩, 34) := ⟨⟨by decide +kernel, by decide +kernel⟩, List.mem_of_getElem? (i := 1047) (by decide +kernel), List.mem_of_getElem? (i := 1302) (by decide +kernel), List.mem_of_getElem? (i := 1303) (by decide +kernel)⟩
theorem lw_p52 : lw_okq (⟨"AtomTablesModel", "likens", "(II)V"⟩, 34) := ⟨⟨by decide +kernel, by decide +kernel⟩, List.mem_of_getElem? (i := 1047) (by decide +kernel), List.mem_of_getElem? (i := 1314) (by decide +kernel), List.mem_of_getElem? (i := 1315) (by decide +kernel)⟩
theorem lw_p53 : lw_okq (⟨"AtomTablesModel", "unsound", "(I)I"⟩, 34) := ⟨⟨by decide +kernel, by decide +kernel⟩, List.mem_of_getElem? (i := 1047) (by decide +kernel), List.mem_of_getElem? (i := 1322) (by decide +kernel), List.mem_of_getElem? (i := 1323) (by decide +kernel)⟩
theorem lw_p54 : lw_okq (⟨"AtomTablesModel", "gapBehind", "(II)I"⟩, 34) := ⟨⟨by decide +kernel, by decide +kernel⟩, List.mem_of_getElem? (i := 1047) (by decide +kernel), List.mem_of_getElem? (i := 1330) (by decide +kernel), List.mem_of_getElem? (i := 1331) (by decide +kernel)⟩
theorem lw_p55 : lw_okq (⟨"AtomTablesModel", "isGap", "(IIIII)Z"⟩, 34) := ⟨⟨by decide +kernel, by decide +kernel⟩, List.mem_of_getElem? (i := 1047) (by decide +kernel), List.mem_of_getElem? (i := 1334) (by decide +kernel), List.mem_of_getElem? (i := 1335) (by decide +kernel)⟩
theorem lw_p56 : lw_okq (⟨"AtomTablesModel", "looks", "(III)V"⟩, 34) := ⟨⟨by decide +kernel, by decide +kernel⟩, List.mem_of_getElem? (i := 1047) (by decide +kernel), List.mem_of_getElem? (i := 1342) (by decide +kernel), List.mem_of_getElem? (i := 1343) (by decide +kernel)⟩
theorem lw_p57 : lw_okq (⟨"AtomTablesModel", "seeks", "(IIIII)Z"⟩, 34) := ⟨⟨by decide +kernel, by decide +kernel⟩, List.mem_of_getElem? (i := 1047) (by decide +kernel), List.mem_of_getElem? (i := 1346) (by decide +kernel), List.mem_of_getElem? (i := 1347) (by decide +kernel)⟩
theorem lw_p58 : lw_okq (⟨"AtomTablesModel", "isLike", "(IIIII)Z"⟩, 34) := ⟨⟨by decide +kernel, by decide +kernel⟩, List.mem_of_getElem? (i := 1047) (by decide +kernel), List.mem_of_getElem? (i := 1350) (by decide +kernel), List.mem_of_getElem? (i := 1351) (by decide +kernel)⟩
theorem lw_p59 : lw_okq (⟨"AtomTablesModel", "isGapOf", "(II)Z"⟩, 34) := ⟨⟨by decide +kernel, by decide +kernel⟩, List.mem_of_getElem? (i := 1047) (by decide +kernel), List.mem_of_getElem? (i := 1362) (by decide +kernel), List.mem_of_getElem? (i := 1363) (by decide +kernel)⟩
theorem lw_p60 : lw_okq (⟨"AtomTablesModel", "looksToFill", "(III)V"⟩, 34) := ⟨⟨by decide +kernel, by decide +kernel⟩, List.mem_of_getElem? (i := 1047) (by decide +kernel), List.mem_of_getElem? (i := 1366) (by decide +kernel), List.mem_of_getElem? (i := 1367) (by decide +kernel)⟩
theorem lw_p61 : lw_okq (⟨"AtomTablesModel", "isFillable", "(II)Z"⟩, 34) := ⟨⟨by decide +kernel, by decide +kernel⟩, List.mem_of_getElem? (i := 1047) (by decide +kernel), List.mem_of_getElem? (i := 1370) (by decide +kernel), List.mem_of_getElem? (i := 1371) (by decide +kernel)⟩
theorem lw_p62 : lw_okq (⟨"AtomTablesModel", "fillsFrom", "(IIIII)Z"⟩, 34) := ⟨⟨by decide +kernel, by decide +kernel⟩, List.mem_of_getElem? (i := 1047) (by decide +kernel), List.mem_of_getElem? (i := 1374) (by decide +kernel), List.mem_of_getElem? (i := 1375) (by decide +kernel)⟩
theorem lw_p63 : lw_okq (⟨"AtomTablesModel", "isFilled", "(II)Z"⟩, 34) := ⟨⟨by decide +kernel, by decide +kernel⟩, List.mem_of_getElem? (i := 1047) (by decide +kernel), List.mem_of_getElem? (i := 1378) (by decide +kernel), List.mem_of_getElem? (i := 1379) (by decide +kernel)⟩
def lw_privs_4 : List (MethodName × Nat) := [(⟨"AtomTablesModel", "comes", "(II)V"⟩, 34), (⟨"AtomTablesModel", "lays", "(IIII)V"⟩, 34), (⟨"AtomTablesModel", "isNode", "(II)Z"⟩, 34), (⟨"AtomTablesModel", "labelOf", "(III)I"⟩, 34), (⟨"AtomTablesModel", "likens", "(II)V"⟩, 34), (⟨"AtomTablesModel", "unsound", "(I)I"⟩, 34), (⟨"AtomTablesModel", "gapBehind", "(II)I"⟩, 34), (⟨"AtomTablesModel", "isGap", "(IIIII)Z"⟩, 34), (⟨"AtomTablesModel", "looks", "(III)V"⟩, 34), (⟨"AtomTablesModel", "seeks", "(IIIII)Z"⟩, 34), (⟨"AtomTablesModel", "isLike", "(IIIII)Z"⟩, 34), (⟨"AtomTablesModel", "isGapOf", "(II)Z"⟩, 34), (⟨"AtomTablesModel", "looksToFill", "(III)V"⟩, 34), (⟨"AtomTablesModel", "isFillable", "(II)Z"⟩, 34), (⟨"AtomTablesModel", "fillsFrom", "(IIIII)Z"⟩, 34), (⟨"AtomTablesModel", "isFilled", "(II)Z"⟩, 34)]
theorem lw_r4 : ∀ q ∈ lw_privs_4, lw_okq q := List.forall_mem_cons.mpr ⟨lw_p48, List.forall_mem_cons.mpr ⟨lw_p49, List.forall_mem_cons.mpr ⟨lw_p50, List.forall_mem_cons.mpr ⟨lw_p51, List.forall_mem_cons.mpr ⟨lw_p52, List.forall_mem_cons.mpr ⟨lw_p53, List.forall_mem_cons.mpr ⟨lw_p54, List.forall_mem_cons.mpr ⟨lw_p55, List.forall_mem_cons.mpr ⟨lw_p56, List.forall_mem_cons.mpr ⟨lw_p57, List.forall_mem_cons.mpr ⟨lw_p58, List.forall_mem_cons.mpr ⟨lw_p59, List.forall_mem_cons.mpr ⟨lw_p60, List.forall_mem_cons.mpr ⟨lw_p61, List.forall_mem_cons.mpr ⟨lw_p62, List.forall_mem_cons.mpr ⟨lw_p63, fun _ h => absurd h List.not_mem_nil⟩⟩⟩⟩⟩⟩⟩⟩⟩⟩⟩⟩⟩⟩⟩⟩
theorem lw_p64 : lw_okq (⟨"AtomTablesModel", "isBarred", "(I)Z"⟩, 34) := ⟨⟨by decide +kernel, by decide +kernel⟩, List.mem_of_getElem? (i := 1047) (by decide +kernel), List.mem_of_getElem? (i := 1382) (by decide +kernel), List.mem_of_getElem? (i := 1383) (by decide +kernel)⟩
theorem lw_p65 : lw_okq (⟨"AtomTablesModel", "isWon", "(I)Z"⟩, 34) := ⟨⟨by decide +kernel, by decide +kernel⟩, List.mem_of_getElem? (i := 1047) (by decide +kernel), List.mem_of_getElem? (i := 1386) (by decide +kernel), List.mem_of_getElem? (i := 1387) (by decide +kernel)⟩
theorem lw_p66 : lw_okq (⟨"AtomTablesModel", "killerOf", "(I)I"⟩, 34) := ⟨⟨by decide +kernel, by decide +kernel⟩, List.mem_of_getElem? (i := 1047) (by decide +kernel), List.mem_of_getElem? (i := 1390) (by decide +kernel), List.mem_of_getElem? (i := 1391) (by decide +kernel)⟩
theorem lw_p67 : lw_okq (⟨"AtomTablesModel", "mayStand", "(II)Z"⟩, 34) := ⟨⟨by decide +kernel, by decide +kernel⟩, List.mem_of_getElem? (i := 1047) (by decide +kernel), List.mem_of_getElem? (i := 1394) (by decide +kernel), List.mem_of_getElem? (i := 1395) (by decide +kernel)⟩
theorem lw_p68 : lw_okq (⟨"AtomTablesModel", "whyNot", "(II)I"⟩, 34) := ⟨⟨by decide +kernel, by decide +kernel⟩, List.mem_of_getElem? (i := 1047) (by decide +kernel), List.mem_of_getElem? (i := 1402) (by decide +kernel), List.mem_of_getElem? (i := 1403) (by decide +kernel)⟩
theorem lw_p69 : lw_okq (⟨"AtomTablesModel", "isPlayed", "(I)Z"⟩, 34) := ⟨⟨by decide +kernel, by decide +kernel⟩, List.mem_of_getElem? (i := 1047) (by decide +kernel), List.mem_of_getElem? (i := 1406) (by decide +kernel), List.mem_of_getElem? (i := 1407) (by decide +kernel)⟩
theorem lw_p70 : lw_okq (⟨"AtomTablesModel", "isFillOf", "(II)Z"⟩, 34) := ⟨⟨by decide +kernel, by decide +kernel⟩, List.mem_of_getElem? (i := 1047) (by decide +kernel), List.mem_of_getElem? (i := 1430) (by decide +kernel), List.mem_of_getElem? (i := 1431) (by decide +kernel)⟩
theorem lw_p71 : lw_okq (⟨"AtomTablesModel", "isAllHad", "()Z"⟩, 34) := ⟨⟨by decide +kernel, by decide +kernel⟩, List.mem_of_getElem? (i := 1047) (by decide +kernel), List.mem_of_getElem? (i := 1453) (by decide +kernel), List.mem_of_getElem? (i := 1454) (by decide +kernel)⟩
theorem lw_p72 : lw_okq (⟨"AtomTablesModel", "falseStep", "()I"⟩, 34) := ⟨⟨by decide +kernel, by decide +kernel⟩, List.mem_of_getElem? (i := 1047) (by decide +kernel), List.mem_of_getElem? (i := 1457) (by decide +kernel), List.mem_of_getElem? (i := 1458) (by decide +kernel)⟩
theorem lw_p73 : lw_okq (⟨"AtomTablesModel", "isMet", "(III)Z"⟩, 34) := ⟨⟨by decide +kernel, by decide +kernel⟩, List.mem_of_getElem? (i := 1047) (by decide +kernel), List.mem_of_getElem? (i := 1461) (by decide +kernel), List.mem_of_getElem? (i := 1462) (by decide +kernel)⟩
theorem lw_p74 : lw_okq (⟨"AtomTablesModel", "isPictured", "(I)Z"⟩, 34) := ⟨⟨by decide +kernel, by decide +kernel⟩, List.mem_of_getElem? (i := 1047) (by decide +kernel), List.mem_of_getElem? (i := 1469) (by decide +kernel), List.mem_of_getElem? (i := 1470) (by decide +kernel)⟩
theorem lw_p75 : lw_okq (⟨"AtomTablesModel", "statement", "()I"⟩, 34) := ⟨⟨by decide +kernel, by decide +kernel⟩, List.mem_of_getElem? (i := 1047) (by decide +kernel), List.mem_of_getElem? (i := 1500) (by decide +kernel), List.mem_of_getElem? (i := 1501) (by decide +kernel)⟩
theorem lw_p76 : lw_okq (⟨"AtomTablesModel", "word", "()I"⟩, 34) := ⟨⟨by decide +kernel, by decide +kernel⟩, List.mem_of_getElem? (i := 1047) (by decide +kernel), List.mem_of_getElem? (i := 1504) (by decide +kernel), List.mem_of_getElem? (i := 1505) (by decide +kernel)⟩
theorem lw_p77 : lw_okq (⟨"AtomTablesModel", "isAt", "(II)Z"⟩, 34) := ⟨⟨by decide +kernel, by decide +kernel⟩, List.mem_of_getElem? (i := 1047) (by decide +kernel), List.mem_of_getElem? (i := 1508) (by decide +kernel), List.mem_of_getElem? (i := 1509) (by decide +kernel)⟩
theorem lw_p78 : lw_okq (⟨"AtomTablesModel", "isDone", "(I)Z"⟩, 34) := ⟨⟨by decide +kernel, by decide +kernel⟩, List.mem_of_getElem? (i := 1047) (by decide +kernel), List.mem_of_getElem? (i := 1512) (by decide +kernel), List.mem_of_getElem? (i := 1513) (by decide +kernel)⟩
theorem lw_p79 : lw_okq (⟨"AtomTablesModel", "spells", "()V"⟩, 34) := ⟨⟨by decide +kernel, by decide +kernel⟩, List.mem_of_getElem? (i := 1047) (by decide +kernel), List.mem_of_getElem? (i := 1523) (by decide +kernel), List.mem_of_getElem? (i := 1524) (by decide +kernel)⟩
def lw_privs_5 : List (MethodName × Nat) := [(⟨"AtomTablesModel", "isBarred", "(I)Z"⟩, 34), (⟨"AtomTablesModel", "isWon", "(I)Z"⟩, 34), (⟨"AtomTablesModel", "killerOf", "(I)I"⟩, 34), (⟨"AtomTablesModel", "mayStand", "(II)Z"⟩, 34), (⟨"AtomTablesModel", "whyNot", "(II)I"⟩, 34), (⟨"AtomTablesModel", "isPlayed", "(I)Z"⟩, 34), (⟨"AtomTablesModel", "isFillOf", "(II)Z"⟩, 34), (⟨"AtomTablesModel", "isAllHad", "()Z"⟩, 34), (⟨"AtomTablesModel", "falseStep", "()I"⟩, 34), (⟨"AtomTablesModel", "isMet", "(III)Z"⟩, 34), (⟨"AtomTablesModel", "isPictured", "(I)Z"⟩, 34), (⟨"AtomTablesModel", "statement", "()I"⟩, 34), (⟨"AtomTablesModel", "word", "()I"⟩, 34), (⟨"AtomTablesModel", "isAt", "(II)Z"⟩, 34), (⟨"AtomTablesModel", "isDone", "(I)Z"⟩, 34), (⟨"AtomTablesModel", "spells", "()V"⟩, 34)]
theorem lw_r5 : ∀ q ∈ lw_privs_5, lw_okq q := List.forall_mem_cons.mpr ⟨lw_p64, List.forall_mem_cons.mpr ⟨lw_p65, List.forall_mem_cons.mpr ⟨lw_p66, List.forall_mem_cons.mpr ⟨lw_p67, List.forall_mem_cons.mpr ⟨lw_p68, List.forall_mem_cons.mpr ⟨lw_p69, List.forall_mem_cons.mpr ⟨lw_p70, List.forall_mem_cons.mpr ⟨lw_p71, List.forall_mem_cons.mpr ⟨lw_p72, List.forall_mem_cons.mpr ⟨lw_p73, List.forall_mem_cons.mpr ⟨lw_p74, List.forall_mem_cons.mpr ⟨lw_p75, List.forall_mem_cons.mpr ⟨lw_p76, List.forall_mem_cons.mpr ⟨lw_p77, List.forall_mem_cons.mpr ⟨lw_p78, List.forall_mem_cons.mpr ⟨lw_p79, fun _ h => absurd h List.not_mem_nil⟩⟩⟩⟩⟩⟩⟩⟩⟩⟩⟩⟩⟩⟩⟩⟩
theorem lw_p80 : lw_okq (⟨"AtomTablesModel", "writesWord", "(I)V"⟩, 34) := ⟨⟨by decide +kernel, by decide +kernel⟩, List.mem_of_getElem? (i := 1047) (by decide +kernel), List.mem_of_getElem? (i := 1527) (by decide +kernel), List.mem_of_getElem? (i := 1528) (by decide +kernel)⟩
theorem lw_p81 : lw_okq (⟨"AtomTablesModel", "writes", "(I)V"⟩, 34) := ⟨⟨by decide +kernel, by decide +kernel⟩, List.mem_of_getElem? (i := 1047) (by decide +kernel), List.mem_of_getElem? (i := 1531) (by decide +kernel), List.mem_of_getElem? (i := 1532) (by decide +kernel)⟩
theorem lw_p82 : lw_okq (⟨"AtomTablesModel", "writesFigure", "(I)V"⟩, 34) := ⟨⟨by decide +kernel, by decide +kernel⟩, List.mem_of_getElem? (i := 1047) (by decide +kernel), List.mem_of_getElem? (i := 1535) (by decide +kernel), List.mem_of_getElem? (i := 1536) (by decide +kernel)⟩
def lw_privs_6 : List (MethodName × Nat) := [(⟨"AtomTablesModel", "writesWord", "(I)V"⟩, 34), (⟨"AtomTablesModel", "writes", "(I)V"⟩, 34), (⟨"AtomTablesModel", "writesFigure", "(I)V"⟩, 34)]
theorem lw_r6 : ∀ q ∈ lw_privs_6, lw_okq q := List.forall_mem_cons.mpr ⟨lw_p80, List.forall_mem_cons.mpr ⟨lw_p81, List.forall_mem_cons.mpr ⟨lw_p82, fun _ h => absurd h List.not_mem_nil⟩⟩⟩
def lw_privs : List (MethodName × Nat) := lw_privs_1 ++ (lw_privs_2 ++ (lw_privs_3 ++ (lw_privs_4 ++ (lw_privs_5 ++ (lw_privs_6)))))
def lw_tbl : List Cond := k2_sels lw_privs ++ tables_1
theorem lw_privs_ok : ∀ q ∈ lw_privs, lw_okq q := by
  show ∀ q ∈ lw_privs_1 ++ (lw_privs_2 ++ (lw_privs_3 ++ (lw_privs_4 ++ (lw_privs_5 ++ (lw_privs_6))))), lw_okq q
  exact List.forall_mem_append.mpr ⟨lw_r1, List.forall_mem_append.mpr ⟨lw_r2, List.forall_mem_append.mpr ⟨lw_r3, List.forall_mem_append.mpr ⟨lw_r4, List.forall_mem_append.mpr ⟨lw_r5, lw_r6⟩⟩⟩⟩⟩
def RX0 : String := "AtomTables$Board"
def TX0 : u_T := fun k => match k with
  | 0 => ("AtomTables$Board", "table", "LAtomTables$Table;", true)
  | 1 => ("AtomTables$Board", "stands", "Z", false)
  | 2 => ("AtomTables$Board", "net", "LAtomTables$Net;", true)
  | 3 => ("AtomTables$Board", "asks", "[I", true)
  | 4 => ("AtomTables$Board", "asked", "I", false)
  | _ => ("AtomTables$Board", "answered", "I", false)
def tyX0 : Nat → FieldType := fun k => match k with
  | 0 => .object "AtomTables$Table"
  | 1 => .boolean
  | 2 => .object "AtomTables$Net"
  | 3 => .array .int
  | 4 => .int
  | _ => .int
abbrev wsX00 : List Cond := u_ws RX0 TX0 6
theorem nmX0 : ∀ a, a < 6 → ∀ b, b < 6 → a ≠ b → (TX0 a).2.1 ≠ (TX0 b).2.1 := by decide +kernel
theorem tyX0_ok : ∀ k, k < 6 → parseFieldDescriptor (TX0 k).2.2.1 = some (tyX0 k) := by decide +kernel
abbrev cX0_init : ByteArray := prog_2_method_1_code
def yX0_init : MethodName := ⟨RX0, "<init>", "(LAtomTables$Table;)V"⟩
abbrev cX0_lay : ByteArray := prog_2_method_2_code
def yX0_lay : MethodName := ⟨RX0, "lay", "(LAtomTables$Net;)V"⟩
abbrev cX0_append : ByteArray := prog_2_method_3_code
def yX0_append : MethodName := ⟨RX0, "append", "(II)V"⟩
abbrev cX0_extend : ByteArray := prog_2_method_4_code
def yX0_extend : MethodName := ⟨RX0, "extend", "([I)V"⟩
abbrev cX0_dropClosed : ByteArray := prog_2_method_5_code
def yX0_dropClosed : MethodName := ⟨RX0, "dropClosed", "()V"⟩
abbrev cX0_rotate : ByteArray := prog_2_method_6_code
def yX0_rotate : MethodName := ⟨RX0, "rotate", "()V"⟩
def RX1 : String := "AtomTables$Filler"
def TX1 : u_T := fun k => match k with
  | 0 => ("AtomTables$Filler", "sheet", "LAtomTables$Sheet;", true)
  | 1 => ("AtomTables$Filler", "patterns", "LAtomTables$Patterns;", true)
  | 2 => ("AtomTables$Filler", "trial", "LAtomTables$Net;", true)
  | 3 => ("AtomTables$Filler", "rows", "LAtomTables$Rows;", true)
  | _ => ("AtomTables$Filler", "row", "[I", true)
def tyX1 : Nat → FieldType := fun k => match k with
  | 0 => .object "AtomTables$Sheet"
  | 1 => .object "AtomTables$Patterns"
  | 2 => .object "AtomTables$Net"
  | 3 => .object "AtomTables$Rows"
  | _ => .array .int
abbrev wsX10 : List Cond := u_ws RX1 TX1 5
theorem nmX1 : ∀ a, a < 5 → ∀ b, b < 5 → a ≠ b → (TX1 a).2.1 ≠ (TX1 b).2.1 := by decide +kernel
theorem tyX1_ok : ∀ k, k < 5 → parseFieldDescriptor (TX1 k).2.2.1 = some (tyX1 k) := by decide +kernel
abbrev cX1_init : ByteArray := prog_3_method_1_code
def yX1_init : MethodName := ⟨RX1, "<init>", "(LAtomTables$Sheet;LAtomTables$Patterns;)V"⟩
abbrev cX1_spread : ByteArray := prog_3_method_2_code
def yX1_spread : MethodName := ⟨RX1, "spread", "(II)Z"⟩
abbrev cX1_way : ByteArray := prog_3_method_3_code
def yX1_way : MethodName := ⟨RX1, "way", "(LAtomTables$Net;II)I"⟩
abbrev cX1_isAllowed : ByteArray := prog_3_method_4_code
def yX1_isAllowed : MethodName := ⟨RX1, "isAllowed", "([I)Z"⟩
abbrev cX1_isFilledBy : ByteArray := prog_3_method_5_code
def yX1_isFilledBy : MethodName := ⟨RX1, "isFilledBy", "(LAtomTables$Net;II)Z"⟩
def RX2 : String := "AtomTables$Game"
def TX2 : u_T := fun k => match k with
  | 0 => ("AtomTables$Game", "sheet", "LAtomTables$Sheet;", true)
  | 1 => ("AtomTables$Game", "patterns", "LAtomTables$Patterns;", true)
  | 2 => ("AtomTables$Game", "stage", "LAtomTables$Net;", true)
  | 3 => ("AtomTables$Game", "rows", "[LAtomTables$Rows;", true)
  | _ => ("AtomTables$Game", "left", "[[I", true)
def tyX2 : Nat → FieldType := fun k => match k with
  | 0 => .object "AtomTables$Sheet"
  | 1 => .object "AtomTables$Patterns"
  | 2 => .object "AtomTables$Net"
  | 3 => .array (.object "AtomTables$Rows")
  | _ => .array (.array .int)
abbrev wsX20 : List Cond := u_ws RX2 TX2 5
theorem nmX2 : ∀ a, a < 5 → ∀ b, b < 5 → a ≠ b → (TX2 a).2.1 ≠ (TX2 b).2.1 := by decide +kernel
theorem tyX2_ok : ∀ k, k < 5 → parseFieldDescriptor (TX2 k).2.2.1 = some (tyX2 k) := by decide +kernel
abbrev cX2_init : ByteArray := prog_4_method_1_code
def yX2_init : MethodName := ⟨RX2, "<init>", "(LAtomTables$Sheet;LAtomTables$Patterns;)V"⟩
abbrev cX2_isWon : ByteArray := prog_4_method_2_code
def yX2_isWon : MethodName := ⟨RX2, "isWon", "(LAtomTables$Net;I)Z"⟩
abbrev cX2_outlives : ByteArray := prog_4_method_3_code
def yX2_outlives : MethodName := ⟨RX2, "outlives", "(I)Z"⟩
abbrev cX2_findGaps : ByteArray := prog_4_method_4_code
def yX2_findGaps : MethodName := ⟨RX2, "findGaps", "([I)V"⟩
abbrev cX2_isOpen : ByteArray := prog_4_method_5_code
def yX2_isOpen : MethodName := ⟨RX2, "isOpen", "([I)Z"⟩
abbrev cX2_answers : ByteArray := prog_4_method_6_code
def yX2_answers : MethodName := ⟨RX2, "answers", "([I[I)Z"⟩
abbrev cX2_strike : ByteArray := prog_4_method_7_code
def yX2_strike : MethodName := ⟨RX2, "strike", "([I[I)V"⟩
abbrev cX2_stands : ByteArray := prog_4_method_8_code
def yX2_stands : MethodName := ⟨RX2, "stands", "([II)Z"⟩
abbrev cX2_firstLeft : ByteArray := prog_4_method_9_code
def yX2_firstLeft : MethodName := ⟨RX2, "firstLeft", "(I)I"⟩
def RX3 : String := "AtomTables$Net"
def TX3 : u_T := fun k => match k with
  | 0 => ("AtomTables$Net", "size", "I", false)
  | _ => ("AtomTables$Net", "labels", "[I", true)
def tyX3 : Nat → FieldType := fun k => match k with
  | 0 => .int
  | _ => .array .int
abbrev wsX30 : List Cond := u_ws RX3 TX3 2
theorem nmX3 : ∀ a, a < 2 → ∀ b, b < 2 → a ≠ b → (TX3 a).2.1 ≠ (TX3 b).2.1 := by decide +kernel
theorem tyX3_ok : ∀ k, k < 2 → parseFieldDescriptor (TX3 k).2.2.1 = some (tyX3 k) := by decide +kernel
abbrev cX3_init : ByteArray := prog_5_method_1_code
def yX3_init : MethodName := ⟨RX3, "<init>", "()V"⟩
abbrev cX3_at : ByteArray := prog_5_method_2_code
def yX3_at : MethodName := ⟨RX3, "at", "(II)I"⟩
abbrev cX3_link : ByteArray := prog_5_method_3_code
def yX3_link : MethodName := ⟨RX3, "link", "(IIILAtomTables$Table;)V"⟩
abbrev cX3_become : ByteArray := prog_5_method_4_code
def yX3_become : MethodName := ⟨RX3, "become", "(LAtomTables$Net;)V"⟩
abbrev cX3_grow : ByteArray := prog_5_method_5_code
def yX3_grow : MethodName := ⟨RX3, "grow", "([ILAtomTables$Table;)V"⟩
abbrev cX3_unsound : ByteArray := prog_5_method_6_code
def yX3_unsound : MethodName := ⟨RX3, "unsound", "(LAtomTables$Table;)I"⟩
abbrev cX3_open : ByteArray := prog_5_method_7_code
def yX3_open : MethodName := ⟨RX3, "open", "(LAtomTables$Table;II)I"⟩
abbrev cX3_gapNumber : ByteArray := prog_5_method_8_code
def yX3_gapNumber : MethodName := ⟨RX3, "gapNumber", "(III)I"⟩
abbrev cX3_gapAt : ByteArray := prog_5_method_9_code
def yX3_gapAt : MethodName := ⟨RX3, "gapAt", "(LAtomTables$Table;I)I"⟩
abbrev cX3_placeOf : ByteArray := prog_5_method_10_code
def yX3_placeOf : MethodName := ⟨RX3, "placeOf", "(II)I"⟩
abbrev cX3_lacks : ByteArray := prog_5_method_11_code
def yX3_lacks : MethodName := ⟨RX3, "lacks", "(LAtomTables$Table;I)Z"⟩
def RX4 : String := "AtomTables$Patterns"
def TX4 : u_T := fun k => match k with
  | 0 => ("AtomTables$Wheels", "size", "I", false)
  | 1 => ("AtomTables$Wheels", "at", "[I", true)
  | 2 => ("AtomTables$Wheels", "low", "[I", true)
  | 3 => ("AtomTables$Wheels", "high", "[I", true)
  | 4 => ("AtomTables$Patterns", "sheet", "LAtomTables$Sheet;", true)
  | 5 => ("AtomTables$Patterns", "small", "LAtomTables$Net;", false)
  | _ => ("AtomTables$Patterns", "big", "LAtomTables$Net;", false)
def tyX4 : Nat → FieldType := fun k => match k with
  | 0 => .int
  | 1 => .array .int
  | 2 => .array .int
  | 3 => .array .int
  | 4 => .object "AtomTables$Sheet"
  | 5 => .object "AtomTables$Net"
  | _ => .object "AtomTables$Net"
abbrev wsX40 : List Cond := u_ws RX4 TX4 7
theorem nmX4 : ∀ a, a < 7 → ∀ b, b < 7 → a ≠ b → (TX4 a).2.1 ≠ (TX4 b).2.1 := by decide +kernel
theorem tyX4_ok : ∀ k, k < 7 → parseFieldDescriptor (TX4 k).2.2.1 = some (tyX4 k) := by decide +kernel
abbrev cX4_init : ByteArray := prog_6_method_1_code
def yX4_init : MethodName := ⟨RX4, "<init>", "(LAtomTables$Sheet;)V"⟩
abbrev cX4_way : ByteArray := prog_6_method_2_code
def yX4_way : MethodName := ⟨RX4, "way", "(LAtomTables$Net;LAtomTables$Net;I)I"⟩
abbrev cX4_isBarred : ByteArray := prog_6_method_3_code
def yX4_isBarred : MethodName := ⟨RX4, "isBarred", "(LAtomTables$Net;)Z"⟩
abbrev cX4_look : ByteArray := prog_6_method_4_code
def yX4_look : MethodName := ⟨RX4, "look", "(LAtomTables$Net;LAtomTables$Net;)V"⟩
abbrev cX4_clash : ByteArray := prog_6_method_5_code
def yX4_clash : MethodName := ⟨RX4, "clash", "(I)I"⟩
def RX5 : String := "AtomTables$Pictures"
def TX5 : u_T := fun k => match k with
  | 0 => ("AtomTables$Wheels", "size", "I", false)
  | 1 => ("AtomTables$Wheels", "at", "[I", true)
  | 2 => ("AtomTables$Wheels", "low", "[I", true)
  | 3 => ("AtomTables$Wheels", "high", "[I", true)
  | 4 => ("AtomTables$Pictures", "table", "LAtomTables$Table;", true)
  | 5 => ("AtomTables$Pictures", "points", "I", false)
  | 6 => ("AtomTables$Pictures", "steps", "[I", true)
  | _ => ("AtomTables$Pictures", "due", "[I", true)
def tyX5 : Nat → FieldType := fun k => match k with
  | 0 => .int
  | 1 => .array .int
  | 2 => .array .int
  | 3 => .array .int
  | 4 => .object "AtomTables$Table"
  | 5 => .int
  | 6 => .array .int
  | _ => .array .int
abbrev wsX50 : List Cond := u_ws RX5 TX5 8
theorem nmX5 : ∀ a, a < 8 → ∀ b, b < 8 → a ≠ b → (TX5 a).2.1 ≠ (TX5 b).2.1 := by decide +kernel
theorem tyX5_ok : ∀ k, k < 8 → parseFieldDescriptor (TX5 k).2.2.1 = some (tyX5 k) := by decide +kernel
abbrev cX5_init : ByteArray := prog_7_method_1_code
def yX5_init : MethodName := ⟨RX5, "<init>", "(LAtomTables$Table;)V"⟩
abbrev cX5_verdict : ByteArray := prog_7_method_2_code
def yX5_verdict : MethodName := ⟨RX5, "verdict", "([JII)I"⟩
abbrev cX5_isFull : ByteArray := prog_7_method_3_code
def yX5_isFull : MethodName := ⟨RX5, "isFull", "()Z"⟩
abbrev cX5_readDue : ByteArray := prog_7_method_4_code
def yX5_readDue : MethodName := ⟨RX5, "readDue", "()V"⟩
abbrev cX5_misfit : ByteArray := prog_7_method_5_code
def yX5_misfit : MethodName := ⟨RX5, "misfit", "()I"⟩
abbrev cX5_search : ByteArray := prog_7_method_6_code
def yX5_search : MethodName := ⟨RX5, "search", "()I"⟩
abbrev cX5_clash : ByteArray := prog_7_method_7_code
def yX5_clash : MethodName := ⟨RX5, "clash", "(I)I"⟩
abbrev cX5_goes : ByteArray := prog_7_method_8_code
def yX5_goes : MethodName := ⟨RX5, "goes", "(I)Z"⟩
def RX6 : String := "AtomTables$Rows"
def TX6 : u_T := fun k => match k with
  | 0 => ("AtomTables$Wheels", "size", "I", false)
  | 1 => ("AtomTables$Wheels", "at", "[I", true)
  | 2 => ("AtomTables$Wheels", "low", "[I", true)
  | 3 => ("AtomTables$Wheels", "high", "[I", true)
  | 4 => ("AtomTables$Rows", "table", "LAtomTables$Table;", true)
  | _ => ("AtomTables$Rows", "net", "LAtomTables$Net;", true)
def tyX6 : Nat → FieldType := fun k => match k with
  | 0 => .int
  | 1 => .array .int
  | 2 => .array .int
  | 3 => .array .int
  | 4 => .object "AtomTables$Table"
  | _ => .object "AtomTables$Net"
abbrev wsX60 : List Cond := u_ws RX6 TX6 6
theorem nmX6 : ∀ a, a < 6 → ∀ b, b < 6 → a ≠ b → (TX6 a).2.1 ≠ (TX6 b).2.1 := by decide +kernel
theorem tyX6_ok : ∀ k, k < 6 → parseFieldDescriptor (TX6 k).2.2.1 = some (tyX6 k) := by decide +kernel
abbrev cX6_init : ByteArray := prog_8_method_1_code
def yX6_init : MethodName := ⟨RX6, "<init>", "(LAtomTables$Table;LAtomTables$Net;)V"⟩
abbrev cX6_spanAll : ByteArray := prog_8_method_2_code
def yX6_spanAll : MethodName := ⟨RX6, "spanAll", "()V"⟩
abbrev cX6_clash : ByteArray := prog_8_method_3_code
def yX6_clash : MethodName := ⟨RX6, "clash", "(I)I"⟩
def RX7 : String := "AtomTables$Sheet"
def TX7 : u_T := fun k => match k with
  | 0 => ("AtomTables$Sheet", "table", "LAtomTables$Table;", true)
  | 1 => ("AtomTables$Sheet", "nets", "[LAtomTables$Net;", true)
  | 2 => ("AtomTables$Sheet", "barred", "LAtomTables$Net;", true)
  | _ => ("AtomTables$Sheet", "bars", "Z", false)
def tyX7 : Nat → FieldType := fun k => match k with
  | 0 => .object "AtomTables$Table"
  | 1 => .array (.object "AtomTables$Net")
  | 2 => .object "AtomTables$Net"
  | _ => .boolean
abbrev wsX70 : List Cond := u_ws RX7 TX7 4
theorem nmX7 : ∀ a, a < 4 → ∀ b, b < 4 → a ≠ b → (TX7 a).2.1 ≠ (TX7 b).2.1 := by decide +kernel
theorem tyX7_ok : ∀ k, k < 4 → parseFieldDescriptor (TX7 k).2.2.1 = some (tyX7 k) := by decide +kernel
abbrev cX7_init : ByteArray := prog_9_method_1_code
def yX7_init : MethodName := ⟨RX7, "<init>", "()V"⟩
abbrev cX7_clearNets : ByteArray := prog_9_method_2_code
def yX7_clearNets : MethodName := ⟨RX7, "clearNets", "()V"⟩
abbrev cX7_become : ByteArray := prog_9_method_3_code
def yX7_become : MethodName := ⟨RX7, "become", "(LAtomTables$Sheet;)V"⟩
def RX8 : String := "AtomTables$Table"
def TX8 : u_T := fun k => match k with
  | 0 => ("AtomTables$Table", "size", "I", false)
  | 1 => ("AtomTables$Table", "mirror", "[I", true)
  | _ => ("AtomTables$Table", "threes", "J", false)
def tyX8 : Nat → FieldType := fun k => match k with
  | 0 => .int
  | 1 => .array .int
  | _ => .long
abbrev wsX80 : List Cond := u_ws RX8 TX8 3
theorem nmX8 : ∀ a, a < 3 → ∀ b, b < 3 → a ≠ b → (TX8 a).2.1 ≠ (TX8 b).2.1 := by decide +kernel
theorem tyX8_ok : ∀ k, k < 3 → parseFieldDescriptor (TX8 k).2.2.1 = some (tyX8 k) := by decide +kernel
abbrev cX8_init : ByteArray := prog_10_method_1_code
def yX8_init : MethodName := ⟨RX8, "<init>", "()V"⟩
abbrev cX8_restart : ByteArray := prog_10_method_2_code
def yX8_restart : MethodName := ⟨RX8, "restart", "(I)V"⟩
abbrev cX8_become : ByteArray := prog_10_method_3_code
def yX8_become : MethodName := ⟨RX8, "become", "(LAtomTables$Table;)V"⟩
abbrev cX8_couple : ByteArray := prog_10_method_4_code
def yX8_couple : MethodName := ⟨RX8, "couple", "(II)V"⟩
abbrev cX8_free : ByteArray := prog_10_method_5_code
def yX8_free : MethodName := ⟨RX8, "free", "(I)V"⟩
abbrev cX8_keepFixed : ByteArray := prog_10_method_6_code
def yX8_keepFixed : MethodName := ⟨RX8, "keepFixed", "()V"⟩
abbrev cX8_coupled : ByteArray := prog_10_method_7_code
def yX8_coupled : MethodName := ⟨RX8, "coupled", "()I"⟩
abbrev cX8_bit : ByteArray := prog_10_method_8_code
def yX8_bit : MethodName := ⟨RX8, "bit", "(III)J"⟩
abbrev cX8_has : ByteArray := prog_10_method_9_code
def yX8_has : MethodName := ⟨RX8, "has", "(III)Z"⟩
abbrev cX8_turns : ByteArray := prog_10_method_10_code
def yX8_turns : MethodName := ⟨RX8, "turns", "(III)J"⟩
abbrev cX8_mark : ByteArray := prog_10_method_11_code
def yX8_mark : MethodName := ⟨RX8, "mark", "(IIIZ)I"⟩
abbrev cX8_relations : ByteArray := prog_10_method_12_code
def yX8_relations : MethodName := ⟨RX8, "relations", "()I"⟩
abbrev cX8_mirrored : ByteArray := prog_10_method_13_code
def yX8_mirrored : MethodName := ⟨RX8, "mirrored", "(I)I"⟩
abbrev cX8_product : ByteArray := prog_10_method_14_code
def yX8_product : MethodName := ⟨RX8, "product", "(II)I"⟩
abbrev cX8_sided : ByteArray := prog_10_method_15_code
def yX8_sided : MethodName := ⟨RX8, "sided", "(III)I"⟩
abbrev cX8_residual : ByteArray := prog_10_method_16_code
def yX8_residual : MethodName := ⟨RX8, "residual", "(III)I"⟩
abbrev cX8_powers : ByteArray := prog_10_method_17_code
def yX8_powers : MethodName := ⟨RX8, "powers", "(IZ)I"⟩
abbrev cX8_isEquivalence : ByteArray := prog_10_method_18_code
def yX8_isEquivalence : MethodName := ⟨RX8, "isEquivalence", "(I)Z"⟩
abbrev cX8_solutions : ByteArray := prog_10_method_19_code
def yX8_solutions : MethodName := ⟨RX8, "solutions", "(IIII)I"⟩
abbrev cX8_isUnbalanced : ByteArray := prog_10_method_20_code
def yX8_isUnbalanced : MethodName := ⟨RX8, "isUnbalanced", "(III)Z"⟩
abbrev cX8_unbalanced : ByteArray := prog_10_method_21_code
def yX8_unbalanced : MethodName := ⟨RX8, "unbalanced", "(Z)I"⟩
abbrev cX8_thin : ByteArray := prog_10_method_22_code
def yX8_thin : MethodName := ⟨RX8, "thin", "(Z)I"⟩
abbrev cX8_isLeastTurn : ByteArray := prog_10_method_23_code
def yX8_isLeastTurn : MethodName := ⟨RX8, "isLeastTurn", "(III)Z"⟩
abbrev cX8_cycleFacts : ByteArray := prog_10_method_24_code
def yX8_cycleFacts : MethodName := ⟨RX8, "cycleFacts", "(I)I"⟩
abbrev cX8_pairsInto : ByteArray := prog_10_method_25_code
def yX8_pairsInto : MethodName := ⟨RX8, "pairsInto", "(I)I"⟩
def RX9 : String := "AtomTables$Tape"
def TX9 : u_T := fun k => match k with
  | 0 => ("AtomTables$Tape", "size", "I", false)
  | _ => ("AtomTables$Tape", "bytes", "[B", true)
def tyX9 : Nat → FieldType := fun k => match k with
  | 0 => .int
  | _ => .array .byte
abbrev wsX90 : List Cond := u_ws RX9 TX9 2
theorem nmX9 : ∀ a, a < 2 → ∀ b, b < 2 → a ≠ b → (TX9 a).2.1 ≠ (TX9 b).2.1 := by decide +kernel
theorem tyX9_ok : ∀ k, k < 2 → parseFieldDescriptor (TX9 k).2.2.1 = some (tyX9 k) := by decide +kernel
abbrev cX9_init : ByteArray := prog_11_method_1_code
def yX9_init : MethodName := ⟨RX9, "<init>", "()V"⟩
abbrev cX9_append : ByteArray := prog_11_method_2_code
def yX9_append : MethodName := ⟨RX9, "append", "(I)V"⟩
abbrev cX9_faultPlace : ByteArray := prog_11_method_3_code
def yX9_faultPlace : MethodName := ⟨RX9, "faultPlace", "()I"⟩
abbrev cX9_goodFigures : ByteArray := prog_11_method_4_code
def yX9_goodFigures : MethodName := ⟨RX9, "goodFigures", "(II)I"⟩
abbrev cX9_isDue : ByteArray := prog_11_method_5_code
def yX9_isDue : MethodName := ⟨RX9, "isDue", "(IZ)Z"⟩
abbrev cX9_wordEnd : ByteArray := prog_11_method_6_code
def yX9_wordEnd : MethodName := ⟨RX9, "wordEnd", "(I)I"⟩
abbrev cX9_wordKind : ByteArray := prog_11_method_7_code
def yX9_wordKind : MethodName := ⟨RX9, "wordKind", "(II)I"⟩
abbrev cX9_isWord : ByteArray := prog_11_method_8_code
def yX9_isWord : MethodName := ⟨RX9, "isWord", "(IILjava/lang/String;)Z"⟩
abbrev cX9_figuresOf : ByteArray := prog_11_method_9_code
def yX9_figuresOf : MethodName := ⟨RX9, "figuresOf", "(I)I"⟩
abbrev cX9_figure : ByteArray := prog_11_method_10_code
def yX9_figure : MethodName := ⟨RX9, "figure", "(I)I"⟩
abbrev cX9_spell : ByteArray := prog_11_method_11_code
def yX9_spell : MethodName := ⟨RX9, "spell", "(LAtomTables$Table;)V"⟩
abbrev cX9_writeThree : ByteArray := prog_11_method_12_code
def yX9_writeThree : MethodName := ⟨RX9, "writeThree", "(III)V"⟩
abbrev cX9_writeWord : ByteArray := prog_11_method_13_code
def yX9_writeWord : MethodName := ⟨RX9, "writeWord", "(Ljava/lang/String;)V"⟩
abbrev cX9_writeFigure : ByteArray := prog_11_method_14_code
def yX9_writeFigure : MethodName := ⟨RX9, "writeFigure", "(I)V"⟩
def RX10 : String := "AtomTables$Wheels"
def TX10 : u_T := fun k => match k with
  | _ => ("", "", "", false)
def tyX10 : Nat → FieldType := fun k => match k with
  | _ => .int
abbrev wsX100 : List Cond := u_ws RX10 TX10 0
theorem nmX10 : ∀ a, a < 0 → ∀ b, b < 0 → a ≠ b → (TX10 a).2.1 ≠ (TX10 b).2.1 := by decide +kernel
theorem tyX10_ok : ∀ k, k < 0 → parseFieldDescriptor (TX10 k).2.2.1 = some (tyX10 k) := by decide +kernel
abbrev cX10_init : ByteArray := prog_12_method_1_code
def yX10_init : MethodName := ⟨RX10, "<init>", "()V"⟩
abbrev cX10_span : ByteArray := prog_12_method_3_code
def yX10_span : MethodName := ⟨RX10, "span", "(III)V"⟩
abbrev cX10_hold : ByteArray := prog_12_method_4_code
def yX10_hold : MethodName := ⟨RX10, "hold", "(II)V"⟩
abbrev cX10_first : ByteArray := prog_12_method_5_code
def yX10_first : MethodName := ⟨RX10, "first", "()Z"⟩
abbrev cX10_next : ByteArray := prog_12_method_6_code
def yX10_next : MethodName := ⟨RX10, "next", "()Z"⟩
abbrev cX10_settle : ByteArray := prog_12_method_7_code
def yX10_settle : MethodName := ⟨RX10, "settle", "(I)Z"⟩
abbrev cX10_turn : ByteArray := prog_12_method_8_code
def yX10_turn : MethodName := ⟨RX10, "turn", "(I)I"⟩
abbrev cX10_digits : ByteArray := prog_12_method_9_code
def yX10_digits : MethodName := ⟨RX10, "digits", "(I)I"⟩
def RX11 : String := "AtomTables"
def TX11 : u_T := fun k => match k with
  | 0 => ("AtomTables", "now", "LAtomTables$Sheet;", true)
  | 1 => ("AtomTables", "kept", "LAtomTables$Sheet;", true)
  | 2 => ("AtomTables", "taken", "Z", false)
  | 3 => ("AtomTables", "patterns", "LAtomTables$Patterns;", true)
  | 4 => ("AtomTables", "filler", "LAtomTables$Filler;", true)
  | 5 => ("AtomTables", "game", "LAtomTables$Game;", true)
  | 6 => ("AtomTables", "desk", "LAtomTables$Board;", true)
  | 7 => ("AtomTables", "pictures", "LAtomTables$Pictures;", true)
  | 8 => ("AtomTables", "sizes", "[I", true)
  | 9 => ("AtomTables", "longs", "[J", true)
  | 10 => ("AtomTables", "tape", "LAtomTables$Tape;", true)
  | _ => ("AtomTables", "spelling", "LAtomTables$Tape;", true)
def tyX11 : Nat → FieldType := fun k => match k with
  | 0 => .object "AtomTables$Sheet"
  | 1 => .object "AtomTables$Sheet"
  | 2 => .boolean
  | 3 => .object "AtomTables$Patterns"
  | 4 => .object "AtomTables$Filler"
  | 5 => .object "AtomTables$Game"
  | 6 => .object "AtomTables$Board"
  | 7 => .object "AtomTables$Pictures"
  | 8 => .array .int
  | 9 => .array .long
  | 10 => .object "AtomTables$Tape"
  | _ => .object "AtomTables$Tape"
abbrev wsX110 : List Cond := u_ws RX11 TX11 12
theorem nmX11 : ∀ a, a < 12 → ∀ b, b < 12 → a ≠ b → (TX11 a).2.1 ≠ (TX11 b).2.1 := by decide +kernel
theorem tyX11_ok : ∀ k, k < 12 → parseFieldDescriptor (TX11 k).2.2.1 = some (tyX11 k) := by decide +kernel
abbrev cX11_init : ByteArray := prog_1_method_1_code
def yX11_init : MethodName := ⟨RX11, "<init>", "()V"⟩
abbrev cX11_atoms : ByteArray := prog_1_method_2_code
def yX11_atoms : MethodName := ⟨RX11, "atoms", "(I)I"⟩
abbrev cX11_pair : ByteArray := prog_1_method_3_code
def yX11_pair : MethodName := ⟨RX11, "pair", "(II)I"⟩
abbrev cX11_converse : ByteArray := prog_1_method_4_code
def yX11_converse : MethodName := ⟨RX11, "converse", "(I)I"⟩
abbrev cX11_triangle : ByteArray := prog_1_method_5_code
def yX11_triangle : MethodName := ⟨RX11, "triangle", "(IIII)I"⟩
abbrev cX11_isIn : ByteArray := prog_1_method_6_code
def yX11_isIn : MethodName := ⟨RX11, "isIn", "(III)I"⟩
abbrev cX11_compose : ByteArray := prog_1_method_7_code
def yX11_compose : MethodName := ⟨RX11, "compose", "(II)I"⟩
abbrev cX11_over : ByteArray := prog_1_method_8_code
def yX11_over : MethodName := ⟨RX11, "over", "(III)I"⟩
abbrev cX11_power : ByteArray := prog_1_method_9_code
def yX11_power : MethodName := ⟨RX11, "power", "(II)I"⟩
abbrev cX11_equivalence : ByteArray := prog_1_method_10_code
def yX11_equivalence : MethodName := ⟨RX11, "equivalence", "(I)I"⟩
abbrev cX11_solved : ByteArray := prog_1_method_11_code
def yX11_solved : MethodName := ⟨RX11, "solved", "(IIII)I"⟩
abbrev cX11_broken : ByteArray := prog_1_method_12_code
def yX11_broken : MethodName := ⟨RX11, "broken", "(I)I"⟩
abbrev cX11_cycles : ByteArray := prog_1_method_13_code
def yX11_cycles : MethodName := ⟨RX11, "cycles", "(I)I"⟩
abbrev cX11_node : ByteArray := prog_1_method_14_code
def yX11_node : MethodName := ⟨RX11, "node", "(II)I"⟩
abbrev cX11_drop : ByteArray := prog_1_method_15_code
def yX11_drop : MethodName := ⟨RX11, "drop", "(I)I"⟩
abbrev cX11_label : ByteArray := prog_1_method_16_code
def yX11_label : MethodName := ⟨RX11, "label", "(III)I"⟩
abbrev cX11_relabel : ByteArray := prog_1_method_17_code
def yX11_relabel : MethodName := ⟨RX11, "relabel", "(IIII)I"⟩
abbrev cX11_copy : ByteArray := prog_1_method_18_code
def yX11_copy : MethodName := ⟨RX11, "copy", "(II)I"⟩
abbrev cX11_sound : ByteArray := prog_1_method_19_code
def yX11_sound : MethodName := ⟨RX11, "sound", "(I)I"⟩
abbrev cX11_gap : ByteArray := prog_1_method_20_code
def yX11_gap : MethodName := ⟨RX11, "gap", "(II)I"⟩
abbrev cX11_fills : ByteArray := prog_1_method_21_code
def yX11_fills : MethodName := ⟨RX11, "fills", "(III)I"⟩
abbrev cX11_occurs : ByteArray := prog_1_method_22_code
def yX11_occurs : MethodName := ⟨RX11, "occurs", "(III)I"⟩
abbrev cX11_forbid : ByteArray := prog_1_method_23_code
def yX11_forbid : MethodName := ⟨RX11, "forbid", "(I)I"⟩
abbrev cX11_won : ByteArray := prog_1_method_24_code
def yX11_won : MethodName := ⟨RX11, "won", "(II)I"⟩
abbrev cX11_killer : ByteArray := prog_1_method_25_code
def yX11_killer : MethodName := ⟨RX11, "killer", "(II)I"⟩
abbrev cX11_lasts : ByteArray := prog_1_method_26_code
def yX11_lasts : MethodName := ⟨RX11, "lasts", "(I)I"⟩
abbrev cX11_begin : ByteArray := prog_1_method_27_code
def yX11_begin : MethodName := ⟨RX11, "begin", "(I)I"⟩
abbrev cX11_ask : ByteArray := prog_1_method_28_code
def yX11_ask : MethodName := ⟨RX11, "ask", "(I)I"⟩
abbrev cX11_answer : ByteArray := prog_1_method_29_code
def yX11_answer : MethodName := ⟨RX11, "answer", "(I)I"⟩
abbrev cX11_later : ByteArray := prog_1_method_30_code
def yX11_later : MethodName := ⟨RX11, "later", "()I"⟩
abbrev cX11_board : ByteArray := prog_1_method_31_code
def yX11_board : MethodName := ⟨RX11, "board", "(I)I"⟩
abbrev cX11_take : ByteArray := prog_1_method_32_code
def yX11_take : MethodName := ⟨RX11, "take", "(I)I"⟩
abbrev cX11_judge : ByteArray := prog_1_method_33_code
def yX11_judge : MethodName := ⟨RX11, "judge", "(I)I"⟩
abbrev cX11_found : ByteArray := prog_1_method_34_code
def yX11_found : MethodName := ⟨RX11, "found", "(I)I"⟩
abbrev cX11_list : ByteArray := prog_1_method_35_code
def yX11_list : MethodName := ⟨RX11, "list", "(II)I"⟩
abbrev cX11_put : ByteArray := prog_1_method_36_code
def yX11_put : MethodName := ⟨RX11, "put", "(IIJ)I"⟩
abbrev cX11_get : ByteArray := prog_1_method_37_code
def yX11_get : MethodName := ⟨RX11, "get", "(II)J"⟩
abbrev cX11_feed : ByteArray := prog_1_method_38_code
def yX11_feed : MethodName := ⟨RX11, "feed", "(I)I"⟩
abbrev cX11_wipe : ByteArray := prog_1_method_39_code
def yX11_wipe : MethodName := ⟨RX11, "wipe", "()I"⟩
abbrev cX11_read : ByteArray := prog_1_method_40_code
def yX11_read : MethodName := ⟨RX11, "read", "()I"⟩
abbrev cX11_spelled : ByteArray := prog_1_method_41_code
def yX11_spelled : MethodName := ⟨RX11, "spelled", "(I)I"⟩
abbrev cX11_image : ByteArray := prog_1_method_42_code
def yX11_image : MethodName := ⟨RX11, "image", "()I"⟩
abbrev cX11_undo : ByteArray := prog_1_method_43_code
def yX11_undo : MethodName := ⟨RX11, "undo", "()I"⟩
abbrev cX11_count : ByteArray := prog_1_method_44_code
def yX11_count : MethodName := ⟨RX11, "count", "(I)I"⟩
abbrev cX11_isAtom : ByteArray := prog_1_method_45_code
def yX11_isAtom : MethodName := ⟨RX11, "isAtom", "(I)Z"⟩
abbrev cX11_isAtomButZero : ByteArray := prog_1_method_46_code
def yX11_isAtomButZero : MethodName := ⟨RX11, "isAtomButZero", "(I)Z"⟩
abbrev cX11_isRelation : ByteArray := prog_1_method_47_code
def yX11_isRelation : MethodName := ⟨RX11, "isRelation", "(I)Z"⟩
abbrev cX11_isSide : ByteArray := prog_1_method_48_code
def yX11_isSide : MethodName := ⟨RX11, "isSide", "(I)Z"⟩
abbrev cX11_isNet : ByteArray := prog_1_method_49_code
def yX11_isNet : MethodName := ⟨RX11, "isNet", "(I)Z"⟩
abbrev cX11_isList : ByteArray := prog_1_method_50_code
def yX11_isList : MethodName := ⟨RX11, "isList", "(I)Z"⟩
abbrev cX11_isNode : ByteArray := prog_1_method_51_code
def yX11_isNode : MethodName := ⟨RX11, "isNode", "(II)Z"⟩
abbrev cX11_listsPresent : ByteArray := prog_1_method_52_code
def yX11_listsPresent : MethodName := ⟨RX11, "listsPresent", "()I"⟩
abbrev cX11_forgetNetworks : ByteArray := prog_1_method_53_code
def yX11_forgetNetworks : MethodName := ⟨RX11, "forgetNetworks", "()V"⟩
abbrev cX11_isPlayable : ByteArray := prog_1_method_54_code
def yX11_isPlayable : MethodName := ⟨RX11, "isPlayable", "(LAtomTables$Net;)Z"⟩
abbrev cX11_gameRefusal : ByteArray := prog_1_method_55_code
def yX11_gameRefusal : MethodName := ⟨RX11, "gameRefusal", "(II)I"⟩
abbrev cX11_perform : ByteArray := prog_1_method_56_code
def yX11_perform : MethodName := ⟨RX11, "perform", "()I"⟩
abbrev cX11_statement : ByteArray := prog_1_method_57_code
def yX11_statement : MethodName := ⟨RX11, "statement", "(II)I"⟩
def RX12 : String := "AtomTablesModel"
def TX12 : u_T := fun k => match k with
  | 0 => ("AtomTablesModel", "atoms", "I", false)
  | 1 => ("AtomTablesModel", "converses", "[I", true)
  | 2 => ("AtomTablesModel", "threes", "[Z", true)
  | 3 => ("AtomTablesModel", "sizes", "[I", true)
  | 4 => ("AtomTablesModel", "labels", "[I", true)
  | 5 => ("AtomTablesModel", "isForbidden", "Z", false)
  | 6 => ("AtomTablesModel", "isBoard", "Z", false)
  | 7 => ("AtomTablesModel", "asks", "[I", true)
  | 8 => ("AtomTablesModel", "asked", "I", false)
  | 9 => ("AtomTablesModel", "answered", "I", false)
  | 10 => ("AtomTablesModel", "seen", "I", false)
  | 11 => ("AtomTablesModel", "sought", "I", false)
  | 12 => ("AtomTablesModel", "found", "I", false)
  | 13 => ("AtomTablesModel", "points", "I", false)
  | 14 => ("AtomTablesModel", "steps", "[I", true)
  | 15 => ("AtomTablesModel", "longs", "[I", true)
  | 16 => ("AtomTablesModel", "items", "[J", true)
  | 17 => ("AtomTablesModel", "words", "[C", true)
  | 18 => ("AtomTablesModel", "figures", "[I", true)
  | 19 => ("AtomTablesModel", "tape", "[I", true)
  | 20 => ("AtomTablesModel", "taped", "I", false)
  | 21 => ("AtomTablesModel", "size", "I", false)
  | 22 => ("AtomTablesModel", "at", "I", false)
  | 23 => ("AtomTablesModel", "told", "[I", true)
  | 24 => ("AtomTablesModel", "signs", "I", false)
  | 25 => ("AtomTablesModel", "wanted", "I", false)
  | 26 => ("AtomTablesModel", "sign", "I", false)
  | 27 => ("AtomTablesModel", "isKept", "Z", false)
  | 28 => ("AtomTablesModel", "keptAtoms", "I", false)
  | 29 => ("AtomTablesModel", "keptConverses", "[I", true)
  | 30 => ("AtomTablesModel", "keptThrees", "[Z", true)
  | 31 => ("AtomTablesModel", "keptSizes", "[I", true)
  | 32 => ("AtomTablesModel", "keptLabels", "[I", true)
  | _ => ("AtomTablesModel", "keptForbidden", "Z", false)
def tyX12 : Nat → FieldType := fun k => match k with
  | 0 => .int
  | 1 => .array .int
  | 2 => .array .boolean
  | 3 => .array .int
  | 4 => .array .int
  | 5 => .boolean
  | 6 => .boolean
  | 7 => .array .int
  | 8 => .int
  | 9 => .int
  | 10 => .int
  | 11 => .int
  | 12 => .int
  | 13 => .int
  | 14 => .array .int
  | 15 => .array .int
  | 16 => .array .long
  | 17 => .array .char
  | 18 => .array .int
  | 19 => .array .int
  | 20 => .int
  | 21 => .int
  | 22 => .int
  | 23 => .array .int
  | 24 => .int
  | 25 => .int
  | 26 => .int
  | 27 => .boolean
  | 28 => .int
  | 29 => .array .int
  | 30 => .array .boolean
  | 31 => .array .int
  | 32 => .array .int
  | _ => .boolean
abbrev wsX120 : List Cond := u_ws RX12 TX12 34
theorem nmX12 : ∀ a, a < 34 → ∀ b, b < 34 → a ≠ b → (TX12 a).2.1 ≠ (TX12 b).2.1 := by decide +kernel
theorem tyX12_ok : ∀ k, k < 34 → parseFieldDescriptor (TX12 k).2.2.1 = some (tyX12 k) := by decide +kernel
abbrev cX12_init : ByteArray := prog_14_method_1_code
def yX12_init : MethodName := ⟨RX12, "<init>", "()V"⟩
abbrev cX12_isFrom : ByteArray := prog_14_method_2_code
def yX12_isFrom : MethodName := ⟨RX12, "isFrom", "(JJJ)Z"⟩
abbrev cX12_isAtom : ByteArray := prog_14_method_3_code
def yX12_isAtom : MethodName := ⟨RX12, "isAtom", "(I)Z"⟩
abbrev cX12_isOther : ByteArray := prog_14_method_4_code
def yX12_isOther : MethodName := ⟨RX12, "isOther", "(I)Z"⟩
abbrev cX12_isRelation : ByteArray := prog_14_method_5_code
def yX12_isRelation : MethodName := ⟨RX12, "isRelation", "(I)Z"⟩
abbrev cX12_has : ByteArray := prog_14_method_6_code
def yX12_has : MethodName := ⟨RX12, "has", "(II)Z"⟩
abbrev cX12_is : ByteArray := prog_14_method_7_code
def yX12_is : MethodName := ⟨RX12, "is", "(III)Z"⟩
abbrev cX12_fixes : ByteArray := prog_14_method_8_code
def yX12_fixes : MethodName := ⟨RX12, "fixes", "()V"⟩
abbrev cX12_atoms : ByteArray := prog_14_method_9_code
def yX12_atoms : MethodName := ⟨RX12, "atoms", "(I)I"⟩
abbrev cX12_pair : ByteArray := prog_14_method_10_code
def yX12_pair : MethodName := ⟨RX12, "pair", "(II)I"⟩
abbrev cX12_turned : ByteArray := prog_14_method_11_code
def yX12_turned : MethodName := ⟨RX12, "turned", "(I)I"⟩
abbrev cX12_converse : ByteArray := prog_14_method_12_code
def yX12_converse : MethodName := ⟨RX12, "converse", "(I)I"⟩
abbrev cX12_turn : ByteArray := prog_14_method_13_code
def yX12_turn : MethodName := ⟨RX12, "turn", "(IIII)I"⟩
abbrev cX12_triangle : ByteArray := prog_14_method_14_code
def yX12_triangle : MethodName := ⟨RX12, "triangle", "(IIII)I"⟩
abbrev cX12_isIn : ByteArray := prog_14_method_15_code
def yX12_isIn : MethodName := ⟨RX12, "isIn", "(III)I"⟩
abbrev cX12_composed : ByteArray := prog_14_method_16_code
def yX12_composed : MethodName := ⟨RX12, "composed", "(II)I"⟩
abbrev cX12_composedBy : ByteArray := prog_14_method_17_code
def yX12_composedBy : MethodName := ⟨RX12, "composedBy", "(III)I"⟩
abbrev cX12_compose : ByteArray := prog_14_method_18_code
def yX12_compose : MethodName := ⟨RX12, "compose", "(II)I"⟩
abbrev cX12_over : ByteArray := prog_14_method_19_code
def yX12_over : MethodName := ⟨RX12, "over", "(III)I"⟩
abbrev cX12_powerOf : ByteArray := prog_14_method_20_code
def yX12_powerOf : MethodName := ⟨RX12, "powerOf", "(II)I"⟩
abbrev cX12_power : ByteArray := prog_14_method_21_code
def yX12_power : MethodName := ⟨RX12, "power", "(II)I"⟩
abbrev cX12_isEquivalence : ByteArray := prog_14_method_22_code
def yX12_isEquivalence : MethodName := ⟨RX12, "isEquivalence", "(I)Z"⟩
abbrev cX12_equivalence : ByteArray := prog_14_method_23_code
def yX12_equivalence : MethodName := ⟨RX12, "equivalence", "(I)I"⟩
abbrev cX12_solved : ByteArray := prog_14_method_24_code
def yX12_solved : MethodName := ⟨RX12, "solved", "(IIII)I"⟩
abbrev cX12_broken : ByteArray := prog_14_method_25_code
def yX12_broken : MethodName := ⟨RX12, "broken", "(I)I"⟩
abbrev cX12_isLeast : ByteArray := prog_14_method_26_code
def yX12_isLeast : MethodName := ⟨RX12, "isLeast", "(III)Z"⟩
abbrev cX12_cycleOf : ByteArray := prog_14_method_27_code
def yX12_cycleOf : MethodName := ⟨RX12, "cycleOf", "(III)I"⟩
abbrev cX12_cycles : ByteArray := prog_14_method_28_code
def yX12_cycles : MethodName := ⟨RX12, "cycles", "(I)I"⟩
abbrev cX12_isNet : ByteArray := prog_14_method_29_code
def yX12_isNet : MethodName := ⟨RX12, "isNet", "(I)Z"⟩
abbrev cX12_isNode : ByteArray := prog_14_method_30_code
def yX12_isNode : MethodName := ⟨RX12, "isNode", "(II)Z"⟩
abbrev cX12_labelOf : ByteArray := prog_14_method_31_code
def yX12_labelOf : MethodName := ⟨RX12, "labelOf", "(III)I"⟩
abbrev cX12_lays : ByteArray := prog_14_method_32_code
def yX12_lays : MethodName := ⟨RX12, "lays", "(IIII)V"⟩
abbrev cX12_likens : ByteArray := prog_14_method_33_code
def yX12_likens : MethodName := ⟨RX12, "likens", "(II)V"⟩
abbrev cX12_digit : ByteArray := prog_14_method_34_code
def yX12_digit : MethodName := ⟨RX12, "digit", "(II)I"⟩
abbrev cX12_areAtoms : ByteArray := prog_14_method_35_code
def yX12_areAtoms : MethodName := ⟨RX12, "areAtoms", "(II)Z"⟩
abbrev cX12_comes : ByteArray := prog_14_method_36_code
def yX12_comes : MethodName := ⟨RX12, "comes", "(II)V"⟩
abbrev cX12_node : ByteArray := prog_14_method_37_code
def yX12_node : MethodName := ⟨RX12, "node", "(II)I"⟩
abbrev cX12_drop : ByteArray := prog_14_method_38_code
def yX12_drop : MethodName := ⟨RX12, "drop", "(I)I"⟩
abbrev cX12_label : ByteArray := prog_14_method_39_code
def yX12_label : MethodName := ⟨RX12, "label", "(III)I"⟩
abbrev cX12_relabel : ByteArray := prog_14_method_40_code
def yX12_relabel : MethodName := ⟨RX12, "relabel", "(IIII)I"⟩
abbrev cX12_copy : ByteArray := prog_14_method_41_code
def yX12_copy : MethodName := ⟨RX12, "copy", "(II)I"⟩
abbrev cX12_unsound : ByteArray := prog_14_method_42_code
def yX12_unsound : MethodName := ⟨RX12, "unsound", "(I)I"⟩
abbrev cX12_sound : ByteArray := prog_14_method_43_code
def yX12_sound : MethodName := ⟨RX12, "sound", "(I)I"⟩
abbrev cX12_isGap : ByteArray := prog_14_method_44_code
def yX12_isGap : MethodName := ⟨RX12, "isGap", "(IIIII)Z"⟩
abbrev cX12_isGapOf : ByteArray := prog_14_method_45_code
def yX12_isGapOf : MethodName := ⟨RX12, "isGapOf", "(II)Z"⟩
abbrev cX12_gapBehind : ByteArray := prog_14_method_46_code
def yX12_gapBehind : MethodName := ⟨RX12, "gapBehind", "(II)I"⟩
abbrev cX12_gap : ByteArray := prog_14_method_47_code
def yX12_gap : MethodName := ⟨RX12, "gap", "(II)I"⟩
abbrev cX12_isLike : ByteArray := prog_14_method_48_code
def yX12_isLike : MethodName := ⟨RX12, "isLike", "(IIIII)Z"⟩
abbrev cX12_seeks : ByteArray := prog_14_method_49_code
def yX12_seeks : MethodName := ⟨RX12, "seeks", "(IIIII)Z"⟩
abbrev cX12_looks : ByteArray := prog_14_method_50_code
def yX12_looks : MethodName := ⟨RX12, "looks", "(III)V"⟩
abbrev cX12_isBarred : ByteArray := prog_14_method_51_code
def yX12_isBarred : MethodName := ⟨RX12, "isBarred", "(I)Z"⟩
abbrev cX12_occurs : ByteArray := prog_14_method_52_code
def yX12_occurs : MethodName := ⟨RX12, "occurs", "(III)I"⟩
abbrev cX12_forbid : ByteArray := prog_14_method_53_code
def yX12_forbid : MethodName := ⟨RX12, "forbid", "(I)I"⟩
abbrev cX12_mayStand : ByteArray := prog_14_method_54_code
def yX12_mayStand : MethodName := ⟨RX12, "mayStand", "(II)Z"⟩
abbrev cX12_fillsFrom : ByteArray := prog_14_method_55_code
def yX12_fillsFrom : MethodName := ⟨RX12, "fillsFrom", "(IIIII)Z"⟩
abbrev cX12_isFilled : ByteArray := prog_14_method_56_code
def yX12_isFilled : MethodName := ⟨RX12, "isFilled", "(II)Z"⟩
abbrev cX12_isFillable : ByteArray := prog_14_method_57_code
def yX12_isFillable : MethodName := ⟨RX12, "isFillable", "(II)Z"⟩
abbrev cX12_looksToFill : ByteArray := prog_14_method_58_code
def yX12_looksToFill : MethodName := ⟨RX12, "looksToFill", "(III)V"⟩
abbrev cX12_fills : ByteArray := prog_14_method_59_code
def yX12_fills : MethodName := ⟨RX12, "fills", "(III)I"⟩
abbrev cX12_isWon : ByteArray := prog_14_method_60_code
def yX12_isWon : MethodName := ⟨RX12, "isWon", "(I)Z"⟩
abbrev cX12_killerOf : ByteArray := prog_14_method_61_code
def yX12_killerOf : MethodName := ⟨RX12, "killerOf", "(I)I"⟩
abbrev cX12_isPlayed : ByteArray := prog_14_method_62_code
def yX12_isPlayed : MethodName := ⟨RX12, "isPlayed", "(I)Z"⟩
abbrev cX12_whyNot : ByteArray := prog_14_method_63_code
def yX12_whyNot : MethodName := ⟨RX12, "whyNot", "(II)I"⟩
abbrev cX12_won : ByteArray := prog_14_method_64_code
def yX12_won : MethodName := ⟨RX12, "won", "(II)I"⟩
abbrev cX12_killer : ByteArray := prog_14_method_65_code
def yX12_killer : MethodName := ⟨RX12, "killer", "(II)I"⟩
abbrev cX12_lasts : ByteArray := prog_14_method_66_code
def yX12_lasts : MethodName := ⟨RX12, "lasts", "(I)I"⟩
abbrev cX12_begin : ByteArray := prog_14_method_67_code
def yX12_begin : MethodName := ⟨RX12, "begin", "(I)I"⟩
abbrev cX12_ask : ByteArray := prog_14_method_68_code
def yX12_ask : MethodName := ⟨RX12, "ask", "(I)I"⟩
abbrev cX12_isFillOf : ByteArray := prog_14_method_69_code
def yX12_isFillOf : MethodName := ⟨RX12, "isFillOf", "(II)Z"⟩
abbrev cX12_answer : ByteArray := prog_14_method_70_code
def yX12_answer : MethodName := ⟨RX12, "answer", "(I)I"⟩
abbrev cX12_later : ByteArray := prog_14_method_71_code
def yX12_later : MethodName := ⟨RX12, "later", "()I"⟩
abbrev cX12_board : ByteArray := prog_14_method_72_code
def yX12_board : MethodName := ⟨RX12, "board", "(I)I"⟩
abbrev cX12_take : ByteArray := prog_14_method_73_code
def yX12_take : MethodName := ⟨RX12, "take", "(I)I"⟩
abbrev cX12_isMet : ByteArray := prog_14_method_74_code
def yX12_isMet : MethodName := ⟨RX12, "isMet", "(III)Z"⟩
abbrev cX12_isAllHad : ByteArray := prog_14_method_75_code
def yX12_isAllHad : MethodName := ⟨RX12, "isAllHad", "()Z"⟩
abbrev cX12_falseStep : ByteArray := prog_14_method_76_code
def yX12_falseStep : MethodName := ⟨RX12, "falseStep", "()I"⟩
abbrev cX12_judge : ByteArray := prog_14_method_77_code
def yX12_judge : MethodName := ⟨RX12, "judge", "(I)I"⟩
abbrev cX12_isPictured : ByteArray := prog_14_method_78_code
def yX12_isPictured : MethodName := ⟨RX12, "isPictured", "(I)Z"⟩
abbrev cX12_found : ByteArray := prog_14_method_79_code
def yX12_found : MethodName := ⟨RX12, "found", "(I)I"⟩
abbrev cX12_isList : ByteArray := prog_14_method_80_code
def yX12_isList : MethodName := ⟨RX12, "isList", "(I)Z"⟩
abbrev cX12_list : ByteArray := prog_14_method_81_code
def yX12_list : MethodName := ⟨RX12, "list", "(II)I"⟩
abbrev cX12_put : ByteArray := prog_14_method_82_code
def yX12_put : MethodName := ⟨RX12, "put", "(IIJ)I"⟩
abbrev cX12_get : ByteArray := prog_14_method_83_code
def yX12_get : MethodName := ⟨RX12, "get", "(II)J"⟩
abbrev cX12_feed : ByteArray := prog_14_method_84_code
def yX12_feed : MethodName := ⟨RX12, "feed", "(I)I"⟩
abbrev cX12_wipe : ByteArray := prog_14_method_85_code
def yX12_wipe : MethodName := ⟨RX12, "wipe", "()I"⟩
abbrev cX12_isAt : ByteArray := prog_14_method_86_code
def yX12_isAt : MethodName := ⟨RX12, "isAt", "(II)Z"⟩
abbrev cX12_word : ByteArray := prog_14_method_87_code
def yX12_word : MethodName := ⟨RX12, "word", "()I"⟩
abbrev cX12_statement : ByteArray := prog_14_method_88_code
def yX12_statement : MethodName := ⟨RX12, "statement", "()I"⟩
abbrev cX12_isDone : ByteArray := prog_14_method_89_code
def yX12_isDone : MethodName := ⟨RX12, "isDone", "(I)Z"⟩
abbrev cX12_read : ByteArray := prog_14_method_90_code
def yX12_read : MethodName := ⟨RX12, "read", "()I"⟩
abbrev cX12_writes : ByteArray := prog_14_method_91_code
def yX12_writes : MethodName := ⟨RX12, "writes", "(I)V"⟩
abbrev cX12_writesWord : ByteArray := prog_14_method_92_code
def yX12_writesWord : MethodName := ⟨RX12, "writesWord", "(I)V"⟩
abbrev cX12_writesFigure : ByteArray := prog_14_method_93_code
def yX12_writesFigure : MethodName := ⟨RX12, "writesFigure", "(I)V"⟩
abbrev cX12_spells : ByteArray := prog_14_method_94_code
def yX12_spells : MethodName := ⟨RX12, "spells", "()V"⟩
abbrev cX12_spelled : ByteArray := prog_14_method_95_code
def yX12_spelled : MethodName := ⟨RX12, "spelled", "(I)I"⟩
abbrev cX12_image : ByteArray := prog_14_method_96_code
def yX12_image : MethodName := ⟨RX12, "image", "()I"⟩
abbrev cX12_undo : ByteArray := prog_14_method_97_code
def yX12_undo : MethodName := ⟨RX12, "undo", "()I"⟩
abbrev cX12_count : ByteArray := prog_14_method_98_code
def yX12_count : MethodName := ⟨RX12, "count", "(I)I"⟩
def RJ6 : String := "java/lang/Integer"
def TJ6 : u_T := fun k => match k with
  | _ => ("", "", "", false)
def tyJ6 : Nat → FieldType := fun k => match k with
  | _ => .int
abbrev wsJ60 : List Cond := u_ws RJ6 TJ6 0
theorem nmJ6 : ∀ a, a < 0 → ∀ b, b < 0 → a ≠ b → (TJ6 a).2.1 ≠ (TJ6 b).2.1 := by decide +kernel
theorem tyJ6_ok : ∀ k, k < 0 → parseFieldDescriptor (TJ6 k).2.2.1 = some (tyJ6 k) := by decide +kernel
abbrev cJ6_bitCount_0f7a4 : ByteArray := prog_15_method_49_code
def yJ6_bitCount_0f7a4 : MethodName := ⟨RJ6, "bitCount", "(I)I"⟩
def RJ13 : String := "java/lang/Long"
def TJ13 : u_T := fun k => match k with
  | _ => ("", "", "", false)
def tyJ13 : Nat → FieldType := fun k => match k with
  | _ => .int
abbrev wsJ130 : List Cond := u_ws RJ13 TJ13 0
theorem nmJ13 : ∀ a, a < 0 → ∀ b, b < 0 → a ≠ b → (TJ13 a).2.1 ≠ (TJ13 b).2.1 := by decide +kernel
theorem tyJ13_ok : ∀ k, k < 0 → parseFieldDescriptor (TJ13 k).2.2.1 = some (tyJ13 k) := by decide +kernel
abbrev cJ13_bitCount_95d88 : ByteArray := prog_16_method_50_code
def yJ13_bitCount_95d88 : MethodName := ⟨RJ13, "bitCount", "(J)I"⟩
def RJ9 : String := "java/lang/Math"
def TJ9 : u_T := fun k => match k with
  | _ => ("", "", "", false)
def tyJ9 : Nat → FieldType := fun k => match k with
  | _ => .int
abbrev wsJ90 : List Cond := u_ws RJ9 TJ9 0
theorem nmJ9 : ∀ a, a < 0 → ∀ b, b < 0 → a ≠ b → (TJ9 a).2.1 ≠ (TJ9 b).2.1 := by decide +kernel
theorem tyJ9_ok : ∀ k, k < 0 → parseFieldDescriptor (TJ9 k).2.2.1 = some (tyJ9 k) := by decide +kernel
abbrev cJ9_max_7cf53 : ByteArray := prog_17_method_65_code
def yJ9_max_7cf53 : MethodName := ⟨RJ9, "max", "(II)I"⟩
def RJ0 : String := "java/lang/String"
def TJ0 : u_T := fun k => match k with
  | _ => ("", "", "", false)
def tyJ0 : Nat → FieldType := fun k => match k with
  | _ => .int
abbrev wsJ00 : List Cond := u_ws RJ0 TJ0 0
theorem nmJ0 : ∀ a, a < 0 → ∀ b, b < 0 → a ≠ b → (TJ0 a).2.1 ≠ (TJ0 b).2.1 := by decide +kernel
theorem tyJ0_ok : ∀ k, k < 0 → parseFieldDescriptor (TJ0 k).2.2.1 = some (tyJ0 k) := by decide +kernel
abbrev cJ0_length_8abf5 : ByteArray := prog_18_method_54_code
def yJ0_length_8abf5 : MethodName := ⟨RJ0, "length", "()I"⟩
abbrev cJ0_charAt_5068e : ByteArray := prog_18_method_56_code
def yJ0_charAt_5068e : MethodName := ⟨RJ0, "charAt", "(I)C"⟩
abbrev cJ0_coder_7d493 : ByteArray := prog_18_method_152_code
def yJ0_coder_7d493 : MethodName := ⟨RJ0, "coder", "()B"⟩
abbrev cJ0_isLatin1_aae02 : ByteArray := prog_18_method_154_code
def yJ0_isLatin1_aae02 : MethodName := ⟨RJ0, "isLatin1", "()Z"⟩
abbrev cJ0_checkIndex_df160 : ByteArray := prog_18_method_155_code
def yJ0_checkIndex_df160 : MethodName := ⟨RJ0, "checkIndex", "(II)V"⟩
def RJ1 : String := "java/lang/StringLatin1"
def TJ1 : u_T := fun k => match k with
  | _ => ("", "", "", false)
def tyJ1 : Nat → FieldType := fun k => match k with
  | _ => .int
abbrev wsJ10 : List Cond := u_ws RJ1 TJ1 0
theorem nmJ1 : ∀ a, a < 0 → ∀ b, b < 0 → a ≠ b → (TJ1 a).2.1 ≠ (TJ1 b).2.1 := by decide +kernel
theorem tyJ1_ok : ∀ k, k < 0 → parseFieldDescriptor (TJ1 k).2.2.1 = some (tyJ1 k) := by decide +kernel
abbrev cJ1_charAt_3b067 : ByteArray := prog_19_method_2_code
def yJ1_charAt_3b067 : MethodName := ⟨RJ1, "charAt", "([BI)C"⟩
def RJ2 : String := "java/lang/StringUTF16"
def TJ2 : u_T := fun k => match k with
  | _ => ("", "", "", false)
def tyJ2 : Nat → FieldType := fun k => match k with
  | _ => .int
abbrev wsJ20 : List Cond := u_ws RJ2 TJ2 0
theorem nmJ2 : ∀ a, a < 0 → ∀ b, b < 0 → a ≠ b → (TJ2 a).2.1 ≠ (TJ2 b).2.1 := by decide +kernel
theorem tyJ2_ok : ∀ k, k < 0 → parseFieldDescriptor (TJ2 k).2.2.1 = some (tyJ2 k) := by decide +kernel
abbrev cJ2_getChar_3b067 : ByteArray := prog_20_method_5_code
def yJ2_getChar_3b067 : MethodName := ⟨RJ2, "getChar", "([BI)C"⟩
abbrev cJ2_length_9d52b : ByteArray := prog_20_method_6_code
def yJ2_length_9d52b : MethodName := ⟨RJ2, "length", "([B)I"⟩
abbrev cJ2_charAt_3b067 : ByteArray := prog_20_method_83_code
def yJ2_charAt_3b067 : MethodName := ⟨RJ2, "charAt", "([BI)C"⟩
abbrev cJ2_checkIndex_2214a : ByteArray := prog_20_method_91_code
def yJ2_checkIndex_2214a : MethodName := ⟨RJ2, "checkIndex", "(I[B)V"⟩
def RJ3 : String := "jdk/internal/util/Preconditions"
def TJ3 : u_T := fun k => match k with
  | _ => ("", "", "", false)
def tyJ3 : Nat → FieldType := fun k => match k with
  | _ => .int
abbrev wsJ30 : List Cond := u_ws RJ3 TJ3 0
theorem nmJ3 : ∀ a, a < 0 → ∀ b, b < 0 → a ≠ b → (TJ3 a).2.1 ≠ (TJ3 b).2.1 := by decide +kernel
theorem tyJ3_ok : ∀ k, k < 0 → parseFieldDescriptor (TJ3 k).2.2.1 = some (tyJ3 k) := by decide +kernel
abbrev cJ3_checkIndex_8e157 : ByteArray := prog_21_method_11_code
def yJ3_checkIndex_8e157 : MethodName := ⟨RJ3, "checkIndex", "(IILjava/util/function/BiFunction;)I"⟩
def RL : String := "AtomTablesLaw"
abbrev cL_law : ByteArray := code
def yL_law : MethodName := ⟨RL, "law", "([I)Z"⟩
abbrev vwCl : List vw_C := [(RX0, TX0, 6), (RX1, TX1, 5), (RX2, TX2, 5), (RX3, TX3, 2), (RX4, TX4, 7), (RX5, TX5, 8), (RX6, TX6, 6), (RX7, TX7, 4), (RX8, TX8, 3), (RX9, TX9, 2), (RX11, TX11, 12), (RX12, TX12, 34)]
theorem inX0 : ∀ w ∈ wsX00, w ∈ lw_tbl := fun w h => (goodIn_p wsX00 [] (by decide +kernel) (by decide +kernel) w h).1
theorem inX1 : ∀ w ∈ wsX10, w ∈ lw_tbl := fun w h => (goodIn_p wsX10 [] (by decide +kernel) (by decide +kernel) w h).1
theorem inX2 : ∀ w ∈ wsX20, w ∈ lw_tbl := fun w h => (goodIn_p wsX20 [] (by decide +kernel) (by decide +kernel) w h).1
theorem inX3 : ∀ w ∈ wsX30, w ∈ lw_tbl := fun w h => (goodIn_p wsX30 [] (by decide +kernel) (by decide +kernel) w h).1
theorem inX4 : ∀ w ∈ wsX40, w ∈ lw_tbl := fun w h => (goodIn_p wsX40 [] (by decide +kernel) (by decide +kernel) w h).1
theorem inX5 : ∀ w ∈ wsX50, w ∈ lw_tbl := fun w h => (goodIn_p wsX50 [] (by decide +kernel) (by decide +kernel) w h).1
theorem inX6 : ∀ w ∈ wsX60, w ∈ lw_tbl := fun w h => (goodIn_p wsX60 [] (by decide +kernel) (by decide +kernel) w h).1
theorem inX7 : ∀ w ∈ wsX70, w ∈ lw_tbl := fun w h => (goodIn_p wsX70 [] (by decide +kernel) (by decide +kernel) w h).1
theorem inX8 : ∀ w ∈ wsX80, w ∈ lw_tbl := fun w h => (goodIn_p wsX80 [] (by decide +kernel) (by decide +kernel) w h).1
theorem inX9 : ∀ w ∈ wsX90, w ∈ lw_tbl := fun w h => (goodIn_p wsX90 [] (by decide +kernel) (by decide +kernel) w h).1
theorem inX10 : ∀ w ∈ wsX100, w ∈ lw_tbl := fun w h => (goodIn_p wsX100 [] (by decide +kernel) (by decide +kernel) w h).1
theorem inX11 : ∀ w ∈ wsX110, w ∈ lw_tbl := fun w h => (goodIn_p wsX110 [] (by decide +kernel) (by decide +kernel) w h).1
theorem inX12 : ∀ w ∈ wsX120, w ∈ lw_tbl := fun w h => (goodIn_p wsX120 [] (by decide +kernel) (by decide +kernel) w h).1
theorem inJ6 : ∀ w ∈ wsJ60, w ∈ lw_tbl := fun w h => (goodIn_p wsJ60 [] (by decide +kernel) (by decide +kernel) w h).1
theorem inJ13 : ∀ w ∈ wsJ130, w ∈ lw_tbl := fun w h => (goodIn_p wsJ130 [] (by decide +kernel) (by decide +kernel) w h).1
theorem inJ9 : ∀ w ∈ wsJ90, w ∈ lw_tbl := fun w h => (goodIn_p wsJ90 [] (by decide +kernel) (by decide +kernel) w h).1
theorem inJ0 : ∀ w ∈ wsJ00, w ∈ lw_tbl := fun w h => (goodIn_p wsJ00 [] (by decide +kernel) (by decide +kernel) w h).1
theorem inJ1 : ∀ w ∈ wsJ10, w ∈ lw_tbl := fun w h => (goodIn_p wsJ10 [] (by decide +kernel) (by decide +kernel) w h).1
theorem inJ2 : ∀ w ∈ wsJ20, w ∈ lw_tbl := fun w h => (goodIn_p wsJ20 [] (by decide +kernel) (by decide +kernel) w h).1
theorem inJ3 : ∀ w ∈ wsJ30, w ∈ lw_tbl := fun w h => (goodIn_p wsJ30 [] (by decide +kernel) (by decide +kernel) w h).1
end
section
/-! G: the machine over an abstract heap of numbered cells (id k lies at base + k), goal first -/
def gk_T : List Cond := lw_tbl.filter goodWord
theorem gk_in {w : Cond} (h : w ∈ lw_tbl) (g : goodWord w = true) : w ∈ gk_T := List.mem_filter.mpr ⟨h, g⟩
theorem gk_at {w : Cond} (i : Nat) (h : lw_tbl[i]? = some w) (g : goodWord w = true) : w ∈ gk_T := gk_in (List.mem_of_getElem? h) g
theorem gk_tbl {w : Cond} (h : w ∈ gk_T) : w ∈ lw_tbl := (List.mem_filter.mp h).1
theorem gk_good {ws : List Cond} (h : ∀ w ∈ ws, w ∈ gk_T) : GoodIn gk_T ws := fun w hw => ⟨h w hw, good_of_word (List.mem_filter.mp (h w hw)).2⟩
/-- the world's constants: launch, base, the places of the String constants, the script, the classes, the array classes -/
abbrev gk_E : Type := Launch × Nat × (Nat → Nat) × (Nat × Nat × (Nat → Int32)) × va_G × (Nat → ClassId)
abbrev gk_b (E : gk_E) : Nat := E.2.1
abbrev gk_sa (E : gk_E) : Nat → Nat := E.2.2.1
abbrev gk_scr (E : gk_E) : Nat × Nat × (Nat → Int32) := E.2.2.2.1
abbrev gk_D (E : gk_E) : va_G := E.2.2.2.2.1
abbrev gk_cy (E : gk_E) : Nat → ClassId := E.2.2.2.2.2
abbrev gk_X : Type := (Nat × vp_A) ⊕ (Nat × List Value)
abbrev gk_H : Type := List gk_X
def gk_ty : Nat → FieldType := fun k => match k with
  | 0 => .int
  | 1 => .long
  | 2 => .byte
  | 3 => .boolean
  | 4 => .char
  | 5 => .object RX3
  | 6 => .object RX6
  | _ => .array .int
def gk_tys (E : gk_E) : List (ClassId × FieldType) := [(gk_cy E 0, .int), (gk_cy E 1, .long), (gk_cy E 2, .byte), (gk_cy E 3, .boolean), (gk_cy E 4, .char), (gk_cy E 5, .object RX3), (gk_cy E 6, .object RX6), (gk_cy E 7, .array .int)]
def gk_a (E : gk_E) (i : Nat) : Nat := if i < 1000000 then gk_b E + i else if i = 1000000 then (gk_scr E).1 else gk_sa E (i - 1000001)
def gk_v (E : gk_E) : Value → Value := fun v => match v with
  | .ref i => .ref (gk_a E i)
  | v => v
def gk_c (E : gk_E) : vp_A → vp_A := fun a => match a with
  | (n, .inr (.inr (.inr (.inr f)))) => (n, .inr (.inr (.inr (.inr (fun j => (f j).map (gk_a E))))))
  | a => a
def gk_e (E : gk_E) : gk_X → va_E := fun x => match x with
  | .inl (t, a) => .inl (gk_cy E t, gk_c E a)
  | .inr (ci, fs) => .inr (ci, fs.map (gk_v E))
def gk_lay (E : gk_E) : Nat → gk_H → va_W
  | _, [] => []
  | k, x :: h => (gk_b E + k, gk_e E x) :: gk_lay E (k + 1) h
abbrev gk_A (E : gk_E) : Nat → Prop := fun q => gk_b E ≤ q
theorem gk_cat (E : gk_E) (v : Value) : (gk_v E v).category = v.category := by cases v <;> rfl
theorem gk_lay_at (E : gk_E) : ∀ (h : gk_H) (k i : Nat), (gk_lay E k h)[i]? = (h[i]?).map (fun x => (gk_b E + (k + i), gk_e E x))
  | [], k, i => by simp [gk_lay]
  | x :: h, k, 0 => by simp [gk_lay]
  | x :: h, k, i + 1 => by
    simp only [gk_lay, List.getElem?_cons_succ]
    rw [gk_lay_at E h (k + 1) i, show k + 1 + i = k + (i + 1) by omega]
theorem gk_lay_set (E : gk_E) (y : gk_X) : ∀ (h : gk_H) (k i : Nat), gk_lay E k (h.set i y) = (gk_lay E k h).set i (gk_b E + (k + i), gk_e E y)
  | [], k, i => by simp [gk_lay]
  | x :: h, k, 0 => by simp [gk_lay]
  | x :: h, k, i + 1 => by
    simp only [gk_lay, List.set_cons_succ]
    rw [gk_lay_set E y h (k + 1) i, show k + 1 + i = k + (i + 1) by omega]
theorem gk_lay_app (E : gk_E) (h2 : gk_H) : ∀ (h : gk_H) (k : Nat), gk_lay E k (h ++ h2) = gk_lay E k h ++ gk_lay E (k + h.length) h2
  | [], k => by simp [gk_lay]
  | x :: h, k => by
    simp only [gk_lay, List.cons_append, List.length_cons]
    rw [gk_lay_app E h2 h (k + 1), show k + 1 + h.length = k + (h.length + 1) by omega]
theorem gk_lay_D (E : gk_E) (h : gk_H) : va_D (gk_A E) (gk_lay E 0 h) := by
  refine ⟨fun i j p q hp hq hpq => ?_, fun k q hk => ?_⟩
  · rw [gk_lay_at] at hp hq
    obtain ⟨x, -, rfl⟩ := Option.map_eq_some_iff.mp hp
    obtain ⟨y, -, rfl⟩ := Option.map_eq_some_iff.mp hq
    dsimp only at hpq
    omega
  · rw [gk_lay_at] at hk
    obtain ⟨x, -, rfl⟩ := Option.map_eq_some_iff.mp hk
    exact Nat.le_add_right _ _
/-- the heap holds the abstract cells -/
def gk_W (E : gk_E) (h : gk_H) (H : Heap) : Prop := va_P (gk_D E) vwCl (gk_lay E 0 h) H ∧ h.length ≤ 900000
def gk_str : List String := ["atoms", "pair", "in", "out", ";pair", ";in"]
def gk_len : List Nat := [5, 4, 2, 3, 5, 3]
def gk_byt : List (List Int32) := [[97, 116, 111, 109, 115], [112, 97, 105, 114], [105, 110], [111, 117, 116], [59, 112, 97, 105, 114], [59, 105, 110]]
def gk_pool : List Nat := [37, 43, 45, 47, 74, 87]
/-- what the tables say, and what lies below base -/
def gk_S (E : gk_E) (U : State) : Prop := va_K (gk_D E) vwCl (gk_tys E) U ∧ va_X (gk_scr E).1 (gk_scr E).2.1 (gk_scr E).2.2 U U.heap ∧ (gk_scr E).1 < gk_b E ∧ gk_b E ≤ U.heap.size ∧
  (∃ adV : Nat → Nat, vk_S 6 gk_len gk_byt (gk_sa E) adV (gk_A E) U U.heap) ∧ (∀ i : Nat, i < 6 → vk_R RX9 (gk_pool.getD i 0) (gk_str.getD i "") (gk_sa E i) U) ∧ va_Z "java/lang/String" "COMPACT_STRINGS" "Z" (.int 1) (gk_A E) U U.heap ∧ va_Nw (.declares ⟨"AtomTables$Wheels", "clash", "(I)I"⟩) U
theorem gk_S.moved {E : gk_E} {s U : State} {H : Heap} {locs : List Loc} (h : gk_S E s) (hW : s.WarmedH U.vm) (hU : U.heap = H) (hS : va_S (gk_A E) s.heap H locs) : gk_S E U := by
  obtain ⟨h1, h2, h3, h4, ⟨adV, h5⟩, h6, h7, h8⟩ := h
  subst hU
  have hk : ∀ a : Nat, a < s.heap.size → ¬ gk_A E a → U.heap[a]? = s.heap[a]? := fun a q1 q2 => hS.2.1 a q1 q2
  refine ⟨va_K.moved hW.alike h1, ?_, h3, Nat.le_trans h4 hS.1, ⟨adV, (vk_S.moved hW.alike h5).kept hk⟩, fun i hi => (h6 i hi).warm hW, (va_Z.moved hW.alike h7).kept hk, h8.warmD hW⟩
  obtain ⟨scr, g1, g2, g3⟩ := va_X.moved hW.alike h2
  exact ⟨scr, by rw [hk _ (Array.getElem?_eq_some_iff.mp g1).1 (Nat.not_le.mpr h3)]; exact g1, g2, g3⟩
theorem gk_S.call {E : gk_E} {U : State} (h : gk_S E U) (g : JFrame) (mk : MethodId) (a : Array Value) : gk_S E (U.calling g mk a) := by
  obtain ⟨h1, h2, h3, h4, ⟨adV, h5⟩, h6, h7, h8⟩ := h
  exact ⟨va_K.moved (u := U) (U := U.calling g mk a) (Vm.Alike.refl U.vm) h1, va_X.moved (u := U) (U := U.calling g mk a) (Vm.Alike.refl U.vm) h2, h3, h4, ⟨adV, vk_S.moved (u := U) (U := U.calling g mk a) (Vm.Alike.refl U.vm) h5⟩, fun i hi => vk_R.same (u := U) (U := U.calling g mk a) rfl (h6 i hi), va_Z.moved (u := U) (U := U.calling g mk a) (Vm.Alike.refl U.vm) h7, va_Nw.same (u := U) (U := U.calling g mk a) rfl rfl h8⟩
/-- a method: its name, code, locals, result -/
abbrev gk_M : Type := MethodName × ByteArray × Nat × Option FieldType
abbrev gk_cw (M : gk_M) : Cond := Cond.code M.1 M.2.1 M.2.2.1 M.2.2.2
/-- frames left, cells left, slots left -/
abbrev gk_B : Type := Nat × Nat × Nat
def gk_Cx (E : gk_E) (M : gk_M) (d : gk_B) (p : Program) (R : Room) (s : State) (m : MethodId) (args : Array Value) (meth : Method) (c : Code) (MC MS : Nat) : Prop :=
  p.tables.exec = Jvm.exec ∧ c.code = M.2.1 ∧ c.maxLocals = M.2.2.1 ∧ meth.sig.returnType = M.2.2.2 ∧ meth.locks = false ∧ meth.name = M.1.name ∧ (∀ w ∈ gk_T, w.before args s = true) ∧ s.vm.findClass M.1.cls = some m.cls ∧ gk_S E s ∧ d.1 ≤ R.frames ∧ 64 * d.1 ≤ R.locals ∧ MC ≤ R.cells ∧ MS ≤ R.slots
/-- an instruction that returns r -/
def gk_ret (M : gk_M) (pc : Nat) : Option Value → Prop := fun r => match r with
  | none => decode M.2.1 pc = .ok (.return_, 1) ∧ M.2.2.2 = none
  | some (.int v) => decode M.2.1 pc = .ok (.ireturn, 1) ∧ ∃ ty, M.2.2.2 = some ty ∧ narrow ty (.int v) = .int v
  | some (.long _) => decode M.2.1 pc = .ok (.lreturn, 1) ∧ M.2.2.2 = some .long
  | _ => False
def gk_R (E : gk_E) (M : gk_M) (K : Option Value → gk_H → Prop) (p : Program) (e : Env) (R : Room) (s : State) (m : MethodId) (args : Array Value) (below : List Frame) (meth : Method) (c : Code) (MC MS : Nat) (Q : State → Prop) : Prop :=
  ∀ (r : Option Value) (h : gk_H) (pc : Nat) (ls : Array Slot) (H : Heap) (locs : List Loc) (slots : Nat), K r h → gk_ret M pc r → gk_W E h H → va_S (gk_A E) s.heap H locs → slots ≤ MS → s.heap.size + MC ≤ gk_b E + h.length →
    W p E.1 e R s m args below meth c H locs MC slots Q (F0 m pc ls (r.toList.map (gk_v E)))
abbrev gk_L (E : gk_E) (lv : List (Nat × Value)) : List (Nat × Value) := lv.map (fun q => (q.1, gk_v E q.2))
/-- from pc on, with these locals, this stack, this heap: the method returns, and K -/
def gk_G (E : gk_E) (M : gk_M) (d : gk_B) (pc : Nat) (lv : List (Nat × Value)) (st : List Value) (h : gk_H) (K : Option Value → gk_H → Prop) : Prop :=
  ∀ (p : Program) (e : Env) (R : Room) (s : State) (m : MethodId) (args : Array Value) (below : List Frame) (meth : Method) (c : Code) (Q : State → Prop) (MC MS : Nat) (H : Heap) (locs : List Loc) (ls : Array Slot) (cells slots : Nat),
    gk_Cx E M d p R s m args meth c MC MS → gk_R E M K p e R s m args below meth c MC MS Q → gk_W E h H → va_S (gk_A E) s.heap H locs → lv_has ls M.2.2.1 (gk_L E lv) → cells + d.2.1 = MC → slots + d.2.2 = MS → s.heap.size + cells ≤ gk_b E + h.length →
    W p E.1 e R s m args below meth c H locs cells slots Q (F0 m pc ls (st.map (gk_v E)))
/-- a call from its start -/
def gk_Run (E : gk_E) (M : gk_M) (d : gk_B) (vs : List Value) (h : gk_H) (K : Option Value → gk_H → Prop) : Prop := gk_G E M d 0 (lv_args 0 vs) [] h K
theorem gk_Cx.mono {E : gk_E} {M : gk_M} {d d' : gk_B} (hd : d.1 ≤ d'.1) {p : Program} {R : Room} {s : State} {m : MethodId} {args : Array Value} {meth : Method} {c : Code} {MC MS : Nat} (h : gk_Cx E M d' p R s m args meth c MC MS) : gk_Cx E M d p R s m args meth c MC MS := by
  obtain ⟨h1, h2, h3, h4, h5, h6, h7, h8, h9, h10, h11, h12⟩ := h
  exact ⟨h1, h2, h3, h4, h5, h6, h7, h8, h9, Nat.le_trans hd h10, by omega, h12⟩
theorem gk_G.mono {E : gk_E} {M : gk_M} {d1 d2 b1 b2 pc : Nat} (hd : d1 ≤ d2) {lv : List (Nat × Value)} {st : List Value} {h : gk_H} {K : Option Value → gk_H → Prop} (k : gk_G E M (d1, b1, b2) pc lv st h K) : gk_G E M (d2, b1, b2) pc lv st h K :=
  fun p e R s m args below meth c Q MC MS H locs ls cells slots C => k p e R s m args below meth c Q MC MS H locs ls cells slots (gk_Cx.mono hd C)
theorem gk_G.post {E : gk_E} {M : gk_M} {d : gk_B} {pc : Nat} {lv : List (Nat × Value)} {st : List Value} {h : gk_H} {K K' : Option Value → gk_H → Prop} (hK : ∀ r h', K r h' → K' r h') (k : gk_G E M d pc lv st h K) : gk_G E M d pc lv st h K' :=
  fun p e R s m args below meth c Q MC MS H locs ls cells slots C Rt => k p e R s m args below meth c Q MC MS H locs ls cells slots C (fun r h pc ls H locs slots q => Rt r h pc ls H locs slots (hK r h q))
theorem gk_Run.mono {E : gk_E} {M : gk_M} {d1 d2 b1 b2 : Nat} (hd : d1 ≤ d2) {vs : List Value} {h : gk_H} {K : Option Value → gk_H → Prop} (k : gk_Run E M (d1, b1, b2) vs h K) : gk_Run E M (d2, b1, b2) vs h K := gk_G.mono hd k
theorem gk_Run.post {E : gk_E} {M : gk_M} {d : gk_B} {vs : List Value} {h : gk_H} {K K' : Option Value → gk_H → Prop} (hK : ∀ r h', K r h' → K' r h') (k : gk_Run E M d vs h K) : gk_Run E M d vs h K' := gk_G.post hK k
theorem gk_args (E : gk_E) : ∀ (vs : List Value) (i : Nat), lv_args i (vs.map (gk_v E)) = gk_L E (lv_args i vs)
  | [], i => rfl
  | v :: vs, i => by
    show (i, gk_v E v) :: lv_args (if (gk_v E v).category = 2 then i + 2 else i + 1) (vs.map (gk_v E)) = (i, gk_v E v) :: gk_L E (lv_args (if v.category = 2 then i + 2 else i + 1) vs)
    rw [gk_cat, gk_args E vs]
theorem gk_sl (E : gk_E) : ∀ (vs : List Value), (lg_sl (vs.map (gk_v E))).length = (lg_sl vs).length
  | [] => rfl
  | v :: vs => by
    have h := gk_sl E vs
    simp only [lg_sl, List.map_cons, List.flatMap_cons, List.length_append, gk_cat] at h ⊢
    rw [h]
    split <;> rfl
def gk_Q (E : gk_E) (K : Option Value → gk_H → Prop) (mc : Nat) : Array Value → State → Outcome → State → Prop := fun _ st oc t => (∃ (r : Option Value) (h : gk_H), oc = .returned (r.map (gk_v E)) ∧ K r h ∧ gk_W E h t.heap ∧ st.heap.size + mc ≤ gk_b E + h.length) ∧ va_F (gk_A E) st t
def gk_rm (d : gk_B) : Room := { frames := d.1, cells := d.2.1, slots := d.2.2, locals := 64 * d.1 }
set_option maxHeartbeats 4000000 in
/-- a run gives the kit's contract -/
theorem gk_met {E : gk_E} {M : gk_M} {d : gk_B} {vs : List Value} {h : gk_H} {K : Option Value → gk_H → Prop} (hpl : plainName M.1.cls = true) (hn : (lg_sl vs).length ≤ M.2.2.1) (hG : gk_Run E M d vs h K) :
    Met E.1 M.1 (gk_cw M :: gk_T) (gk_rm d) (va_Pc (vs.map (gk_v E)) (fun U => gk_S E U ∧ gk_W E h U.heap ∧ U.heap.size ≤ gk_b E + h.length)) (gk_Q E K d.2.1) d.2.1 d.2.2 (gk_A E) := by
  refine Met.ofW (cc := M.2.1) (maxL := M.2.2.1) (ret := M.2.2.2) hpl rfl ?_
  intro p e s m args below meth c s₁ B hml hv
  obtain ⟨rfl, hS, hW, hz⟩ := hv
  have hts := atoms_spec (ws := gk_cw M :: gk_T) B.pre
  have hown : s.vm.findClass M.1.cls = some m.cls := findClass_of_methodNamed B.named
  have hlocks : meth.locks = false := B.notSynchronized
  have hnm : meth.name = M.1.name := (name_of_methodNamed B.named B.method).1
  have hl := lv_entry (vs.map (gk_v E)) (n := M.2.2.1) (by rw [gk_sl]; exact hn)
  rw [lg_entry_eq]
  generalize (lg_sl (vs.map (gk_v E)) ++ List.replicate (M.2.2.1 - (lg_sl (vs.map (gk_v E))).length) Slot.unset).toArray = ls at hl ⊢
  rw [gk_args] at hl
  refine hG p e _ s m _ below meth c _ d.2.1 d.2.2 s.heap [] ls 0 0 ⟨B.exec, B.bytes, hml, B.returns, hlocks, hnm, fun w hw => hts w (List.mem_cons_of_mem _ hw), hown, hS, Nat.le_refl _, Nat.le_refl _, Nat.le_refl _, Nat.le_refl _⟩ ?_ hW va_S.rf hl (Nat.zero_add _) (Nat.zero_add _) hz
  intro r h' pc ls H locs slots hK hr hW' hS' ht hz'
  have hq : ∀ t : State, t.heap = H → s.WarmedH t.vm → gk_Q E K d.2.1 (vs.map (gk_v E)).toArray s (.returned (r.map (gk_v E))) t := fun t e _ => ⟨⟨r, h', rfl, hK, by rw [e]; exact hW', hz'⟩, hS'.F e⟩
  refine W.widen (k := d.2.1) (n := d.2.2) (Nat.le_refl _) ht ?_
  match r, hr, hq with
  | none, hr, hq => exact W.vret B.exec B.bytes (B.returns.trans hr.2) hq hS'.2.2 hr.1 hlocks
  | some (.int v), hr, hq =>
    obtain ⟨h1, ty, h2, h3⟩ := hr
    exact W.zret B.exec B.bytes (B.returns.trans h2) h3 hq hS'.2.2 h1 hlocks
  | some (.long v), hr, hq => exact W.lret B.exec B.bytes (B.returns.trans hr.2) hq hS'.2.2 hr.1 hlocks
/-- the heap's size, exactly: the tables' book from above, the cells from below -/
theorem gk_size {E : gk_E} {M : gk_M} {d : gk_B} {p : Program} {e : Env} {R : Room} {s T : State} {m : MethodId} {args : Array Value} {below : List Frame} {meth : Method} {c : Code} {MC MS : Nat} {h : gk_H} {locs : List Loc} {cells slots : Nat} (C : gk_Cx E M d p R s m args meth c MC MS) (hW : gk_W E h T.heap) (hS : va_S (gk_A E) s.heap T.heap locs) (hz : s.heap.size + cells ≤ gk_b E + h.length) (X : Stand p E.1 e R s m args below meth c T locs cells slots) : T.heap.size = gk_b E + h.length := by
  have h1 : T.heap.size ≤ s.heap.size + cells := X.same.2.2.1
  have h2 : gk_b E + h.length ≤ T.heap.size := by
    cases hh : h.length with
    | zero => have := C.2.2.2.2.2.2.2.2.1.2.2.2.1; have := hS.1; omega
    | succ n =>
      have hx : h[n]? = some h[n] := List.getElem?_eq_getElem (by omega)
      have := (hW.1 n _ (by rw [gk_lay_at, hx]; rfl)).lt
      dsimp only at this
      omega
  omega
end
section
theorem gk_iadd {E : gk_E} {M : gk_M} {d : gk_B} {pc : Nat} {lv : List (Nat × Value)} {st : List Value} {h : gk_H} {K : Option Value → gk_H → Prop} {x y : Int32} (hd : decode M.2.1 pc = .ok (.iadd, 1)) (k : gk_G E M d (pc + 1) lv (.int (x + y) :: st) h K) : gk_G E M d (pc) lv (.int y :: .int x :: st) h K := by
  intro p e R s m args below meth c Q MC MS H locs ls cells slots C Rt hW hS hl hc ht hz
  exact lv_iadd C.1 C.2.1 hd (k p e R s m args below meth c Q MC MS H locs ls cells slots C Rt hW hS hl hc ht hz)
theorem gk_isub {E : gk_E} {M : gk_M} {d : gk_B} {pc : Nat} {lv : List (Nat × Value)} {st : List Value} {h : gk_H} {K : Option Value → gk_H → Prop} {x y : Int32} (hd : decode M.2.1 pc = .ok (.isub, 1)) (k : gk_G E M d (pc + 1) lv (.int (x - y) :: st) h K) : gk_G E M d (pc) lv (.int y :: .int x :: st) h K := by
  intro p e R s m args below meth c Q MC MS H locs ls cells slots C Rt hW hS hl hc ht hz
  exact lv_isub C.1 C.2.1 hd (k p e R s m args below meth c Q MC MS H locs ls cells slots C Rt hW hS hl hc ht hz)
theorem gk_imul {E : gk_E} {M : gk_M} {d : gk_B} {pc : Nat} {lv : List (Nat × Value)} {st : List Value} {h : gk_H} {K : Option Value → gk_H → Prop} {x y : Int32} (hd : decode M.2.1 pc = .ok (.imul, 1)) (k : gk_G E M d (pc + 1) lv (.int (x * y) :: st) h K) : gk_G E M d (pc) lv (.int y :: .int x :: st) h K := by
  intro p e R s m args below meth c Q MC MS H locs ls cells slots C Rt hW hS hl hc ht hz
  exact lv_imul C.1 C.2.1 hd (k p e R s m args below meth c Q MC MS H locs ls cells slots C Rt hW hS hl hc ht hz)
theorem gk_iand {E : gk_E} {M : gk_M} {d : gk_B} {pc : Nat} {lv : List (Nat × Value)} {st : List Value} {h : gk_H} {K : Option Value → gk_H → Prop} {x y : Int32} (hd : decode M.2.1 pc = .ok (.iand, 1)) (k : gk_G E M d (pc + 1) lv (.int (x &&& y) :: st) h K) : gk_G E M d (pc) lv (.int y :: .int x :: st) h K := by
  intro p e R s m args below meth c Q MC MS H locs ls cells slots C Rt hW hS hl hc ht hz
  exact lv_iand C.1 C.2.1 hd (k p e R s m args below meth c Q MC MS H locs ls cells slots C Rt hW hS hl hc ht hz)
theorem gk_ior {E : gk_E} {M : gk_M} {d : gk_B} {pc : Nat} {lv : List (Nat × Value)} {st : List Value} {h : gk_H} {K : Option Value → gk_H → Prop} {x y : Int32} (hd : decode M.2.1 pc = .ok (.ior, 1)) (k : gk_G E M d (pc + 1) lv (.int (x ||| y) :: st) h K) : gk_G E M d (pc) lv (.int y :: .int x :: st) h K := by
  intro p e R s m args below meth c Q MC MS H locs ls cells slots C Rt hW hS hl hc ht hz
  exact lv_ior C.1 C.2.1 hd (k p e R s m args below meth c Q MC MS H locs ls cells slots C Rt hW hS hl hc ht hz)
theorem gk_ixor {E : gk_E} {M : gk_M} {d : gk_B} {pc : Nat} {lv : List (Nat × Value)} {st : List Value} {h : gk_H} {K : Option Value → gk_H → Prop} {x y : Int32} (hd : decode M.2.1 pc = .ok (.ixor, 1)) (k : gk_G E M d (pc + 1) lv (.int (x ^^^ y) :: st) h K) : gk_G E M d (pc) lv (.int y :: .int x :: st) h K := by
  intro p e R s m args below meth c Q MC MS H locs ls cells slots C Rt hW hS hl hc ht hz
  exact lv_ixor C.1 C.2.1 hd (k p e R s m args below meth c Q MC MS H locs ls cells slots C Rt hW hS hl hc ht hz)
theorem gk_ishl {E : gk_E} {M : gk_M} {d : gk_B} {pc : Nat} {lv : List (Nat × Value)} {st : List Value} {h : gk_H} {K : Option Value → gk_H → Prop} {x y : Int32} (hd : decode M.2.1 pc = .ok (.ishl, 1)) (k : gk_G E M d (pc + 1) lv (.int (x <<< (y &&& 31)) :: st) h K) : gk_G E M d (pc) lv (.int y :: .int x :: st) h K := by
  intro p e R s m args below meth c Q MC MS H locs ls cells slots C Rt hW hS hl hc ht hz
  exact lv_ishl C.1 C.2.1 hd (k p e R s m args below meth c Q MC MS H locs ls cells slots C Rt hW hS hl hc ht hz)
theorem gk_ishr {E : gk_E} {M : gk_M} {d : gk_B} {pc : Nat} {lv : List (Nat × Value)} {st : List Value} {h : gk_H} {K : Option Value → gk_H → Prop} {x y : Int32} (hd : decode M.2.1 pc = .ok (.ishr, 1)) (k : gk_G E M d (pc + 1) lv (.int (x >>> (y &&& 31)) :: st) h K) : gk_G E M d (pc) lv (.int y :: .int x :: st) h K := by
  intro p e R s m args below meth c Q MC MS H locs ls cells slots C Rt hW hS hl hc ht hz
  exact lv_ishr C.1 C.2.1 hd (k p e R s m args below meth c Q MC MS H locs ls cells slots C Rt hW hS hl hc ht hz)
theorem gk_iushr {E : gk_E} {M : gk_M} {d : gk_B} {pc : Nat} {lv : List (Nat × Value)} {st : List Value} {h : gk_H} {K : Option Value → gk_H → Prop} {x y : Int32} (hd : decode M.2.1 pc = .ok (.iushr, 1)) (k : gk_G E M d (pc + 1) lv (.int ((x.toUInt32 >>> (y.toUInt32 &&& Int32.toUInt32 31)).toInt32) :: st) h K) : gk_G E M d (pc) lv (.int y :: .int x :: st) h K := by
  intro p e R s m args below meth c Q MC MS H locs ls cells slots C Rt hW hS hl hc ht hz
  exact lv_iushr C.1 C.2.1 hd rfl (k p e R s m args below meth c Q MC MS H locs ls cells slots C Rt hW hS hl hc ht hz)
theorem gk_idiv {E : gk_E} {M : gk_M} {d : gk_B} {pc : Nat} {lv : List (Nat × Value)} {st : List Value} {h : gk_H} {K : Option Value → gk_H → Prop} {x y : Int32} (hd : decode M.2.1 pc = .ok (.idiv, 1)) (hy : ¬ y = 0) (k : gk_G E M d (pc + 1) lv (.int (x / y) :: st) h K) : gk_G E M d (pc) lv (.int y :: .int x :: st) h K := by
  intro p e R s m args below meth c Q MC MS H locs ls cells slots C Rt hW hS hl hc ht hz
  exact lv_idiv C.1 C.2.1 hd hy (k p e R s m args below meth c Q MC MS H locs ls cells slots C Rt hW hS hl hc ht hz)
theorem gk_irem {E : gk_E} {M : gk_M} {d : gk_B} {pc : Nat} {lv : List (Nat × Value)} {st : List Value} {h : gk_H} {K : Option Value → gk_H → Prop} {x y : Int32} (hd : decode M.2.1 pc = .ok (.irem, 1)) (hy : ¬ y = 0) (k : gk_G E M d (pc + 1) lv (.int (x - x / y * y) :: st) h K) : gk_G E M d (pc) lv (.int y :: .int x :: st) h K := by
  intro p e R s m args below meth c Q MC MS H locs ls cells slots C Rt hW hS hl hc ht hz
  exact lv_irem C.1 C.2.1 hd hy (k p e R s m args below meth c Q MC MS H locs ls cells slots C Rt hW hS hl hc ht hz)
theorem gk_ineg {E : gk_E} {M : gk_M} {d : gk_B} {pc : Nat} {lv : List (Nat × Value)} {st : List Value} {h : gk_H} {K : Option Value → gk_H → Prop} {x : Int32} (hd : decode M.2.1 pc = .ok (.ineg, 1)) (k : gk_G E M d (pc + 1) lv (.int (-x) :: st) h K) : gk_G E M d (pc) lv (.int x :: st) h K := by
  intro p e R s m args below meth c Q MC MS H locs ls cells slots C Rt hW hS hl hc ht hz
  exact lv_ineg C.1 C.2.1 hd (k p e R s m args below meth c Q MC MS H locs ls cells slots C Rt hW hS hl hc ht hz)
theorem gk_ladd {E : gk_E} {M : gk_M} {d : gk_B} {pc : Nat} {lv : List (Nat × Value)} {st : List Value} {h : gk_H} {K : Option Value → gk_H → Prop} {x y : Int64} (hd : decode M.2.1 pc = .ok (.ladd, 1)) (k : gk_G E M d (pc + 1) lv (.long (x + y) :: st) h K) : gk_G E M d (pc) lv (.long y :: .long x :: st) h K := by
  intro p e R s m args below meth c Q MC MS H locs ls cells slots C Rt hW hS hl hc ht hz
  exact lv_ladd C.1 C.2.1 hd (k p e R s m args below meth c Q MC MS H locs ls cells slots C Rt hW hS hl hc ht hz)
theorem gk_lsub {E : gk_E} {M : gk_M} {d : gk_B} {pc : Nat} {lv : List (Nat × Value)} {st : List Value} {h : gk_H} {K : Option Value → gk_H → Prop} {x y : Int64} (hd : decode M.2.1 pc = .ok (.lsub, 1)) (k : gk_G E M d (pc + 1) lv (.long (x - y) :: st) h K) : gk_G E M d (pc) lv (.long y :: .long x :: st) h K := by
  intro p e R s m args below meth c Q MC MS H locs ls cells slots C Rt hW hS hl hc ht hz
  exact lv_lsub C.1 C.2.1 hd (k p e R s m args below meth c Q MC MS H locs ls cells slots C Rt hW hS hl hc ht hz)
theorem gk_land {E : gk_E} {M : gk_M} {d : gk_B} {pc : Nat} {lv : List (Nat × Value)} {st : List Value} {h : gk_H} {K : Option Value → gk_H → Prop} {x y : Int64} (hd : decode M.2.1 pc = .ok (.land, 1)) (k : gk_G E M d (pc + 1) lv (.long (x &&& y) :: st) h K) : gk_G E M d (pc) lv (.long y :: .long x :: st) h K := by
  intro p e R s m args below meth c Q MC MS H locs ls cells slots C Rt hW hS hl hc ht hz
  exact lv_land C.1 C.2.1 hd (k p e R s m args below meth c Q MC MS H locs ls cells slots C Rt hW hS hl hc ht hz)
theorem gk_lor {E : gk_E} {M : gk_M} {d : gk_B} {pc : Nat} {lv : List (Nat × Value)} {st : List Value} {h : gk_H} {K : Option Value → gk_H → Prop} {x y : Int64} (hd : decode M.2.1 pc = .ok (.lor, 1)) (k : gk_G E M d (pc + 1) lv (.long (x ||| y) :: st) h K) : gk_G E M d (pc) lv (.long y :: .long x :: st) h K := by
  intro p e R s m args below meth c Q MC MS H locs ls cells slots C Rt hW hS hl hc ht hz
  exact lv_lor C.1 C.2.1 hd (k p e R s m args below meth c Q MC MS H locs ls cells slots C Rt hW hS hl hc ht hz)
theorem gk_lxor {E : gk_E} {M : gk_M} {d : gk_B} {pc : Nat} {lv : List (Nat × Value)} {st : List Value} {h : gk_H} {K : Option Value → gk_H → Prop} {x y : Int64} (hd : decode M.2.1 pc = .ok (.lxor, 1)) (k : gk_G E M d (pc + 1) lv (.long (x ^^^ y) :: st) h K) : gk_G E M d (pc) lv (.long y :: .long x :: st) h K := by
  intro p e R s m args below meth c Q MC MS H locs ls cells slots C Rt hW hS hl hc ht hz
  exact lv_lxor C.1 C.2.1 hd (k p e R s m args below meth c Q MC MS H locs ls cells slots C Rt hW hS hl hc ht hz)
theorem gk_lneg {E : gk_E} {M : gk_M} {d : gk_B} {pc : Nat} {lv : List (Nat × Value)} {st : List Value} {h : gk_H} {K : Option Value → gk_H → Prop} {x : Int64} (hd : decode M.2.1 pc = .ok (.lneg, 1)) (k : gk_G E M d (pc + 1) lv (.long (-x) :: st) h K) : gk_G E M d (pc) lv (.long x :: st) h K := by
  intro p e R s m args below meth c Q MC MS H locs ls cells slots C Rt hW hS hl hc ht hz
  exact lv_lneg C.1 C.2.1 hd (k p e R s m args below meth c Q MC MS H locs ls cells slots C Rt hW hS hl hc ht hz)
theorem gk_lshl {E : gk_E} {M : gk_M} {d : gk_B} {pc : Nat} {lv : List (Nat × Value)} {st : List Value} {h : gk_H} {K : Option Value → gk_H → Prop} {x : Int64} {y : Int32} (hd : decode M.2.1 pc = .ok (.lshl, 1)) (k : gk_G E M d (pc + 1) lv (.long (x <<< (y.toInt64 &&& 63)) :: st) h K) : gk_G E M d (pc) lv (.int y :: .long x :: st) h K := by
  intro p e R s m args below meth c Q MC MS H locs ls cells slots C Rt hW hS hl hc ht hz
  exact lv_lshl C.1 C.2.1 hd rfl (k p e R s m args below meth c Q MC MS H locs ls cells slots C Rt hW hS hl hc ht hz)
theorem gk_lushr {E : gk_E} {M : gk_M} {d : gk_B} {pc : Nat} {lv : List (Nat × Value)} {st : List Value} {h : gk_H} {K : Option Value → gk_H → Prop} {x : Int64} {y : Int32} (hd : decode M.2.1 pc = .ok (.lushr, 1)) (k : gk_G E M d (pc + 1) lv (.long ((x.toUInt64 >>> (y.toInt64.toUInt64 &&& Int64.toUInt64 63)).toInt64) :: st) h K) : gk_G E M d (pc) lv (.int y :: .long x :: st) h K := by
  intro p e R s m args below meth c Q MC MS H locs ls cells slots C Rt hW hS hl hc ht hz
  exact lv_lushr C.1 C.2.1 hd rfl (k p e R s m args below meth c Q MC MS H locs ls cells slots C Rt hW hS hl hc ht hz)
theorem gk_lcmp {E : gk_E} {M : gk_M} {d : gk_B} {pc : Nat} {lv : List (Nat × Value)} {st : List Value} {h : gk_H} {K : Option Value → gk_H → Prop} {x y : Int64} (hd : decode M.2.1 pc = .ok (.lcmp, 1)) (k : gk_G E M d (pc + 1) lv (.int (lg_cmp x y) :: st) h K) : gk_G E M d (pc) lv (.long y :: .long x :: st) h K := by
  intro p e R s m args below meth c Q MC MS H locs ls cells slots C Rt hW hS hl hc ht hz
  exact W.lcmp C.1 C.2.1 hd (k p e R s m args below meth c Q MC MS H locs ls cells slots C Rt hW hS hl hc ht hz)
theorem gk_l2i {E : gk_E} {M : gk_M} {d : gk_B} {pc : Nat} {lv : List (Nat × Value)} {st : List Value} {h : gk_H} {K : Option Value → gk_H → Prop} {x : Int64} (hd : decode M.2.1 pc = .ok (.l2i, 1)) (k : gk_G E M d (pc + 1) lv (.int x.toInt32 :: st) h K) : gk_G E M d (pc) lv (.long x :: st) h K := by
  intro p e R s m args below meth c Q MC MS H locs ls cells slots C Rt hW hS hl hc ht hz
  exact lv_l2i C.1 C.2.1 hd rfl (k p e R s m args below meth c Q MC MS H locs ls cells slots C Rt hW hS hl hc ht hz)
theorem gk_i2l {E : gk_E} {M : gk_M} {d : gk_B} {pc : Nat} {lv : List (Nat × Value)} {st : List Value} {h : gk_H} {K : Option Value → gk_H → Prop} {x : Int32} (hd : decode M.2.1 pc = .ok (.i2l, 1)) (k : gk_G E M d (pc + 1) lv (.long x.toInt64 :: st) h K) : gk_G E M d (pc) lv (.int x :: st) h K := by
  intro p e R s m args below meth c Q MC MS H locs ls cells slots C Rt hW hS hl hc ht hz
  exact lv_i2l C.1 C.2.1 hd rfl (k p e R s m args below meth c Q MC MS H locs ls cells slots C Rt hW hS hl hc ht hz)
theorem gk_i2b {E : gk_E} {M : gk_M} {d : gk_B} {pc : Nat} {lv : List (Nat × Value)} {st : List Value} {h : gk_H} {K : Option Value → gk_H → Prop} {x : Int32} (hd : decode M.2.1 pc = .ok (.i2b, 1)) (k : gk_G E M d (pc + 1) lv (.int x.toInt8.toInt32 :: st) h K) : gk_G E M d (pc) lv (.int x :: st) h K := by
  intro p e R s m args below meth c Q MC MS H locs ls cells slots C Rt hW hS hl hc ht hz
  exact lv_i2b C.1 C.2.1 hd rfl (k p e R s m args below meth c Q MC MS H locs ls cells slots C Rt hW hS hl hc ht hz)
theorem gk_i2c {E : gk_E} {M : gk_M} {d : gk_B} {pc : Nat} {lv : List (Nat × Value)} {st : List Value} {h : gk_H} {K : Option Value → gk_H → Prop} {x : Int32} (hd : decode M.2.1 pc = .ok (.i2c, 1)) (k : gk_G E M d (pc + 1) lv (.int (x.toUInt32 % 65536).toInt32 :: st) h K) : gk_G E M d (pc) lv (.int x :: st) h K := by
  intro p e R s m args below meth c Q MC MS H locs ls cells slots C Rt hW hS hl hc ht hz
  exact lv_i2c C.1 C.2.1 hd rfl (k p e R s m args below meth c Q MC MS H locs ls cells slots C Rt hW hS hl hc ht hz)
theorem gk_iconst {E : gk_E} {M : gk_M} {d : gk_B} {pc : Nat} {lv : List (Nat × Value)} {st : List Value} {h : gk_H} {K : Option Value → gk_H → Prop} {n : Int} (v : Int32) (hd : decode M.2.1 pc = .ok (.iconst n, 1)) (hv : Int32.ofInt n = v) (k : gk_G E M d (pc + 1) lv (.int v :: st) h K) : gk_G E M d (pc) lv (st) h K := by
  intro p e R s m args below meth c Q MC MS H locs ls cells slots C Rt hW hS hl hc ht hz
  exact lv_iconst C.1 C.2.1 hd hv (k p e R s m args below meth c Q MC MS H locs ls cells slots C Rt hW hS hl hc ht hz)
theorem gk_bipush {E : gk_E} {M : gk_M} {d : gk_B} {pc : Nat} {lv : List (Nat × Value)} {st : List Value} {h : gk_H} {K : Option Value → gk_H → Prop} {n : Int} (v : Int32) (hd : decode M.2.1 pc = .ok (.bipush n, 2)) (hv : (Int8.ofInt n).toInt32 = v) (k : gk_G E M d (pc + 2) lv (.int v :: st) h K) : gk_G E M d (pc) lv (st) h K := by
  intro p e R s m args below meth c Q MC MS H locs ls cells slots C Rt hW hS hl hc ht hz
  exact lv_bipush C.1 C.2.1 hd hv (k p e R s m args below meth c Q MC MS H locs ls cells slots C Rt hW hS hl hc ht hz)
theorem gk_sipush {E : gk_E} {M : gk_M} {d : gk_B} {pc : Nat} {lv : List (Nat × Value)} {st : List Value} {h : gk_H} {K : Option Value → gk_H → Prop} {n : Int} (v : Int32) (hd : decode M.2.1 pc = .ok (.sipush n, 3)) (hv : (Int16.ofInt n).toInt32 = v) (k : gk_G E M d (pc + 3) lv (.int v :: st) h K) : gk_G E M d (pc) lv (st) h K := by
  intro p e R s m args below meth c Q MC MS H locs ls cells slots C Rt hW hS hl hc ht hz
  exact lv_sipush C.1 C.2.1 hd hv (k p e R s m args below meth c Q MC MS H locs ls cells slots C Rt hW hS hl hc ht hz)
theorem gk_lconst {E : gk_E} {M : gk_M} {d : gk_B} {pc : Nat} {lv : List (Nat × Value)} {st : List Value} {h : gk_H} {K : Option Value → gk_H → Prop} {n : Fin 2} (v : Int64) (hd : decode M.2.1 pc = .ok (.lconst n, 1)) (hv : Int64.ofNat (n : Nat) = v) (k : gk_G E M d (pc + 1) lv (.long v :: st) h K) : gk_G E M d (pc) lv (st) h K := by
  intro p e R s m args below meth c Q MC MS H locs ls cells slots C Rt hW hS hl hc ht hz
  exact lv_lconst C.1 C.2.1 hd hv (k p e R s m args below meth c Q MC MS H locs ls cells slots C Rt hW hS hl hc ht hz)
theorem gk_ldc {E : gk_E} {M : gk_M} {d : gk_B} {pc : Nat} {lv : List (Nat × Value)} {st : List Value} {h : gk_H} {K : Option Value → gk_H → Prop} {i : Nat} (v : Int32) (hd : decode M.2.1 pc = .ok (.ldc i, 2)) (hw : Cond.constant M.1.cls i v ∈ gk_T) (k : gk_G E M d (pc + 2) lv (.int v :: st) h K) : gk_G E M d (pc) lv (st) h K := by
  intro p e R s m args below meth c Q MC MS H locs ls cells slots C Rt hW hS hl hc ht hz
  exact lv_ldc C.1 C.2.1 C.2.2.2.2.2.2.2.1 (C.2.2.2.2.2.2.1 _ hw) hd (k p e R s m args below meth c Q MC MS H locs ls cells slots C Rt hW hS hl hc ht hz)
theorem gk_ldc2 {E : gk_E} {M : gk_M} {d : gk_B} {pc : Nat} {lv : List (Nat × Value)} {st : List Value} {h : gk_H} {K : Option Value → gk_H → Prop} {i : Nat} (v : Int64) (hd : decode M.2.1 pc = .ok (.ldc2_w i, 3)) (hw : Cond.constantLong M.1.cls i v ∈ gk_T) (k : gk_G E M d (pc + 3) lv (.long v :: st) h K) : gk_G E M d (pc) lv (st) h K := by
  intro p e R s m args below meth c Q MC MS H locs ls cells slots C Rt hW hS hl hc ht hz
  exact lv_ldc2 C.1 C.2.1 C.2.2.2.2.2.2.2.1 (C.2.2.2.2.2.2.1 _ hw) hd (k p e R s m args below meth c Q MC MS H locs ls cells slots C Rt hW hS hl hc ht hz)
theorem gk_lat {E : gk_E} {ls : Array Slot} {nL : Nat} {lv : List (Nat × Value)} (hl : lv_has ls nL (gk_L E lv)) {k i : Nat} {v : Value} (hk : lv[k]? = some (i, v)) : ls[i]? = some (.val (gk_v E v)) := lv_at hl k (by rw [List.getElem?_map, hk]; rfl)
theorem gk_iload {E : gk_E} {M : gk_M} {d : gk_B} {pc : Nat} {lv : List (Nat × Value)} {st : List Value} {h : gk_H} {K : Option Value → gk_H → Prop} {i : Nat} {x : Int32} (hd : decode M.2.1 pc = .ok (.iload i, 2)) (j : Nat) (hj : lv[j]? = some (i, .int x)) (k : gk_G E M d (pc + 2) lv (.int x :: st) h K) : gk_G E M d (pc) lv (st) h K := by
  intro p e R s m args below meth c Q MC MS H locs ls cells slots C Rt hW hS hl hc ht hz
  exact lv_iload C.1 C.2.1 hd (gk_lat hl hj) (k p e R s m args below meth c Q MC MS H locs ls cells slots C Rt hW hS hl hc ht hz)
theorem gk_iload_n {E : gk_E} {M : gk_M} {d : gk_B} {pc : Nat} {lv : List (Nat × Value)} {st : List Value} {h : gk_H} {K : Option Value → gk_H → Prop} {i : Fin 4} {i2 : Nat} {x : Int32} (hd : decode M.2.1 pc = .ok (.iload_n i, 1)) (j : Nat) (hi : (i : Nat) = i2) (hj : lv[j]? = some (i2, .int x)) (k : gk_G E M d (pc + 1) lv (.int x :: st) h K) : gk_G E M d (pc) lv (st) h K := by
  intro p e R s m args below meth c Q MC MS H locs ls cells slots C Rt hW hS hl hc ht hz
  exact lv_iload_n C.1 C.2.1 hd hi (gk_lat hl hj) (k p e R s m args below meth c Q MC MS H locs ls cells slots C Rt hW hS hl hc ht hz)
theorem gk_lload {E : gk_E} {M : gk_M} {d : gk_B} {pc : Nat} {lv : List (Nat × Value)} {st : List Value} {h : gk_H} {K : Option Value → gk_H → Prop} {i : Nat} {x : Int64} (hd : decode M.2.1 pc = .ok (.lload i, 2)) (j : Nat) (hj : lv[j]? = some (i, .long x)) (k : gk_G E M d (pc + 2) lv (.long x :: st) h K) : gk_G E M d (pc) lv (st) h K := by
  intro p e R s m args below meth c Q MC MS H locs ls cells slots C Rt hW hS hl hc ht hz
  exact lv_lload C.1 C.2.1 hd (gk_lat hl hj) (k p e R s m args below meth c Q MC MS H locs ls cells slots C Rt hW hS hl hc ht hz)
theorem gk_lload_n {E : gk_E} {M : gk_M} {d : gk_B} {pc : Nat} {lv : List (Nat × Value)} {st : List Value} {h : gk_H} {K : Option Value → gk_H → Prop} {i : Fin 4} {i2 : Nat} {x : Int64} (hd : decode M.2.1 pc = .ok (.lload_n i, 1)) (j : Nat) (hi : (i : Nat) = i2) (hj : lv[j]? = some (i2, .long x)) (k : gk_G E M d (pc + 1) lv (.long x :: st) h K) : gk_G E M d (pc) lv (st) h K := by
  intro p e R s m args below meth c Q MC MS H locs ls cells slots C Rt hW hS hl hc ht hz
  exact lv_lload_n C.1 C.2.1 hd hi (gk_lat hl hj) (k p e R s m args below meth c Q MC MS H locs ls cells slots C Rt hW hS hl hc ht hz)
theorem gk_aload {E : gk_E} {M : gk_M} {d : gk_B} {pc : Nat} {lv : List (Nat × Value)} {st : List Value} {h : gk_H} {K : Option Value → gk_H → Prop} {i : Nat} {x : Nat} (hd : decode M.2.1 pc = .ok (.aload i, 2)) (j : Nat) (hj : lv[j]? = some (i, .ref x)) (k : gk_G E M d (pc + 2) lv (.ref x :: st) h K) : gk_G E M d (pc) lv (st) h K := by
  intro p e R s m args below meth c Q MC MS H locs ls cells slots C Rt hW hS hl hc ht hz
  exact lv_aload C.1 C.2.1 hd (gk_lat hl hj) (k p e R s m args below meth c Q MC MS H locs ls cells slots C Rt hW hS hl hc ht hz)
theorem gk_aload_n {E : gk_E} {M : gk_M} {d : gk_B} {pc : Nat} {lv : List (Nat × Value)} {st : List Value} {h : gk_H} {K : Option Value → gk_H → Prop} {i : Fin 4} {i2 : Nat} {x : Nat} (hd : decode M.2.1 pc = .ok (.aload_n i, 1)) (j : Nat) (hi : (i : Nat) = i2) (hj : lv[j]? = some (i2, .ref x)) (k : gk_G E M d (pc + 1) lv (.ref x :: st) h K) : gk_G E M d (pc) lv (st) h K := by
  intro p e R s m args below meth c Q MC MS H locs ls cells slots C Rt hW hS hl hc ht hz
  exact lv_aload_n C.1 C.2.1 hd hi (gk_lat hl hj) (k p e R s m args below meth c Q MC MS H locs ls cells slots C Rt hW hS hl hc ht hz)
theorem gk_flt (E : gk_E) (P : Nat → Nat → Bool) (i : Nat) (v : Value) (lv : List (Nat × Value)) : gk_L E ((i, v) :: lv.filter (fun q => P q.1 q.2.category)) = (i, gk_v E v) :: (gk_L E lv).filter (fun q => P q.1 q.2.category) := by
  simp only [gk_L, List.map_cons, List.cons.injEq, true_and]
  induction lv with
  | nil => rfl
  | cons q l ih =>
    simp only [List.filter_cons, List.map_cons, gk_cat]
    split
    · rw [List.map_cons, ih]
    · exact ih
theorem gk_istore {E : gk_E} {M : gk_M} {d : gk_B} {pc : Nat} {lv : List (Nat × Value)} {st : List Value} {h : gk_H} {K : Option Value → gk_H → Prop} {i : Nat} {x : Int32} (lv' : List (Nat × Value)) (hd : decode M.2.1 pc = .ok (.istore i, 2)) (hn : i < M.2.2.1) (hv : (i, Value.int x) :: lv.filter (fun q => !(q.1 == i) && !(q.1 + 1 == i && q.2.category == 2)) = lv') (k : gk_G E M d (pc + 2) lv' st h K) : gk_G E M d (pc) lv (.int x :: st) h K := by
  intro p e R s m args below meth c Q MC MS H locs ls cells slots C Rt hW hS hl hc ht hz
  exact lv_istore C.1 C.2.1 hd hl hn ((gk_flt E (fun a b => !(a == i) && !(a + 1 == i && b == 2)) i (.int x) lv).symm.trans (congrArg (gk_L E) hv)) (fun ls' hl' => k p e R s m args below meth c Q MC MS H locs ls' cells slots C Rt hW hS hl' hc ht hz)
theorem gk_istore_n {E : gk_E} {M : gk_M} {d : gk_B} {pc : Nat} {lv : List (Nat × Value)} {st : List Value} {h : gk_H} {K : Option Value → gk_H → Prop} {j : Fin 4} {i : Nat} {x : Int32} (lv' : List (Nat × Value)) (hd : decode M.2.1 pc = .ok (.istore_n j, 1)) (hi : (j : Nat) = i) (hn : i < M.2.2.1) (hv : (i, Value.int x) :: lv.filter (fun q => !(q.1 == i) && !(q.1 + 1 == i && q.2.category == 2)) = lv') (k : gk_G E M d (pc + 1) lv' st h K) : gk_G E M d (pc) lv (.int x :: st) h K := by
  intro p e R s m args below meth c Q MC MS H locs ls cells slots C Rt hW hS hl hc ht hz
  exact lv_istore_n C.1 C.2.1 hd hi hl hn ((gk_flt E (fun a b => !(a == i) && !(a + 1 == i && b == 2)) i (.int x) lv).symm.trans (congrArg (gk_L E) hv)) (fun ls' hl' => k p e R s m args below meth c Q MC MS H locs ls' cells slots C Rt hW hS hl' hc ht hz)
theorem gk_lstore {E : gk_E} {M : gk_M} {d : gk_B} {pc : Nat} {lv : List (Nat × Value)} {st : List Value} {h : gk_H} {K : Option Value → gk_H → Prop} {i : Nat} {x : Int64} (lv' : List (Nat × Value)) (hd : decode M.2.1 pc = .ok (.lstore i, 2)) (hn : i + 1 < M.2.2.1) (hv : (i, Value.long x) :: lv.filter (fun q => !(q.1 == i) && (!(q.1 == i + 1) && !(q.1 + 1 == i && q.2.category == 2))) = lv') (k : gk_G E M d (pc + 2) lv' st h K) : gk_G E M d (pc) lv (.long x :: st) h K := by
  intro p e R s m args below meth c Q MC MS H locs ls cells slots C Rt hW hS hl hc ht hz
  exact lv_lstore C.1 C.2.1 hd hl hn ((gk_flt E (fun a b => !(a == i) && (!(a == i + 1) && !(a + 1 == i && b == 2))) i (.long x) lv).symm.trans (congrArg (gk_L E) hv)) (fun ls' hl' => k p e R s m args below meth c Q MC MS H locs ls' cells slots C Rt hW hS hl' hc ht hz)
theorem gk_lstore_n {E : gk_E} {M : gk_M} {d : gk_B} {pc : Nat} {lv : List (Nat × Value)} {st : List Value} {h : gk_H} {K : Option Value → gk_H → Prop} {j : Fin 4} {i : Nat} {x : Int64} (lv' : List (Nat × Value)) (hd : decode M.2.1 pc = .ok (.lstore_n j, 1)) (hi : (j : Nat) = i) (hn : i + 1 < M.2.2.1) (hv : (i, Value.long x) :: lv.filter (fun q => !(q.1 == i) && (!(q.1 == i + 1) && !(q.1 + 1 == i && q.2.category == 2))) = lv') (k : gk_G E M d (pc + 1) lv' st h K) : gk_G E M d (pc) lv (.long x :: st) h K := by
  intro p e R s m args below meth c Q MC MS H locs ls cells slots C Rt hW hS hl hc ht hz
  exact lv_lstore_n C.1 C.2.1 hd hi hl hn ((gk_flt E (fun a b => !(a == i) && (!(a == i + 1) && !(a + 1 == i && b == 2))) i (.long x) lv).symm.trans (congrArg (gk_L E) hv)) (fun ls' hl' => k p e R s m args below meth c Q MC MS H locs ls' cells slots C Rt hW hS hl' hc ht hz)
theorem gk_astore {E : gk_E} {M : gk_M} {d : gk_B} {pc : Nat} {lv : List (Nat × Value)} {st : List Value} {h : gk_H} {K : Option Value → gk_H → Prop} {i : Nat} {x : Nat} (lv' : List (Nat × Value)) (hd : decode M.2.1 pc = .ok (.astore i, 2)) (hn : i < M.2.2.1) (hv : (i, Value.ref x) :: lv.filter (fun q => !(q.1 == i) && !(q.1 + 1 == i && q.2.category == 2)) = lv') (k : gk_G E M d (pc + 2) lv' st h K) : gk_G E M d (pc) lv (.ref x :: st) h K := by
  intro p e R s m args below meth c Q MC MS H locs ls cells slots C Rt hW hS hl hc ht hz
  exact lv_astore C.1 C.2.1 hd hl hn ((gk_flt E (fun a b => !(a == i) && !(a + 1 == i && b == 2)) i (.ref x) lv).symm.trans (congrArg (gk_L E) hv)) (fun ls' hl' => k p e R s m args below meth c Q MC MS H locs ls' cells slots C Rt hW hS hl' hc ht hz)
theorem gk_astore_n {E : gk_E} {M : gk_M} {d : gk_B} {pc : Nat} {lv : List (Nat × Value)} {st : List Value} {h : gk_H} {K : Option Value → gk_H → Prop} {j : Fin 4} {i : Nat} {x : Nat} (lv' : List (Nat × Value)) (hd : decode M.2.1 pc = .ok (.astore_n j, 1)) (hi : (j : Nat) = i) (hn : i < M.2.2.1) (hv : (i, Value.ref x) :: lv.filter (fun q => !(q.1 == i) && !(q.1 + 1 == i && q.2.category == 2)) = lv') (k : gk_G E M d (pc + 1) lv' st h K) : gk_G E M d (pc) lv (.ref x :: st) h K := by
  intro p e R s m args below meth c Q MC MS H locs ls cells slots C Rt hW hS hl hc ht hz
  exact lv_astore_n C.1 C.2.1 hd hi hl hn ((gk_flt E (fun a b => !(a == i) && !(a + 1 == i && b == 2)) i (.ref x) lv).symm.trans (congrArg (gk_L E) hv)) (fun ls' hl' => k p e R s m args below meth c Q MC MS H locs ls' cells slots C Rt hW hS hl' hc ht hz)
theorem gk_iinc {E : gk_E} {M : gk_M} {d : gk_B} {pc : Nat} {lv : List (Nat × Value)} {st : List Value} {h : gk_H} {K : Option Value → gk_H → Prop} {i : Nat} {n : Int} {x : Int32} (v : Int32) (lv' : List (Nat × Value)) (j : Nat) (hd : decode M.2.1 pc = .ok (.iinc i n, 3)) (hj : lv[j]? = some (i, .int x)) (hx : x + Int32.ofInt n = v) (hn : i < M.2.2.1) (hv : (i, Value.int v) :: lv.filter (fun q => !(q.1 == i) && !(q.1 + 1 == i && q.2.category == 2)) = lv') (k : gk_G E M d (pc + 3) lv' st h K) : gk_G E M d (pc) lv (st) h K := by
  intro p e R s m args below meth c Q MC MS H locs ls cells slots C Rt hW hS hl hc ht hz
  exact lv_iinc C.1 C.2.1 hd hl (k := j) (by rw [List.getElem?_map, hj]; rfl) hx hn ((gk_flt E (fun a b => !(a == i) && !(a + 1 == i && b == 2)) i (.int v) lv).symm.trans (congrArg (gk_L E) hv)) (fun ls' hl' => k p e R s m args below meth c Q MC MS H locs ls' cells slots C Rt hW hS hl' hc ht hz)
theorem gk_pick {E : gk_E} {M : gk_M} {d : gk_B} {pc : Nat} {lv : List (Nat × Value)} {st : List Value} {h : gk_H} {K : Option Value → gk_H → Prop} (lv' : List (Nat × Value)) (ks : List Nat) (hv : ks.filterMap (fun k => lv[k]?) = lv') (k : gk_G E M d pc lv' st h K) : gk_G E M d (pc) lv (st) h K := by
  subst hv
  intro p e R s m args below meth c Q MC MS H locs ls cells slots C Rt hW hS hl hc ht hz
  refine k p e R s m args below meth c Q MC MS H locs ls cells slots C Rt hW hS ⟨hl.1, hl.2.1, fun q hq => ?_⟩ hc ht hz
  obtain ⟨q0, hq0, rfl⟩ := List.mem_map.mp hq
  obtain ⟨i, -, hi⟩ := List.mem_filterMap.mp hq0
  exact hl.2.2 _ (List.mem_map.mpr ⟨q0, List.mem_of_getElem? hi, rfl⟩)
theorem gk_dup {E : gk_E} {M : gk_M} {d : gk_B} {pc : Nat} {lv : List (Nat × Value)} {st : List Value} {h : gk_H} {K : Option Value → gk_H → Prop} {v : Value} (hd : decode M.2.1 pc = .ok (.dup, 1)) (hv : v.category = 1) (k : gk_G E M d (pc + 1) lv (v :: v :: st) h K) : gk_G E M d (pc) lv (v :: st) h K := by
  intro p e R s m args below meth c Q MC MS H locs ls cells slots C Rt hW hS hl hc ht hz
  exact lv_dup C.1 C.2.1 hd (by rw [gk_cat]; exact hv) (k p e R s m args below meth c Q MC MS H locs ls cells slots C Rt hW hS hl hc ht hz)
theorem gk_pop {E : gk_E} {M : gk_M} {d : gk_B} {pc : Nat} {lv : List (Nat × Value)} {st : List Value} {h : gk_H} {K : Option Value → gk_H → Prop} {v : Value} (hd : decode M.2.1 pc = .ok (.pop, 1)) (hv : v.category = 1) (k : gk_G E M d (pc + 1) lv (st) h K) : gk_G E M d (pc) lv (v :: st) h K := by
  intro p e R s m args below meth c Q MC MS H locs ls cells slots C Rt hW hS hl hc ht hz
  exact lv_pop C.1 C.2.1 hd (by rw [gk_cat]; exact hv) (k p e R s m args below meth c Q MC MS H locs ls cells slots C Rt hW hS hl hc ht hz)
theorem gk_dup_x1 {E : gk_E} {M : gk_M} {d : gk_B} {pc : Nat} {lv : List (Nat × Value)} {st : List Value} {h : gk_H} {K : Option Value → gk_H → Prop} {v w : Value} (hd : decode M.2.1 pc = .ok (.dup_x1, 1)) (hv : v.category = 1) (hw : w.category = 1) (k : gk_G E M d (pc + 1) lv (v :: w :: v :: st) h K) : gk_G E M d (pc) lv (v :: w :: st) h K := by
  intro p e R s m args below meth c Q MC MS H locs ls cells slots C Rt hW hS hl hc ht hz
  exact lv_dup_x1 C.1 C.2.1 hd (by rw [gk_cat]; exact hv) (by rw [gk_cat]; exact hw) (k p e R s m args below meth c Q MC MS H locs ls cells slots C Rt hW hS hl hc ht hz)
theorem gk_dup2 {E : gk_E} {M : gk_M} {d : gk_B} {pc : Nat} {lv : List (Nat × Value)} {st : List Value} {h : gk_H} {K : Option Value → gk_H → Prop} {v w : Value} (hd : decode M.2.1 pc = .ok (.dup2, 1)) (hv : v.category = 1) (hw : w.category = 1) (k : gk_G E M d (pc + 1) lv (v :: w :: v :: w :: st) h K) : gk_G E M d (pc) lv (v :: w :: st) h K := by
  intro p e R s m args below meth c Q MC MS H locs ls cells slots C Rt hW hS hl hc ht hz
  exact lv_dup2_11 C.1 C.2.1 hd (by rw [gk_cat]; exact hv) (by rw [gk_cat]; exact hw) (k p e R s m args below meth c Q MC MS H locs ls cells slots C Rt hW hS hl hc ht hz)
theorem gk_dup2w {E : gk_E} {M : gk_M} {d : gk_B} {pc : Nat} {lv : List (Nat × Value)} {st : List Value} {h : gk_H} {K : Option Value → gk_H → Prop} {v : Value} (hd : decode M.2.1 pc = .ok (.dup2, 1)) (hv : v.category = 2) (k : gk_G E M d (pc + 1) lv (v :: v :: st) h K) : gk_G E M d (pc) lv (v :: st) h K := by
  intro p e R s m args below meth c Q MC MS H locs ls cells slots C Rt hW hS hl hc ht hz
  exact lv_dup2_2 C.1 C.2.1 hd (by rw [gk_cat]; exact hv) (k p e R s m args below meth c Q MC MS H locs ls cells slots C Rt hW hS hl hc ht hz)
theorem gk_if_eq {E : gk_E} {M : gk_M} {d : gk_B} {pc : Nat} {lv : List (Nat × Value)} {st : List Value} {h : gk_H} {K : Option Value → gk_H → Prop} {off : Int} {x : Int32} (tgt : Nat) (hd : decode M.2.1 pc = .ok (.ifCond .eq off, 3)) (htg : (pc : Int) + off = (tgt : Int)) (kt : x = 0 → gk_G E M d (tgt) lv (st) h K) (kf : ¬ x = 0 → gk_G E M d (pc + 3) lv (st) h K) : gk_G E M d (pc) lv (.int x :: st) h K := by
  intro p e R s m args below meth c Q MC MS H locs ls cells slots C Rt hW hS hl hc ht hz
  exact lv_if_eq C.1 C.2.1 hd htg (fun q => kt q p e R s m args below meth c Q MC MS H locs ls cells slots C Rt hW hS hl hc ht hz) (fun q => kf q p e R s m args below meth c Q MC MS H locs ls cells slots C Rt hW hS hl hc ht hz)
theorem gk_if_ne {E : gk_E} {M : gk_M} {d : gk_B} {pc : Nat} {lv : List (Nat × Value)} {st : List Value} {h : gk_H} {K : Option Value → gk_H → Prop} {off : Int} {x : Int32} (tgt : Nat) (hd : decode M.2.1 pc = .ok (.ifCond .ne off, 3)) (htg : (pc : Int) + off = (tgt : Int)) (kt : ¬ x = 0 → gk_G E M d (tgt) lv (st) h K) (kf : x = 0 → gk_G E M d (pc + 3) lv (st) h K) : gk_G E M d (pc) lv (.int x :: st) h K := by
  intro p e R s m args below meth c Q MC MS H locs ls cells slots C Rt hW hS hl hc ht hz
  exact lv_if_ne C.1 C.2.1 hd htg (fun q => kt q p e R s m args below meth c Q MC MS H locs ls cells slots C Rt hW hS hl hc ht hz) (fun q => kf q p e R s m args below meth c Q MC MS H locs ls cells slots C Rt hW hS hl hc ht hz)
theorem gk_if_lt {E : gk_E} {M : gk_M} {d : gk_B} {pc : Nat} {lv : List (Nat × Value)} {st : List Value} {h : gk_H} {K : Option Value → gk_H → Prop} {off : Int} {x : Int32} (tgt : Nat) (hd : decode M.2.1 pc = .ok (.ifCond .lt off, 3)) (htg : (pc : Int) + off = (tgt : Int)) (kt : x < 0 → gk_G E M d (tgt) lv (st) h K) (kf : ¬ x < 0 → gk_G E M d (pc + 3) lv (st) h K) : gk_G E M d (pc) lv (.int x :: st) h K := by
  intro p e R s m args below meth c Q MC MS H locs ls cells slots C Rt hW hS hl hc ht hz
  exact lv_if_lt C.1 C.2.1 hd htg (fun q => kt q p e R s m args below meth c Q MC MS H locs ls cells slots C Rt hW hS hl hc ht hz) (fun q => kf q p e R s m args below meth c Q MC MS H locs ls cells slots C Rt hW hS hl hc ht hz)
theorem gk_if_ge {E : gk_E} {M : gk_M} {d : gk_B} {pc : Nat} {lv : List (Nat × Value)} {st : List Value} {h : gk_H} {K : Option Value → gk_H → Prop} {off : Int} {x : Int32} (tgt : Nat) (hd : decode M.2.1 pc = .ok (.ifCond .ge off, 3)) (htg : (pc : Int) + off = (tgt : Int)) (kt : 0 ≤ x → gk_G E M d (tgt) lv (st) h K) (kf : ¬ 0 ≤ x → gk_G E M d (pc + 3) lv (st) h K) : gk_G E M d (pc) lv (.int x :: st) h K := by
  intro p e R s m args below meth c Q MC MS H locs ls cells slots C Rt hW hS hl hc ht hz
  exact lv_if_ge C.1 C.2.1 hd htg (fun q => kt q p e R s m args below meth c Q MC MS H locs ls cells slots C Rt hW hS hl hc ht hz) (fun q => kf q p e R s m args below meth c Q MC MS H locs ls cells slots C Rt hW hS hl hc ht hz)
theorem gk_if_gt {E : gk_E} {M : gk_M} {d : gk_B} {pc : Nat} {lv : List (Nat × Value)} {st : List Value} {h : gk_H} {K : Option Value → gk_H → Prop} {off : Int} {x : Int32} (tgt : Nat) (hd : decode M.2.1 pc = .ok (.ifCond .gt off, 3)) (htg : (pc : Int) + off = (tgt : Int)) (kt : 0 < x → gk_G E M d (tgt) lv (st) h K) (kf : ¬ 0 < x → gk_G E M d (pc + 3) lv (st) h K) : gk_G E M d (pc) lv (.int x :: st) h K := by
  intro p e R s m args below meth c Q MC MS H locs ls cells slots C Rt hW hS hl hc ht hz
  exact lv_if_gt C.1 C.2.1 hd htg (fun q => kt q p e R s m args below meth c Q MC MS H locs ls cells slots C Rt hW hS hl hc ht hz) (fun q => kf q p e R s m args below meth c Q MC MS H locs ls cells slots C Rt hW hS hl hc ht hz)
theorem gk_if_le {E : gk_E} {M : gk_M} {d : gk_B} {pc : Nat} {lv : List (Nat × Value)} {st : List Value} {h : gk_H} {K : Option Value → gk_H → Prop} {off : Int} {x : Int32} (tgt : Nat) (hd : decode M.2.1 pc = .ok (.ifCond .le off, 3)) (htg : (pc : Int) + off = (tgt : Int)) (kt : x ≤ 0 → gk_G E M d (tgt) lv (st) h K) (kf : ¬ x ≤ 0 → gk_G E M d (pc + 3) lv (st) h K) : gk_G E M d (pc) lv (.int x :: st) h K := by
  intro p e R s m args below meth c Q MC MS H locs ls cells slots C Rt hW hS hl hc ht hz
  exact lv_if_le C.1 C.2.1 hd htg (fun q => kt q p e R s m args below meth c Q MC MS H locs ls cells slots C Rt hW hS hl hc ht hz) (fun q => kf q p e R s m args below meth c Q MC MS H locs ls cells slots C Rt hW hS hl hc ht hz)
theorem gk_icmp_eq {E : gk_E} {M : gk_M} {d : gk_B} {pc : Nat} {lv : List (Nat × Value)} {st : List Value} {h : gk_H} {K : Option Value → gk_H → Prop} {off : Int} {x y : Int32} (tgt : Nat) (hd : decode M.2.1 pc = .ok (.if_icmp .eq off, 3)) (htg : (pc : Int) + off = (tgt : Int)) (kt : x = y → gk_G E M d (tgt) lv (st) h K) (kf : ¬ x = y → gk_G E M d (pc + 3) lv (st) h K) : gk_G E M d (pc) lv (.int y :: .int x :: st) h K := by
  intro p e R s m args below meth c Q MC MS H locs ls cells slots C Rt hW hS hl hc ht hz
  exact lv_icmp_eq C.1 C.2.1 hd htg (fun q => kt q p e R s m args below meth c Q MC MS H locs ls cells slots C Rt hW hS hl hc ht hz) (fun q => kf q p e R s m args below meth c Q MC MS H locs ls cells slots C Rt hW hS hl hc ht hz)
theorem gk_icmp_ne {E : gk_E} {M : gk_M} {d : gk_B} {pc : Nat} {lv : List (Nat × Value)} {st : List Value} {h : gk_H} {K : Option Value → gk_H → Prop} {off : Int} {x y : Int32} (tgt : Nat) (hd : decode M.2.1 pc = .ok (.if_icmp .ne off, 3)) (htg : (pc : Int) + off = (tgt : Int)) (kt : ¬ x = y → gk_G E M d (tgt) lv (st) h K) (kf : x = y → gk_G E M d (pc + 3) lv (st) h K) : gk_G E M d (pc) lv (.int y :: .int x :: st) h K := by
  intro p e R s m args below meth c Q MC MS H locs ls cells slots C Rt hW hS hl hc ht hz
  exact lv_icmp_ne C.1 C.2.1 hd htg (fun q => kt q p e R s m args below meth c Q MC MS H locs ls cells slots C Rt hW hS hl hc ht hz) (fun q => kf q p e R s m args below meth c Q MC MS H locs ls cells slots C Rt hW hS hl hc ht hz)
theorem gk_icmp_lt {E : gk_E} {M : gk_M} {d : gk_B} {pc : Nat} {lv : List (Nat × Value)} {st : List Value} {h : gk_H} {K : Option Value → gk_H → Prop} {off : Int} {x y : Int32} (tgt : Nat) (hd : decode M.2.1 pc = .ok (.if_icmp .lt off, 3)) (htg : (pc : Int) + off = (tgt : Int)) (kt : x < y → gk_G E M d (tgt) lv (st) h K) (kf : ¬ x < y → gk_G E M d (pc + 3) lv (st) h K) : gk_G E M d (pc) lv (.int y :: .int x :: st) h K := by
  intro p e R s m args below meth c Q MC MS H locs ls cells slots C Rt hW hS hl hc ht hz
  exact lv_icmp_lt C.1 C.2.1 hd htg (fun q => kt q p e R s m args below meth c Q MC MS H locs ls cells slots C Rt hW hS hl hc ht hz) (fun q => kf q p e R s m args below meth c Q MC MS H locs ls cells slots C Rt hW hS hl hc ht hz)
theorem gk_icmp_ge {E : gk_E} {M : gk_M} {d : gk_B} {pc : Nat} {lv : List (Nat × Value)} {st : List Value} {h : gk_H} {K : Option Value → gk_H → Prop} {off : Int} {x y : Int32} (tgt : Nat) (hd : decode M.2.1 pc = .ok (.if_icmp .ge off, 3)) (htg : (pc : Int) + off = (tgt : Int)) (kt : y ≤ x → gk_G E M d (tgt) lv (st) h K) (kf : ¬ y ≤ x → gk_G E M d (pc + 3) lv (st) h K) : gk_G E M d (pc) lv (.int y :: .int x :: st) h K := by
  intro p e R s m args below meth c Q MC MS H locs ls cells slots C Rt hW hS hl hc ht hz
  exact lv_icmp_ge C.1 C.2.1 hd htg (fun q => kt q p e R s m args below meth c Q MC MS H locs ls cells slots C Rt hW hS hl hc ht hz) (fun q => kf q p e R s m args below meth c Q MC MS H locs ls cells slots C Rt hW hS hl hc ht hz)
theorem gk_icmp_gt {E : gk_E} {M : gk_M} {d : gk_B} {pc : Nat} {lv : List (Nat × Value)} {st : List Value} {h : gk_H} {K : Option Value → gk_H → Prop} {off : Int} {x y : Int32} (tgt : Nat) (hd : decode M.2.1 pc = .ok (.if_icmp .gt off, 3)) (htg : (pc : Int) + off = (tgt : Int)) (kt : y < x → gk_G E M d (tgt) lv (st) h K) (kf : ¬ y < x → gk_G E M d (pc + 3) lv (st) h K) : gk_G E M d (pc) lv (.int y :: .int x :: st) h K := by
  intro p e R s m args below meth c Q MC MS H locs ls cells slots C Rt hW hS hl hc ht hz
  exact lv_icmp_gt C.1 C.2.1 hd htg (fun q => kt q p e R s m args below meth c Q MC MS H locs ls cells slots C Rt hW hS hl hc ht hz) (fun q => kf q p e R s m args below meth c Q MC MS H locs ls cells slots C Rt hW hS hl hc ht hz)
theorem gk_icmp_le {E : gk_E} {M : gk_M} {d : gk_B} {pc : Nat} {lv : List (Nat × Value)} {st : List Value} {h : gk_H} {K : Option Value → gk_H → Prop} {off : Int} {x y : Int32} (tgt : Nat) (hd : decode M.2.1 pc = .ok (.if_icmp .le off, 3)) (htg : (pc : Int) + off = (tgt : Int)) (kt : x ≤ y → gk_G E M d (tgt) lv (st) h K) (kf : ¬ x ≤ y → gk_G E M d (pc + 3) lv (st) h K) : gk_G E M d (pc) lv (.int y :: .int x :: st) h K := by
  intro p e R s m args below meth c Q MC MS H locs ls cells slots C Rt hW hS hl hc ht hz
  exact lv_icmp_le C.1 C.2.1 hd htg (fun q => kt q p e R s m args below meth c Q MC MS H locs ls cells slots C Rt hW hS hl hc ht hz) (fun q => kf q p e R s m args below meth c Q MC MS H locs ls cells slots C Rt hW hS hl hc ht hz)
theorem gk_goto {E : gk_E} {M : gk_M} {d : gk_B} {pc : Nat} {lv : List (Nat × Value)} {st : List Value} {h : gk_H} {K : Option Value → gk_H → Prop} {off : Int} (tgt : Nat) (hd : decode M.2.1 pc = .ok (.goto off, 3)) (htg : (pc : Int) + off = (tgt : Int)) (k : gk_G E M d (tgt) lv (st) h K) : gk_G E M d (pc) lv (st) h K := by
  intro p e R s m args below meth c Q MC MS H locs ls cells slots C Rt hW hS hl hc ht hz
  exact lv_goto C.1 C.2.1 hd htg (k p e R s m args below meth c Q MC MS H locs ls cells slots C Rt hW hS hl hc ht hz)
theorem gk_ireturn {E : gk_E} {M : gk_M} {d1 b2 : Nat} {pc : Nat} {lv : List (Nat × Value)} {h : gk_H} {K : Option Value → gk_H → Prop} {x : Int32} (ty : FieldType) (hd : decode M.2.1 pc = .ok (.ireturn, 1)) (hr : M.2.2.2 = some ty) (hn : narrow ty (.int x) = .int x) (k : K (some (.int x)) h) : gk_G E M (d1, 0, b2) pc lv [.int x] h K := by
  intro p e R s m args below meth c Q MC MS H locs ls cells slots C Rt hW hS hl hc ht hz
  have e1 : cells = MC := hc
  subst e1
  exact Rt (some (.int x)) h pc ls H locs slots k ⟨hd, ty, hr, hn⟩ hW hS (by have : slots + b2 = MS := ht; omega) hz
theorem gk_lreturn {E : gk_E} {M : gk_M} {d1 b2 : Nat} {pc : Nat} {lv : List (Nat × Value)} {h : gk_H} {K : Option Value → gk_H → Prop} {x : Int64} (hd : decode M.2.1 pc = .ok (.lreturn, 1)) (hr : M.2.2.2 = some .long) (k : K (some (.long x)) h) : gk_G E M (d1, 0, b2) pc lv [.long x] h K := by
  intro p e R s m args below meth c Q MC MS H locs ls cells slots C Rt hW hS hl hc ht hz
  have e1 : cells = MC := hc
  subst e1
  exact Rt (some (.long x)) h pc ls H locs slots k ⟨hd, hr⟩ hW hS (by have : slots + b2 = MS := ht; omega) hz
theorem gk_return {E : gk_E} {M : gk_M} {d1 b2 : Nat} {pc : Nat} {lv : List (Nat × Value)} {h : gk_H} {K : Option Value → gk_H → Prop} (hd : decode M.2.1 pc = .ok (.return_, 1)) (hr : M.2.2.2 = none) (k : K none h) : gk_G E M (d1, 0, b2) pc lv [] h K := by
  intro p e R s m args below meth c Q MC MS H locs ls cells slots C Rt hW hS hl hc ht hz
  have e1 : cells = MC := hc
  subst e1
  exact Rt none h pc ls H locs slots k ⟨hd, hr⟩ hW hS (by have : slots + b2 = MS := ht; omega) hz
end
section
/-! fields and arrays -/
theorem gk_cell {E : gk_E} {h : gk_H} {r : Nat} {x : gk_X} (hx : h[r]? = some x) : (gk_lay E 0 h)[r]? = some (gk_b E + (0 + r), gk_e E x) := by rw [gk_lay_at, hx]; rfl
theorem gk_ar {E : gk_E} {h : gk_H} {H : Heap} {r : Nat} {x : gk_X} (hW : gk_W E h H) (hx : h[r]? = some x) : gk_a E r = gk_b E + (0 + r) := by
  have h1 : r < h.length := (List.getElem?_eq_some_iff.mp hx).1
  have h2 := hW.2
  rw [gk_a, if_pos (by omega), Nat.zero_add]
theorem gk_W.set {E : gk_E} {h : gk_H} {H H1 : Heap} {r : Nat} {x y : gk_X} (hW : gk_W E h H) (hx : h[r]? = some x) (ha : va_at (gk_D E) vwCl (gk_b E + (0 + r), gk_e E y) H1) (oq : ∀ q : Nat, q ≠ gk_b E + (0 + r) → H1[q]? = H[q]?) : gk_W E (h.set r y) H1 :=
  ⟨by rw [gk_lay_set]; exact hW.1.set (gk_lay_D E h) (gk_cell hx) ha oq, by rw [List.length_set]; exact hW.2⟩
/-- a class of the world: its number, name, fields -/
def gk_Cl (ci : Nat) (C : String) (T : u_T) (N : Nat) : Prop := vwCl[ci]? = some (C, T, N) ∧ (∀ w ∈ u_ws C T N, w ∈ gk_T) ∧ (∃ ty : Nat → FieldType, ∀ k, k < N → parseFieldDescriptor (T k).2.2.1 = some (ty k)) ∧ ∀ a, a < N → ∀ b, b < N → a ≠ b → (T a).2.1 ≠ (T b).2.1
/-- the pool's entry idx of class own is field k of class ci, of type ty, final or not -/
def gk_Fl (own : String) (idx ci k : Nat) (ty : FieldType) (fin : Bool) : Prop := ∃ (C : String) (T : u_T) (N : Nat) (ref : String), gk_Cl ci C T N ∧ k < N ∧ Cond.fieldLink own idx ref (T k).2.1 (T k).2.2.1 ∈ gk_T ∧ (ref = (T k).1 ∨ Cond.sameField ref (T k).1 (T k).2.1 (T k).2.2.1 ∈ gk_T) ∧ parseFieldDescriptor (T k).2.2.1 = some ty ∧ (T k).2.2.2 = fin ∧ (fin = true → (T k).1 = own)
section GKH
variable {E : gk_E} {M : gk_M} {d : gk_B} {pc : Nat} {lv : List (Nat × Value)} {st : List Value} {h : gk_H} {K : Option Value → gk_H → Prop}
theorem gk_same {own ref o n ds : String} {args : Array Value} {s : State} (hts : ∀ w ∈ gk_T, w.before args s = true) (h : ref = o ∨ Cond.sameField ref o n ds ∈ gk_T) : ∀ x, s.fieldFound? o n ds = some x → s.fieldFound? ref n ds = some x := by
  intro x hx
  rcases h with rfl | h
  · exact hx
  · exact u_same (hts _ h) x hx
theorem gk_get {idx ci k r : Nat} {ty : FieldType} {fin : Bool} {fs : List Value} (v : Value) (hd : decode M.2.1 pc = .ok (.getfield idx, 3)) (hf : gk_Fl M.1.cls idx ci k ty fin) (hr : h[r]? = some (.inr (ci, fs))) (hv : fs[k]? = some v) (kk : gk_G E M d (pc + 3) lv (v :: st) h K) : gk_G E M d pc lv (.ref r :: st) h K := by
  intro p e R s m args below meth c Q MC MS H locs ls cells slots C Rt hW hS hl hc ht hz
  obtain ⟨Cn, T, N, ref, hC, hk, hln, hsm, -⟩ := hf
  have key := kk p e R s m args below meth c Q MC MS H locs ls cells slots C Rt hW hS hl hc ht hz
  have hts := C.2.2.2.2.2.2.1
  show W p E.1 e R s m args below meth c H locs cells slots Q (F0 m pc ls (.ref (gk_a E r) :: st.map (gk_v E)))
  rw [gk_ar hW hr]
  exact va_get C.1 C.2.1 hts hC.2.1 C.2.2.2.2.2.2.2.1 C.2.2.2.2.2.2.2.2.1.1 hW.1 r (gk_cell hr) hC.1 k hk (hts _ hln) (gk_same (own := ref) hts hsm) (v := gk_v E v) (by rw [List.getElem?_map, hv]; rfl) hd key
set_option maxHeartbeats 1000000 in
theorem gk_put {idx ci k r : Nat} {ty : FieldType} {fs : List Value} {v : Value} (hd : decode M.2.1 pc = .ok (.putfield idx, 3)) (hf : gk_Fl M.1.cls idx ci k ty false) (hr : h[r]? = some (.inr (ci, fs))) (hlen : k < fs.length) (hn : narrow ty v = v) (hfit : fits ty v = true) (kk : gk_G E M d (pc + 3) lv st (h.set r (.inr (ci, fs.set k v))) K) : gk_G E M d pc lv (v :: .ref r :: st) h K := by
  intro p e R s m args below meth c Q MC MS H locs ls cells slots C Rt hW hS hl hc ht hz
  obtain ⟨Cn, T, N, ref, hC, hk, hln, hsm, hty, hfin, -⟩ := hf
  have hts := C.2.2.2.2.2.2.1
  have hK := C.2.2.2.2.2.2.2.2.1.1
  obtain ⟨ty0, hty0⟩ := hC.2.2.1
  show W p E.1 e R s m args below meth c H locs cells slots Q (F0 m pc ls (gk_v E v :: .ref (gk_a E r) :: st.map (gk_v E)))
  rw [gk_ar hW hr]
  have hn' : narrow ty (gk_v E v) = gk_v E v := by
    cases v <;> first | exact hn | (cases ty <;> rfl)
  have hfit' : fits ty (gk_v E v) = true := by
    cases v <;> first | exact hfit | (cases ty <;> first | exact hfit | rfl)
  have hap := va_apart (own := ref) hts hC.2.1 ty0 hty0 hC.2.2.2 hK hC.1
  obtain ⟨rr, h1, cell, q1, q2, q3, q4⟩ := hW.1 r _ (gk_cell hr)
  have hrr : rr = (Cn, T, N) := Option.some.inj (h1.symm.trans hC.1)
  subst hrr
  obtain ⟨hSl, hfc, kC, hkC, hkind⟩ := hK.1 ci _ hC.1
  obtain ⟨cf, kf, fi, f, hi, hsl⟩ := hSl k hk
  have hlay := hts _ (hC.2.1 _ (u_in_lay hk))
  unfold u_lay at hlay
  rw [if_neg (by rw [hfin]; decide)] at hlay
  have hst := (u_facts hfc hkC (u_lays hts hC.2.1 hk) hi).1
  have h6 := u_store hfc hkC hkind hlay hi hty hn' hfit'
  refine W.putK C.1 C.2.1 (f := f) ⟨C.2.2.2.2.2.2.2.1, hts _ hln, ⟨_, _, _, gk_same (own := ref) hts hsm _ hi⟩, hst⟩ (by rw [q2]; exact h6) q1 q3 (by rw [hsl]; exact k2_hasslot (q4 k hk)) rfl rfl hd fun H' e1 e2 e3 => ?_
  rw [hsl] at e1 ⊢
  refine kk p e R s m args below meth c Q MC MS H' _ ls cells slots C Rt (hW.set hr ?_ e3) (hS.put e2 e3 (Nat.le_add_right _ _)) hl hc ht (by rw [List.length_set]; exact hz)
  refine ⟨_, hC.1, t_OB.to (V := updV (vp_V (fs.map (gk_v E))) k (gk_v E v)) ⟨_, e1, q2, q3, t_set q4 hap hk _⟩ (fun j _ => ?_)⟩
  rw [vp_updV_set (by rw [List.length_map]; exact hlen), List.map_set]
set_option maxHeartbeats 1000000 in
theorem gk_putF {idx ci k r : Nat} {ty : FieldType} {fs : List Value} {v : Value} (hd : decode M.2.1 pc = .ok (.putfield idx, 3)) (hm : M.1.name = "<init>") (hf : gk_Fl M.1.cls idx ci k ty true) (hr : h[r]? = some (.inr (ci, fs))) (hlen : k < fs.length) (hn : narrow ty v = v) (hfit : fits ty v = true) (kk : gk_G E M d (pc + 3) lv st (h.set r (.inr (ci, fs.set k v))) K) : gk_G E M d pc lv (v :: .ref r :: st) h K := by
  intro p e R s m args below meth c Q MC MS H locs ls cells slots C Rt hW hS hl hc ht hz
  obtain ⟨Cn, T, N, ref, hC, hk, hln, hsm, hty, hfin, hdecl⟩ := hf
  have hdecl := hdecl rfl
  have hts := C.2.2.2.2.2.2.1
  have hown := C.2.2.2.2.2.2.2.1
  have hK := C.2.2.2.2.2.2.2.2.1.1
  obtain ⟨ty0, hty0⟩ := hC.2.2.1
  show W p E.1 e R s m args below meth c H locs cells slots Q (F0 m pc ls (gk_v E v :: .ref (gk_a E r) :: st.map (gk_v E)))
  rw [gk_ar hW hr]
  have hn' : narrow ty (gk_v E v) = gk_v E v := by
    cases v <;> first | exact hn | (cases ty <;> rfl)
  have hfit' : fits ty (gk_v E v) = true := by
    cases v <;> first | exact hfit | (cases ty <;> first | exact hfit | rfl)
  have hap := va_apart (own := ref) hts hC.2.1 ty0 hty0 hC.2.2.2 hK hC.1
  obtain ⟨rr, h1, cell, q1, q2, q3, q4⟩ := hW.1 r _ (gk_cell hr)
  have hrr : rr = (Cn, T, N) := Option.some.inj (h1.symm.trans hC.1)
  subst hrr
  obtain ⟨hSl, hfc, kC, hkC, hkind⟩ := hK.1 ci _ hC.1
  obtain ⟨cf, kf, fi, f, hi, hsl⟩ := hSl k hk
  have hlay := hts _ (hC.2.1 _ (u_in_lay hk))
  unfold u_lay at hlay
  rw [if_pos hfin] at hlay
  have hst := (u_facts hfc hkC (u_lays hts hC.2.1 hk) hi).1
  have hcf : m.cls = cf := by
    obtain ⟨_, _, c', _, _, _, -, -, hf', -, -, -, hown2, -⟩ := Cond.laysFinal_spec hlay
    have e1 : c' = cf := by have := hi.symm.trans hf'; simp at this; exact this.1.symm
    rw [hdecl] at hown2
    rw [← e1]; exact Option.some.inj (hown.symm.trans hown2)
  have h6 := u_fits hfc hkC hkind (Or.inr hlay) hi hty hn' hfit'
  refine W.putFinK C.1 C.2.1 hown (hts _ hln) (gk_same (own := ref) hts hsm _ hi) hst hcf (C.2.2.2.2.2.1.trans hm) (by rw [q2]; exact h6) q1 q3 (by rw [hsl]; exact k2_hasslot (q4 k hk)) rfl rfl hd fun H' e1 e2 e3 => ?_
  rw [hsl] at e1 ⊢
  refine kk p e R s m args below meth c Q MC MS H' _ ls cells slots C Rt (hW.set hr ?_ e3) (hS.put e2 e3 (Nat.le_add_right _ _)) hl hc ht (by rw [List.length_set]; exact hz)
  refine ⟨_, hC.1, t_OB.to (V := updV (vp_V (fs.map (gk_v E))) k (gk_v E v)) ⟨_, e1, q2, q3, t_set q4 hap hk _⟩ (fun j _ => ?_)⟩
  rw [vp_updV_set (by rw [List.length_map]; exact hlen), List.map_set]
theorem gk_alen {r t : Nat} {x : vp_A} (v : Int32) (hd : decode M.2.1 pc = .ok (.arraylength, 1)) (hr : h[r]? = some (.inl (t, x))) (htt : t < 8) (hv : Int32.ofNat x.1 = v) (kk : gk_G E M d (pc + 1) lv (.int v :: st) h K) : gk_G E M d pc lv (.ref r :: st) h K := by
  intro p e R s m args below meth c Q MC MS H locs ls cells slots C Rt hW hS hl hc ht hz
  have key := kk p e R s m args below meth c Q MC MS H locs ls cells slots C Rt hW hS hl hc ht hz
  show W p E.1 e R s m args below meth c H locs cells slots Q (F0 m pc ls (.ref (gk_a E r) :: st.map (gk_v E)))
  rw [gk_ar hW hr]
  have hg : ∃ ty, (gk_tys E)[t]? = some (gk_cy E t, ty) := by
    match t, htt with
    | 0, _ => exact ⟨_, rfl⟩
    | 1, _ => exact ⟨_, rfl⟩
    | 2, _ => exact ⟨_, rfl⟩
    | 3, _ => exact ⟨_, rfl⟩
    | 4, _ => exact ⟨_, rfl⟩
    | 5, _ => exact ⟨_, rfl⟩
    | 6, _ => exact ⟨_, rfl⟩
    | 7, _ => exact ⟨_, rfl⟩
    | n + 8, q => omega
  obtain ⟨ty, hg⟩ := hg
  have hx1 : (gk_c E x).1 = x.1 := by obtain ⟨n, f | f | f | f | f⟩ := x <;> rfl
  exact va_alen C.1 C.2.1 C.2.2.2.2.2.2.2.2.1.1 hW.1 r t (gk_cell hr) hg (by rw [hx1]; exact hv) hd key
end GKH
theorem gk_iald {E : gk_E} {M : gk_M} {d : gk_B} {pc : Nat} {lv : List (Nat × Value)} {st : List Value} {h : gk_H} {K : Option Value → gk_H → Prop} {r n : Nat} {f : Nat → Int32} {i : Int32} (hd : decode M.2.1 pc = .ok (.iaload, 1)) (hr : h[r]? = some (.inl (0, n, .inl f))) (hin : vp_in i n) (kk : gk_G E M d (pc + 1) lv (.int (f i.toNatClampNeg) :: st) h K) : gk_G E M d pc lv (.int i :: .ref r :: st) h K := by
  intro p e R s m args below meth c Q MC MS H locs ls cells slots C Rt hW hS hl hc ht hz
  have key := kk p e R s m args below meth c Q MC MS H locs ls cells slots C Rt hW hS hl hc ht hz
  show W p E.1 e R s m args below meth c H locs cells slots Q (F0 m pc ls (.int i :: .ref (gk_a E r) :: st.map (gk_v E)))
  rw [gk_ar hW hr]
  exact va_iald C.1 C.2.1 C.2.2.2.2.2.2.2.2.1.1 hW.1 r 0 (gk_cell hr) rfl hin hd key
set_option maxHeartbeats 1000000 in
theorem gk_iast {E : gk_E} {M : gk_M} {d : gk_B} {pc : Nat} {lv : List (Nat × Value)} {st : List Value} {h : gk_H} {K : Option Value → gk_H → Prop} {r n : Nat} {f : Nat → Int32} {i : Int32} {x : Int32} (hd : decode M.2.1 pc = .ok (.iastore, 1)) (hr : h[r]? = some (.inl (0, n, .inl f))) (hin : vp_in i n) (kk : gk_G E M d (pc + 1) lv st (h.set r (.inl (0, n, .inl (upd f i.toNatClampNeg x)))) K) : gk_G E M d pc lv (.int x :: .int i :: .ref r :: st) h K := by
  intro p e R s m args below meth c Q MC MS H locs ls cells slots C Rt hW hS hl hc ht hz
  show W p E.1 e R s m args below meth c H locs cells slots Q (F0 m pc ls (.int x :: .int i :: .ref (gk_a E r) :: st.map (gk_v E)))
  rw [gk_ar hW hr]
  have hP := hW.1 r _ (gk_cell hr)
  have hA : s.isArrayOf (arrV (gk_cy E 0) n (fun j => .int (f j))) .int := (C.2.2.2.2.2.2.2.2.1.1.2 0 _ rfl).1 n (fun j => .int (f j))
  refine W.iast C.1 C.2.1 hP hA (fun q => by cases q) (by show ¬ (i < 0 ∨ (arrV _ _ _).slots.size ≤ _); rw [arrV_size]; exact hin) rfl rfl hd fun H1 e0 z oq => ?_
  refine kk p e R s m args below meth c Q MC MS H1 _ ls cells slots C Rt (hW.set hr ?_ oq) (hS.put z oq (Nat.le_add_right _ _)) hl hc ht (by rw [List.length_set]; exact hz)
  show H1[gk_b E + (0 + r)]? = some (vp_cell (gk_cy E 0) (n, _))
  rw [e0]
  show some ((arrV (gk_cy E 0) n (fun j => .int (f j))).setSlot _ _) = some (arrV (gk_cy E 0) n (fun j => .int ((upd f i.toNatClampNeg x) j)))
  rw [arrV_store]
  congr 2
  funext q
  by_cases hq : q = i.toNatClampNeg
  · subst hq
    simp [updV, upd, vp_updL, vp_nar]
    try rfl
  · simp [updV, upd, vp_updL, hq]
theorem gk_bald {E : gk_E} {M : gk_M} {d : gk_B} {pc : Nat} {lv : List (Nat × Value)} {st : List Value} {h : gk_H} {K : Option Value → gk_H → Prop} {r n : Nat} {f : Nat → Int32} {i : Int32} (hd : decode M.2.1 pc = .ok (.baload, 1)) (hr : h[r]? = some (.inl (2, n, .inl f))) (hin : vp_in i n) (kk : gk_G E M d (pc + 1) lv (.int (f i.toNatClampNeg) :: st) h K) : gk_G E M d pc lv (.int i :: .ref r :: st) h K := by
  intro p e R s m args below meth c Q MC MS H locs ls cells slots C Rt hW hS hl hc ht hz
  have key := kk p e R s m args below meth c Q MC MS H locs ls cells slots C Rt hW hS hl hc ht hz
  show W p E.1 e R s m args below meth c H locs cells slots Q (F0 m pc ls (.int i :: .ref (gk_a E r) :: st.map (gk_v E)))
  rw [gk_ar hW hr]
  exact va_bald C.1 C.2.1 C.2.2.2.2.2.2.2.2.1.1 hW.1 r 2 (gk_cell hr) rfl hin hd key
set_option maxHeartbeats 1000000 in
theorem gk_bast {E : gk_E} {M : gk_M} {d : gk_B} {pc : Nat} {lv : List (Nat × Value)} {st : List Value} {h : gk_H} {K : Option Value → gk_H → Prop} {r n : Nat} {f : Nat → Int32} {i : Int32} {x : Int32} (hd : decode M.2.1 pc = .ok (.bastore, 1)) (hr : h[r]? = some (.inl (2, n, .inl f))) (hin : vp_in i n) (kk : gk_G E M d (pc + 1) lv st (h.set r (.inl (2, n, .inl (upd f i.toNatClampNeg (vp_nar .byte x))))) K) : gk_G E M d pc lv (.int x :: .int i :: .ref r :: st) h K := by
  intro p e R s m args below meth c Q MC MS H locs ls cells slots C Rt hW hS hl hc ht hz
  show W p E.1 e R s m args below meth c H locs cells slots Q (F0 m pc ls (.int x :: .int i :: .ref (gk_a E r) :: st.map (gk_v E)))
  rw [gk_ar hW hr]
  have hP := hW.1 r _ (gk_cell hr)
  have hA : s.isArrayOf (arrV (gk_cy E 2) n (fun j => .int (f j))) .byte := (C.2.2.2.2.2.2.2.2.1.1.2 2 _ rfl).1 n (fun j => .int (f j))
  refine W.bast C.1 C.2.1 hP hA (fun q => by cases q) (by show ¬ (i < 0 ∨ (arrV _ _ _).slots.size ≤ _); rw [arrV_size]; exact hin) rfl rfl hd fun H1 e0 z oq => ?_
  refine kk p e R s m args below meth c Q MC MS H1 _ ls cells slots C Rt (hW.set hr ?_ oq) (hS.put z oq (Nat.le_add_right _ _)) hl hc ht (by rw [List.length_set]; exact hz)
  show H1[gk_b E + (0 + r)]? = some (vp_cell (gk_cy E 2) (n, _))
  rw [e0]
  show some ((arrV (gk_cy E 2) n (fun j => .int (f j))).setSlot _ _) = some (arrV (gk_cy E 2) n (fun j => .int ((upd f i.toNatClampNeg (vp_nar .byte x)) j)))
  rw [arrV_store]
  congr 2
  funext q
  by_cases hq : q = i.toNatClampNeg
  · subst hq
    simp [updV, upd, vp_updL, vp_nar]
    try rfl
  · simp [updV, upd, vp_updL, hq]
theorem gk_zald {E : gk_E} {M : gk_M} {d : gk_B} {pc : Nat} {lv : List (Nat × Value)} {st : List Value} {h : gk_H} {K : Option Value → gk_H → Prop} {r n : Nat} {f : Nat → Int32} {i : Int32} (hd : decode M.2.1 pc = .ok (.baload, 1)) (hr : h[r]? = some (.inl (3, n, .inl f))) (hin : vp_in i n) (kk : gk_G E M d (pc + 1) lv (.int (f i.toNatClampNeg) :: st) h K) : gk_G E M d pc lv (.int i :: .ref r :: st) h K := by
  intro p e R s m args below meth c Q MC MS H locs ls cells slots C Rt hW hS hl hc ht hz
  have key := kk p e R s m args below meth c Q MC MS H locs ls cells slots C Rt hW hS hl hc ht hz
  show W p E.1 e R s m args below meth c H locs cells slots Q (F0 m pc ls (.int i :: .ref (gk_a E r) :: st.map (gk_v E)))
  rw [gk_ar hW hr]
  exact va_zald C.1 C.2.1 C.2.2.2.2.2.2.2.2.1.1 hW.1 r 3 (gk_cell hr) rfl hin hd key
set_option maxHeartbeats 1000000 in
theorem gk_zast {E : gk_E} {M : gk_M} {d : gk_B} {pc : Nat} {lv : List (Nat × Value)} {st : List Value} {h : gk_H} {K : Option Value → gk_H → Prop} {r n : Nat} {f : Nat → Int32} {i : Int32} {x : Int32} (hd : decode M.2.1 pc = .ok (.bastore, 1)) (hr : h[r]? = some (.inl (3, n, .inl f))) (hin : vp_in i n) (kk : gk_G E M d (pc + 1) lv st (h.set r (.inl (3, n, .inl (upd f i.toNatClampNeg (vp_nar .boolean x))))) K) : gk_G E M d pc lv (.int x :: .int i :: .ref r :: st) h K := by
  intro p e R s m args below meth c Q MC MS H locs ls cells slots C Rt hW hS hl hc ht hz
  show W p E.1 e R s m args below meth c H locs cells slots Q (F0 m pc ls (.int x :: .int i :: .ref (gk_a E r) :: st.map (gk_v E)))
  rw [gk_ar hW hr]
  have hP := hW.1 r _ (gk_cell hr)
  have hA : s.isArrayOf (arrV (gk_cy E 3) n (fun j => .int (f j))) .boolean := (C.2.2.2.2.2.2.2.2.1.1.2 3 _ rfl).1 n (fun j => .int (f j))
  refine W.zast C.1 C.2.1 hP hA (fun q => by cases q) (by show ¬ (i < 0 ∨ (arrV _ _ _).slots.size ≤ _); rw [arrV_size]; exact hin) rfl rfl hd fun H1 e0 z oq => ?_
  refine kk p e R s m args below meth c Q MC MS H1 _ ls cells slots C Rt (hW.set hr ?_ oq) (hS.put z oq (Nat.le_add_right _ _)) hl hc ht (by rw [List.length_set]; exact hz)
  show H1[gk_b E + (0 + r)]? = some (vp_cell (gk_cy E 3) (n, _))
  rw [e0]
  show some ((arrV (gk_cy E 3) n (fun j => .int (f j))).setSlot _ _) = some (arrV (gk_cy E 3) n (fun j => .int ((upd f i.toNatClampNeg (vp_nar .boolean x)) j)))
  rw [arrV_store]
  congr 2
  funext q
  by_cases hq : q = i.toNatClampNeg
  · subst hq
    simp [updV, upd, vp_updL, vp_nar]
    try rfl
  · simp [updV, upd, vp_updL, hq]
theorem gk_cald {E : gk_E} {M : gk_M} {d : gk_B} {pc : Nat} {lv : List (Nat × Value)} {st : List Value} {h : gk_H} {K : Option Value → gk_H → Prop} {r n : Nat} {f : Nat → Int32} {i : Int32} (hd : decode M.2.1 pc = .ok (.caload, 1)) (hr : h[r]? = some (.inl (4, n, .inl f))) (hin : vp_in i n) (kk : gk_G E M d (pc + 1) lv (.int (f i.toNatClampNeg) :: st) h K) : gk_G E M d pc lv (.int i :: .ref r :: st) h K := by
  intro p e R s m args below meth c Q MC MS H locs ls cells slots C Rt hW hS hl hc ht hz
  have key := kk p e R s m args below meth c Q MC MS H locs ls cells slots C Rt hW hS hl hc ht hz
  show W p E.1 e R s m args below meth c H locs cells slots Q (F0 m pc ls (.int i :: .ref (gk_a E r) :: st.map (gk_v E)))
  rw [gk_ar hW hr]
  exact va_cald C.1 C.2.1 C.2.2.2.2.2.2.2.2.1.1 hW.1 r 4 (gk_cell hr) rfl hin hd key
set_option maxHeartbeats 1000000 in
theorem gk_cast {E : gk_E} {M : gk_M} {d : gk_B} {pc : Nat} {lv : List (Nat × Value)} {st : List Value} {h : gk_H} {K : Option Value → gk_H → Prop} {r n : Nat} {f : Nat → Int32} {i : Int32} {x : Int32} (hd : decode M.2.1 pc = .ok (.castore, 1)) (hr : h[r]? = some (.inl (4, n, .inl f))) (hin : vp_in i n) (kk : gk_G E M d (pc + 1) lv st (h.set r (.inl (4, n, .inl (upd f i.toNatClampNeg (vp_nar .char x))))) K) : gk_G E M d pc lv (.int x :: .int i :: .ref r :: st) h K := by
  intro p e R s m args below meth c Q MC MS H locs ls cells slots C Rt hW hS hl hc ht hz
  show W p E.1 e R s m args below meth c H locs cells slots Q (F0 m pc ls (.int x :: .int i :: .ref (gk_a E r) :: st.map (gk_v E)))
  rw [gk_ar hW hr]
  have hP := hW.1 r _ (gk_cell hr)
  have hA : s.isArrayOf (arrV (gk_cy E 4) n (fun j => .int (f j))) .char := (C.2.2.2.2.2.2.2.2.1.1.2 4 _ rfl).1 n (fun j => .int (f j))
  refine W.cast C.1 C.2.1 hP hA (fun q => by cases q) (by show ¬ (i < 0 ∨ (arrV _ _ _).slots.size ≤ _); rw [arrV_size]; exact hin) rfl rfl hd fun H1 e0 z oq => ?_
  refine kk p e R s m args below meth c Q MC MS H1 _ ls cells slots C Rt (hW.set hr ?_ oq) (hS.put z oq (Nat.le_add_right _ _)) hl hc ht (by rw [List.length_set]; exact hz)
  show H1[gk_b E + (0 + r)]? = some (vp_cell (gk_cy E 4) (n, _))
  rw [e0]
  show some ((arrV (gk_cy E 4) n (fun j => .int (f j))).setSlot _ _) = some (arrV (gk_cy E 4) n (fun j => .int ((upd f i.toNatClampNeg (vp_nar .char x)) j)))
  rw [arrV_store]
  congr 2
  funext q
  by_cases hq : q = i.toNatClampNeg
  · subst hq
    simp [updV, upd, vp_updL, vp_nar]
    try rfl
  · simp [updV, upd, vp_updL, hq]
theorem gk_lald {E : gk_E} {M : gk_M} {d : gk_B} {pc : Nat} {lv : List (Nat × Value)} {st : List Value} {h : gk_H} {K : Option Value → gk_H → Prop} {r n : Nat} {f : Nat → Int64} {i : Int32} (hd : decode M.2.1 pc = .ok (.laload, 1)) (hr : h[r]? = some (.inl (1, n, .inr (.inl f)))) (hin : vp_in i n) (kk : gk_G E M d (pc + 1) lv (.long (f i.toNatClampNeg) :: st) h K) : gk_G E M d pc lv (.int i :: .ref r :: st) h K := by
  intro p e R s m args below meth c Q MC MS H locs ls cells slots C Rt hW hS hl hc ht hz
  have key := kk p e R s m args below meth c Q MC MS H locs ls cells slots C Rt hW hS hl hc ht hz
  show W p E.1 e R s m args below meth c H locs cells slots Q (F0 m pc ls (.int i :: .ref (gk_a E r) :: st.map (gk_v E)))
  rw [gk_ar hW hr]
  exact va_lald C.1 C.2.1 C.2.2.2.2.2.2.2.2.1.1 hW.1 r 1 (gk_cell hr) rfl hin hd key
set_option maxHeartbeats 1000000 in
theorem gk_last {E : gk_E} {M : gk_M} {d : gk_B} {pc : Nat} {lv : List (Nat × Value)} {st : List Value} {h : gk_H} {K : Option Value → gk_H → Prop} {r n : Nat} {f : Nat → Int64} {i : Int32} {x : Int64} (hd : decode M.2.1 pc = .ok (.lastore, 1)) (hr : h[r]? = some (.inl (1, n, .inr (.inl f)))) (hin : vp_in i n) (kk : gk_G E M d (pc + 1) lv st (h.set r (.inl (1, n, .inr (.inl (vp_updL f i.toNatClampNeg x))))) K) : gk_G E M d pc lv (.long x :: .int i :: .ref r :: st) h K := by
  intro p e R s m args below meth c Q MC MS H locs ls cells slots C Rt hW hS hl hc ht hz
  show W p E.1 e R s m args below meth c H locs cells slots Q (F0 m pc ls (.long x :: .int i :: .ref (gk_a E r) :: st.map (gk_v E)))
  rw [gk_ar hW hr]
  have hP := hW.1 r _ (gk_cell hr)
  have hA : s.isArrayOf (arrV (gk_cy E 1) n (fun j => .long (f j))) .long := (C.2.2.2.2.2.2.2.2.1.1.2 1 _ rfl).1 n (fun j => .long (f j))
  refine W.last C.1 C.2.1 hP hA (fun q => by cases q) (by show ¬ (i < 0 ∨ (arrV _ _ _).slots.size ≤ _); rw [arrV_size]; exact hin) rfl rfl hd fun H1 e0 z oq => ?_
  refine kk p e R s m args below meth c Q MC MS H1 _ ls cells slots C Rt (hW.set hr ?_ oq) (hS.put z oq (Nat.le_add_right _ _)) hl hc ht (by rw [List.length_set]; exact hz)
  show H1[gk_b E + (0 + r)]? = some (vp_cell (gk_cy E 1) (n, _))
  rw [e0]
  show some ((arrV (gk_cy E 1) n (fun j => .long (f j))).setSlot _ _) = some (arrV (gk_cy E 1) n (fun j => .long ((vp_updL f i.toNatClampNeg x) j)))
  rw [arrV_store]
  congr 2
  funext q
  by_cases hq : q = i.toNatClampNeg
  · subst hq
    simp [updV, upd, vp_updL, vp_nar]
    try rfl
  · simp [updV, upd, vp_updL, hq]
theorem gk_aald5 {E : gk_E} {M : gk_M} {d : gk_B} {pc : Nat} {lv : List (Nat × Value)} {st : List Value} {h : gk_H} {K : Option Value → gk_H → Prop} {r n : Nat} {f : Nat → Option Nat} {i : Int32} (a : Nat) (hd : decode M.2.1 pc = .ok (.aaload, 1)) (hr : h[r]? = some (.inl (5, n, .inr (.inr (.inr (.inr f)))))) (hin : vp_in i n) (ha : f i.toNatClampNeg = some a) (kk : gk_G E M d (pc + 1) lv (.ref a :: st) h K) : gk_G E M d pc lv (.int i :: .ref r :: st) h K := by
  intro p e R s m args below meth c Q MC MS H locs ls cells slots C Rt hW hS hl hc ht hz
  have key := kk p e R s m args below meth c Q MC MS H locs ls cells slots C Rt hW hS hl hc ht hz
  show W p E.1 e R s m args below meth c H locs cells slots Q (F0 m pc ls (.int i :: .ref (gk_a E r) :: st.map (gk_v E)))
  rw [gk_ar hW hr]
  refine va_aldq C.1 C.2.1 C.2.2.2.2.2.2.2.2.1.1 hW.1 r 5 (C := RX3) (gk_cell hr) rfl hin hd ?_
  show W p E.1 e R s m args below meth c H locs cells slots Q (F0 m (pc + 1) ls (va_rf ((f i.toNatClampNeg).map (gk_a E)) :: st.map (gk_v E)))
  rw [ha]
  exact key
theorem gk_aald6 {E : gk_E} {M : gk_M} {d : gk_B} {pc : Nat} {lv : List (Nat × Value)} {st : List Value} {h : gk_H} {K : Option Value → gk_H → Prop} {r n : Nat} {f : Nat → Option Nat} {i : Int32} (a : Nat) (hd : decode M.2.1 pc = .ok (.aaload, 1)) (hr : h[r]? = some (.inl (6, n, .inr (.inr (.inr (.inr f)))))) (hin : vp_in i n) (ha : f i.toNatClampNeg = some a) (kk : gk_G E M d (pc + 1) lv (.ref a :: st) h K) : gk_G E M d pc lv (.int i :: .ref r :: st) h K := by
  intro p e R s m args below meth c Q MC MS H locs ls cells slots C Rt hW hS hl hc ht hz
  have key := kk p e R s m args below meth c Q MC MS H locs ls cells slots C Rt hW hS hl hc ht hz
  show W p E.1 e R s m args below meth c H locs cells slots Q (F0 m pc ls (.int i :: .ref (gk_a E r) :: st.map (gk_v E)))
  rw [gk_ar hW hr]
  refine va_aldq C.1 C.2.1 C.2.2.2.2.2.2.2.2.1.1 hW.1 r 6 (C := RX6) (gk_cell hr) rfl hin hd ?_
  show W p E.1 e R s m args below meth c H locs cells slots Q (F0 m (pc + 1) ls (va_rf ((f i.toNatClampNeg).map (gk_a E)) :: st.map (gk_v E)))
  rw [ha]
  exact key
theorem gk_scr_ld {E : gk_E} {M : gk_M} {d : gk_B} {pc : Nat} {lv : List (Nat × Value)} {st : List Value} {h : gk_H} {K : Option Value → gk_H → Prop} {i : Int32} (hd : decode M.2.1 pc = .ok (.iaload, 1)) (hin : vp_in i (gk_scr E).2.1) (kk : gk_G E M d (pc + 1) lv (.int ((gk_scr E).2.2 i.toNatClampNeg) :: st) h K) : gk_G E M d pc lv (.int i :: .ref 1000000 :: st) h K := by
  intro p e R s m args below meth c Q MC MS H locs ls cells slots C Rt hW hS hl hc ht hz
  have key := kk p e R s m args below meth c Q MC MS H locs ls cells slots C Rt hW hS hl hc ht hz
  have hSw := C.2.2.2.2.2.2.2.2.1
  exact va_sld C.1 C.2.1 hSw.2.1 (Nat.lt_of_lt_of_le hSw.2.2.1 hSw.2.2.2.1) (Nat.not_le.mpr hSw.2.2.1) hS hin hd key
end
section
theorem i_vc : Claimed_1_1 ∧ Claimed_1_2 := sorry
end
