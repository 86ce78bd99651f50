section
-- ===== PART A: goes FIRST, ahead of the names: the tables' words, and 'selects' of the private methods out of them =====
/-- a private method of a class that the tables say can be made, by its rows of tables_1 -/
def lw_okq (q : MethodName × Nat) : Prop := (q.1.cls ≠ "java/lang/invoke/MethodHandle" ∧ q.1.cls ≠ "java/lang/invoke/VarHandle") ∧ Cond.instantiable q.1.cls q.2 ∈ tables_1 ∧ Cond.privateMethod q.1 ∈ tables_1 ∧ Cond.instanceMethod q.1 ∈ tables_1
theorem lw_p0 : lw_okq (⟨"AtomTables$Table", "keepFixed", "()V"⟩, 3) := ⟨⟨by decide +kernel, by decide +kernel⟩, List.mem_of_getElem? (i := 36) (by decide +kernel), List.mem_of_getElem? (i := 46) (by decide +kernel), List.mem_of_getElem? (i := 47) (by decide +kernel)⟩
theorem lw_p1 : lw_okq (⟨"AtomTables", "forgetNetworks", "()V"⟩, 12) := ⟨⟨by decide +kernel, by decide +kernel⟩, List.mem_of_getElem? (i := 22) (by decide +kernel), List.mem_of_getElem? (i := 350) (by decide +kernel), List.mem_of_getElem? (i := 351) (by decide +kernel)⟩
theorem lw_p2 : lw_okq (⟨"AtomTables", "isAtomButZero", "(I)Z"⟩, 12) := ⟨⟨by decide +kernel, by decide +kernel⟩, List.mem_of_getElem? (i := 22) (by decide +kernel), List.mem_of_getElem? (i := 362) (by decide +kernel), List.mem_of_getElem? (i := 363) (by decide +kernel)⟩
theorem lw_p3 : lw_okq (⟨"AtomTables$Table", "free", "(I)V"⟩, 3) := ⟨⟨by decide +kernel, by decide +kernel⟩, List.mem_of_getElem? (i := 36) (by decide +kernel), List.mem_of_getElem? (i := 370) (by decide +kernel), List.mem_of_getElem? (i := 371) (by decide +kernel)⟩
theorem lw_p4 : lw_okq (⟨"AtomTables", "isRelation", "(I)Z"⟩, 12) := ⟨⟨by decide +kernel, by decide +kernel⟩, List.mem_of_getElem? (i := 22) (by decide +kernel), List.mem_of_getElem? (i := 382) (by decide +kernel), List.mem_of_getElem? (i := 383) (by decide +kernel)⟩
theorem lw_p5 : lw_okq (⟨"AtomTables", "isAtom", "(I)Z"⟩, 12) := ⟨⟨by decide +kernel, by decide +kernel⟩, List.mem_of_getElem? (i := 22) (by decide +kernel), List.mem_of_getElem? (i := 398) (by decide +kernel), List.mem_of_getElem? (i := 399) (by decide +kernel)⟩
theorem lw_p6 : lw_okq (⟨"AtomTables$Table", "sided", "(III)I"⟩, 3) := ⟨⟨by decide +kernel, by decide +kernel⟩, List.mem_of_getElem? (i := 36) (by decide +kernel), List.mem_of_getElem? (i := 444) (by decide +kernel), List.mem_of_getElem? (i := 445) (by decide +kernel)⟩
theorem lw_p7 : lw_okq (⟨"AtomTables$Table", "isUnbalanced", "(III)Z"⟩, 3) := ⟨⟨by decide +kernel, by decide +kernel⟩, List.mem_of_getElem? (i := 36) (by decide +kernel), List.mem_of_getElem? (i := 483) (by decide +kernel), List.mem_of_getElem? (i := 484) (by decide +kernel)⟩
theorem lw_p8 : lw_okq (⟨"AtomTables", "isNode", "(II)Z"⟩, 12) := ⟨⟨by decide +kernel, by decide +kernel⟩, List.mem_of_getElem? (i := 22) (by decide +kernel), List.mem_of_getElem? (i := 535) (by decide +kernel), List.mem_of_getElem? (i := 536) (by decide +kernel)⟩
theorem lw_p9 : lw_okq (⟨"AtomTables$Pictures", "goes", "(I)Z"⟩, 8) := ⟨⟨by decide +kernel, by decide +kernel⟩, List.mem_of_getElem? (i := 267) (by decide +kernel), List.mem_of_getElem? (i := 639) (by decide +kernel), List.mem_of_getElem? (i := 640) (by decide +kernel)⟩
theorem lw_p10 : lw_okq (⟨"AtomTables$Filler", "isAllowed", "([I)Z"⟩, 5) := ⟨⟨by decide +kernel, by decide +kernel⟩, List.mem_of_getElem? (i := 164) (by decide +kernel), List.mem_of_getElem? (i := 654) (by decide +kernel), List.mem_of_getElem? (i := 655) (by decide +kernel)⟩
theorem lw_p11 : lw_okq (⟨"AtomTables$Patterns", "look", "(LAtomTables$Net;LAtomTables$Net;)V"⟩, 7) := ⟨⟨by decide +kernel, by decide +kernel⟩, List.mem_of_getElem? (i := 119) (by decide +kernel), List.mem_of_getElem? (i := 663) (by decide +kernel), List.mem_of_getElem? (i := 664) (by decide +kernel)⟩
theorem lw_p12 : lw_okq (⟨"AtomTables", "gameRefusal", "(II)I"⟩, 12) := ⟨⟨by decide +kernel, by decide +kernel⟩, List.mem_of_getElem? (i := 22) (by decide +kernel), List.mem_of_getElem? (i := 708) (by decide +kernel), List.mem_of_getElem? (i := 709) (by decide +kernel)⟩
theorem lw_p13 : lw_okq (⟨"AtomTables", "isPlayable", "(LAtomTables$Net;)Z"⟩, 12) := ⟨⟨by decide +kernel, by decide +kernel⟩, List.mem_of_getElem? (i := 22) (by decide +kernel), List.mem_of_getElem? (i := 712) (by decide +kernel), List.mem_of_getElem? (i := 713) (by decide +kernel)⟩
theorem lw_p14 : lw_okq (⟨"AtomTables$Game", "outlives", "(I)Z"⟩, 5) := ⟨⟨by decide +kernel, by decide +kernel⟩, List.mem_of_getElem? (i := 206) (by decide +kernel), List.mem_of_getElem? (i := 722) (by decide +kernel), List.mem_of_getElem? (i := 723) (by decide +kernel)⟩
theorem lw_p15 : lw_okq (⟨"AtomTables$Game", "findGaps", "([I)V"⟩, 5) := ⟨⟨by decide +kernel, by decide +kernel⟩, List.mem_of_getElem? (i := 206) (by decide +kernel), List.mem_of_getElem? (i := 726) (by decide +kernel), List.mem_of_getElem? (i := 727) (by decide +kernel)⟩
def lw_privs_1 : List (MethodName × Nat) := [(⟨"AtomTables$Table", "keepFixed", "()V"⟩, 3), (⟨"AtomTables", "forgetNetworks", "()V"⟩, 12), (⟨"AtomTables", "isAtomButZero", "(I)Z"⟩, 12), (⟨"AtomTables$Table", "free", "(I)V"⟩, 3), (⟨"AtomTables", "isRelation", "(I)Z"⟩, 12), (⟨"AtomTables", "isAtom", "(I)Z"⟩, 12), (⟨"AtomTables$Table", "sided", "(III)I"⟩, 3), (⟨"AtomTables$Table", "isUnbalanced", "(III)Z"⟩, 3), (⟨"AtomTables", "isNode", "(II)Z"⟩, 12), (⟨"AtomTables$Pictures", "goes", "(I)Z"⟩, 8), (⟨"AtomTables$Filler", "isAllowed", "([I)Z"⟩, 5), (⟨"AtomTables$Patterns", "look", "(LAtomTables$Net;LAtomTables$Net;)V"⟩, 7), (⟨"AtomTables", "gameRefusal", "(II)I"⟩, 12), (⟨"AtomTables", "isPlayable", "(LAtomTables$Net;)Z"⟩, 12), (⟨"AtomTables$Game", "outlives", "(I)Z"⟩, 5), (⟨"AtomTables$Game", "findGaps", "([I)V"⟩, 5)]
theorem lw_r1 : ∀ q ∈ lw_privs_1, lw_okq q := List.forall_mem_cons.mpr ⟨lw_p0, List.forall_mem_cons.mpr ⟨lw_p1, List.forall_mem_cons.mpr ⟨lw_p2, List.forall_mem_cons.mpr ⟨lw_p3, List.forall_mem_cons.mpr ⟨lw_p4, List.forall_mem_cons.mpr ⟨lw_p5, List.forall_mem_cons.mpr ⟨lw_p6, List.forall_mem_cons.mpr ⟨lw_p7, List.forall_mem_cons.mpr ⟨lw_p8, List.forall_mem_cons.mpr ⟨lw_p9, List.forall_mem_cons.mpr ⟨lw_p10, List.forall_mem_cons.mpr ⟨lw_p11, List.forall_mem_cons.mpr ⟨lw_p12, List.forall_mem_cons.mpr ⟨lw_p13, List.forall_mem_cons.mpr ⟨lw_p14, List.forall_mem_cons.mpr ⟨lw_p15, fun _ h => absurd h List.not_mem_nil⟩⟩⟩⟩⟩⟩⟩⟩⟩⟩⟩⟩⟩⟩⟩⟩
theorem lw_p16 : lw_okq (⟨"AtomTables$Game", "isOpen", "([I)Z"⟩, 5) := ⟨⟨by decide +kernel, by decide +kernel⟩, List.mem_of_getElem? (i := 206) (by decide +kernel), List.mem_of_getElem? (i := 732) (by decide +kernel), List.mem_of_getElem? (i := 733) (by decide +kernel)⟩
theorem lw_p17 : lw_okq (⟨"AtomTables$Game", "answers", "([I[I)Z"⟩, 5) := ⟨⟨by decide +kernel, by decide +kernel⟩, List.mem_of_getElem? (i := 206) (by decide +kernel), List.mem_of_getElem? (i := 738) (by decide +kernel), List.mem_of_getElem? (i := 739) (by decide +kernel)⟩
theorem lw_p18 : lw_okq (⟨"AtomTables$Game", "stands", "([II)Z"⟩, 5) := ⟨⟨by decide +kernel, by decide +kernel⟩, List.mem_of_getElem? (i := 206) (by decide +kernel), List.mem_of_getElem? (i := 742) (by decide +kernel), List.mem_of_getElem? (i := 743) (by decide +kernel)⟩
theorem lw_p19 : lw_okq (⟨"AtomTables$Game", "strike", "([I[I)V"⟩, 5) := ⟨⟨by decide +kernel, by decide +kernel⟩, List.mem_of_getElem? (i := 206) (by decide +kernel), List.mem_of_getElem? (i := 748) (by decide +kernel), List.mem_of_getElem? (i := 749) (by decide +kernel)⟩
theorem lw_p20 : lw_okq (⟨"AtomTables$Board", "append", "(II)V"⟩, 6) := ⟨⟨by decide +kernel, by decide +kernel⟩, List.mem_of_getElem? (i := 235) (by decide +kernel), List.mem_of_getElem? (i := 776) (by decide +kernel), List.mem_of_getElem? (i := 777) (by decide +kernel)⟩
theorem lw_p21 : lw_okq (⟨"AtomTables$Board", "dropClosed", "()V"⟩, 6) := ⟨⟨by decide +kernel, by decide +kernel⟩, List.mem_of_getElem? (i := 235) (by decide +kernel), List.mem_of_getElem? (i := 802) (by decide +kernel), List.mem_of_getElem? (i := 803) (by decide +kernel)⟩
theorem lw_p22 : lw_okq (⟨"AtomTables$Pictures", "isFull", "()Z"⟩, 8) := ⟨⟨by decide +kernel, by decide +kernel⟩, List.mem_of_getElem? (i := 267) (by decide +kernel), List.mem_of_getElem? (i := 834) (by decide +kernel), List.mem_of_getElem? (i := 835) (by decide +kernel)⟩
theorem lw_p23 : lw_okq (⟨"AtomTables$Pictures", "readDue", "()V"⟩, 8) := ⟨⟨by decide +kernel, by decide +kernel⟩, List.mem_of_getElem? (i := 267) (by decide +kernel), List.mem_of_getElem? (i := 839) (by decide +kernel), List.mem_of_getElem? (i := 840) (by decide +kernel)⟩
theorem lw_p24 : lw_okq (⟨"AtomTables$Pictures", "misfit", "()I"⟩, 8) := ⟨⟨by decide +kernel, by decide +kernel⟩, List.mem_of_getElem? (i := 267) (by decide +kernel), List.mem_of_getElem? (i := 847) (by decide +kernel), List.mem_of_getElem? (i := 848) (by decide +kernel)⟩
theorem lw_p25 : lw_okq (⟨"AtomTables$Tape", "isWord", "(IILjava/lang/String;)Z"⟩, 2) := ⟨⟨by decide +kernel, by decide +kernel⟩, List.mem_of_getElem? (i := 291) (by decide +kernel), List.mem_of_getElem? (i := 912) (by decide +kernel), List.mem_of_getElem? (i := 913) (by decide +kernel)⟩
theorem lw_p26 : lw_okq (⟨"AtomTables$Tape", "goodFigures", "(II)I"⟩, 2) := ⟨⟨by decide +kernel, by decide +kernel⟩, List.mem_of_getElem? (i := 291) (by decide +kernel), List.mem_of_getElem? (i := 971) (by decide +kernel), List.mem_of_getElem? (i := 972) (by decide +kernel)⟩
theorem lw_p27 : lw_okq (⟨"AtomTables$Tape", "isDue", "(IZ)Z"⟩, 2) := ⟨⟨by decide +kernel, by decide +kernel⟩, List.mem_of_getElem? (i := 291) (by decide +kernel), List.mem_of_getElem? (i := 975) (by decide +kernel), List.mem_of_getElem? (i := 976) (by decide +kernel)⟩
theorem lw_p28 : lw_okq (⟨"AtomTables", "perform", "()I"⟩, 12) := ⟨⟨by decide +kernel, by decide +kernel⟩, List.mem_of_getElem? (i := 22) (by decide +kernel), List.mem_of_getElem? (i := 979) (by decide +kernel), List.mem_of_getElem? (i := 980) (by decide +kernel)⟩
theorem lw_p29 : lw_okq (⟨"AtomTables", "statement", "(II)I"⟩, 12) := ⟨⟨by decide +kernel, by decide +kernel⟩, List.mem_of_getElem? (i := 22) (by decide +kernel), List.mem_of_getElem? (i := 985) (by decide +kernel), List.mem_of_getElem? (i := 986) (by decide +kernel)⟩
theorem lw_p30 : lw_okq (⟨"AtomTables$Tape", "writeWord", "(Ljava/lang/String;)V"⟩, 2) := ⟨⟨by decide +kernel, by decide +kernel⟩, List.mem_of_getElem? (i := 291) (by decide +kernel), List.mem_of_getElem? (i := 1005) (by decide +kernel), List.mem_of_getElem? (i := 1006) (by decide +kernel)⟩
theorem lw_p31 : lw_okq (⟨"AtomTables$Tape", "writeFigure", "(I)V"⟩, 2) := ⟨⟨by decide +kernel, by decide +kernel⟩, List.mem_of_getElem? (i := 291) (by decide +kernel), List.mem_of_getElem? (i := 1010) (by decide +kernel), List.mem_of_getElem? (i := 1011) (by decide +kernel)⟩
def lw_privs_2 : List (MethodName × Nat) := [(⟨"AtomTables$Game", "isOpen", "([I)Z"⟩, 5), (⟨"AtomTables$Game", "answers", "([I[I)Z"⟩, 5), (⟨"AtomTables$Game", "stands", "([II)Z"⟩, 5), (⟨"AtomTables$Game", "strike", "([I[I)V"⟩, 5), (⟨"AtomTables$Board", "append", "(II)V"⟩, 6), (⟨"AtomTables$Board", "dropClosed", "()V"⟩, 6), (⟨"AtomTables$Pictures", "isFull", "()Z"⟩, 8), (⟨"AtomTables$Pictures", "readDue", "()V"⟩, 8), (⟨"AtomTables$Pictures", "misfit", "()I"⟩, 8), (⟨"AtomTables$Tape", "isWord", "(IILjava/lang/String;)Z"⟩, 2), (⟨"AtomTables$Tape", "goodFigures", "(II)I"⟩, 2), (⟨"AtomTables$Tape", "isDue", "(IZ)Z"⟩, 2), (⟨"AtomTables", "perform", "()I"⟩, 12), (⟨"AtomTables", "statement", "(II)I"⟩, 12), (⟨"AtomTables$Tape", "writeWord", "(Ljava/lang/String;)V"⟩, 2), (⟨"AtomTables$Tape", "writeFigure", "(I)V"⟩, 2)]
theorem lw_r2 : ∀ q ∈ lw_privs_2, lw_okq q := List.forall_mem_cons.mpr ⟨lw_p16, List.forall_mem_cons.mpr ⟨lw_p17, List.forall_mem_cons.mpr ⟨lw_p18, List.forall_mem_cons.mpr ⟨lw_p19, List.forall_mem_cons.mpr ⟨lw_p20, List.forall_mem_cons.mpr ⟨lw_p21, List.forall_mem_cons.mpr ⟨lw_p22, List.forall_mem_cons.mpr ⟨lw_p23, List.forall_mem_cons.mpr ⟨lw_p24, List.forall_mem_cons.mpr ⟨lw_p25, List.forall_mem_cons.mpr ⟨lw_p26, List.forall_mem_cons.mpr ⟨lw_p27, List.forall_mem_cons.mpr ⟨lw_p28, List.forall_mem_cons.mpr ⟨lw_p29, List.forall_mem_cons.mpr ⟨lw_p30, List.forall_mem_cons.mpr ⟨lw_p31, fun _ h => absurd h List.not_mem_nil⟩⟩⟩⟩⟩⟩⟩⟩⟩⟩⟩⟩⟩⟩⟩⟩
theorem lw_p32 : lw_okq (⟨"AtomTables$Tape", "writeThree", "(III)V"⟩, 2) := ⟨⟨by decide +kernel, by decide +kernel⟩, List.mem_of_getElem? (i := 291) (by decide +kernel), List.mem_of_getElem? (i := 1017) (by decide +kernel), List.mem_of_getElem? (i := 1018) (by decide +kernel)⟩
theorem lw_p33 : lw_okq (⟨"AtomTables", "listsPresent", "()I"⟩, 12) := ⟨⟨by decide +kernel, by decide +kernel⟩, List.mem_of_getElem? (i := 22) (by decide +kernel), List.mem_of_getElem? (i := 1043) (by decide +kernel), List.mem_of_getElem? (i := 1044) (by decide +kernel)⟩
theorem lw_p34 : lw_okq (⟨"AtomTablesModel", "fixes", "()V"⟩, 34) := ⟨⟨by decide +kernel, by decide +kernel⟩, List.mem_of_getElem? (i := 1047) (by decide +kernel), List.mem_of_getElem? (i := 1053) (by decide +kernel), List.mem_of_getElem? (i := 1054) (by decide +kernel)⟩
theorem lw_p35 : lw_okq (⟨"AtomTablesModel", "isOther", "(I)Z"⟩, 34) := ⟨⟨by decide +kernel, by decide +kernel⟩, List.mem_of_getElem? (i := 1047) (by decide +kernel), List.mem_of_getElem? (i := 1174) (by decide +kernel), List.mem_of_getElem? (i := 1175) (by decide +kernel)⟩
theorem lw_p36 : lw_okq (⟨"AtomTablesModel", "isRelation", "(I)Z"⟩, 34) := ⟨⟨by decide +kernel, by decide +kernel⟩, List.mem_of_getElem? (i := 1047) (by decide +kernel), List.mem_of_getElem? (i := 1182) (by decide +kernel), List.mem_of_getElem? (i := 1183) (by decide +kernel)⟩
theorem lw_p37 : lw_okq (⟨"AtomTablesModel", "turned", "(I)I"⟩, 34) := ⟨⟨by decide +kernel, by decide +kernel⟩, List.mem_of_getElem? (i := 1047) (by decide +kernel), List.mem_of_getElem? (i := 1186) (by decide +kernel), List.mem_of_getElem? (i := 1187) (by decide +kernel)⟩
theorem lw_p38 : lw_okq (⟨"AtomTablesModel", "isAtom", "(I)Z"⟩, 34) := ⟨⟨by decide +kernel, by decide +kernel⟩, List.mem_of_getElem? (i := 1047) (by decide +kernel), List.mem_of_getElem? (i := 1197) (by decide +kernel), List.mem_of_getElem? (i := 1198) (by decide +kernel)⟩
theorem lw_p39 : lw_okq (⟨"AtomTablesModel", "turn", "(IIII)I"⟩, 34) := ⟨⟨by decide +kernel, by decide +kernel⟩, List.mem_of_getElem? (i := 1047) (by decide +kernel), List.mem_of_getElem? (i := 1201) (by decide +kernel), List.mem_of_getElem? (i := 1202) (by decide +kernel)⟩
theorem lw_p40 : lw_okq (⟨"AtomTablesModel", "is", "(III)Z"⟩, 34) := ⟨⟨by decide +kernel, by decide +kernel⟩, List.mem_of_getElem? (i := 1047) (by decide +kernel), List.mem_of_getElem? (i := 1209) (by decide +kernel), List.mem_of_getElem? (i := 1210) (by decide +kernel)⟩
theorem lw_p41 : lw_okq (⟨"AtomTablesModel", "composed", "(II)I"⟩, 34) := ⟨⟨by decide +kernel, by decide +kernel⟩, List.mem_of_getElem? (i := 1047) (by decide +kernel), List.mem_of_getElem? (i := 1217) (by decide +kernel), List.mem_of_getElem? (i := 1218) (by decide +kernel)⟩
theorem lw_p42 : lw_okq (⟨"AtomTablesModel", "composedBy", "(III)I"⟩, 34) := ⟨⟨by decide +kernel, by decide +kernel⟩, List.mem_of_getElem? (i := 1047) (by decide +kernel), List.mem_of_getElem? (i := 1225) (by decide +kernel), List.mem_of_getElem? (i := 1226) (by decide +kernel)⟩
theorem lw_p43 : lw_okq (⟨"AtomTablesModel", "powerOf", "(II)I"⟩, 34) := ⟨⟨by decide +kernel, by decide +kernel⟩, List.mem_of_getElem? (i := 1047) (by decide +kernel), List.mem_of_getElem? (i := 1233) (by decide +kernel), List.mem_of_getElem? (i := 1234) (by decide +kernel)⟩
theorem lw_p44 : lw_okq (⟨"AtomTablesModel", "isEquivalence", "(I)Z"⟩, 34) := ⟨⟨by decide +kernel, by decide +kernel⟩, List.mem_of_getElem? (i := 1047) (by decide +kernel), List.mem_of_getElem? (i := 1241) (by decide +kernel), List.mem_of_getElem? (i := 1242) (by decide +kernel)⟩
theorem lw_p45 : lw_okq (⟨"AtomTablesModel", "isLeast", "(III)Z"⟩, 34) := ⟨⟨by decide +kernel, by decide +kernel⟩, List.mem_of_getElem? (i := 1047) (by decide +kernel), List.mem_of_getElem? (i := 1259) (by decide +kernel), List.mem_of_getElem? (i := 1260) (by decide +kernel)⟩
theorem lw_p46 : lw_okq (⟨"AtomTablesModel", "cycleOf", "(III)I"⟩, 34) := ⟨⟨by decide +kernel, by decide +kernel⟩, List.mem_of_getElem? (i := 1047) (by decide +kernel), List.mem_of_getElem? (i := 1263) (by decide +kernel), List.mem_of_getElem? (i := 1264) (by decide +kernel)⟩
theorem lw_p47 : lw_okq (⟨"AtomTablesModel", "areAtoms", "(II)Z"⟩, 34) := ⟨⟨by decide +kernel, by decide +kernel⟩, List.mem_of_getElem? (i := 1047) (by decide +kernel), List.mem_of_getElem? (i := 1275) (by decide +kernel), List.mem_of_getElem? (i := 1276) (by decide +kernel)⟩
def lw_privs_3 : List (MethodName × Nat) := [(⟨"AtomTables$Tape", "writeThree", "(III)V"⟩, 2), (⟨"AtomTables", "listsPresent", "()I"⟩, 12), (⟨"AtomTablesModel", "fixes", "()V"⟩, 34), (⟨"AtomTablesModel", "isOther", "(I)Z"⟩, 34), (⟨"AtomTablesModel", "isRelation", "(I)Z"⟩, 34), (⟨"AtomTablesModel", "turned", "(I)I"⟩, 34), (⟨"AtomTablesModel", "isAtom", "(I)Z"⟩, 34), (⟨"AtomTablesModel", "turn", "(IIII)I"⟩, 34), (⟨"AtomTablesModel", "is", "(III)Z"⟩, 34), (⟨"AtomTablesModel", "composed", "(II)I"⟩, 34), (⟨"AtomTablesModel", "composedBy", "(III)I"⟩, 34), (⟨"AtomTablesModel", "powerOf", "(II)I"⟩, 34), (⟨"AtomTablesModel", "isEquivalence", "(I)Z"⟩, 34), (⟨"AtomTablesModel", "isLeast", "(III)Z"⟩, 34), (⟨"AtomTablesModel", "cycleOf", "(III)I"⟩, 34), (⟨"AtomTablesModel", "areAtoms", "(II)Z"⟩, 34)]
theorem lw_r3 : ∀ q ∈ lw_privs_3, lw_okq q := List.forall_mem_cons.mpr ⟨lw_p32, List.forall_mem_cons.mpr ⟨lw_p33, List.forall_mem_cons.mpr ⟨lw_p34, List.forall_mem_cons.mpr ⟨lw_p35, List.forall_mem_cons.mpr ⟨lw_p36, List.forall_mem_cons.mpr ⟨lw_p37, List.forall_mem_cons.mpr ⟨lw_p38, List.forall_mem_cons.mpr ⟨lw_p39, List.forall_mem_cons.mpr ⟨lw_p40, List.forall_mem_cons.mpr ⟨lw_p41, List.forall_mem_cons.mpr ⟨lw_p42, List.forall_mem_cons.mpr ⟨lw_p43, List.forall_mem_cons.mpr ⟨lw_p44, List.forall_mem_cons.mpr ⟨lw_p45, List.forall_mem_cons.mpr ⟨lw_p46, List.forall_mem_cons.mpr ⟨lw_p47, fun _ h => absurd h List.not_mem_nil⟩⟩⟩⟩⟩⟩⟩⟩⟩⟩⟩⟩⟩⟩⟩⟩
theorem lw_p48 : lw_okq (⟨"AtomTablesModel", "comes", "(II)V"⟩, 34) := ⟨⟨by decide +kernel, by decide +kernel⟩, List.mem_of_getElem? (i := 1047) (by decide +kernel), List.mem_of_getElem? (i := 1279) (by decide +kernel), List.mem_of_getElem? (i := 1280) (by decide +kernel)⟩
theorem lw_p49 : lw_okq (⟨"AtomTablesModel", "lays", "(IIII)V"⟩, 34) := ⟨⟨by decide +kernel, by decide +kernel⟩, List.mem_of_getElem? (i := 1047) (by decide +kernel), List.mem_of_getElem? (i := 1286) (by decide +kernel), List.mem_of_getElem? (i := 1287) (by decide +kernel)⟩
theorem lw_p50 : lw_okq (⟨"AtomTablesModel", "isNode", "(II)Z"⟩, 34) := ⟨⟨by decide +kernel, by decide +kernel⟩, List.mem_of_getElem? (i := 1047) (by decide +kernel), List.mem_of_getElem? (i := 1298) (by decide +kernel), List.mem_of_getElem? (i := 1299) (by decide +kernel)⟩
theorem lw_p51 : lw_okq (⟨"AtomTablesModel", "labelOf", "(III)I"⟩, 34) := ⟨⟨by decide +kernel, by decide +kernel⟩, List.mem_of_getElem? (i := 1047) (by decide +kernel), List.mem_of_getElem? (i := 1302) (by decide +kernel), List.mem_of_getElem? (i := 1303) (by decide +kernel)⟩
theorem lw_p52 : lw_okq (⟨"AtomTablesModel", "likens", "(II)V"⟩, 34) := ⟨⟨by decide +kernel, by decide +kernel⟩, List.mem_of_getElem? (i := 1047) (by decide +kernel), List.mem_of_getElem? (i := 1314) (by decide +kernel), List.mem_of_getElem? (i := 1315) (by decide +kernel)⟩
theorem lw_p53 : lw_okq (⟨"AtomTablesModel", "unsound", "(I)I"⟩, 34) := ⟨⟨by decide +kernel, by decide +kernel⟩, List.mem_of_getElem? (i := 1047) (by decide +kernel), List.mem_of_getElem? (i := 1322) (by decide +kernel), List.mem_of_getElem? (i := 1323) (by decide +kernel)⟩
theorem lw_p54 : lw_okq (⟨"AtomTablesModel", "gapBehind", "(II)I"⟩, 34) := ⟨⟨by decide +kernel, by decide +kernel⟩, List.mem_of_getElem? (i := 1047) (by decide +kernel), List.mem_of_getElem? (i := 1330) (by decide +kernel), List.mem_of_getElem? (i := 1331) (by decide +kernel)⟩
theorem lw_p55 : lw_okq (⟨"AtomTablesModel", "isGap", "(IIIII)Z"⟩, 34) := ⟨⟨by decide +kernel, by decide +kernel⟩, List.mem_of_getElem? (i := 1047) (by decide +kernel), List.mem_of_getElem? (i := 1334) (by decide +kernel), List.mem_of_getElem? (i := 1335) (by decide +kernel)⟩
theorem lw_p56 : lw_okq (⟨"AtomTablesModel", "looks", "(III)V"⟩, 34) := ⟨⟨by decide +kernel, by decide +kernel⟩, List.mem_of_getElem? (i := 1047) (by decide +kernel), List.mem_of_getElem? (i := 1342) (by decide +kernel), List.mem_of_getElem? (i := 1343) (by decide +kernel)⟩
theorem lw_p57 : lw_okq (⟨"AtomTablesModel", "seeks", "(IIIII)Z"⟩, 34) := ⟨⟨by decide +kernel, by decide +kernel⟩, List.mem_of_getElem? (i := 1047) (by decide +kernel), List.mem_of_getElem? (i := 1346) (by decide +kernel), List.mem_of_getElem? (i := 1347) (by decide +kernel)⟩
theorem lw_p58 : lw_okq (⟨"AtomTablesModel", "isLike", "(IIIII)Z"⟩, 34) := ⟨⟨by decide +kernel, by decide +kernel⟩, List.mem_of_getElem? (i := 1047) (by decide +kernel), List.mem_of_getElem? (i := 1350) (by decide +kernel), List.mem_of_getElem? (i := 1351) (by decide +kernel)⟩
theorem lw_p59 : lw_okq (⟨"AtomTablesModel", "isGapOf", "(II)Z"⟩, 34) := ⟨⟨by decide +kernel, by decide +kernel⟩, List.mem_of_getElem? (i := 1047) (by decide +kernel), List.mem_of_getElem? (i := 1362) (by decide +kernel), List.mem_of_getElem? (i := 1363) (by decide +kernel)⟩
theorem lw_p60 : lw_okq (⟨"AtomTablesModel", "looksToFill", "(III)V"⟩, 34) := ⟨⟨by decide +kernel, by decide +kernel⟩, List.mem_of_getElem? (i := 1047) (by decide +kernel), List.mem_of_getElem? (i := 1366) (by decide +kernel), List.mem_of_getElem? (i := 1367) (by decide +kernel)⟩
theorem lw_p61 : lw_okq (⟨"AtomTablesModel", "isFillable", "(II)Z"⟩, 34) := ⟨⟨by decide +kernel, by decide +kernel⟩, List.mem_of_getElem? (i := 1047) (by decide +kernel), List.mem_of_getElem? (i := 1370) (by decide +kernel), List.mem_of_getElem? (i := 1371) (by decide +kernel)⟩
theorem lw_p62 : lw_okq (⟨"AtomTablesModel", "fillsFrom", "(IIIII)Z"⟩, 34) := ⟨⟨by decide +kernel, by decide +kernel⟩, List.mem_of_getElem? (i := 1047) (by decide +kernel), List.mem_of_getElem? (i := 1374) (by decide +kernel), List.mem_of_getElem? (i := 1375) (by decide +kernel)⟩
theorem lw_p63 : lw_okq (⟨"AtomTablesModel", "isFilled", "(II)Z"⟩, 34) := ⟨⟨by decide +kernel, by decide +kernel⟩, List.mem_of_getElem? (i := 1047) (by decide +kernel), List.mem_of_getElem? (i := 1378) (by decide +kernel), List.mem_of_getElem? (i := 1379) (by decide +kernel)⟩
def lw_privs_4 : List (MethodName × Nat) := [(⟨"AtomTablesModel", "comes", "(II)V"⟩, 34), (⟨"AtomTablesModel", "lays", "(IIII)V"⟩, 34), (⟨"AtomTablesModel", "isNode", "(II)Z"⟩, 34), (⟨"AtomTablesModel", "labelOf", "(III)I"⟩, 34), (⟨"AtomTablesModel", "likens", "(II)V"⟩, 34), (⟨"AtomTablesModel", "unsound", "(I)I"⟩, 34), (⟨"AtomTablesModel", "gapBehind", "(II)I"⟩, 34), (⟨"AtomTablesModel", "isGap", "(IIIII)Z"⟩, 34), (⟨"AtomTablesModel", "looks", "(III)V"⟩, 34), (⟨"AtomTablesModel", "seeks", "(IIIII)Z"⟩, 34), (⟨"AtomTablesModel", "isLike", "(IIIII)Z"⟩, 34), (⟨"AtomTablesModel", "isGapOf", "(II)Z"⟩, 34), (⟨"AtomTablesModel", "looksToFill", "(III)V"⟩, 34), (⟨"AtomTablesModel", "isFillable", "(II)Z"⟩, 34), (⟨"AtomTablesModel", "fillsFrom", "(IIIII)Z"⟩, 34), (⟨"AtomTablesModel", "isFilled", "(II)Z"⟩, 34)]
theorem lw_r4 : ∀ q ∈ lw_privs_4, lw_okq q := List.forall_mem_cons.mpr ⟨lw_p48, List.forall_mem_cons.mpr ⟨lw_p49, List.forall_mem_cons.mpr ⟨lw_p50, List.forall_mem_cons.mpr ⟨lw_p51, List.forall_mem_cons.mpr ⟨lw_p52, List.forall_mem_cons.mpr ⟨lw_p53, List.forall_mem_cons.mpr ⟨lw_p54, List.forall_mem_cons.mpr ⟨lw_p55, List.forall_mem_cons.mpr ⟨lw_p56, List.forall_mem_cons.mpr ⟨lw_p57, List.forall_mem_cons.mpr ⟨lw_p58, List.forall_mem_cons.mpr ⟨lw_p59, List.forall_mem_cons.mpr ⟨lw_p60, List.forall_mem_cons.mpr ⟨lw_p61, List.forall_mem_cons.mpr ⟨lw_p62, List.forall_mem_cons.mpr ⟨lw_p63, fun _ h => absurd h List.not_mem_nil⟩⟩⟩⟩⟩⟩⟩⟩⟩⟩⟩⟩⟩⟩⟩⟩
theorem lw_p64 : lw_okq (⟨"AtomTablesModel", "isBarred", "(I)Z"⟩, 34) := ⟨⟨by decide +kernel, by decide +kernel⟩, List.mem_of_getElem? (i := 1047) (by decide +kernel), List.mem_of_getElem? (i := 1382) (by decide +kernel), List.mem_of_getElem? (i := 1383) (by decide +kernel)⟩
theorem lw_p65 : lw_okq (⟨"AtomTablesModel", "isWon", "(I)Z"⟩, 34) := ⟨⟨by decide +kernel, by decide +kernel⟩, List.mem_of_getElem? (i := 1047) (by decide +kernel), List.mem_of_getElem? (i := 1386) (by decide +kernel), List.mem_of_getElem? (i := 1387) (by decide +kernel)⟩
theorem lw_p66 : lw_okq (⟨"AtomTablesModel", "killerOf", "(I)I"⟩, 34) := ⟨⟨by decide +kernel, by decide +kernel⟩, List.mem_of_getElem? (i := 1047) (by decide +kernel), List.mem_of_getElem? (i := 1390) (by decide +kernel), List.mem_of_getElem? (i := 1391) (by decide +kernel)⟩
theorem lw_p67 : lw_okq (⟨"AtomTablesModel", "mayStand", "(II)Z"⟩, 34) := ⟨⟨by decide +kernel, by decide +kernel⟩, List.mem_of_getElem? (i := 1047) (by decide +kernel), List.mem_of_getElem? (i := 1394) (by decide +kernel), List.mem_of_getElem? (i := 1395) (by decide +kernel)⟩
theorem lw_p68 : lw_okq (⟨"AtomTablesModel", "whyNot", "(II)I"⟩, 34) := ⟨⟨by decide +kernel, by decide +kernel⟩, List.mem_of_getElem? (i := 1047) (by decide +kernel), List.mem_of_getElem? (i := 1402) (by decide +kernel), List.mem_of_getElem? (i := 1403) (by decide +kernel)⟩
theorem lw_p69 : lw_okq (⟨"AtomTablesModel", "isPlayed", "(I)Z"⟩, 34) := ⟨⟨by decide +kernel, by decide +kernel⟩, List.mem_of_getElem? (i := 1047) (by decide +kernel), List.mem_of_getElem? (i := 1406) (by decide +kernel), List.mem_of_getElem? (i := 1407) (by decide +kernel)⟩
theorem lw_p70 : lw_okq (⟨"AtomTablesModel", "isFillOf", "(II)Z"⟩, 34) := ⟨⟨by decide +kernel, by decide +kernel⟩, List.mem_of_getElem? (i := 1047) (by decide +kernel), List.mem_of_getElem? (i := 1430) (by decide +kernel), List.mem_of_getElem? (i := 1431) (by decide +kernel)⟩
theorem lw_p71 : lw_okq (⟨"AtomTablesModel", "isAllHad", "()Z"⟩, 34) := ⟨⟨by decide +kernel, by decide +kernel⟩, List.mem_of_getElem? (i := 1047) (by decide +kernel), List.mem_of_getElem? (i := 1453) (by decide +kernel), List.mem_of_getElem? (i := 1454) (by decide +kernel)⟩
theorem lw_p72 : lw_okq (⟨"AtomTablesModel", "falseStep", "()I"⟩, 34) := ⟨⟨by decide +kernel, by decide +kernel⟩, List.mem_of_getElem? (i := 1047) (by decide +kernel), List.mem_of_getElem? (i := 1457) (by decide +kernel), List.mem_of_getElem? (i := 1458) (by decide +kernel)⟩
theorem lw_p73 : lw_okq (⟨"AtomTablesModel", "isMet", "(III)Z"⟩, 34) := ⟨⟨by decide +kernel, by decide +kernel⟩, List.mem_of_getElem? (i := 1047) (by decide +kernel), List.mem_of_getElem? (i := 1461) (by decide +kernel), List.mem_of_getElem? (i := 1462) (by decide +kernel)⟩
theorem lw_p74 : lw_okq (⟨"AtomTablesModel", "isPictured", "(I)Z"⟩, 34) := ⟨⟨by decide +kernel, by decide +kernel⟩, List.mem_of_getElem? (i := 1047) (by decide +kernel), List.mem_of_getElem? (i := 1469) (by decide +kernel), List.mem_of_getElem? (i := 1470) (by decide +kernel)⟩
theorem lw_p75 : lw_okq (⟨"AtomTablesModel", "statement", "()I"⟩, 34) := ⟨⟨by decide +kernel, by decide +kernel⟩, List.mem_of_getElem? (i := 1047) (by decide +kernel), List.mem_of_getElem? (i := 1500) (by decide +kernel), List.mem_of_getElem? (i := 1501) (by decide +kernel)⟩
theorem lw_p76 : lw_okq (⟨"AtomTablesModel", "word", "()I"⟩, 34) := ⟨⟨by decide +kernel, by decide +kernel⟩, List.mem_of_getElem? (i := 1047) (by decide +kernel), List.mem_of_getElem? (i := 1504) (by decide +kernel), List.mem_of_getElem? (i := 1505) (by decide +kernel)⟩
theorem lw_p77 : lw_okq (⟨"AtomTablesModel", "isAt", "(II)Z"⟩, 34) := ⟨⟨by decide +kernel, by decide +kernel⟩, List.mem_of_getElem? (i := 1047) (by decide +kernel), List.mem_of_getElem? (i := 1508) (by decide +kernel), List.mem_of_getElem? (i := 1509) (by decide +kernel)⟩
theorem lw_p78 : lw_okq (⟨"AtomTablesModel", "isDone", "(I)Z"⟩, 34) := ⟨⟨by decide +kernel, by decide +kernel⟩, List.mem_of_getElem? (i := 1047) (by decide +kernel), List.mem_of_getElem? (i := 1512) (by decide +kernel), List.mem_of_getElem? (i := 1513) (by decide +kernel)⟩
theorem lw_p79 : lw_okq (⟨"AtomTablesModel", "spells", "()V"⟩, 34) := ⟨⟨by decide +kernel, by decide +kernel⟩, List.mem_of_getElem? (i := 1047) (by decide +kernel), List.mem_of_getElem? (i := 1523) (by decide +kernel), List.mem_of_getElem? (i := 1524) (by decide +kernel)⟩
def lw_privs_5 : List (MethodName × Nat) := [(⟨"AtomTablesModel", "isBarred", "(I)Z"⟩, 34), (⟨"AtomTablesModel", "isWon", "(I)Z"⟩, 34), (⟨"AtomTablesModel", "killerOf", "(I)I"⟩, 34), (⟨"AtomTablesModel", "mayStand", "(II)Z"⟩, 34), (⟨"AtomTablesModel", "whyNot", "(II)I"⟩, 34), (⟨"AtomTablesModel", "isPlayed", "(I)Z"⟩, 34), (⟨"AtomTablesModel", "isFillOf", "(II)Z"⟩, 34), (⟨"AtomTablesModel", "isAllHad", "()Z"⟩, 34), (⟨"AtomTablesModel", "falseStep", "()I"⟩, 34), (⟨"AtomTablesModel", "isMet", "(III)Z"⟩, 34), (⟨"AtomTablesModel", "isPictured", "(I)Z"⟩, 34), (⟨"AtomTablesModel", "statement", "()I"⟩, 34), (⟨"AtomTablesModel", "word", "()I"⟩, 34), (⟨"AtomTablesModel", "isAt", "(II)Z"⟩, 34), (⟨"AtomTablesModel", "isDone", "(I)Z"⟩, 34), (⟨"AtomTablesModel", "spells", "()V"⟩, 34)]
theorem lw_r5 : ∀ q ∈ lw_privs_5, lw_okq q := List.forall_mem_cons.mpr ⟨lw_p64, List.forall_mem_cons.mpr ⟨lw_p65, List.forall_mem_cons.mpr ⟨lw_p66, List.forall_mem_cons.mpr ⟨lw_p67, List.forall_mem_cons.mpr ⟨lw_p68, List.forall_mem_cons.mpr ⟨lw_p69, List.forall_mem_cons.mpr ⟨lw_p70, List.forall_mem_cons.mpr ⟨lw_p71, List.forall_mem_cons.mpr ⟨lw_p72, List.forall_mem_cons.mpr ⟨lw_p73, List.forall_mem_cons.mpr ⟨lw_p74, List.forall_mem_cons.mpr ⟨lw_p75, List.forall_mem_cons.mpr ⟨lw_p76, List.forall_mem_cons.mpr ⟨lw_p77, List.forall_mem_cons.mpr ⟨lw_p78, List.forall_mem_cons.mpr ⟨lw_p79, fun _ h => absurd h List.not_mem_nil⟩⟩⟩⟩⟩⟩⟩⟩⟩⟩⟩⟩⟩⟩⟩⟩
theorem lw_p80 : lw_okq (⟨"AtomTablesModel", "writesWord", "(I)V"⟩, 34) := ⟨⟨by decide +kernel, by decide +kernel⟩, List.mem_of_getElem? (i := 1047) (by decide +kernel), List.mem_of_getElem? (i := 1527) (by decide +kernel), List.mem_of_getElem? (i := 1528) (by decide +kernel)⟩
theorem lw_p81 : lw_okq (⟨"AtomTablesModel", "writes", "(I)V"⟩, 34) := ⟨⟨by decide +kernel, by decide +kernel⟩, List.mem_of_getElem? (i := 1047) (by decide +kernel), List.mem_of_getElem? (i := 1531) (by decide +kernel), List.mem_of_getElem? (i := 1532) (by decide +kernel)⟩
theorem lw_p82 : lw_okq (⟨"AtomTablesModel", "writesFigure", "(I)V"⟩, 34) := ⟨⟨by decide +kernel, by decide +kernel⟩, List.mem_of_getElem? (i := 1047) (by decide +kernel), List.mem_of_getElem? (i := 1535) (by decide +kernel), List.mem_of_getElem? (i := 1536) (by decide +kernel)⟩
def lw_privs_6 : List (MethodName × Nat) := [(⟨"AtomTablesModel", "writesWord", "(I)V"⟩, 34), (⟨"AtomTablesModel", "writes", "(I)V"⟩, 34), (⟨"AtomTablesModel", "writesFigure", "(I)V"⟩, 34)]
theorem lw_r6 : ∀ q ∈ lw_privs_6, lw_okq q := List.forall_mem_cons.mpr ⟨lw_p80, List.forall_mem_cons.mpr ⟨lw_p81, List.forall_mem_cons.mpr ⟨lw_p82, fun _ h => absurd h List.not_mem_nil⟩⟩⟩
def lw_privs : List (MethodName × Nat) := lw_privs_1 ++ (lw_privs_2 ++ (lw_privs_3 ++ (lw_privs_4 ++ (lw_privs_5 ++ (lw_privs_6)))))
def lw_tbl : List Cond := k2_sels lw_privs ++ tables_1
theorem lw_privs_ok : ∀ q ∈ lw_privs, lw_okq q := by
  show ∀ q ∈ lw_privs_1 ++ (lw_privs_2 ++ (lw_privs_3 ++ (lw_privs_4 ++ (lw_privs_5 ++ (lw_privs_6))))), lw_okq q
  exact List.forall_mem_append.mpr ⟨lw_r1, List.forall_mem_append.mpr ⟨lw_r2, List.forall_mem_append.mpr ⟨lw_r3, List.forall_mem_append.mpr ⟨lw_r4, List.forall_mem_append.mpr ⟨lw_r5, lw_r6⟩⟩⟩⟩⟩
def RX0 : String := "AtomTables$Board"
def TX0 : u_T := fun k => match k with
  | 0 => ("AtomTables$Board", "table", "LAtomTables$Table;", true)
  | 1 => ("AtomTables$Board", "stands", "Z", false)
  | 2 => ("AtomTables$Board", "net", "LAtomTables$Net;", true)
  | 3 => ("AtomTables$Board", "asks", "[I", true)
  | 4 => ("AtomTables$Board", "asked", "I", false)
  | _ => ("AtomTables$Board", "answered", "I", false)
def tyX0 : Nat → FieldType := fun k => match k with
  | 0 => .object "AtomTables$Table"
  | 1 => .boolean
  | 2 => .object "AtomTables$Net"
  | 3 => .array .int
  | 4 => .int
  | _ => .int
abbrev wsX00 : List Cond := u_ws RX0 TX0 6
theorem nmX0 : ∀ a, a < 6 → ∀ b, b < 6 → a ≠ b → (TX0 a).2.1 ≠ (TX0 b).2.1 := by decide +kernel
theorem tyX0_ok : ∀ k, k < 6 → parseFieldDescriptor (TX0 k).2.2.1 = some (tyX0 k) := by decide +kernel
abbrev cX0_init : ByteArray := prog_2_method_1_code
def yX0_init : MethodName := ⟨RX0, "<init>", "(LAtomTables$Table;)V"⟩
abbrev cX0_lay : ByteArray := prog_2_method_2_code
def yX0_lay : MethodName := ⟨RX0, "lay", "(LAtomTables$Net;)V"⟩
abbrev cX0_append : ByteArray := prog_2_method_3_code
def yX0_append : MethodName := ⟨RX0, "append", "(II)V"⟩
abbrev cX0_extend : ByteArray := prog_2_method_4_code
def yX0_extend : MethodName := ⟨RX0, "extend", "([I)V"⟩
abbrev cX0_dropClosed : ByteArray := prog_2_method_5_code
def yX0_dropClosed : MethodName := ⟨RX0, "dropClosed", "()V"⟩
abbrev cX0_rotate : ByteArray := prog_2_method_6_code
def yX0_rotate : MethodName := ⟨RX0, "rotate", "()V"⟩
def RX1 : String := "AtomTables$Filler"
def TX1 : u_T := fun k => match k with
  | 0 => ("AtomTables$Filler", "sheet", "LAtomTables$Sheet;", true)
  | 1 => ("AtomTables$Filler", "patterns", "LAtomTables$Patterns;", true)
  | 2 => ("AtomTables$Filler", "trial", "LAtomTables$Net;", true)
  | 3 => ("AtomTables$Filler", "rows", "LAtomTables$Rows;", true)
  | _ => ("AtomTables$Filler", "row", "[I", true)
def tyX1 : Nat → FieldType := fun k => match k with
  | 0 => .object "AtomTables$Sheet"
  | 1 => .object "AtomTables$Patterns"
  | 2 => .object "AtomTables$Net"
  | 3 => .object "AtomTables$Rows"
  | _ => .array .int
abbrev wsX10 : List Cond := u_ws RX1 TX1 5
theorem nmX1 : ∀ a, a < 5 → ∀ b, b < 5 → a ≠ b → (TX1 a).2.1 ≠ (TX1 b).2.1 := by decide +kernel
theorem tyX1_ok : ∀ k, k < 5 → parseFieldDescriptor (TX1 k).2.2.1 = some (tyX1 k) := by decide +kernel
abbrev cX1_init : ByteArray := prog_3_method_1_code
def yX1_init : MethodName := ⟨RX1, "<init>", "(LAtomTables$Sheet;LAtomTables$Patterns;)V"⟩
abbrev cX1_spread : ByteArray := prog_3_method_2_code
def yX1_spread : MethodName := ⟨RX1, "spread", "(II)Z"⟩
abbrev cX1_way : ByteArray := prog_3_method_3_code
def yX1_way : MethodName := ⟨RX1, "way", "(LAtomTables$Net;II)I"⟩
abbrev cX1_isAllowed : ByteArray := prog_3_method_4_code
def yX1_isAllowed : MethodName := ⟨RX1, "isAllowed", "([I)Z"⟩
abbrev cX1_isFilledBy : ByteArray := prog_3_method_5_code
def yX1_isFilledBy : MethodName := ⟨RX1, "isFilledBy", "(LAtomTables$Net;II)Z"⟩
def RX2 : String := "AtomTables$Game"
def TX2 : u_T := fun k => match k with
  | 0 => ("AtomTables$Game", "sheet", "LAtomTables$Sheet;", true)
  | 1 => ("AtomTables$Game", "patterns", "LAtomTables$Patterns;", true)
  | 2 => ("AtomTables$Game", "stage", "LAtomTables$Net;", true)
  | 3 => ("AtomTables$Game", "rows", "[LAtomTables$Rows;", true)
  | _ => ("AtomTables$Game", "left", "[[I", true)
def tyX2 : Nat → FieldType := fun k => match k with
  | 0 => .object "AtomTables$Sheet"
  | 1 => .object "AtomTables$Patterns"
  | 2 => .object "AtomTables$Net"
  | 3 => .array (.object "AtomTables$Rows")
  | _ => .array (.array .int)
abbrev wsX20 : List Cond := u_ws RX2 TX2 5
theorem nmX2 : ∀ a, a < 5 → ∀ b, b < 5 → a ≠ b → (TX2 a).2.1 ≠ (TX2 b).2.1 := by decide +kernel
theorem tyX2_ok : ∀ k, k < 5 → parseFieldDescriptor (TX2 k).2.2.1 = some (tyX2 k) := by decide +kernel
abbrev cX2_init : ByteArray := prog_4_method_1_code
def yX2_init : MethodName := ⟨RX2, "<init>", "(LAtomTables$Sheet;LAtomTables$Patterns;)V"⟩
abbrev cX2_isWon : ByteArray := prog_4_method_2_code
def yX2_isWon : MethodName := ⟨RX2, "isWon", "(LAtomTables$Net;I)Z"⟩
abbrev cX2_outlives : ByteArray := prog_4_method_3_code
def yX2_outlives : MethodName := ⟨RX2, "outlives", "(I)Z"⟩
abbrev cX2_findGaps : ByteArray := prog_4_method_4_code
def yX2_findGaps : MethodName := ⟨RX2, "findGaps", "([I)V"⟩
abbrev cX2_isOpen : ByteArray := prog_4_method_5_code
def yX2_isOpen : MethodName := ⟨RX2, "isOpen", "([I)Z"⟩
abbrev cX2_answers : ByteArray := prog_4_method_6_code
def yX2_answers : MethodName := ⟨RX2, "answers", "([I[I)Z"⟩
abbrev cX2_strike : ByteArray := prog_4_method_7_code
def yX2_strike : MethodName := ⟨RX2, "strike", "([I[I)V"⟩
abbrev cX2_stands : ByteArray := prog_4_method_8_code
def yX2_stands : MethodName := ⟨RX2, "stands", "([II)Z"⟩
abbrev cX2_firstLeft : ByteArray := prog_4_method_9_code
def yX2_firstLeft : MethodName := ⟨RX2, "firstLeft", "(I)I"⟩
def RX3 : String := "AtomTables$Net"
def TX3 : u_T := fun k => match k with
  | 0 => ("AtomTables$Net", "size", "I", false)
  | _ => ("AtomTables$Net", "labels", "[I", true)
def tyX3 : Nat → FieldType := fun k => match k with
  | 0 => .int
  | _ => .array .int
abbrev wsX30 : List Cond := u_ws RX3 TX3 2
theorem nmX3 : ∀ a, a < 2 → ∀ b, b < 2 → a ≠ b → (TX3 a).2.1 ≠ (TX3 b).2.1 := by decide +kernel
theorem tyX3_ok : ∀ k, k < 2 → parseFieldDescriptor (TX3 k).2.2.1 = some (tyX3 k) := by decide +kernel
abbrev cX3_init : ByteArray := prog_5_method_1_code
def yX3_init : MethodName := ⟨RX3, "<init>", "()V"⟩
abbrev cX3_at : ByteArray := prog_5_method_2_code
def yX3_at : MethodName := ⟨RX3, "at", "(II)I"⟩
abbrev cX3_link : ByteArray := prog_5_method_3_code
def yX3_link : MethodName := ⟨RX3, "link", "(IIILAtomTables$Table;)V"⟩
abbrev cX3_become : ByteArray := prog_5_method_4_code
def yX3_become : MethodName := ⟨RX3, "become", "(LAtomTables$Net;)V"⟩
abbrev cX3_grow : ByteArray := prog_5_method_5_code
def yX3_grow : MethodName := ⟨RX3, "grow", "([ILAtomTables$Table;)V"⟩
abbrev cX3_unsound : ByteArray := prog_5_method_6_code
def yX3_unsound : MethodName := ⟨RX3, "unsound", "(LAtomTables$Table;)I"⟩
abbrev cX3_open : ByteArray := prog_5_method_7_code
def yX3_open : MethodName := ⟨RX3, "open", "(LAtomTables$Table;II)I"⟩
abbrev cX3_gapNumber : ByteArray := prog_5_method_8_code
def yX3_gapNumber : MethodName := ⟨RX3, "gapNumber", "(III)I"⟩
abbrev cX3_gapAt : ByteArray := prog_5_method_9_code
def yX3_gapAt : MethodName := ⟨RX3, "gapAt", "(LAtomTables$Table;I)I"⟩
abbrev cX3_placeOf : ByteArray := prog_5_method_10_code
def yX3_placeOf : MethodName := ⟨RX3, "placeOf", "(II)I"⟩
abbrev cX3_lacks : ByteArray := prog_5_method_11_code
def yX3_lacks : MethodName := ⟨RX3, "lacks", "(LAtomTables$Table;I)Z"⟩
def RX4 : String := "AtomTables$Patterns"
def TX4 : u_T := fun k => match k with
  | 0 => ("AtomTables$Wheels", "size", "I", false)
  | 1 => ("AtomTables$Wheels", "at", "[I", true)
  | 2 => ("AtomTables$Wheels", "low", "[I", true)
  | 3 => ("AtomTables$Wheels", "high", "[I", true)
  | 4 => ("AtomTables$Patterns", "sheet", "LAtomTables$Sheet;", true)
  | 5 => ("AtomTables$Patterns", "small", "LAtomTables$Net;", false)
  | _ => ("AtomTables$Patterns", "big", "LAtomTables$Net;", false)
def tyX4 : Nat → FieldType := fun k => match k with
  | 0 => .int
  | 1 => .array .int
  | 2 => .array .int
  | 3 => .array .int
  | 4 => .object "AtomTables$Sheet"
  | 5 => .object "AtomTables$Net"
  | _ => .object "AtomTables$Net"
abbrev wsX40 : List Cond := u_ws RX4 TX4 7
theorem nmX4 : ∀ a, a < 7 → ∀ b, b < 7 → a ≠ b → (TX4 a).2.1 ≠ (TX4 b).2.1 := by decide +kernel
theorem tyX4_ok : ∀ k, k < 7 → parseFieldDescriptor (TX4 k).2.2.1 = some (tyX4 k) := by decide +kernel
abbrev cX4_init : ByteArray := prog_6_method_1_code
def yX4_init : MethodName := ⟨RX4, "<init>", "(LAtomTables$Sheet;)V"⟩
abbrev cX4_way : ByteArray := prog_6_method_2_code
def yX4_way : MethodName := ⟨RX4, "way", "(LAtomTables$Net;LAtomTables$Net;I)I"⟩
abbrev cX4_isBarred : ByteArray := prog_6_method_3_code
def yX4_isBarred : MethodName := ⟨RX4, "isBarred", "(LAtomTables$Net;)Z"⟩
abbrev cX4_look : ByteArray := prog_6_method_4_code
def yX4_look : MethodName := ⟨RX4, "look", "(LAtomTables$Net;LAtomTables$Net;)V"⟩
abbrev cX4_clash : ByteArray := prog_6_method_5_code
def yX4_clash : MethodName := ⟨RX4, "clash", "(I)I"⟩
def RX5 : String := "AtomTables$Pictures"
def TX5 : u_T := fun k => match k with
  | 0 => ("AtomTables$Wheels", "size", "I", false)
  | 1 => ("AtomTables$Wheels", "at", "[I", true)
  | 2 => ("AtomTables$Wheels", "low", "[I", true)
  | 3 => ("AtomTables$Wheels", "high", "[I", true)
  | 4 => ("AtomTables$Pictures", "table", "LAtomTables$Table;", true)
  | 5 => ("AtomTables$Pictures", "points", "I", false)
  | 6 => ("AtomTables$Pictures", "steps", "[I", true)
  | _ => ("AtomTables$Pictures", "due", "[I", true)
def tyX5 : Nat → FieldType := fun k => match k with
  | 0 => .int
  | 1 => .array .int
  | 2 => .array .int
  | 3 => .array .int
  | 4 => .object "AtomTables$Table"
  | 5 => .int
  | 6 => .array .int
  | _ => .array .int
abbrev wsX50 : List Cond := u_ws RX5 TX5 8
theorem nmX5 : ∀ a, a < 8 → ∀ b, b < 8 → a ≠ b → (TX5 a).2.1 ≠ (TX5 b).2.1 := by decide +kernel
theorem tyX5_ok : ∀ k, k < 8 → parseFieldDescriptor (TX5 k).2.2.1 = some (tyX5 k) := by decide +kernel
abbrev cX5_init : ByteArray := prog_7_method_1_code
def yX5_init : MethodName := ⟨RX5, "<init>", "(LAtomTables$Table;)V"⟩
abbrev cX5_verdict : ByteArray := prog_7_method_2_code
def yX5_verdict : MethodName := ⟨RX5, "verdict", "([JII)I"⟩
abbrev cX5_isFull : ByteArray := prog_7_method_3_code
def yX5_isFull : MethodName := ⟨RX5, "isFull", "()Z"⟩
abbrev cX5_readDue : ByteArray := prog_7_method_4_code
def yX5_readDue : MethodName := ⟨RX5, "readDue", "()V"⟩
abbrev cX5_misfit : ByteArray := prog_7_method_5_code
def yX5_misfit : MethodName := ⟨RX5, "misfit", "()I"⟩
abbrev cX5_search : ByteArray := prog_7_method_6_code
def yX5_search : MethodName := ⟨RX5, "search", "()I"⟩
abbrev cX5_clash : ByteArray := prog_7_method_7_code
def yX5_clash : MethodName := ⟨RX5, "clash", "(I)I"⟩
abbrev cX5_goes : ByteArray := prog_7_method_8_code
def yX5_goes : MethodName := ⟨RX5, "goes", "(I)Z"⟩
def RX6 : String := "AtomTables$Rows"
def TX6 : u_T := fun k => match k with
  | 0 => ("AtomTables$Wheels", "size", "I", false)
  | 1 => ("AtomTables$Wheels", "at", "[I", true)
  | 2 => ("AtomTables$Wheels", "low", "[I", true)
  | 3 => ("AtomTables$Wheels", "high", "[I", true)
  | 4 => ("AtomTables$Rows", "table", "LAtomTables$Table;", true)
  | _ => ("AtomTables$Rows", "net", "LAtomTables$Net;", true)
def tyX6 : Nat → FieldType := fun k => match k with
  | 0 => .int
  | 1 => .array .int
  | 2 => .array .int
  | 3 => .array .int
  | 4 => .object "AtomTables$Table"
  | _ => .object "AtomTables$Net"
abbrev wsX60 : List Cond := u_ws RX6 TX6 6
theorem nmX6 : ∀ a, a < 6 → ∀ b, b < 6 → a ≠ b → (TX6 a).2.1 ≠ (TX6 b).2.1 := by decide +kernel
theorem tyX6_ok : ∀ k, k < 6 → parseFieldDescriptor (TX6 k).2.2.1 = some (tyX6 k) := by decide +kernel
abbrev cX6_init : ByteArray := prog_8_method_1_code
def yX6_init : MethodName := ⟨RX6, "<init>", "(LAtomTables$Table;LAtomTables$Net;)V"⟩
abbrev cX6_spanAll : ByteArray := prog_8_method_2_code
def yX6_spanAll : MethodName := ⟨RX6, "spanAll", "()V"⟩
abbrev cX6_clash : ByteArray := prog_8_method_3_code
def yX6_clash : MethodName := ⟨RX6, "clash", "(I)I"⟩
def RX7 : String := "AtomTables$Sheet"
def TX7 : u_T := fun k => match k with
  | 0 => ("AtomTables$Sheet", "table", "LAtomTables$Table;", true)
  | 1 => ("AtomTables$Sheet", "nets", "[LAtomTables$Net;", true)
  | 2 => ("AtomTables$Sheet", "barred", "LAtomTables$Net;", true)
  | _ => ("AtomTables$Sheet", "bars", "Z", false)
def tyX7 : Nat → FieldType := fun k => match k with
  | 0 => .object "AtomTables$Table"
  | 1 => .array (.object "AtomTables$Net")
  | 2 => .object "AtomTables$Net"
  | _ => .boolean
abbrev wsX70 : List Cond := u_ws RX7 TX7 4
theorem nmX7 : ∀ a, a < 4 → ∀ b, b < 4 → a ≠ b → (TX7 a).2.1 ≠ (TX7 b).2.1 := by decide +kernel
theorem tyX7_ok : ∀ k, k < 4 → parseFieldDescriptor (TX7 k).2.2.1 = some (tyX7 k) := by decide +kernel
abbrev cX7_init : ByteArray := prog_9_method_1_code
def yX7_init : MethodName := ⟨RX7, "<init>", "()V"⟩
abbrev cX7_clearNets : ByteArray := prog_9_method_2_code
def yX7_clearNets : MethodName := ⟨RX7, "clearNets", "()V"⟩
abbrev cX7_become : ByteArray := prog_9_method_3_code
def yX7_become : MethodName := ⟨RX7, "become", "(LAtomTables$Sheet;)V"⟩
def RX8 : String := "AtomTables$Table"
def TX8 : u_T := fun k => match k with
  | 0 => ("AtomTables$Table", "size", "I", false)
  | 1 => ("AtomTables$Table", "mirror", "[I", true)
  | _ => ("AtomTables$Table", "threes", "J", false)
def tyX8 : Nat → FieldType := fun k => match k with
  | 0 => .int
  | 1 => .array .int
  | _ => .long
abbrev wsX80 : List Cond := u_ws RX8 TX8 3
theorem nmX8 : ∀ a, a < 3 → ∀ b, b < 3 → a ≠ b → (TX8 a).2.1 ≠ (TX8 b).2.1 := by decide +kernel
theorem tyX8_ok : ∀ k, k < 3 → parseFieldDescriptor (TX8 k).2.2.1 = some (tyX8 k) := by decide +kernel
abbrev cX8_init : ByteArray := prog_10_method_1_code
def yX8_init : MethodName := ⟨RX8, "<init>", "()V"⟩
abbrev cX8_restart : ByteArray := prog_10_method_2_code
def yX8_restart : MethodName := ⟨RX8, "restart", "(I)V"⟩
abbrev cX8_become : ByteArray := prog_10_method_3_code
def yX8_become : MethodName := ⟨RX8, "become", "(LAtomTables$Table;)V"⟩
abbrev cX8_couple : ByteArray := prog_10_method_4_code
def yX8_couple : MethodName := ⟨RX8, "couple", "(II)V"⟩
abbrev cX8_free : ByteArray := prog_10_method_5_code
def yX8_free : MethodName := ⟨RX8, "free", "(I)V"⟩
abbrev cX8_keepFixed : ByteArray := prog_10_method_6_code
def yX8_keepFixed : MethodName := ⟨RX8, "keepFixed", "()V"⟩
abbrev cX8_coupled : ByteArray := prog_10_method_7_code
def yX8_coupled : MethodName := ⟨RX8, "coupled", "()I"⟩
abbrev cX8_bit : ByteArray := prog_10_method_8_code
def yX8_bit : MethodName := ⟨RX8, "bit", "(III)J"⟩
abbrev cX8_has : ByteArray := prog_10_method_9_code
def yX8_has : MethodName := ⟨RX8, "has", "(III)Z"⟩
abbrev cX8_turns : ByteArray := prog_10_method_10_code
def yX8_turns : MethodName := ⟨RX8, "turns", "(III)J"⟩
abbrev cX8_mark : ByteArray := prog_10_method_11_code
def yX8_mark : MethodName := ⟨RX8, "mark", "(IIIZ)I"⟩
abbrev cX8_relations : ByteArray := prog_10_method_12_code
def yX8_relations : MethodName := ⟨RX8, "relations", "()I"⟩
abbrev cX8_mirrored : ByteArray := prog_10_method_13_code
def yX8_mirrored : MethodName := ⟨RX8, "mirrored", "(I)I"⟩
abbrev cX8_product : ByteArray := prog_10_method_14_code
def yX8_product : MethodName := ⟨RX8, "product", "(II)I"⟩
abbrev cX8_sided : ByteArray := prog_10_method_15_code
def yX8_sided : MethodName := ⟨RX8, "sided", "(III)I"⟩
abbrev cX8_residual : ByteArray := prog_10_method_16_code
def yX8_residual : MethodName := ⟨RX8, "residual", "(III)I"⟩
abbrev cX8_powers : ByteArray := prog_10_method_17_code
def yX8_powers : MethodName := ⟨RX8, "powers", "(IZ)I"⟩
abbrev cX8_isEquivalence : ByteArray := prog_10_method_18_code
def yX8_isEquivalence : MethodName := ⟨RX8, "isEquivalence", "(I)Z"⟩
abbrev cX8_solutions : ByteArray := prog_10_method_19_code
def yX8_solutions : MethodName := ⟨RX8, "solutions", "(IIII)I"⟩
abbrev cX8_isUnbalanced : ByteArray := prog_10_method_20_code
def yX8_isUnbalanced : MethodName := ⟨RX8, "isUnbalanced", "(III)Z"⟩
abbrev cX8_unbalanced : ByteArray := prog_10_method_21_code
def yX8_unbalanced : MethodName := ⟨RX8, "unbalanced", "(Z)I"⟩
abbrev cX8_thin : ByteArray := prog_10_method_22_code
def yX8_thin : MethodName := ⟨RX8, "thin", "(Z)I"⟩
abbrev cX8_isLeastTurn : ByteArray := prog_10_method_23_code
def yX8_isLeastTurn : MethodName := ⟨RX8, "isLeastTurn", "(III)Z"⟩
abbrev cX8_cycleFacts : ByteArray := prog_10_method_24_code
def yX8_cycleFacts : MethodName := ⟨RX8, "cycleFacts", "(I)I"⟩
abbrev cX8_pairsInto : ByteArray := prog_10_method_25_code
def yX8_pairsInto : MethodName := ⟨RX8, "pairsInto", "(I)I"⟩
def RX9 : String := "AtomTables$Tape"
def TX9 : u_T := fun k => match k with
  | 0 => ("AtomTables$Tape", "size", "I", false)
  | _ => ("AtomTables$Tape", "bytes", "[B", true)
def tyX9 : Nat → FieldType := fun k => match k with
  | 0 => .int
  | _ => .array .byte
abbrev wsX90 : List Cond := u_ws RX9 TX9 2
theorem nmX9 : ∀ a, a < 2 → ∀ b, b < 2 → a ≠ b → (TX9 a).2.1 ≠ (TX9 b).2.1 := by decide +kernel
theorem tyX9_ok : ∀ k, k < 2 → parseFieldDescriptor (TX9 k).2.2.1 = some (tyX9 k) := by decide +kernel
abbrev cX9_init : ByteArray := prog_11_method_1_code
def yX9_init : MethodName := ⟨RX9, "<init>", "()V"⟩
abbrev cX9_append : ByteArray := prog_11_method_2_code
def yX9_append : MethodName := ⟨RX9, "append", "(I)V"⟩
abbrev cX9_faultPlace : ByteArray := prog_11_method_3_code
def yX9_faultPlace : MethodName := ⟨RX9, "faultPlace", "()I"⟩
abbrev cX9_goodFigures : ByteArray := prog_11_method_4_code
def yX9_goodFigures : MethodName := ⟨RX9, "goodFigures", "(II)I"⟩
abbrev cX9_isDue : ByteArray := prog_11_method_5_code
def yX9_isDue : MethodName := ⟨RX9, "isDue", "(IZ)Z"⟩
abbrev cX9_wordEnd : ByteArray := prog_11_method_6_code
def yX9_wordEnd : MethodName := ⟨RX9, "wordEnd", "(I)I"⟩
abbrev cX9_wordKind : ByteArray := prog_11_method_7_code
def yX9_wordKind : MethodName := ⟨RX9, "wordKind", "(II)I"⟩
abbrev cX9_isWord : ByteArray := prog_11_method_8_code
def yX9_isWord : MethodName := ⟨RX9, "isWord", "(IILjava/lang/String;)Z"⟩
abbrev cX9_figuresOf : ByteArray := prog_11_method_9_code
def yX9_figuresOf : MethodName := ⟨RX9, "figuresOf", "(I)I"⟩
abbrev cX9_figure : ByteArray := prog_11_method_10_code
def yX9_figure : MethodName := ⟨RX9, "figure", "(I)I"⟩
abbrev cX9_spell : ByteArray := prog_11_method_11_code
def yX9_spell : MethodName := ⟨RX9, "spell", "(LAtomTables$Table;)V"⟩
abbrev cX9_writeThree : ByteArray := prog_11_method_12_code
def yX9_writeThree : MethodName := ⟨RX9, "writeThree", "(III)V"⟩
abbrev cX9_writeWord : ByteArray := prog_11_method_13_code
def yX9_writeWord : MethodName := ⟨RX9, "writeWord", "(Ljava/lang/String;)V"⟩
abbrev cX9_writeFigure : ByteArray := prog_11_method_14_code
def yX9_writeFigure : MethodName := ⟨RX9, "writeFigure", "(I)V"⟩
def RX10 : String := "AtomTables$Wheels"
def TX10 : u_T := fun k => match k with
  | _ => ("", "", "", false)
def tyX10 : Nat → FieldType := fun k => match k with
  | _ => .int
abbrev wsX100 : List Cond := u_ws RX10 TX10 0
theorem nmX10 : ∀ a, a < 0 → ∀ b, b < 0 → a ≠ b → (TX10 a).2.1 ≠ (TX10 b).2.1 := by decide +kernel
theorem tyX10_ok : ∀ k, k < 0 → parseFieldDescriptor (TX10 k).2.2.1 = some (tyX10 k) := by decide +kernel
abbrev cX10_init : ByteArray := prog_12_method_1_code
def yX10_init : MethodName := ⟨RX10, "<init>", "()V"⟩
abbrev cX10_span : ByteArray := prog_12_method_3_code
def yX10_span : MethodName := ⟨RX10, "span", "(III)V"⟩
abbrev cX10_hold : ByteArray := prog_12_method_4_code
def yX10_hold : MethodName := ⟨RX10, "hold", "(II)V"⟩
abbrev cX10_first : ByteArray := prog_12_method_5_code
def yX10_first : MethodName := ⟨RX10, "first", "()Z"⟩
abbrev cX10_next : ByteArray := prog_12_method_6_code
def yX10_next : MethodName := ⟨RX10, "next", "()Z"⟩
abbrev cX10_settle : ByteArray := prog_12_method_7_code
def yX10_settle : MethodName := ⟨RX10, "settle", "(I)Z"⟩
abbrev cX10_turn : ByteArray := prog_12_method_8_code
def yX10_turn : MethodName := ⟨RX10, "turn", "(I)I"⟩
abbrev cX10_digits : ByteArray := prog_12_method_9_code
def yX10_digits : MethodName := ⟨RX10, "digits", "(I)I"⟩
def RX11 : String := "AtomTables"
def TX11 : u_T := fun k => match k with
  | 0 => ("AtomTables", "now", "LAtomTables$Sheet;", true)
  | 1 => ("AtomTables", "kept", "LAtomTables$Sheet;", true)
  | 2 => ("AtomTables", "taken", "Z", false)
  | 3 => ("AtomTables", "patterns", "LAtomTables$Patterns;", true)
  | 4 => ("AtomTables", "filler", "LAtomTables$Filler;", true)
  | 5 => ("AtomTables", "game", "LAtomTables$Game;", true)
  | 6 => ("AtomTables", "desk", "LAtomTables$Board;", true)
  | 7 => ("AtomTables", "pictures", "LAtomTables$Pictures;", true)
  | 8 => ("AtomTables", "sizes", "[I", true)
  | 9 => ("AtomTables", "longs", "[J", true)
  | 10 => ("AtomTables", "tape", "LAtomTables$Tape;", true)
  | _ => ("AtomTables", "spelling", "LAtomTables$Tape;", true)
def tyX11 : Nat → FieldType := fun k => match k with
  | 0 => .object "AtomTables$Sheet"
  | 1 => .object "AtomTables$Sheet"
  | 2 => .boolean
  | 3 => .object "AtomTables$Patterns"
  | 4 => .object "AtomTables$Filler"
  | 5 => .object "AtomTables$Game"
  | 6 => .object "AtomTables$Board"
  | 7 => .object "AtomTables$Pictures"
  | 8 => .array .int
  | 9 => .array .long
  | 10 => .object "AtomTables$Tape"
  | _ => .object "AtomTables$Tape"
abbrev wsX110 : List Cond := u_ws RX11 TX11 12
theorem nmX11 : ∀ a, a < 12 → ∀ b, b < 12 → a ≠ b → (TX11 a).2.1 ≠ (TX11 b).2.1 := by decide +kernel
theorem tyX11_ok : ∀ k, k < 12 → parseFieldDescriptor (TX11 k).2.2.1 = some (tyX11 k) := by decide +kernel
abbrev cX11_init : ByteArray := prog_1_method_1_code
def yX11_init : MethodName := ⟨RX11, "<init>", "()V"⟩
abbrev cX11_atoms : ByteArray := prog_1_method_2_code
def yX11_atoms : MethodName := ⟨RX11, "atoms", "(I)I"⟩
abbrev cX11_pair : ByteArray := prog_1_method_3_code
def yX11_pair : MethodName := ⟨RX11, "pair", "(II)I"⟩
abbrev cX11_converse : ByteArray := prog_1_method_4_code
def yX11_converse : MethodName := ⟨RX11, "converse", "(I)I"⟩
abbrev cX11_triangle : ByteArray := prog_1_method_5_code
def yX11_triangle : MethodName := ⟨RX11, "triangle", "(IIII)I"⟩
abbrev cX11_isIn : ByteArray := prog_1_method_6_code
def yX11_isIn : MethodName := ⟨RX11, "isIn", "(III)I"⟩
abbrev cX11_compose : ByteArray := prog_1_method_7_code
def yX11_compose : MethodName := ⟨RX11, "compose", "(II)I"⟩
abbrev cX11_over : ByteArray := prog_1_method_8_code
def yX11_over : MethodName := ⟨RX11, "over", "(III)I"⟩
abbrev cX11_power : ByteArray := prog_1_method_9_code
def yX11_power : MethodName := ⟨RX11, "power", "(II)I"⟩
abbrev cX11_equivalence : ByteArray := prog_1_method_10_code
def yX11_equivalence : MethodName := ⟨RX11, "equivalence", "(I)I"⟩
abbrev cX11_solved : ByteArray := prog_1_method_11_code
def yX11_solved : MethodName := ⟨RX11, "solved", "(IIII)I"⟩
abbrev cX11_broken : ByteArray := prog_1_method_12_code
def yX11_broken : MethodName := ⟨RX11, "broken", "(I)I"⟩
abbrev cX11_cycles : ByteArray := prog_1_method_13_code
def yX11_cycles : MethodName := ⟨RX11, "cycles", "(I)I"⟩
abbrev cX11_node : ByteArray := prog_1_method_14_code
def yX11_node : MethodName := ⟨RX11, "node", "(II)I"⟩
abbrev cX11_drop : ByteArray := prog_1_method_15_code
def yX11_drop : MethodName := ⟨RX11, "drop", "(I)I"⟩
abbrev cX11_label : ByteArray := prog_1_method_16_code
def yX11_label : MethodName := ⟨RX11, "label", "(III)I"⟩
abbrev cX11_relabel : ByteArray := prog_1_method_17_code
def yX11_relabel : MethodName := ⟨RX11, "relabel", "(IIII)I"⟩
abbrev cX11_copy : ByteArray := prog_1_method_18_code
def yX11_copy : MethodName := ⟨RX11, "copy", "(II)I"⟩
abbrev cX11_sound : ByteArray := prog_1_method_19_code
def yX11_sound : MethodName := ⟨RX11, "sound", "(I)I"⟩
abbrev cX11_gap : ByteArray := prog_1_method_20_code
def yX11_gap : MethodName := ⟨RX11, "gap", "(II)I"⟩
abbrev cX11_fills : ByteArray := prog_1_method_21_code
def yX11_fills : MethodName := ⟨RX11, "fills", "(III)I"⟩
abbrev cX11_occurs : ByteArray := prog_1_method_22_code
def yX11_occurs : MethodName := ⟨RX11, "occurs", "(III)I"⟩
abbrev cX11_forbid : ByteArray := prog_1_method_23_code
def yX11_forbid : MethodName := ⟨RX11, "forbid", "(I)I"⟩
abbrev cX11_won : ByteArray := prog_1_method_24_code
def yX11_won : MethodName := ⟨RX11, "won", "(II)I"⟩
abbrev cX11_killer : ByteArray := prog_1_method_25_code
def yX11_killer : MethodName := ⟨RX11, "killer", "(II)I"⟩
abbrev cX11_lasts : ByteArray := prog_1_method_26_code
def yX11_lasts : MethodName := ⟨RX11, "lasts", "(I)I"⟩
abbrev cX11_begin : ByteArray := prog_1_method_27_code
def yX11_begin : MethodName := ⟨RX11, "begin", "(I)I"⟩
abbrev cX11_ask : ByteArray := prog_1_method_28_code
def yX11_ask : MethodName := ⟨RX11, "ask", "(I)I"⟩
abbrev cX11_answer : ByteArray := prog_1_method_29_code
def yX11_answer : MethodName := ⟨RX11, "answer", "(I)I"⟩
abbrev cX11_later : ByteArray := prog_1_method_30_code
def yX11_later : MethodName := ⟨RX11, "later", "()I"⟩
abbrev cX11_board : ByteArray := prog_1_method_31_code
def yX11_board : MethodName := ⟨RX11, "board", "(I)I"⟩
abbrev cX11_take : ByteArray := prog_1_method_32_code
def yX11_take : MethodName := ⟨RX11, "take", "(I)I"⟩
abbrev cX11_judge : ByteArray := prog_1_method_33_code
def yX11_judge : MethodName := ⟨RX11, "judge", "(I)I"⟩
abbrev cX11_found : ByteArray := prog_1_method_34_code
def yX11_found : MethodName := ⟨RX11, "found", "(I)I"⟩
abbrev cX11_list : ByteArray := prog_1_method_35_code
def yX11_list : MethodName := ⟨RX11, "list", "(II)I"⟩
abbrev cX11_put : ByteArray := prog_1_method_36_code
def yX11_put : MethodName := ⟨RX11, "put", "(IIJ)I"⟩
abbrev cX11_get : ByteArray := prog_1_method_37_code
def yX11_get : MethodName := ⟨RX11, "get", "(II)J"⟩
abbrev cX11_feed : ByteArray := prog_1_method_38_code
def yX11_feed : MethodName := ⟨RX11, "feed", "(I)I"⟩
abbrev cX11_wipe : ByteArray := prog_1_method_39_code
def yX11_wipe : MethodName := ⟨RX11, "wipe", "()I"⟩
abbrev cX11_read : ByteArray := prog_1_method_40_code
def yX11_read : MethodName := ⟨RX11, "read", "()I"⟩
abbrev cX11_spelled : ByteArray := prog_1_method_41_code
def yX11_spelled : MethodName := ⟨RX11, "spelled", "(I)I"⟩
abbrev cX11_image : ByteArray := prog_1_method_42_code
def yX11_image : MethodName := ⟨RX11, "image", "()I"⟩
abbrev cX11_undo : ByteArray := prog_1_method_43_code
def yX11_undo : MethodName := ⟨RX11, "undo", "()I"⟩
abbrev cX11_count : ByteArray := prog_1_method_44_code
def yX11_count : MethodName := ⟨RX11, "count", "(I)I"⟩
abbrev cX11_isAtom : ByteArray := prog_1_method_45_code
def yX11_isAtom : MethodName := ⟨RX11, "isAtom", "(I)Z"⟩
abbrev cX11_isAtomButZero : ByteArray := prog_1_method_46_code
def yX11_isAtomButZero : MethodName := ⟨RX11, "isAtomButZero", "(I)Z"⟩
abbrev cX11_isRelation : ByteArray := prog_1_method_47_code
def yX11_isRelation : MethodName := ⟨RX11, "isRelation", "(I)Z"⟩
abbrev cX11_isSide : ByteArray := prog_1_method_48_code
def yX11_isSide : MethodName := ⟨RX11, "isSide", "(I)Z"⟩
abbrev cX11_isNet : ByteArray := prog_1_method_49_code
def yX11_isNet : MethodName := ⟨RX11, "isNet", "(I)Z"⟩
abbrev cX11_isList : ByteArray := prog_1_method_50_code
def yX11_isList : MethodName := ⟨RX11, "isList", "(I)Z"⟩
abbrev cX11_isNode : ByteArray := prog_1_method_51_code
def yX11_isNode : MethodName := ⟨RX11, "isNode", "(II)Z"⟩
abbrev cX11_listsPresent : ByteArray := prog_1_method_52_code
def yX11_listsPresent : MethodName := ⟨RX11, "listsPresent", "()I"⟩
abbrev cX11_forgetNetworks : ByteArray := prog_1_method_53_code
def yX11_forgetNetworks : MethodName := ⟨RX11, "forgetNetworks", "()V"⟩
abbrev cX11_isPlayable : ByteArray := prog_1_method_54_code
def yX11_isPlayable : MethodName := ⟨RX11, "isPlayable", "(LAtomTables$Net;)Z"⟩
abbrev cX11_gameRefusal : ByteArray := prog_1_method_55_code
def yX11_gameRefusal : MethodName := ⟨RX11, "gameRefusal", "(II)I"⟩
abbrev cX11_perform : ByteArray := prog_1_method_56_code
def yX11_perform : MethodName := ⟨RX11, "perform", "()I"⟩
abbrev cX11_statement : ByteArray := prog_1_method_57_code
def yX11_statement : MethodName := ⟨RX11, "statement", "(II)I"⟩
def RX12 : String := "AtomTablesModel"
def TX12 : u_T := fun k => match k with
  | 0 => ("AtomTablesModel", "atoms", "I", false)
  | 1 => ("AtomTablesModel", "converses", "[I", true)
  | 2 => ("AtomTablesModel", "threes", "[Z", true)
  | 3 => ("AtomTablesModel", "sizes", "[I", true)
  | 4 => ("AtomTablesModel", "labels", "[I", true)
  | 5 => ("AtomTablesModel", "isForbidden", "Z", false)
  | 6 => ("AtomTablesModel", "isBoard", "Z", false)
  | 7 => ("AtomTablesModel", "asks", "[I", true)
  | 8 => ("AtomTablesModel", "asked", "I", false)
  | 9 => ("AtomTablesModel", "answered", "I", false)
  | 10 => ("AtomTablesModel", "seen", "I", false)
  | 11 => ("AtomTablesModel", "sought", "I", false)
  | 12 => ("AtomTablesModel", "found", "I", false)
  | 13 => ("AtomTablesModel", "points", "I", false)
  | 14 => ("AtomTablesModel", "steps", "[I", true)
  | 15 => ("AtomTablesModel", "longs", "[I", true)
  | 16 => ("AtomTablesModel", "items", "[J", true)
  | 17 => ("AtomTablesModel", "words", "[C", true)
  | 18 => ("AtomTablesModel", "figures", "[I", true)
  | 19 => ("AtomTablesModel", "tape", "[I", true)
  | 20 => ("AtomTablesModel", "taped", "I", false)
  | 21 => ("AtomTablesModel", "size", "I", false)
  | 22 => ("AtomTablesModel", "at", "I", false)
  | 23 => ("AtomTablesModel", "told", "[I", true)
  | 24 => ("AtomTablesModel", "signs", "I", false)
  | 25 => ("AtomTablesModel", "wanted", "I", false)
  | 26 => ("AtomTablesModel", "sign", "I", false)
  | 27 => ("AtomTablesModel", "isKept", "Z", false)
  | 28 => ("AtomTablesModel", "keptAtoms", "I", false)
  | 29 => ("AtomTablesModel", "keptConverses", "[I", true)
  | 30 => ("AtomTablesModel", "keptThrees", "[Z", true)
  | 31 => ("AtomTablesModel", "keptSizes", "[I", true)
  | 32 => ("AtomTablesModel", "keptLabels", "[I", true)
  | _ => ("AtomTablesModel", "keptForbidden", "Z", false)
def tyX12 : Nat → FieldType := fun k => match k with
  | 0 => .int
  | 1 => .array .int
  | 2 => .array .boolean
  | 3 => .array .int
  | 4 => .array .int
  | 5 => .boolean
  | 6 => .boolean
  | 7 => .array .int
  | 8 => .int
  | 9 => .int
  | 10 => .int
  | 11 => .int
  | 12 => .int
  | 13 => .int
  | 14 => .array .int
  | 15 => .array .int
  | 16 => .array .long
  | 17 => .array .char
  | 18 => .array .int
  | 19 => .array .int
  | 20 => .int
  | 21 => .int
  | 22 => .int
  | 23 => .array .int
  | 24 => .int
  | 25 => .int
  | 26 => .int
  | 27 => .boolean
  | 28 => .int
  | 29 => .array .int
  | 30 => .array .boolean
  | 31 => .array .int
  | 32 => .array .int
  | _ => .boolean
abbrev wsX120 : List Cond := u_ws RX12 TX12 34
theorem nmX12 : ∀ a, a < 34 → ∀ b, b < 34 → a ≠ b → (TX12 a).2.1 ≠ (TX12 b).2.1 := by decide +kernel
theorem tyX12_ok : ∀ k, k < 34 → parseFieldDescriptor (TX12 k).2.2.1 = some (tyX12 k) := by decide +kernel
abbrev cX12_init : ByteArray := prog_14_method_1_code
def yX12_init : MethodName := ⟨RX12, "<init>", "()V"⟩
abbrev cX12_isFrom : ByteArray := prog_14_method_2_code
def yX12_isFrom : MethodName := ⟨RX12, "isFrom", "(JJJ)Z"⟩
abbrev cX12_isAtom : ByteArray := prog_14_method_3_code
def yX12_isAtom : MethodName := ⟨RX12, "isAtom", "(I)Z"⟩
abbrev cX12_isOther : ByteArray := prog_14_method_4_code
def yX12_isOther : MethodName := ⟨RX12, "isOther", "(I)Z"⟩
abbrev cX12_isRelation : ByteArray := prog_14_method_5_code
def yX12_isRelation : MethodName := ⟨RX12, "isRelation", "(I)Z"⟩
abbrev cX12_has : ByteArray := prog_14_method_6_code
def yX12_has : MethodName := ⟨RX12, "has", "(II)Z"⟩
abbrev cX12_is : ByteArray := prog_14_method_7_code
def yX12_is : MethodName := ⟨RX12, "is", "(III)Z"⟩
abbrev cX12_fixes : ByteArray := prog_14_method_8_code
def yX12_fixes : MethodName := ⟨RX12, "fixes", "()V"⟩
abbrev cX12_atoms : ByteArray := prog_14_method_9_code
def yX12_atoms : MethodName := ⟨RX12, "atoms", "(I)I"⟩
abbrev cX12_pair : ByteArray := prog_14_method_10_code
def yX12_pair : MethodName := ⟨RX12, "pair", "(II)I"⟩
abbrev cX12_turned : ByteArray := prog_14_method_11_code
def yX12_turned : MethodName := ⟨RX12, "turned", "(I)I"⟩
abbrev cX12_converse : ByteArray := prog_14_method_12_code
def yX12_converse : MethodName := ⟨RX12, "converse", "(I)I"⟩
abbrev cX12_turn : ByteArray := prog_14_method_13_code
def yX12_turn : MethodName := ⟨RX12, "turn", "(IIII)I"⟩
abbrev cX12_triangle : ByteArray := prog_14_method_14_code
def yX12_triangle : MethodName := ⟨RX12, "triangle", "(IIII)I"⟩
abbrev cX12_isIn : ByteArray := prog_14_method_15_code
def yX12_isIn : MethodName := ⟨RX12, "isIn", "(III)I"⟩
abbrev cX12_composed : ByteArray := prog_14_method_16_code
def yX12_composed : MethodName := ⟨RX12, "composed", "(II)I"⟩
abbrev cX12_composedBy : ByteArray := prog_14_method_17_code
def yX12_composedBy : MethodName := ⟨RX12, "composedBy", "(III)I"⟩
abbrev cX12_compose : ByteArray := prog_14_method_18_code
def yX12_compose : MethodName := ⟨RX12, "compose", "(II)I"⟩
abbrev cX12_over : ByteArray := prog_14_method_19_code
def yX12_over : MethodName := ⟨RX12, "over", "(III)I"⟩
abbrev cX12_powerOf : ByteArray := prog_14_method_20_code
def yX12_powerOf : MethodName := ⟨RX12, "powerOf", "(II)I"⟩
abbrev cX12_power : ByteArray := prog_14_method_21_code
def yX12_power : MethodName := ⟨RX12, "power", "(II)I"⟩
abbrev cX12_isEquivalence : ByteArray := prog_14_method_22_code
def yX12_isEquivalence : MethodName := ⟨RX12, "isEquivalence", "(I)Z"⟩
abbrev cX12_equivalence : ByteArray := prog_14_method_23_code
def yX12_equivalence : MethodName := ⟨RX12, "equivalence", "(I)I"⟩
abbrev cX12_solved : ByteArray := prog_14_method_24_code
def yX12_solved : MethodName := ⟨RX12, "solved", "(IIII)I"⟩
abbrev cX12_broken : ByteArray := prog_14_method_25_code
def yX12_broken : MethodName := ⟨RX12, "broken", "(I)I"⟩
abbrev cX12_isLeast : ByteArray := prog_14_method_26_code
def yX12_isLeast : MethodName := ⟨RX12, "isLeast", "(III)Z"⟩
abbrev cX12_cycleOf : ByteArray := prog_14_method_27_code
def yX12_cycleOf : MethodName := ⟨RX12, "cycleOf", "(III)I"⟩
abbrev cX12_cycles : ByteArray := prog_14_method_28_code
def yX12_cycles : MethodName := ⟨RX12, "cycles", "(I)I"⟩
abbrev cX12_isNet : ByteArray := prog_14_method_29_code
def yX12_isNet : MethodName := ⟨RX12, "isNet", "(I)Z"⟩
abbrev cX12_isNode : ByteArray := prog_14_method_30_code
def yX12_isNode : MethodName := ⟨RX12, "isNode", "(II)Z"⟩
abbrev cX12_labelOf : ByteArray := prog_14_method_31_code
def yX12_labelOf : MethodName := ⟨RX12, "labelOf", "(III)I"⟩
abbrev cX12_lays : ByteArray := prog_14_method_32_code
def yX12_lays : MethodName := ⟨RX12, "lays", "(IIII)V"⟩
abbrev cX12_likens : ByteArray := prog_14_method_33_code
def yX12_likens : MethodName := ⟨RX12, "likens", "(II)V"⟩
abbrev cX12_digit : ByteArray := prog_14_method_34_code
def yX12_digit : MethodName := ⟨RX12, "digit", "(II)I"⟩
abbrev cX12_areAtoms : ByteArray := prog_14_method_35_code
def yX12_areAtoms : MethodName := ⟨RX12, "areAtoms", "(II)Z"⟩
abbrev cX12_comes : ByteArray := prog_14_method_36_code
def yX12_comes : MethodName := ⟨RX12, "comes", "(II)V"⟩
abbrev cX12_node : ByteArray := prog_14_method_37_code
def yX12_node : MethodName := ⟨RX12, "node", "(II)I"⟩
abbrev cX12_drop : ByteArray := prog_14_method_38_code
def yX12_drop : MethodName := ⟨RX12, "drop", "(I)I"⟩
abbrev cX12_label : ByteArray := prog_14_method_39_code
def yX12_label : MethodName := ⟨RX12, "label", "(III)I"⟩
abbrev cX12_relabel : ByteArray := prog_14_method_40_code
def yX12_relabel : MethodName := ⟨RX12, "relabel", "(IIII)I"⟩
abbrev cX12_copy : ByteArray := prog_14_method_41_code
def yX12_copy : MethodName := ⟨RX12, "copy", "(II)I"⟩
abbrev cX12_unsound : ByteArray := prog_14_method_42_code
def yX12_unsound : MethodName := ⟨RX12, "unsound", "(I)I"⟩
abbrev cX12_sound : ByteArray := prog_14_method_43_code
def yX12_sound : MethodName := ⟨RX12, "sound", "(I)I"⟩
abbrev cX12_isGap : ByteArray := prog_14_method_44_code
def yX12_isGap : MethodName := ⟨RX12, "isGap", "(IIIII)Z"⟩
abbrev cX12_isGapOf : ByteArray := prog_14_method_45_code
def yX12_isGapOf : MethodName := ⟨RX12, "isGapOf", "(II)Z"⟩
abbrev cX12_gapBehind : ByteArray := prog_14_method_46_code
def yX12_gapBehind : MethodName := ⟨RX12, "gapBehind", "(II)I"⟩
abbrev cX12_gap : ByteArray := prog_14_method_47_code
def yX12_gap : MethodName := ⟨RX12, "gap", "(II)I"⟩
abbrev cX12_isLike : ByteArray := prog_14_method_48_code
def yX12_isLike : MethodName := ⟨RX12, "isLike", "(IIIII)Z"⟩
abbrev cX12_seeks : ByteArray := prog_14_method_49_code
def yX12_seeks : MethodName := ⟨RX12, "seeks", "(IIIII)Z"⟩
abbrev cX12_looks : ByteArray := prog_14_method_50_code
def yX12_looks : MethodName := ⟨RX12, "looks", "(III)V"⟩
abbrev cX12_isBarred : ByteArray := prog_14_method_51_code
def yX12_isBarred : MethodName := ⟨RX12, "isBarred", "(I)Z"⟩
abbrev cX12_occurs : ByteArray := prog_14_method_52_code
def yX12_occurs : MethodName := ⟨RX12, "occurs", "(III)I"⟩
abbrev cX12_forbid : ByteArray := prog_14_method_53_code
def yX12_forbid : MethodName := ⟨RX12, "forbid", "(I)I"⟩
abbrev cX12_mayStand : ByteArray := prog_14_method_54_code
def yX12_mayStand : MethodName := ⟨RX12, "mayStand", "(II)Z"⟩
abbrev cX12_fillsFrom : ByteArray := prog_14_method_55_code
def yX12_fillsFrom : MethodName := ⟨RX12, "fillsFrom", "(IIIII)Z"⟩
abbrev cX12_isFilled : ByteArray := prog_14_method_56_code
def yX12_isFilled : MethodName := ⟨RX12, "isFilled", "(II)Z"⟩
abbrev cX12_isFillable : ByteArray := prog_14_method_57_code
def yX12_isFillable : MethodName := ⟨RX12, "isFillable", "(II)Z"⟩
abbrev cX12_looksToFill : ByteArray := prog_14_method_58_code
def yX12_looksToFill : MethodName := ⟨RX12, "looksToFill", "(III)V"⟩
abbrev cX12_fills : ByteArray := prog_14_method_59_code
def yX12_fills : MethodName := ⟨RX12, "fills", "(III)I"⟩
abbrev cX12_isWon : ByteArray := prog_14_method_60_code
def yX12_isWon : MethodName := ⟨RX12, "isWon", "(I)Z"⟩
abbrev cX12_killerOf : ByteArray := prog_14_method_61_code
def yX12_killerOf : MethodName := ⟨RX12, "killerOf", "(I)I"⟩
abbrev cX12_isPlayed : ByteArray := prog_14_method_62_code
def yX12_isPlayed : MethodName := ⟨RX12, "isPlayed", "(I)Z"⟩
abbrev cX12_whyNot : ByteArray := prog_14_method_63_code
def yX12_whyNot : MethodName := ⟨RX12, "whyNot", "(II)I"⟩
abbrev cX12_won : ByteArray := prog_14_method_64_code
def yX12_won : MethodName := ⟨RX12, "won", "(II)I"⟩
abbrev cX12_killer : ByteArray := prog_14_method_65_code
def yX12_killer : MethodName := ⟨RX12, "killer", "(II)I"⟩
abbrev cX12_lasts : ByteArray := prog_14_method_66_code
def yX12_lasts : MethodName := ⟨RX12, "lasts", "(I)I"⟩
abbrev cX12_begin : ByteArray := prog_14_method_67_code
def yX12_begin : MethodName := ⟨RX12, "begin", "(I)I"⟩
abbrev cX12_ask : ByteArray := prog_14_method_68_code
def yX12_ask : MethodName := ⟨RX12, "ask", "(I)I"⟩
abbrev cX12_isFillOf : ByteArray := prog_14_method_69_code
def yX12_isFillOf : MethodName := ⟨RX12, "isFillOf", "(II)Z"⟩
abbrev cX12_answer : ByteArray := prog_14_method_70_code
def yX12_answer : MethodName := ⟨RX12, "answer", "(I)I"⟩
abbrev cX12_later : ByteArray := prog_14_method_71_code
def yX12_later : MethodName := ⟨RX12, "later", "()I"⟩
abbrev cX12_board : ByteArray := prog_14_method_72_code
def yX12_board : MethodName := ⟨RX12, "board", "(I)I"⟩
abbrev cX12_take : ByteArray := prog_14_method_73_code
def yX12_take : MethodName := ⟨RX12, "take", "(I)I"⟩
abbrev cX12_isMet : ByteArray := prog_14_method_74_code
def yX12_isMet : MethodName := ⟨RX12, "isMet", "(III)Z"⟩
abbrev cX12_isAllHad : ByteArray := prog_14_method_75_code
def yX12_isAllHad : MethodName := ⟨RX12, "isAllHad", "()Z"⟩
abbrev cX12_falseStep : ByteArray := prog_14_method_76_code
def yX12_falseStep : MethodName := ⟨RX12, "falseStep", "()I"⟩
abbrev cX12_judge : ByteArray := prog_14_method_77_code
def yX12_judge : MethodName := ⟨RX12, "judge", "(I)I"⟩
abbrev cX12_isPictured : ByteArray := prog_14_method_78_code
def yX12_isPictured : MethodName := ⟨RX12, "isPictured", "(I)Z"⟩
abbrev cX12_found : ByteArray := prog_14_method_79_code
def yX12_found : MethodName := ⟨RX12, "found", "(I)I"⟩
abbrev cX12_isList : ByteArray := prog_14_method_80_code
def yX12_isList : MethodName := ⟨RX12, "isList", "(I)Z"⟩
abbrev cX12_list : ByteArray := prog_14_method_81_code
def yX12_list : MethodName := ⟨RX12, "list", "(II)I"⟩
abbrev cX12_put : ByteArray := prog_14_method_82_code
def yX12_put : MethodName := ⟨RX12, "put", "(IIJ)I"⟩
abbrev cX12_get : ByteArray := prog_14_method_83_code
def yX12_get : MethodName := ⟨RX12, "get", "(II)J"⟩
abbrev cX12_feed : ByteArray := prog_14_method_84_code
def yX12_feed : MethodName := ⟨RX12, "feed", "(I)I"⟩
abbrev cX12_wipe : ByteArray := prog_14_method_85_code
def yX12_wipe : MethodName := ⟨RX12, "wipe", "()I"⟩
abbrev cX12_isAt : ByteArray := prog_14_method_86_code
def yX12_isAt : MethodName := ⟨RX12, "isAt", "(II)Z"⟩
abbrev cX12_word : ByteArray := prog_14_method_87_code
def yX12_word : MethodName := ⟨RX12, "word", "()I"⟩
abbrev cX12_statement : ByteArray := prog_14_method_88_code
def yX12_statement : MethodName := ⟨RX12, "statement", "()I"⟩
abbrev cX12_isDone : ByteArray := prog_14_method_89_code
def yX12_isDone : MethodName := ⟨RX12, "isDone", "(I)Z"⟩
abbrev cX12_read : ByteArray := prog_14_method_90_code
def yX12_read : MethodName := ⟨RX12, "read", "()I"⟩
abbrev cX12_writes : ByteArray := prog_14_method_91_code
def yX12_writes : MethodName := ⟨RX12, "writes", "(I)V"⟩
abbrev cX12_writesWord : ByteArray := prog_14_method_92_code
def yX12_writesWord : MethodName := ⟨RX12, "writesWord", "(I)V"⟩
abbrev cX12_writesFigure : ByteArray := prog_14_method_93_code
def yX12_writesFigure : MethodName := ⟨RX12, "writesFigure", "(I)V"⟩
abbrev cX12_spells : ByteArray := prog_14_method_94_code
def yX12_spells : MethodName := ⟨RX12, "spells", "()V"⟩
abbrev cX12_spelled : ByteArray := prog_14_method_95_code
def yX12_spelled : MethodName := ⟨RX12, "spelled", "(I)I"⟩
abbrev cX12_image : ByteArray := prog_14_method_96_code
def yX12_image : MethodName := ⟨RX12, "image", "()I"⟩
abbrev cX12_undo : ByteArray := prog_14_method_97_code
def yX12_undo : MethodName := ⟨RX12, "undo", "()I"⟩
abbrev cX12_count : ByteArray := prog_14_method_98_code
def yX12_count : MethodName := ⟨RX12, "count", "(I)I"⟩
def RJ6 : String := "java/lang/Integer"
def TJ6 : u_T := fun k => match k with
  | _ => ("", "", "", false)
def tyJ6 : Nat → FieldType := fun k => match k with
  | _ => .int
abbrev wsJ60 : List Cond := u_ws RJ6 TJ6 0
theorem nmJ6 : ∀ a, a < 0 → ∀ b, b < 0 → a ≠ b → (TJ6 a).2.1 ≠ (TJ6 b).2.1 := by decide +kernel
theorem tyJ6_ok : ∀ k, k < 0 → parseFieldDescriptor (TJ6 k).2.2.1 = some (tyJ6 k) := by decide +kernel
abbrev cJ6_bitCount_0f7a4 : ByteArray := prog_15_method_49_code
def yJ6_bitCount_0f7a4 : MethodName := ⟨RJ6, "bitCount", "(I)I"⟩
def RJ13 : String := "java/lang/Long"
def TJ13 : u_T := fun k => match k with
  | _ => ("", "", "", false)
def tyJ13 : Nat → FieldType := fun k => match k with
  | _ => .int
abbrev wsJ130 : List Cond := u_ws RJ13 TJ13 0
theorem nmJ13 : ∀ a, a < 0 → ∀ b, b < 0 → a ≠ b → (TJ13 a).2.1 ≠ (TJ13 b).2.1 := by decide +kernel
theorem tyJ13_ok : ∀ k, k < 0 → parseFieldDescriptor (TJ13 k).2.2.1 = some (tyJ13 k) := by decide +kernel
abbrev cJ13_bitCount_95d88 : ByteArray := prog_16_method_50_code
def yJ13_bitCount_95d88 : MethodName := ⟨RJ13, "bitCount", "(J)I"⟩
def RJ9 : String := "java/lang/Math"
def TJ9 : u_T := fun k => match k with
  | _ => ("", "", "", false)
def tyJ9 : Nat → FieldType := fun k => match k with
  | _ => .int
abbrev wsJ90 : List Cond := u_ws RJ9 TJ9 0
theorem nmJ9 : ∀ a, a < 0 → ∀ b, b < 0 → a ≠ b → (TJ9 a).2.1 ≠ (TJ9 b).2.1 := by decide +kernel
theorem tyJ9_ok : ∀ k, k < 0 → parseFieldDescriptor (TJ9 k).2.2.1 = some (tyJ9 k) := by decide +kernel
abbrev cJ9_max_7cf53 : ByteArray := prog_17_method_65_code
def yJ9_max_7cf53 : MethodName := ⟨RJ9, "max", "(II)I"⟩
def RJ0 : String := "java/lang/String"
def TJ0 : u_T := fun k => match k with
  | _ => ("", "", "", false)
def tyJ0 : Nat → FieldType := fun k => match k with
  | _ => .int
abbrev wsJ00 : List Cond := u_ws RJ0 TJ0 0
theorem nmJ0 : ∀ a, a < 0 → ∀ b, b < 0 → a ≠ b → (TJ0 a).2.1 ≠ (TJ0 b).2.1 := by decide +kernel
theorem tyJ0_ok : ∀ k, k < 0 → parseFieldDescriptor (TJ0 k).2.2.1 = some (tyJ0 k) := by decide +kernel
abbrev cJ0_length_8abf5 : ByteArray := prog_18_method_54_code
def yJ0_length_8abf5 : MethodName := ⟨RJ0, "length", "()I"⟩
abbrev cJ0_charAt_5068e : ByteArray := prog_18_method_56_code
def yJ0_charAt_5068e : MethodName := ⟨RJ0, "charAt", "(I)C"⟩
abbrev cJ0_coder_7d493 : ByteArray := prog_18_method_152_code
def yJ0_coder_7d493 : MethodName := ⟨RJ0, "coder", "()B"⟩
abbrev cJ0_isLatin1_aae02 : ByteArray := prog_18_method_154_code
def yJ0_isLatin1_aae02 : MethodName := ⟨RJ0, "isLatin1", "()Z"⟩
abbrev cJ0_checkIndex_df160 : ByteArray := prog_18_method_155_code
def yJ0_checkIndex_df160 : MethodName := ⟨RJ0, "checkIndex", "(II)V"⟩
def RJ1 : String := "java/lang/StringLatin1"
def TJ1 : u_T := fun k => match k with
  | _ => ("", "", "", false)
def tyJ1 : Nat → FieldType := fun k => match k with
  | _ => .int
abbrev wsJ10 : List Cond := u_ws RJ1 TJ1 0
theorem nmJ1 : ∀ a, a < 0 → ∀ b, b < 0 → a ≠ b → (TJ1 a).2.1 ≠ (TJ1 b).2.1 := by decide +kernel
theorem tyJ1_ok : ∀ k, k < 0 → parseFieldDescriptor (TJ1 k).2.2.1 = some (tyJ1 k) := by decide +kernel
abbrev cJ1_charAt_3b067 : ByteArray := prog_19_method_2_code
def yJ1_charAt_3b067 : MethodName := ⟨RJ1, "charAt", "([BI)C"⟩
def RJ2 : String := "java/lang/StringUTF16"
def TJ2 : u_T := fun k => match k with
  | _ => ("", "", "", false)
def tyJ2 : Nat → FieldType := fun k => match k with
  | _ => .int
abbrev wsJ20 : List Cond := u_ws RJ2 TJ2 0
theorem nmJ2 : ∀ a, a < 0 → ∀ b, b < 0 → a ≠ b → (TJ2 a).2.1 ≠ (TJ2 b).2.1 := by decide +kernel
theorem tyJ2_ok : ∀ k, k < 0 → parseFieldDescriptor (TJ2 k).2.2.1 = some (tyJ2 k) := by decide +kernel
abbrev cJ2_getChar_3b067 : ByteArray := prog_20_method_5_code
def yJ2_getChar_3b067 : MethodName := ⟨RJ2, "getChar", "([BI)C"⟩
abbrev cJ2_length_9d52b : ByteArray := prog_20_method_6_code
def yJ2_length_9d52b : MethodName := ⟨RJ2, "length", "([B)I"⟩
abbrev cJ2_charAt_3b067 : ByteArray := prog_20_method_83_code
def yJ2_charAt_3b067 : MethodName := ⟨RJ2, "charAt", "([BI)C"⟩
abbrev cJ2_checkIndex_2214a : ByteArray := prog_20_method_91_code
def yJ2_checkIndex_2214a : MethodName := ⟨RJ2, "checkIndex", "(I[B)V"⟩
def RJ3 : String := "jdk/internal/util/Preconditions"
def TJ3 : u_T := fun k => match k with
  | _ => ("", "", "", false)
def tyJ3 : Nat → FieldType := fun k => match k with
  | _ => .int
abbrev wsJ30 : List Cond := u_ws RJ3 TJ3 0
theorem nmJ3 : ∀ a, a < 0 → ∀ b, b < 0 → a ≠ b → (TJ3 a).2.1 ≠ (TJ3 b).2.1 := by decide +kernel
theorem tyJ3_ok : ∀ k, k < 0 → parseFieldDescriptor (TJ3 k).2.2.1 = some (tyJ3 k) := by decide +kernel
abbrev cJ3_checkIndex_8e157 : ByteArray := prog_21_method_11_code
def yJ3_checkIndex_8e157 : MethodName := ⟨RJ3, "checkIndex", "(IILjava/util/function/BiFunction;)I"⟩
def RL : String := "AtomTablesLaw"
abbrev cL_law : ByteArray := code
def yL_law : MethodName := ⟨RL, "law", "([I)Z"⟩
abbrev vwCl : List vw_C := [(RX0, TX0, 6), (RX1, TX1, 5), (RX2, TX2, 5), (RX3, TX3, 2), (RX4, TX4, 7), (RX5, TX5, 8), (RX6, TX6, 6), (RX7, TX7, 4), (RX8, TX8, 3), (RX9, TX9, 2), (RX11, TX11, 12), (RX12, TX12, 34)]
theorem inX0 : ∀ w ∈ wsX00, w ∈ lw_tbl := fun w h => (goodIn_p wsX00 [] (by decide +kernel) (by decide +kernel) w h).1
theorem inX1 : ∀ w ∈ wsX10, w ∈ lw_tbl := fun w h => (goodIn_p wsX10 [] (by decide +kernel) (by decide +kernel) w h).1
theorem inX2 : ∀ w ∈ wsX20, w ∈ lw_tbl := fun w h => (goodIn_p wsX20 [] (by decide +kernel) (by decide +kernel) w h).1
theorem inX3 : ∀ w ∈ wsX30, w ∈ lw_tbl := fun w h => (goodIn_p wsX30 [] (by decide +kernel) (by decide +kernel) w h).1
theorem inX4 : ∀ w ∈ wsX40, w ∈ lw_tbl := fun w h => (goodIn_p wsX40 [] (by decide +kernel) (by decide +kernel) w h).1
theorem inX5 : ∀ w ∈ wsX50, w ∈ lw_tbl := fun w h => (goodIn_p wsX50 [] (by decide +kernel) (by decide +kernel) w h).1
theorem inX6 : ∀ w ∈ wsX60, w ∈ lw_tbl := fun w h => (goodIn_p wsX60 [] (by decide +kernel) (by decide +kernel) w h).1
theorem inX7 : ∀ w ∈ wsX70, w ∈ lw_tbl := fun w h => (goodIn_p wsX70 [] (by decide +kernel) (by decide +kernel) w h).1
theorem inX8 : ∀ w ∈ wsX80, w ∈ lw_tbl := fun w h => (goodIn_p wsX80 [] (by decide +kernel) (by decide +kernel) w h).1
theorem inX9 : ∀ w ∈ wsX90, w ∈ lw_tbl := fun w h => (goodIn_p wsX90 [] (by decide +kernel) (by decide +kernel) w h).1
theorem inX10 : ∀ w ∈ wsX100, w ∈ lw_tbl := fun w h => (goodIn_p wsX100 [] (by decide +kernel) (by decide +kernel) w h).1
theorem inX11 : ∀ w ∈ wsX110, w ∈ lw_tbl := fun w h => (goodIn_p wsX110 [] (by decide +kernel) (by decide +kernel) w h).1
theorem inX12 : ∀ w ∈ wsX120, w ∈ lw_tbl := fun w h => (goodIn_p wsX120 [] (by decide +kernel) (by decide +kernel) w h).1
theorem inJ6 : ∀ w ∈ wsJ60, w ∈ lw_tbl := fun w h => (goodIn_p wsJ60 [] (by decide +kernel) (by decide +kernel) w h).1
theorem inJ13 : ∀ w ∈ wsJ130, w ∈ lw_tbl := fun w h => (goodIn_p wsJ130 [] (by decide +kernel) (by decide +kernel) w h).1
theorem inJ9 : ∀ w ∈ wsJ90, w ∈ lw_tbl := fun w h => (goodIn_p wsJ90 [] (by decide +kernel) (by decide +kernel) w h).1
theorem inJ0 : ∀ w ∈ wsJ00, w ∈ lw_tbl := fun w h => (goodIn_p wsJ00 [] (by decide +kernel) (by decide +kernel) w h).1
theorem inJ1 : ∀ w ∈ wsJ10, w ∈ lw_tbl := fun w h => (goodIn_p wsJ10 [] (by decide +kernel) (by decide +kernel) w h).1
theorem inJ2 : ∀ w ∈ wsJ20, w ∈ lw_tbl := fun w h => (goodIn_p wsJ20 [] (by decide +kernel) (by decide +kernel) w h).1
theorem inJ3 : ∀ w ∈ wsJ30, w ∈ lw_tbl := fun w h => (goodIn_p wsJ30 [] (by decide +kernel) (by decide +kernel) w h).1
end
section
/-! G: the machine over an abstract heap of numbered cells (id k lies at base + k), goal first -/
/-- private methods of the class Wheels, selected for its subclasses: not among the tables' words, but they follow -/
def gk_x : List Cond := [.selects RX4 yX10_settle yX10_settle, .selects RX5 yX10_settle yX10_settle, .selects RX6 yX10_settle yX10_settle, .selects RX4 yX10_turn yX10_turn, .selects RX5 yX10_turn yX10_turn, .selects RX6 yX10_turn yX10_turn]
def gk_T : List Cond := (gk_x ++ lw_tbl).filter goodWord
theorem gk_in {w : Cond} (h : w ∈ lw_tbl) (g : goodWord w = true) : w ∈ gk_T := List.mem_filter.mpr ⟨List.mem_append_right _ h, g⟩
theorem gk_inx {w : Cond} (i : Nat) (h : gk_x[i]? = some w) (g : goodWord w = true) : w ∈ gk_T := List.mem_filter.mpr ⟨List.mem_append_left _ (List.mem_of_getElem? h), g⟩
theorem gk_sel {C : String} {y z x0 : MethodName} {args : Array Value} {s : State} (hy : y.cls ≠ "java/lang/invoke/MethodHandle" ∧ y.cls ≠ "java/lang/invoke/VarHandle") (hzy : z.cls = y.cls) (h0 : (Cond.selects C x0 z).before args s = true) (hpriv : (Cond.privateMethod y).before args s = true) (hinst : (Cond.instanceMethod y).before args s = true) : (Cond.selects C y y).before args s = true := by
  obtain ⟨mk, methM, hnamed, hmethM, -, -⟩ := Cond.instanceMethod_spec hinst
  have hfound : s.methodFound? y.cls y.name y.desc = some mk := State.methodFound?_of_named hnamed hy
  have hsel : ∀ c, selectMethod {} s.vm c mk = .method mk := fun c => selectMethod_private hmethM (Cond.privateMethod_at hpriv mk methM hnamed hmethM)
  have hcls : s.vm.findClass y.cls = some mk.cls := findClass_of_methodNamed hnamed
  simp only [Cond.before, Cond.holds, Cond.value] at h0 ⊢
  cases hc : s.vm.findClass C with
  | none => simp [hc] at h0
  | some c =>
    cases hr : s.methodFound? x0.cls x0.name x0.desc with
    | none => simp [hc, hr] at h0
    | some r =>
      cases hz : s.methodNamed? z with
      | none => simp [hc, hr, hz] at h0
      | some m =>
        have hm : m.cls = mk.cls := by
          have h1 : s.vm.findClass z.cls = some m.cls := findClass_of_methodNamed hz
          rw [hzy, hcls] at h1
          exact (Option.some.inj h1).symm
        simp only [hc, hr, hz] at h0
        simp only [hfound, hnamed, hsel]
        cases hS : selectMethod {} s.vm c r with
        | method m' =>
          simp only [hS] at h0
          simp at h0 ⊢
          rw [hm] at h0
          exact h0.2
        | _ => simp [hS] at h0
theorem gk_at {w : Cond} (i : Nat) (h : lw_tbl[i]? = some w) (g : goodWord w = true) : w ∈ gk_T := gk_in (List.mem_of_getElem? h) g
theorem gk_good {ws : List Cond} (h : ∀ w ∈ ws, w ∈ gk_T) : GoodIn gk_T ws := fun w hw => ⟨h w hw, good_of_word (List.mem_filter.mp (h w hw)).2⟩
/-- the world's constants: launch, base, the places of the String constants, the script, the classes, the array classes -/
abbrev gk_E : Type := Launch × Nat × (Nat → Nat) × (Nat × Nat × (Nat → Int32)) × va_G × (Nat → ClassId)
abbrev gk_b (E : gk_E) : Nat := E.2.1
abbrev gk_sa (E : gk_E) : Nat → Nat := E.2.2.1
abbrev gk_scr (E : gk_E) : Nat × Nat × (Nat → Int32) := E.2.2.2.1
abbrev gk_D (E : gk_E) : va_G := E.2.2.2.2.1
abbrev gk_cy (E : gk_E) : Nat → ClassId := E.2.2.2.2.2
abbrev gk_X : Type := (Nat × vp_A) ⊕ (Nat × List Value)
abbrev gk_H : Type := List gk_X
def gk_ty : Nat → FieldType := fun k => match k with
  | 0 => .int
  | 1 => .long
  | 2 => .byte
  | 3 => .boolean
  | 4 => .char
  | 5 => .object RX3
  | 6 => .object RX6
  | _ => .array .int
def gk_tys (E : gk_E) : List (ClassId × FieldType) := [(gk_cy E 0, .int), (gk_cy E 1, .long), (gk_cy E 2, .byte), (gk_cy E 3, .boolean), (gk_cy E 4, .char), (gk_cy E 5, .object RX3), (gk_cy E 6, .object RX6), (gk_cy E 7, .array .int)]
def gk_a (E : gk_E) (i : Nat) : Nat := if i < 1000000 then gk_b E + i else if i = 1000000 then (gk_scr E).1 else gk_sa E (i - 1000001)
def gk_v (E : gk_E) : Value → Value := fun v => match v with
  | .ref i => .ref (gk_a E i)
  | v => v
def gk_c (E : gk_E) : vp_A → vp_A := fun a => match a with
  | (n, .inr (.inr (.inr (.inr f)))) => (n, .inr (.inr (.inr (.inr (fun j => (f j).map (gk_a E))))))
  | a => a
def gk_e (E : gk_E) : gk_X → va_E := fun x => match x with
  | .inl (t, a) => .inl (gk_cy E t, gk_c E a)
  | .inr (ci, fs) => .inr (ci, fs.map (gk_v E))
def gk_lay (E : gk_E) : Nat → gk_H → va_W
  | _, [] => []
  | k, x :: h => (gk_b E + k, gk_e E x) :: gk_lay E (k + 1) h
abbrev gk_A (E : gk_E) : Nat → Prop := fun q => gk_b E ≤ q
theorem gk_cat (E : gk_E) (v : Value) : (gk_v E v).category = v.category := by cases v <;> rfl
theorem gk_lay_at (E : gk_E) : ∀ (h : gk_H) (k i : Nat), (gk_lay E k h)[i]? = (h[i]?).map (fun x => (gk_b E + (k + i), gk_e E x))
  | [], k, i => by simp [gk_lay]
  | x :: h, k, 0 => by simp [gk_lay]
  | x :: h, k, i + 1 => by
    simp only [gk_lay, List.getElem?_cons_succ]
    rw [gk_lay_at E h (k + 1) i, show k + 1 + i = k + (i + 1) by omega]
theorem gk_lay_set (E : gk_E) (y : gk_X) : ∀ (h : gk_H) (k i : Nat), gk_lay E k (h.set i y) = (gk_lay E k h).set i (gk_b E + (k + i), gk_e E y)
  | [], k, i => by simp [gk_lay]
  | x :: h, k, 0 => by simp [gk_lay]
  | x :: h, k, i + 1 => by
    simp only [gk_lay, List.set_cons_succ]
    rw [gk_lay_set E y h (k + 1) i, show k + 1 + i = k + (i + 1) by omega]
theorem gk_lay_app (E : gk_E) (h2 : gk_H) : ∀ (h : gk_H) (k : Nat), gk_lay E k (h ++ h2) = gk_lay E k h ++ gk_lay E (k + h.length) h2
  | [], k => by simp [gk_lay]
  | x :: h, k => by
    simp only [gk_lay, List.cons_append, List.length_cons]
    rw [gk_lay_app E h2 h (k + 1), show k + 1 + h.length = k + (h.length + 1) by omega]
theorem gk_lay_D (E : gk_E) (h : gk_H) : va_D (gk_A E) (gk_lay E 0 h) := by
  refine ⟨fun i j p q hp hq hpq => ?_, fun k q hk => ?_⟩
  · rw [gk_lay_at] at hp hq
    obtain ⟨x, -, rfl⟩ := Option.map_eq_some_iff.mp hp
    obtain ⟨y, -, rfl⟩ := Option.map_eq_some_iff.mp hq
    dsimp only at hpq
    omega
  · rw [gk_lay_at] at hk
    obtain ⟨x, -, rfl⟩ := Option.map_eq_some_iff.mp hk
    exact Nat.le_add_right _ _
/-- the heap holds the abstract cells -/
def gk_W (E : gk_E) (h : gk_H) (H : Heap) : Prop := va_P (gk_D E) vwCl (gk_lay E 0 h) H ∧ h.length ≤ 900000
def gk_str : List String := ["atoms", "pair", "in", "out", ";pair", ";in"]
def gk_len : List Nat := [5, 4, 2, 3, 5, 3]
def gk_byt : List (List Int32) := [[97, 116, 111, 109, 115], [112, 97, 105, 114], [105, 110], [111, 117, 116], [59, 112, 97, 105, 114], [59, 105, 110]]
def gk_pool : List Nat := [37, 43, 45, 47, 74, 87]
/-- what the tables say, and what lies below base -/
def gk_S (E : gk_E) (U : State) : Prop := va_K (gk_D E) vwCl (gk_tys E) U ∧ va_X (gk_scr E).1 (gk_scr E).2.1 (gk_scr E).2.2 U U.heap ∧ (gk_scr E).1 < gk_b E ∧ gk_b E ≤ U.heap.size ∧
  (∃ adV : Nat → Nat, vk_S 6 gk_len gk_byt (gk_sa E) adV (gk_A E) U U.heap) ∧ (∀ i : Nat, i < 6 → vk_R RX9 (gk_pool.getD i 0) (gk_str.getD i "") (gk_sa E i) U) ∧ va_Z "java/lang/String" "COMPACT_STRINGS" "Z" (.int 1) (gk_A E) U U.heap ∧ va_Nw (.declares ⟨"AtomTables$Wheels", "clash", "(I)I"⟩) U
theorem gk_S.moved {E : gk_E} {s U : State} {H : Heap} {locs : List Loc} (h : gk_S E s) (hW : s.WarmedH U.vm) (hU : U.heap = H) (hS : va_S (gk_A E) s.heap H locs) : gk_S E U := by
  obtain ⟨h1, h2, h3, h4, ⟨adV, h5⟩, h6, h7, h8⟩ := h
  subst hU
  have hk : ∀ a : Nat, a < s.heap.size → ¬ gk_A E a → U.heap[a]? = s.heap[a]? := fun a q1 q2 => hS.2.1 a q1 q2
  refine ⟨va_K.moved hW.alike h1, ?_, h3, Nat.le_trans h4 hS.1, ⟨adV, (vk_S.moved hW.alike h5).kept hk⟩, fun i hi => (h6 i hi).warm hW, (va_Z.moved hW.alike h7).kept hk, h8.warmD hW⟩
  obtain ⟨scr, g1, g2, g3⟩ := va_X.moved hW.alike h2
  exact ⟨scr, by rw [hk _ (Array.getElem?_eq_some_iff.mp g1).1 (Nat.not_le.mpr h3)]; exact g1, g2, g3⟩
theorem gk_S.call {E : gk_E} {U : State} (h : gk_S E U) (g : JFrame) (mk : MethodId) (a : Array Value) : gk_S E (U.calling g mk a) := by
  obtain ⟨h1, h2, h3, h4, ⟨adV, h5⟩, h6, h7, h8⟩ := h
  exact ⟨va_K.moved (u := U) (U := U.calling g mk a) (Vm.Alike.refl U.vm) h1, va_X.moved (u := U) (U := U.calling g mk a) (Vm.Alike.refl U.vm) h2, h3, h4, ⟨adV, vk_S.moved (u := U) (U := U.calling g mk a) (Vm.Alike.refl U.vm) h5⟩, fun i hi => vk_R.same (u := U) (U := U.calling g mk a) rfl (h6 i hi), va_Z.moved (u := U) (U := U.calling g mk a) (Vm.Alike.refl U.vm) h7, va_Nw.same (u := U) (U := U.calling g mk a) rfl rfl h8⟩
/-- a method: its name, code, locals, result -/
abbrev gk_M : Type := MethodName × ByteArray × Nat × Option FieldType
abbrev gk_cw (M : gk_M) : Cond := Cond.code M.1 M.2.1 M.2.2.1 M.2.2.2
/-- frames left, cells left, slots left -/
abbrev gk_B : Type := Nat × Nat × Nat
def gk_Cx (E : gk_E) (M : gk_M) (d : gk_B) (p : Program) (R : Room) (s : State) (m : MethodId) (args : Array Value) (meth : Method) (c : Code) (MC MS : Nat) : Prop :=
  p.tables.exec = Jvm.exec ∧ c.code = M.2.1 ∧ c.maxLocals = M.2.2.1 ∧ meth.sig.returnType = M.2.2.2 ∧ meth.locks = false ∧ meth.name = M.1.name ∧ (∀ w ∈ gk_T, w.before args s = true) ∧ s.vm.findClass M.1.cls = some m.cls ∧ gk_S E s ∧ d.1 ≤ R.frames ∧ 64 * d.1 ≤ R.locals ∧ MC ≤ R.cells ∧ MS ≤ R.slots
/-- an instruction that returns r -/
def gk_ret (M : gk_M) (pc : Nat) : Option Value → Prop := fun r => match r with
  | none => decode M.2.1 pc = .ok (.return_, 1) ∧ M.2.2.2 = none
  | some (.int v) => decode M.2.1 pc = .ok (.ireturn, 1) ∧ ∃ ty, M.2.2.2 = some ty ∧ narrow ty (.int v) = .int v
  | some (.long _) => decode M.2.1 pc = .ok (.lreturn, 1) ∧ M.2.2.2 = some .long
  | _ => False
def gk_R (E : gk_E) (M : gk_M) (K : Option Value → gk_H → Prop) (p : Program) (e : Env) (R : Room) (s : State) (m : MethodId) (args : Array Value) (below : List Frame) (meth : Method) (c : Code) (MC MS : Nat) (Q : State → Prop) : Prop :=
  ∀ (r : Option Value) (h : gk_H) (pc : Nat) (ls : Array Slot) (H : Heap) (locs : List Loc) (slots : Nat), K r h → gk_ret M pc r → gk_W E h H → va_S (gk_A E) s.heap H locs → slots ≤ MS → s.heap.size + MC ≤ gk_b E + h.length →
    W p E.1 e R s m args below meth c H locs MC slots Q (F0 m pc ls (r.toList.map (gk_v E)))
abbrev gk_L (E : gk_E) (lv : List (Nat × Value)) : List (Nat × Value) := lv.map (fun q => (q.1, gk_v E q.2))
/-- from pc on, with these locals, this stack, this heap: the method returns, and K -/
def gk_G (E : gk_E) (M : gk_M) (d : gk_B) (pc : Nat) (lv : List (Nat × Value)) (st : List Value) (h : gk_H) (K : Option Value → gk_H → Prop) : Prop :=
  ∀ (p : Program) (e : Env) (R : Room) (s : State) (m : MethodId) (args : Array Value) (below : List Frame) (meth : Method) (c : Code) (Q : State → Prop) (MC MS : Nat) (H : Heap) (locs : List Loc) (ls : Array Slot) (cells slots : Nat),
    gk_Cx E M d p R s m args meth c MC MS → gk_R E M K p e R s m args below meth c MC MS Q → gk_W E h H → va_S (gk_A E) s.heap H locs → lv_has ls M.2.2.1 (gk_L E lv) → cells + d.2.1 = MC → slots + d.2.2 = MS → s.heap.size + cells ≤ gk_b E + h.length →
    W p E.1 e R s m args below meth c H locs cells slots Q (F0 m pc ls (st.map (gk_v E)))
/-- a call from its start -/
def gk_Run (E : gk_E) (M : gk_M) (d : gk_B) (vs : List Value) (h : gk_H) (K : Option Value → gk_H → Prop) : Prop := gk_G E M d 0 (lv_args 0 vs) [] h K
theorem gk_Cx.mono {E : gk_E} {M : gk_M} {d d' : gk_B} (hd : d.1 ≤ d'.1) {p : Program} {R : Room} {s : State} {m : MethodId} {args : Array Value} {meth : Method} {c : Code} {MC MS : Nat} (h : gk_Cx E M d' p R s m args meth c MC MS) : gk_Cx E M d p R s m args meth c MC MS := by
  obtain ⟨h1, h2, h3, h4, h5, h6, h7, h8, h9, h10, h11, h12⟩ := h
  exact ⟨h1, h2, h3, h4, h5, h6, h7, h8, h9, Nat.le_trans hd h10, by omega, h12⟩
theorem gk_G.mono {E : gk_E} {M : gk_M} {d1 d2 b1 b2 pc : Nat} (hd : d1 ≤ d2) {lv : List (Nat × Value)} {st : List Value} {h : gk_H} {K : Option Value → gk_H → Prop} (k : gk_G E M (d1, b1, b2) pc lv st h K) : gk_G E M (d2, b1, b2) pc lv st h K :=
  fun p e R s m args below meth c Q MC MS H locs ls cells slots C => k p e R s m args below meth c Q MC MS H locs ls cells slots (gk_Cx.mono hd C)
theorem gk_G.post {E : gk_E} {M : gk_M} {d : gk_B} {pc : Nat} {lv : List (Nat × Value)} {st : List Value} {h : gk_H} {K K' : Option Value → gk_H → Prop} (hK : ∀ r h', K r h' → K' r h') (k : gk_G E M d pc lv st h K) : gk_G E M d pc lv st h K' :=
  fun p e R s m args below meth c Q MC MS H locs ls cells slots C Rt => k p e R s m args below meth c Q MC MS H locs ls cells slots C (fun r h pc ls H locs slots q => Rt r h pc ls H locs slots (hK r h q))
theorem gk_Run.mono {E : gk_E} {M : gk_M} {d1 d2 b1 b2 : Nat} (hd : d1 ≤ d2) {vs : List Value} {h : gk_H} {K : Option Value → gk_H → Prop} (k : gk_Run E M (d1, b1, b2) vs h K) : gk_Run E M (d2, b1, b2) vs h K := gk_G.mono hd k
theorem gk_Run.post {E : gk_E} {M : gk_M} {d : gk_B} {vs : List Value} {h : gk_H} {K K' : Option Value → gk_H → Prop} (hK : ∀ r h', K r h' → K' r h') (k : gk_Run E M d vs h K) : gk_Run E M d vs h K' := gk_G.post hK k
theorem gk_args (E : gk_E) : ∀ (vs : List Value) (i : Nat), lv_args i (vs.map (gk_v E)) = gk_L E (lv_args i vs)
  | [], i => rfl
  | v :: vs, i => by
    show (i, gk_v E v) :: lv_args (if (gk_v E v).category = 2 then i + 2 else i + 1) (vs.map (gk_v E)) = (i, gk_v E v) :: gk_L E (lv_args (if v.category = 2 then i + 2 else i + 1) vs)
    rw [gk_cat, gk_args E vs]
theorem gk_sl (E : gk_E) : ∀ (vs : List Value), (lg_sl (vs.map (gk_v E))).length = (lg_sl vs).length
  | [] => rfl
  | v :: vs => by
    have h := gk_sl E vs
    simp only [lg_sl, List.map_cons, List.flatMap_cons, List.length_append, gk_cat] at h ⊢
    rw [h]
    split <;> rfl
def gk_Q (E : gk_E) (K : Option Value → gk_H → Prop) (mc : Nat) : Array Value → State → Outcome → State → Prop := fun _ st oc t => (∃ (r : Option Value) (h : gk_H), oc = .returned (r.map (gk_v E)) ∧ K r h ∧ gk_W E h t.heap ∧ st.heap.size + mc ≤ gk_b E + h.length) ∧ va_F (gk_A E) st t
def gk_rm (d : gk_B) : Room := { frames := d.1, cells := d.2.1, slots := d.2.2, locals := 64 * d.1 }
set_option maxHeartbeats 4000000 in
/-- a run gives the kit's contract -/
theorem gk_met {E : gk_E} {M : gk_M} {d : gk_B} {vs : List Value} {h : gk_H} {K : Option Value → gk_H → Prop} (hpl : plainName M.1.cls = true) (hn : (lg_sl vs).length ≤ M.2.2.1) (hG : gk_Run E M d vs h K) :
    Met E.1 M.1 (gk_cw M :: gk_T) (gk_rm d) (va_Pc (vs.map (gk_v E)) (fun U => gk_S E U ∧ gk_W E h U.heap ∧ U.heap.size ≤ gk_b E + h.length)) (gk_Q E K d.2.1) d.2.1 d.2.2 (gk_A E) := by
  refine Met.ofW (cc := M.2.1) (maxL := M.2.2.1) (ret := M.2.2.2) hpl rfl ?_
  intro p e s m args below meth c s₁ B hml hv
  obtain ⟨rfl, hS, hW, hz⟩ := hv
  have hts := atoms_spec (ws := gk_cw M :: gk_T) B.pre
  have hown : s.vm.findClass M.1.cls = some m.cls := findClass_of_methodNamed B.named
  have hlocks : meth.locks = false := B.notSynchronized
  have hnm : meth.name = M.1.name := (name_of_methodNamed B.named B.method).1
  have hl := lv_entry (vs.map (gk_v E)) (n := M.2.2.1) (by rw [gk_sl]; exact hn)
  rw [lg_entry_eq]
  generalize (lg_sl (vs.map (gk_v E)) ++ List.replicate (M.2.2.1 - (lg_sl (vs.map (gk_v E))).length) Slot.unset).toArray = ls at hl ⊢
  rw [gk_args] at hl
  refine hG p e _ s m _ below meth c _ d.2.1 d.2.2 s.heap [] ls 0 0 ⟨B.exec, B.bytes, hml, B.returns, hlocks, hnm, fun w hw => hts w (List.mem_cons_of_mem _ hw), hown, hS, Nat.le_refl _, Nat.le_refl _, Nat.le_refl _, Nat.le_refl _⟩ ?_ hW va_S.rf hl (Nat.zero_add _) (Nat.zero_add _) hz
  intro r h' pc ls H locs slots hK hr hW' hS' ht hz'
  have hq : ∀ t : State, t.heap = H → s.WarmedH t.vm → gk_Q E K d.2.1 (vs.map (gk_v E)).toArray s (.returned (r.map (gk_v E))) t := fun t e _ => ⟨⟨r, h', rfl, hK, by rw [e]; exact hW', hz'⟩, hS'.F e⟩
  refine W.widen (k := d.2.1) (n := d.2.2) (Nat.le_refl _) ht ?_
  match r, hr, hq with
  | none, hr, hq => exact W.vret B.exec B.bytes (B.returns.trans hr.2) hq hS'.2.2 hr.1 hlocks
  | some (.int v), hr, hq =>
    obtain ⟨h1, ty, h2, h3⟩ := hr
    exact W.zret B.exec B.bytes (B.returns.trans h2) h3 hq hS'.2.2 h1 hlocks
  | some (.long v), hr, hq => exact W.lret B.exec B.bytes (B.returns.trans hr.2) hq hS'.2.2 hr.1 hlocks
/-- the heap's size, exactly: the tables' book from above, the cells from below -/
theorem gk_size {E : gk_E} {M : gk_M} {d : gk_B} {p : Program} {e : Env} {R : Room} {s T : State} {m : MethodId} {args : Array Value} {below : List Frame} {meth : Method} {c : Code} {MC MS : Nat} {h : gk_H} {locs : List Loc} {cells slots : Nat} (C : gk_Cx E M d p R s m args meth c MC MS) (hW : gk_W E h T.heap) (hS : va_S (gk_A E) s.heap T.heap locs) (hz : s.heap.size + cells ≤ gk_b E + h.length) (X : Stand p E.1 e R s m args below meth c T locs cells slots) : T.heap.size = gk_b E + h.length := by
  have h1 : T.heap.size ≤ s.heap.size + cells := X.same.2.2.1
  have h2 : gk_b E + h.length ≤ T.heap.size := by
    cases hh : h.length with
    | zero => have := C.2.2.2.2.2.2.2.2.1.2.2.2.1; have := hS.1; omega
    | succ n =>
      have hx : h[n]? = some h[n] := List.getElem?_eq_getElem (by omega)
      have := (hW.1 n _ (by rw [gk_lay_at, hx]; rfl)).lt
      dsimp only at this
      omega
  omega
end
section
theorem gk_iadd {E : gk_E} {M : gk_M} {d : gk_B} {pc : Nat} {lv : List (Nat × Value)} {st : List Value} {h : gk_H} {K : Option Value → gk_H → Prop} {x y : Int32} (hd : decode M.2.1 pc = .ok (.iadd, 1)) (k : gk_G E M d (pc + 1) lv (.int (x + y) :: st) h K) : gk_G E M d (pc) lv (.int y :: .int x :: st) h K := by
  intro p e R s m args below meth c Q MC MS H locs ls cells slots C Rt hW hS hl hc ht hz
  exact lv_iadd C.1 C.2.1 hd (k p e R s m args below meth c Q MC MS H locs ls cells slots C Rt hW hS hl hc ht hz)
theorem gk_isub {E : gk_E} {M : gk_M} {d : gk_B} {pc : Nat} {lv : List (Nat × Value)} {st : List Value} {h : gk_H} {K : Option Value → gk_H → Prop} {x y : Int32} (hd : decode M.2.1 pc = .ok (.isub, 1)) (k : gk_G E M d (pc + 1) lv (.int (x - y) :: st) h K) : gk_G E M d (pc) lv (.int y :: .int x :: st) h K := by
  intro p e R s m args below meth c Q MC MS H locs ls cells slots C Rt hW hS hl hc ht hz
  exact lv_isub C.1 C.2.1 hd (k p e R s m args below meth c Q MC MS H locs ls cells slots C Rt hW hS hl hc ht hz)
theorem gk_imul {E : gk_E} {M : gk_M} {d : gk_B} {pc : Nat} {lv : List (Nat × Value)} {st : List Value} {h : gk_H} {K : Option Value → gk_H → Prop} {x y : Int32} (hd : decode M.2.1 pc = .ok (.imul, 1)) (k : gk_G E M d (pc + 1) lv (.int (x * y) :: st) h K) : gk_G E M d (pc) lv (.int y :: .int x :: st) h K := by
  intro p e R s m args below meth c Q MC MS H locs ls cells slots C Rt hW hS hl hc ht hz
  exact lv_imul C.1 C.2.1 hd (k p e R s m args below meth c Q MC MS H locs ls cells slots C Rt hW hS hl hc ht hz)
theorem gk_iand {E : gk_E} {M : gk_M} {d : gk_B} {pc : Nat} {lv : List (Nat × Value)} {st : List Value} {h : gk_H} {K : Option Value → gk_H → Prop} {x y : Int32} (hd : decode M.2.1 pc = .ok (.iand, 1)) (k : gk_G E M d (pc + 1) lv (.int (x &&& y) :: st) h K) : gk_G E M d (pc) lv (.int y :: .int x :: st) h K := by
  intro p e R s m args below meth c Q MC MS H locs ls cells slots C Rt hW hS hl hc ht hz
  exact lv_iand C.1 C.2.1 hd (k p e R s m args below meth c Q MC MS H locs ls cells slots C Rt hW hS hl hc ht hz)
theorem gk_ior {E : gk_E} {M : gk_M} {d : gk_B} {pc : Nat} {lv : List (Nat × Value)} {st : List Value} {h : gk_H} {K : Option Value → gk_H → Prop} {x y : Int32} (hd : decode M.2.1 pc = .ok (.ior, 1)) (k : gk_G E M d (pc + 1) lv (.int (x ||| y) :: st) h K) : gk_G E M d (pc) lv (.int y :: .int x :: st) h K := by
  intro p e R s m args below meth c Q MC MS H locs ls cells slots C Rt hW hS hl hc ht hz
  exact lv_ior C.1 C.2.1 hd (k p e R s m args below meth c Q MC MS H locs ls cells slots C Rt hW hS hl hc ht hz)
theorem gk_ixor {E : gk_E} {M : gk_M} {d : gk_B} {pc : Nat} {lv : List (Nat × Value)} {st : List Value} {h : gk_H} {K : Option Value → gk_H → Prop} {x y : Int32} (hd : decode M.2.1 pc = .ok (.ixor, 1)) (k : gk_G E M d (pc + 1) lv (.int (x ^^^ y) :: st) h K) : gk_G E M d (pc) lv (.int y :: .int x :: st) h K := by
  intro p e R s m args below meth c Q MC MS H locs ls cells slots C Rt hW hS hl hc ht hz
  exact lv_ixor C.1 C.2.1 hd (k p e R s m args below meth c Q MC MS H locs ls cells slots C Rt hW hS hl hc ht hz)
theorem gk_ishl {E : gk_E} {M : gk_M} {d : gk_B} {pc : Nat} {lv : List (Nat × Value)} {st : List Value} {h : gk_H} {K : Option Value → gk_H → Prop} {x y : Int32} (hd : decode M.2.1 pc = .ok (.ishl, 1)) (k : gk_G E M d (pc + 1) lv (.int (x <<< (y &&& 31)) :: st) h K) : gk_G E M d (pc) lv (.int y :: .int x :: st) h K := by
  intro p e R s m args below meth c Q MC MS H locs ls cells slots C Rt hW hS hl hc ht hz
  exact lv_ishl C.1 C.2.1 hd (k p e R s m args below meth c Q MC MS H locs ls cells slots C Rt hW hS hl hc ht hz)
theorem gk_ishr {E : gk_E} {M : gk_M} {d : gk_B} {pc : Nat} {lv : List (Nat × Value)} {st : List Value} {h : gk_H} {K : Option Value → gk_H → Prop} {x y : Int32} (hd : decode M.2.1 pc = .ok (.ishr, 1)) (k : gk_G E M d (pc + 1) lv (.int (x >>> (y &&& 31)) :: st) h K) : gk_G E M d (pc) lv (.int y :: .int x :: st) h K := by
  intro p e R s m args below meth c Q MC MS H locs ls cells slots C Rt hW hS hl hc ht hz
  exact lv_ishr C.1 C.2.1 hd (k p e R s m args below meth c Q MC MS H locs ls cells slots C Rt hW hS hl hc ht hz)
theorem gk_iushr {E : gk_E} {M : gk_M} {d : gk_B} {pc : Nat} {lv : List (Nat × Value)} {st : List Value} {h : gk_H} {K : Option Value → gk_H → Prop} {x y : Int32} (hd : decode M.2.1 pc = .ok (.iushr, 1)) (k : gk_G E M d (pc + 1) lv (.int ((x.toUInt32 >>> (y.toUInt32 &&& Int32.toUInt32 31)).toInt32) :: st) h K) : gk_G E M d (pc) lv (.int y :: .int x :: st) h K := by
  intro p e R s m args below meth c Q MC MS H locs ls cells slots C Rt hW hS hl hc ht hz
  exact lv_iushr C.1 C.2.1 hd rfl (k p e R s m args below meth c Q MC MS H locs ls cells slots C Rt hW hS hl hc ht hz)
theorem gk_idiv {E : gk_E} {M : gk_M} {d : gk_B} {pc : Nat} {lv : List (Nat × Value)} {st : List Value} {h : gk_H} {K : Option Value → gk_H → Prop} {x y : Int32} (hd : decode M.2.1 pc = .ok (.idiv, 1)) (hy : ¬ y = 0) (k : gk_G E M d (pc + 1) lv (.int (x / y) :: st) h K) : gk_G E M d (pc) lv (.int y :: .int x :: st) h K := by
  intro p e R s m args below meth c Q MC MS H locs ls cells slots C Rt hW hS hl hc ht hz
  exact lv_idiv C.1 C.2.1 hd hy (k p e R s m args below meth c Q MC MS H locs ls cells slots C Rt hW hS hl hc ht hz)
theorem gk_irem {E : gk_E} {M : gk_M} {d : gk_B} {pc : Nat} {lv : List (Nat × Value)} {st : List Value} {h : gk_H} {K : Option Value → gk_H → Prop} {x y : Int32} (hd : decode M.2.1 pc = .ok (.irem, 1)) (hy : ¬ y = 0) (k : gk_G E M d (pc + 1) lv (.int (x - x / y * y) :: st) h K) : gk_G E M d (pc) lv (.int y :: .int x :: st) h K := by
  intro p e R s m args below meth c Q MC MS H locs ls cells slots C Rt hW hS hl hc ht hz
  exact lv_irem C.1 C.2.1 hd hy (k p e R s m args below meth c Q MC MS H locs ls cells slots C Rt hW hS hl hc ht hz)
theorem gk_ineg {E : gk_E} {M : gk_M} {d : gk_B} {pc : Nat} {lv : List (Nat × Value)} {st : List Value} {h : gk_H} {K : Option Value → gk_H → Prop} {x : Int32} (hd : decode M.2.1 pc = .ok (.ineg, 1)) (k : gk_G E M d (pc + 1) lv (.int (-x) :: st) h K) : gk_G E M d (pc) lv (.int x :: st) h K := by
  intro p e R s m args below meth c Q MC MS H locs ls cells slots C Rt hW hS hl hc ht hz
  exact lv_ineg C.1 C.2.1 hd (k p e R s m args below meth c Q MC MS H locs ls cells slots C Rt hW hS hl hc ht hz)
theorem gk_ladd {E : gk_E} {M : gk_M} {d : gk_B} {pc : Nat} {lv : List (Nat × Value)} {st : List Value} {h : gk_H} {K : Option Value → gk_H → Prop} {x y : Int64} (hd : decode M.2.1 pc = .ok (.ladd, 1)) (k : gk_G E M d (pc + 1) lv (.long (x + y) :: st) h K) : gk_G E M d (pc) lv (.long y :: .long x :: st) h K := by
  intro p e R s m args below meth c Q MC MS H locs ls cells slots C Rt hW hS hl hc ht hz
  exact lv_ladd C.1 C.2.1 hd (k p e R s m args below meth c Q MC MS H locs ls cells slots C Rt hW hS hl hc ht hz)
theorem gk_lsub {E : gk_E} {M : gk_M} {d : gk_B} {pc : Nat} {lv : List (Nat × Value)} {st : List Value} {h : gk_H} {K : Option Value → gk_H → Prop} {x y : Int64} (hd : decode M.2.1 pc = .ok (.lsub, 1)) (k : gk_G E M d (pc + 1) lv (.long (x - y) :: st) h K) : gk_G E M d (pc) lv (.long y :: .long x :: st) h K := by
  intro p e R s m args below meth c Q MC MS H locs ls cells slots C Rt hW hS hl hc ht hz
  exact lv_lsub C.1 C.2.1 hd (k p e R s m args below meth c Q MC MS H locs ls cells slots C Rt hW hS hl hc ht hz)
theorem gk_land {E : gk_E} {M : gk_M} {d : gk_B} {pc : Nat} {lv : List (Nat × Value)} {st : List Value} {h : gk_H} {K : Option Value → gk_H → Prop} {x y : Int64} (hd : decode M.2.1 pc = .ok (.land, 1)) (k : gk_G E M d (pc + 1) lv (.long (x &&& y) :: st) h K) : gk_G E M d (pc) lv (.long y :: .long x :: st) h K := by
  intro p e R s m args below meth c Q MC MS H locs ls cells slots C Rt hW hS hl hc ht hz
  exact lv_land C.1 C.2.1 hd (k p e R s m args below meth c Q MC MS H locs ls cells slots C Rt hW hS hl hc ht hz)
theorem gk_lor {E : gk_E} {M : gk_M} {d : gk_B} {pc : Nat} {lv : List (Nat × Value)} {st : List Value} {h : gk_H} {K : Option Value → gk_H → Prop} {x y : Int64} (hd : decode M.2.1 pc = .ok (.lor, 1)) (k : gk_G E M d (pc + 1) lv (.long (x ||| y) :: st) h K) : gk_G E M d (pc) lv (.long y :: .long x :: st) h K := by
  intro p e R s m args below meth c Q MC MS H locs ls cells slots C Rt hW hS hl hc ht hz
  exact lv_lor C.1 C.2.1 hd (k p e R s m args below meth c Q MC MS H locs ls cells slots C Rt hW hS hl hc ht hz)
theorem gk_lxor {E : gk_E} {M : gk_M} {d : gk_B} {pc : Nat} {lv : List (Nat × Value)} {st : List Value} {h : gk_H} {K : Option Value → gk_H → Prop} {x y : Int64} (hd : decode M.2.1 pc = .ok (.lxor, 1)) (k : gk_G E M d (pc + 1) lv (.long (x ^^^ y) :: st) h K) : gk_G E M d (pc) lv (.long y :: .long x :: st) h K := by
  intro p e R s m args below meth c Q MC MS H locs ls cells slots C Rt hW hS hl hc ht hz
  exact lv_lxor C.1 C.2.1 hd (k p e R s m args below meth c Q MC MS H locs ls cells slots C Rt hW hS hl hc ht hz)
theorem gk_lneg {E : gk_E} {M : gk_M} {d : gk_B} {pc : Nat} {lv : List (Nat × Value)} {st : List Value} {h : gk_H} {K : Option Value → gk_H → Prop} {x : Int64} (hd : decode M.2.1 pc = .ok (.lneg, 1)) (k : gk_G E M d (pc + 1) lv (.long (-x) :: st) h K) : gk_G E M d (pc) lv (.long x :: st) h K := by
  intro p e R s m args below meth c Q MC MS H locs ls cells slots C Rt hW hS hl hc ht hz
  exact lv_lneg C.1 C.2.1 hd (k p e R s m args below meth c Q MC MS H locs ls cells slots C Rt hW hS hl hc ht hz)
theorem gk_lshl {E : gk_E} {M : gk_M} {d : gk_B} {pc : Nat} {lv : List (Nat × Value)} {st : List Value} {h : gk_H} {K : Option Value → gk_H → Prop} {x : Int64} {y : Int32} (hd : decode M.2.1 pc = .ok (.lshl, 1)) (k : gk_G E M d (pc + 1) lv (.long (x <<< (y.toInt64 &&& 63)) :: st) h K) : gk_G E M d (pc) lv (.int y :: .long x :: st) h K := by
  intro p e R s m args below meth c Q MC MS H locs ls cells slots C Rt hW hS hl hc ht hz
  exact lv_lshl C.1 C.2.1 hd rfl (k p e R s m args below meth c Q MC MS H locs ls cells slots C Rt hW hS hl hc ht hz)
theorem gk_lushr {E : gk_E} {M : gk_M} {d : gk_B} {pc : Nat} {lv : List (Nat × Value)} {st : List Value} {h : gk_H} {K : Option Value → gk_H → Prop} {x : Int64} {y : Int32} (hd : decode M.2.1 pc = .ok (.lushr, 1)) (k : gk_G E M d (pc + 1) lv (.long ((x.toUInt64 >>> (y.toInt64.toUInt64 &&& Int64.toUInt64 63)).toInt64) :: st) h K) : gk_G E M d (pc) lv (.int y :: .long x :: st) h K := by
  intro p e R s m args below meth c Q MC MS H locs ls cells slots C Rt hW hS hl hc ht hz
  exact lv_lushr C.1 C.2.1 hd rfl (k p e R s m args below meth c Q MC MS H locs ls cells slots C Rt hW hS hl hc ht hz)
theorem gk_lcmp {E : gk_E} {M : gk_M} {d : gk_B} {pc : Nat} {lv : List (Nat × Value)} {st : List Value} {h : gk_H} {K : Option Value → gk_H → Prop} {x y : Int64} (hd : decode M.2.1 pc = .ok (.lcmp, 1)) (k : gk_G E M d (pc + 1) lv (.int (lg_cmp x y) :: st) h K) : gk_G E M d (pc) lv (.long y :: .long x :: st) h K := by
  intro p e R s m args below meth c Q MC MS H locs ls cells slots C Rt hW hS hl hc ht hz
  exact W.lcmp C.1 C.2.1 hd (k p e R s m args below meth c Q MC MS H locs ls cells slots C Rt hW hS hl hc ht hz)
theorem gk_l2i {E : gk_E} {M : gk_M} {d : gk_B} {pc : Nat} {lv : List (Nat × Value)} {st : List Value} {h : gk_H} {K : Option Value → gk_H → Prop} {x : Int64} (hd : decode M.2.1 pc = .ok (.l2i, 1)) (k : gk_G E M d (pc + 1) lv (.int x.toInt32 :: st) h K) : gk_G E M d (pc) lv (.long x :: st) h K := by
  intro p e R s m args below meth c Q MC MS H locs ls cells slots C Rt hW hS hl hc ht hz
  exact lv_l2i C.1 C.2.1 hd rfl (k p e R s m args below meth c Q MC MS H locs ls cells slots C Rt hW hS hl hc ht hz)
theorem gk_i2l {E : gk_E} {M : gk_M} {d : gk_B} {pc : Nat} {lv : List (Nat × Value)} {st : List Value} {h : gk_H} {K : Option Value → gk_H → Prop} {x : Int32} (hd : decode M.2.1 pc = .ok (.i2l, 1)) (k : gk_G E M d (pc + 1) lv (.long x.toInt64 :: st) h K) : gk_G E M d (pc) lv (.int x :: st) h K := by
  intro p e R s m args below meth c Q MC MS H locs ls cells slots C Rt hW hS hl hc ht hz
  exact lv_i2l C.1 C.2.1 hd rfl (k p e R s m args below meth c Q MC MS H locs ls cells slots C Rt hW hS hl hc ht hz)
theorem gk_i2b {E : gk_E} {M : gk_M} {d : gk_B} {pc : Nat} {lv : List (Nat × Value)} {st : List Value} {h : gk_H} {K : Option Value → gk_H → Prop} {x : Int32} (hd : decode M.2.1 pc = .ok (.i2b, 1)) (k : gk_G E M d (pc + 1) lv (.int x.toInt8.toInt32 :: st) h K) : gk_G E M d (pc) lv (.int x :: st) h K := by
  intro p e R s m args below meth c Q MC MS H locs ls cells slots C Rt hW hS hl hc ht hz
  exact lv_i2b C.1 C.2.1 hd rfl (k p e R s m args below meth c Q MC MS H locs ls cells slots C Rt hW hS hl hc ht hz)
theorem gk_i2c {E : gk_E} {M : gk_M} {d : gk_B} {pc : Nat} {lv : List (Nat × Value)} {st : List Value} {h : gk_H} {K : Option Value → gk_H → Prop} {x : Int32} (hd : decode M.2.1 pc = .ok (.i2c, 1)) (k : gk_G E M d (pc + 1) lv (.int (x.toUInt32 % 65536).toInt32 :: st) h K) : gk_G E M d (pc) lv (.int x :: st) h K := by
  intro p e R s m args below meth c Q MC MS H locs ls cells slots C Rt hW hS hl hc ht hz
  exact lv_i2c C.1 C.2.1 hd rfl (k p e R s m args below meth c Q MC MS H locs ls cells slots C Rt hW hS hl hc ht hz)
theorem gk_iconst {E : gk_E} {M : gk_M} {d : gk_B} {pc : Nat} {lv : List (Nat × Value)} {st : List Value} {h : gk_H} {K : Option Value → gk_H → Prop} {n : Int} (v : Int32) (hd : decode M.2.1 pc = .ok (.iconst n, 1)) (hv : Int32.ofInt n = v) (k : gk_G E M d (pc + 1) lv (.int v :: st) h K) : gk_G E M d (pc) lv (st) h K := by
  intro p e R s m args below meth c Q MC MS H locs ls cells slots C Rt hW hS hl hc ht hz
  exact lv_iconst C.1 C.2.1 hd hv (k p e R s m args below meth c Q MC MS H locs ls cells slots C Rt hW hS hl hc ht hz)
theorem gk_bipush {E : gk_E} {M : gk_M} {d : gk_B} {pc : Nat} {lv : List (Nat × Value)} {st : List Value} {h : gk_H} {K : Option Value → gk_H → Prop} {n : Int} (v : Int32) (hd : decode M.2.1 pc = .ok (.bipush n, 2)) (hv : (Int8.ofInt n).toInt32 = v) (k : gk_G E M d (pc + 2) lv (.int v :: st) h K) : gk_G E M d (pc) lv (st) h K := by
  intro p e R s m args below meth c Q MC MS H locs ls cells slots C Rt hW hS hl hc ht hz
  exact lv_bipush C.1 C.2.1 hd hv (k p e R s m args below meth c Q MC MS H locs ls cells slots C Rt hW hS hl hc ht hz)
theorem gk_sipush {E : gk_E} {M : gk_M} {d : gk_B} {pc : Nat} {lv : List (Nat × Value)} {st : List Value} {h : gk_H} {K : Option Value → gk_H → Prop} {n : Int} (v : Int32) (hd : decode M.2.1 pc = .ok (.sipush n, 3)) (hv : (Int16.ofInt n).toInt32 = v) (k : gk_G E M d (pc + 3) lv (.int v :: st) h K) : gk_G E M d (pc) lv (st) h K := by
  intro p e R s m args below meth c Q MC MS H locs ls cells slots C Rt hW hS hl hc ht hz
  exact lv_sipush C.1 C.2.1 hd hv (k p e R s m args below meth c Q MC MS H locs ls cells slots C Rt hW hS hl hc ht hz)
theorem gk_lconst {E : gk_E} {M : gk_M} {d : gk_B} {pc : Nat} {lv : List (Nat × Value)} {st : List Value} {h : gk_H} {K : Option Value → gk_H → Prop} {n : Fin 2} (v : Int64) (hd : decode M.2.1 pc = .ok (.lconst n, 1)) (hv : Int64.ofNat (n : Nat) = v) (k : gk_G E M d (pc + 1) lv (.long v :: st) h K) : gk_G E M d (pc) lv (st) h K := by
  intro p e R s m args below meth c Q MC MS H locs ls cells slots C Rt hW hS hl hc ht hz
  exact lv_lconst C.1 C.2.1 hd hv (k p e R s m args below meth c Q MC MS H locs ls cells slots C Rt hW hS hl hc ht hz)
theorem gk_ldc {E : gk_E} {M : gk_M} {d : gk_B} {pc : Nat} {lv : List (Nat × Value)} {st : List Value} {h : gk_H} {K : Option Value → gk_H → Prop} {i : Nat} (v : Int32) (hd : decode M.2.1 pc = .ok (.ldc i, 2)) (hw : Cond.constant M.1.cls i v ∈ gk_T) (k : gk_G E M d (pc + 2) lv (.int v :: st) h K) : gk_G E M d (pc) lv (st) h K := by
  intro p e R s m args below meth c Q MC MS H locs ls cells slots C Rt hW hS hl hc ht hz
  exact lv_ldc C.1 C.2.1 C.2.2.2.2.2.2.2.1 (C.2.2.2.2.2.2.1 _ hw) hd (k p e R s m args below meth c Q MC MS H locs ls cells slots C Rt hW hS hl hc ht hz)
theorem gk_ldc2 {E : gk_E} {M : gk_M} {d : gk_B} {pc : Nat} {lv : List (Nat × Value)} {st : List Value} {h : gk_H} {K : Option Value → gk_H → Prop} {i : Nat} (v : Int64) (hd : decode M.2.1 pc = .ok (.ldc2_w i, 3)) (hw : Cond.constantLong M.1.cls i v ∈ gk_T) (k : gk_G E M d (pc + 3) lv (.long v :: st) h K) : gk_G E M d (pc) lv (st) h K := by
  intro p e R s m args below meth c Q MC MS H locs ls cells slots C Rt hW hS hl hc ht hz
  exact lv_ldc2 C.1 C.2.1 C.2.2.2.2.2.2.2.1 (C.2.2.2.2.2.2.1 _ hw) hd (k p e R s m args below meth c Q MC MS H locs ls cells slots C Rt hW hS hl hc ht hz)
theorem gk_lat {E : gk_E} {ls : Array Slot} {nL : Nat} {lv : List (Nat × Value)} (hl : lv_has ls nL (gk_L E lv)) {k i : Nat} {v : Value} (hk : lv[k]? = some (i, v)) : ls[i]? = some (.val (gk_v E v)) := lv_at hl k (by rw [List.getElem?_map, hk]; rfl)
theorem gk_iload {E : gk_E} {M : gk_M} {d : gk_B} {pc : Nat} {lv : List (Nat × Value)} {st : List Value} {h : gk_H} {K : Option Value → gk_H → Prop} {i : Nat} {x : Int32} (hd : decode M.2.1 pc = .ok (.iload i, 2)) (j : Nat) (hj : lv[j]? = some (i, .int x)) (k : gk_G E M d (pc + 2) lv (.int x :: st) h K) : gk_G E M d (pc) lv (st) h K := by
  intro p e R s m args below meth c Q MC MS H locs ls cells slots C Rt hW hS hl hc ht hz
  exact lv_iload C.1 C.2.1 hd (gk_lat hl hj) (k p e R s m args below meth c Q MC MS H locs ls cells slots C Rt hW hS hl hc ht hz)
theorem gk_iload_n {E : gk_E} {M : gk_M} {d : gk_B} {pc : Nat} {lv : List (Nat × Value)} {st : List Value} {h : gk_H} {K : Option Value → gk_H → Prop} {i : Fin 4} {i2 : Nat} {x : Int32} (hd : decode M.2.1 pc = .ok (.iload_n i, 1)) (j : Nat) (hi : (i : Nat) = i2) (hj : lv[j]? = some (i2, .int x)) (k : gk_G E M d (pc + 1) lv (.int x :: st) h K) : gk_G E M d (pc) lv (st) h K := by
  intro p e R s m args below meth c Q MC MS H locs ls cells slots C Rt hW hS hl hc ht hz
  exact lv_iload_n C.1 C.2.1 hd hi (gk_lat hl hj) (k p e R s m args below meth c Q MC MS H locs ls cells slots C Rt hW hS hl hc ht hz)
theorem gk_lload {E : gk_E} {M : gk_M} {d : gk_B} {pc : Nat} {lv : List (Nat × Value)} {st : List Value} {h : gk_H} {K : Option Value → gk_H → Prop} {i : Nat} {x : Int64} (hd : decode M.2.1 pc = .ok (.lload i, 2)) (j : Nat) (hj : lv[j]? = some (i, .long x)) (k : gk_G E M d (pc + 2) lv (.long x :: st) h K) : gk_G E M d (pc) lv (st) h K := by
  intro p e R s m args below meth c Q MC MS H locs ls cells slots C Rt hW hS hl hc ht hz
  exact lv_lload C.1 C.2.1 hd (gk_lat hl hj) (k p e R s m args below meth c Q MC MS H locs ls cells slots C Rt hW hS hl hc ht hz)
theorem gk_lload_n {E : gk_E} {M : gk_M} {d : gk_B} {pc : Nat} {lv : List (Nat × Value)} {st : List Value} {h : gk_H} {K : Option Value → gk_H → Prop} {i : Fin 4} {i2 : Nat} {x : Int64} (hd : decode M.2.1 pc = .ok (.lload_n i, 1)) (j : Nat) (hi : (i : Nat) = i2) (hj : lv[j]? = some (i2, .long x)) (k : gk_G E M d (pc + 1) lv (.long x :: st) h K) : gk_G E M d (pc) lv (st) h K := by
  intro p e R s m args below meth c Q MC MS H locs ls cells slots C Rt hW hS hl hc ht hz
  exact lv_lload_n C.1 C.2.1 hd hi (gk_lat hl hj) (k p e R s m args below meth c Q MC MS H locs ls cells slots C Rt hW hS hl hc ht hz)
theorem gk_aload {E : gk_E} {M : gk_M} {d : gk_B} {pc : Nat} {lv : List (Nat × Value)} {st : List Value} {h : gk_H} {K : Option Value → gk_H → Prop} {i : Nat} {x : Nat} (hd : decode M.2.1 pc = .ok (.aload i, 2)) (j : Nat) (hj : lv[j]? = some (i, .ref x)) (k : gk_G E M d (pc + 2) lv (.ref x :: st) h K) : gk_G E M d (pc) lv (st) h K := by
  intro p e R s m args below meth c Q MC MS H locs ls cells slots C Rt hW hS hl hc ht hz
  exact lv_aload C.1 C.2.1 hd (gk_lat hl hj) (k p e R s m args below meth c Q MC MS H locs ls cells slots C Rt hW hS hl hc ht hz)
theorem gk_aload_n {E : gk_E} {M : gk_M} {d : gk_B} {pc : Nat} {lv : List (Nat × Value)} {st : List Value} {h : gk_H} {K : Option Value → gk_H → Prop} {i : Fin 4} {i2 : Nat} {x : Nat} (hd : decode M.2.1 pc = .ok (.aload_n i, 1)) (j : Nat) (hi : (i : Nat) = i2) (hj : lv[j]? = some (i2, .ref x)) (k : gk_G E M d (pc + 1) lv (.ref x :: st) h K) : gk_G E M d (pc) lv (st) h K := by
  intro p e R s m args below meth c Q MC MS H locs ls cells slots C Rt hW hS hl hc ht hz
  exact lv_aload_n C.1 C.2.1 hd hi (gk_lat hl hj) (k p e R s m args below meth c Q MC MS H locs ls cells slots C Rt hW hS hl hc ht hz)
theorem gk_flt (E : gk_E) (P : Nat → Nat → Bool) (i : Nat) (v : Value) (lv : List (Nat × Value)) : gk_L E ((i, v) :: lv.filter (fun q => P q.1 q.2.category)) = (i, gk_v E v) :: (gk_L E lv).filter (fun q => P q.1 q.2.category) := by
  simp only [gk_L, List.map_cons, List.cons.injEq, true_and]
  induction lv with
  | nil => rfl
  | cons q l ih =>
    simp only [List.filter_cons, List.map_cons, gk_cat]
    split
    · rw [List.map_cons, ih]
    · exact ih
theorem gk_istore {E : gk_E} {M : gk_M} {d : gk_B} {pc : Nat} {lv : List (Nat × Value)} {st : List Value} {h : gk_H} {K : Option Value → gk_H → Prop} {i : Nat} {x : Int32} (lv' : List (Nat × Value)) (hd : decode M.2.1 pc = .ok (.istore i, 2)) (hn : i < M.2.2.1) (hv : (i, Value.int x) :: lv.filter (fun q => !(q.1 == i) && !(q.1 + 1 == i && q.2.category == 2)) = lv') (k : gk_G E M d (pc + 2) lv' st h K) : gk_G E M d (pc) lv (.int x :: st) h K := by
  intro p e R s m args below meth c Q MC MS H locs ls cells slots C Rt hW hS hl hc ht hz
  exact lv_istore C.1 C.2.1 hd hl hn ((gk_flt E (fun a b => !(a == i) && !(a + 1 == i && b == 2)) i (.int x) lv).symm.trans (congrArg (gk_L E) hv)) (fun ls' hl' => k p e R s m args below meth c Q MC MS H locs ls' cells slots C Rt hW hS hl' hc ht hz)
theorem gk_istore_n {E : gk_E} {M : gk_M} {d : gk_B} {pc : Nat} {lv : List (Nat × Value)} {st : List Value} {h : gk_H} {K : Option Value → gk_H → Prop} {j : Fin 4} {i : Nat} {x : Int32} (lv' : List (Nat × Value)) (hd : decode M.2.1 pc = .ok (.istore_n j, 1)) (hi : (j : Nat) = i) (hn : i < M.2.2.1) (hv : (i, Value.int x) :: lv.filter (fun q => !(q.1 == i) && !(q.1 + 1 == i && q.2.category == 2)) = lv') (k : gk_G E M d (pc + 1) lv' st h K) : gk_G E M d (pc) lv (.int x :: st) h K := by
  intro p e R s m args below meth c Q MC MS H locs ls cells slots C Rt hW hS hl hc ht hz
  exact lv_istore_n C.1 C.2.1 hd hi hl hn ((gk_flt E (fun a b => !(a == i) && !(a + 1 == i && b == 2)) i (.int x) lv).symm.trans (congrArg (gk_L E) hv)) (fun ls' hl' => k p e R s m args below meth c Q MC MS H locs ls' cells slots C Rt hW hS hl' hc ht hz)
theorem gk_lstore {E : gk_E} {M : gk_M} {d : gk_B} {pc : Nat} {lv : List (Nat × Value)} {st : List Value} {h : gk_H} {K : Option Value → gk_H → Prop} {i : Nat} {x : Int64} (lv' : List (Nat × Value)) (hd : decode M.2.1 pc = .ok (.lstore i, 2)) (hn : i + 1 < M.2.2.1) (hv : (i, Value.long x) :: lv.filter (fun q => !(q.1 == i) && (!(q.1 == i + 1) && !(q.1 + 1 == i && q.2.category == 2))) = lv') (k : gk_G E M d (pc + 2) lv' st h K) : gk_G E M d (pc) lv (.long x :: st) h K := by
  intro p e R s m args below meth c Q MC MS H locs ls cells slots C Rt hW hS hl hc ht hz
  exact lv_lstore C.1 C.2.1 hd hl hn ((gk_flt E (fun a b => !(a == i) && (!(a == i + 1) && !(a + 1 == i && b == 2))) i (.long x) lv).symm.trans (congrArg (gk_L E) hv)) (fun ls' hl' => k p e R s m args below meth c Q MC MS H locs ls' cells slots C Rt hW hS hl' hc ht hz)
theorem gk_lstore_n {E : gk_E} {M : gk_M} {d : gk_B} {pc : Nat} {lv : List (Nat × Value)} {st : List Value} {h : gk_H} {K : Option Value → gk_H → Prop} {j : Fin 4} {i : Nat} {x : Int64} (lv' : List (Nat × Value)) (hd : decode M.2.1 pc = .ok (.lstore_n j, 1)) (hi : (j : Nat) = i) (hn : i + 1 < M.2.2.1) (hv : (i, Value.long x) :: lv.filter (fun q => !(q.1 == i) && (!(q.1 == i + 1) && !(q.1 + 1 == i && q.2.category == 2))) = lv') (k : gk_G E M d (pc + 1) lv' st h K) : gk_G E M d (pc) lv (.long x :: st) h K := by
  intro p e R s m args below meth c Q MC MS H locs ls cells slots C Rt hW hS hl hc ht hz
  exact lv_lstore_n C.1 C.2.1 hd hi hl hn ((gk_flt E (fun a b => !(a == i) && (!(a == i + 1) && !(a + 1 == i && b == 2))) i (.long x) lv).symm.trans (congrArg (gk_L E) hv)) (fun ls' hl' => k p e R s m args below meth c Q MC MS H locs ls' cells slots C Rt hW hS hl' hc ht hz)
theorem gk_astore {E : gk_E} {M : gk_M} {d : gk_B} {pc : Nat} {lv : List (Nat × Value)} {st : List Value} {h : gk_H} {K : Option Value → gk_H → Prop} {i : Nat} {x : Nat} (lv' : List (Nat × Value)) (hd : decode M.2.1 pc = .ok (.astore i, 2)) (hn : i < M.2.2.1) (hv : (i, Value.ref x) :: lv.filter (fun q => !(q.1 == i) && !(q.1 + 1 == i && q.2.category == 2)) = lv') (k : gk_G E M d (pc + 2) lv' st h K) : gk_G E M d (pc) lv (.ref x :: st) h K := by
  intro p e R s m args below meth c Q MC MS H locs ls cells slots C Rt hW hS hl hc ht hz
  exact lv_astore C.1 C.2.1 hd hl hn ((gk_flt E (fun a b => !(a == i) && !(a + 1 == i && b == 2)) i (.ref x) lv).symm.trans (congrArg (gk_L E) hv)) (fun ls' hl' => k p e R s m args below meth c Q MC MS H locs ls' cells slots C Rt hW hS hl' hc ht hz)
theorem gk_astore_n {E : gk_E} {M : gk_M} {d : gk_B} {pc : Nat} {lv : List (Nat × Value)} {st : List Value} {h : gk_H} {K : Option Value → gk_H → Prop} {j : Fin 4} {i : Nat} {x : Nat} (lv' : List (Nat × Value)) (hd : decode M.2.1 pc = .ok (.astore_n j, 1)) (hi : (j : Nat) = i) (hn : i < M.2.2.1) (hv : (i, Value.ref x) :: lv.filter (fun q => !(q.1 == i) && !(q.1 + 1 == i && q.2.category == 2)) = lv') (k : gk_G E M d (pc + 1) lv' st h K) : gk_G E M d (pc) lv (.ref x :: st) h K := by
  intro p e R s m args below meth c Q MC MS H locs ls cells slots C Rt hW hS hl hc ht hz
  exact lv_astore_n C.1 C.2.1 hd hi hl hn ((gk_flt E (fun a b => !(a == i) && !(a + 1 == i && b == 2)) i (.ref x) lv).symm.trans (congrArg (gk_L E) hv)) (fun ls' hl' => k p e R s m args below meth c Q MC MS H locs ls' cells slots C Rt hW hS hl' hc ht hz)
theorem gk_iinc {E : gk_E} {M : gk_M} {d : gk_B} {pc : Nat} {lv : List (Nat × Value)} {st : List Value} {h : gk_H} {K : Option Value → gk_H → Prop} {i : Nat} {n : Int} {x : Int32} (v : Int32) (lv' : List (Nat × Value)) (j : Nat) (hd : decode M.2.1 pc = .ok (.iinc i n, 3)) (hj : lv[j]? = some (i, .int x)) (hx : x + Int32.ofInt n = v) (hn : i < M.2.2.1) (hv : (i, Value.int v) :: lv.filter (fun q => !(q.1 == i) && !(q.1 + 1 == i && q.2.category == 2)) = lv') (k : gk_G E M d (pc + 3) lv' st h K) : gk_G E M d (pc) lv (st) h K := by
  intro p e R s m args below meth c Q MC MS H locs ls cells slots C Rt hW hS hl hc ht hz
  exact lv_iinc C.1 C.2.1 hd hl (k := j) (by rw [List.getElem?_map, hj]; rfl) hx hn ((gk_flt E (fun a b => !(a == i) && !(a + 1 == i && b == 2)) i (.int v) lv).symm.trans (congrArg (gk_L E) hv)) (fun ls' hl' => k p e R s m args below meth c Q MC MS H locs ls' cells slots C Rt hW hS hl' hc ht hz)
theorem gk_pick {E : gk_E} {M : gk_M} {d : gk_B} {pc : Nat} {lv : List (Nat × Value)} {st : List Value} {h : gk_H} {K : Option Value → gk_H → Prop} (lv' : List (Nat × Value)) (ks : List Nat) (hv : ks.filterMap (fun k => lv[k]?) = lv') (k : gk_G E M d pc lv' st h K) : gk_G E M d (pc) lv (st) h K := by
  subst hv
  intro p e R s m args below meth c Q MC MS H locs ls cells slots C Rt hW hS hl hc ht hz
  refine k p e R s m args below meth c Q MC MS H locs ls cells slots C Rt hW hS ⟨hl.1, hl.2.1, fun q hq => ?_⟩ hc ht hz
  obtain ⟨q0, hq0, rfl⟩ := List.mem_map.mp hq
  obtain ⟨i, -, hi⟩ := List.mem_filterMap.mp hq0
  exact hl.2.2 _ (List.mem_map.mpr ⟨q0, List.mem_of_getElem? hi, rfl⟩)
theorem gk_dup {E : gk_E} {M : gk_M} {d : gk_B} {pc : Nat} {lv : List (Nat × Value)} {st : List Value} {h : gk_H} {K : Option Value → gk_H → Prop} {v : Value} (hd : decode M.2.1 pc = .ok (.dup, 1)) (hv : v.category = 1) (k : gk_G E M d (pc + 1) lv (v :: v :: st) h K) : gk_G E M d (pc) lv (v :: st) h K := by
  intro p e R s m args below meth c Q MC MS H locs ls cells slots C Rt hW hS hl hc ht hz
  exact lv_dup C.1 C.2.1 hd (by rw [gk_cat]; exact hv) (k p e R s m args below meth c Q MC MS H locs ls cells slots C Rt hW hS hl hc ht hz)
theorem gk_pop {E : gk_E} {M : gk_M} {d : gk_B} {pc : Nat} {lv : List (Nat × Value)} {st : List Value} {h : gk_H} {K : Option Value → gk_H → Prop} {v : Value} (hd : decode M.2.1 pc = .ok (.pop, 1)) (hv : v.category = 1) (k : gk_G E M d (pc + 1) lv (st) h K) : gk_G E M d (pc) lv (v :: st) h K := by
  intro p e R s m args below meth c Q MC MS H locs ls cells slots C Rt hW hS hl hc ht hz
  exact lv_pop C.1 C.2.1 hd (by rw [gk_cat]; exact hv) (k p e R s m args below meth c Q MC MS H locs ls cells slots C Rt hW hS hl hc ht hz)
theorem gk_dup_x1 {E : gk_E} {M : gk_M} {d : gk_B} {pc : Nat} {lv : List (Nat × Value)} {st : List Value} {h : gk_H} {K : Option Value → gk_H → Prop} {v w : Value} (hd : decode M.2.1 pc = .ok (.dup_x1, 1)) (hv : v.category = 1) (hw : w.category = 1) (k : gk_G E M d (pc + 1) lv (v :: w :: v :: st) h K) : gk_G E M d (pc) lv (v :: w :: st) h K := by
  intro p e R s m args below meth c Q MC MS H locs ls cells slots C Rt hW hS hl hc ht hz
  exact lv_dup_x1 C.1 C.2.1 hd (by rw [gk_cat]; exact hv) (by rw [gk_cat]; exact hw) (k p e R s m args below meth c Q MC MS H locs ls cells slots C Rt hW hS hl hc ht hz)
theorem gk_dup2 {E : gk_E} {M : gk_M} {d : gk_B} {pc : Nat} {lv : List (Nat × Value)} {st : List Value} {h : gk_H} {K : Option Value → gk_H → Prop} {v w : Value} (hd : decode M.2.1 pc = .ok (.dup2, 1)) (hv : v.category = 1) (hw : w.category = 1) (k : gk_G E M d (pc + 1) lv (v :: w :: v :: w :: st) h K) : gk_G E M d (pc) lv (v :: w :: st) h K := by
  intro p e R s m args below meth c Q MC MS H locs ls cells slots C Rt hW hS hl hc ht hz
  exact lv_dup2_11 C.1 C.2.1 hd (by rw [gk_cat]; exact hv) (by rw [gk_cat]; exact hw) (k p e R s m args below meth c Q MC MS H locs ls cells slots C Rt hW hS hl hc ht hz)
theorem gk_dup2w {E : gk_E} {M : gk_M} {d : gk_B} {pc : Nat} {lv : List (Nat × Value)} {st : List Value} {h : gk_H} {K : Option Value → gk_H → Prop} {v : Value} (hd : decode M.2.1 pc = .ok (.dup2, 1)) (hv : v.category = 2) (k : gk_G E M d (pc + 1) lv (v :: v :: st) h K) : gk_G E M d (pc) lv (v :: st) h K := by
  intro p e R s m args below meth c Q MC MS H locs ls cells slots C Rt hW hS hl hc ht hz
  exact lv_dup2_2 C.1 C.2.1 hd (by rw [gk_cat]; exact hv) (k p e R s m args below meth c Q MC MS H locs ls cells slots C Rt hW hS hl hc ht hz)
theorem gk_if_eq {E : gk_E} {M : gk_M} {d : gk_B} {pc : Nat} {lv : List (Nat × Value)} {st : List Value} {h : gk_H} {K : Option Value → gk_H → Prop} {off : Int} {x : Int32} (tgt : Nat) (hd : decode M.2.1 pc = .ok (.ifCond .eq off, 3)) (htg : (pc : Int) + off = (tgt : Int)) (kt : x = 0 → gk_G E M d (tgt) lv (st) h K) (kf : ¬ x = 0 → gk_G E M d (pc + 3) lv (st) h K) : gk_G E M d (pc) lv (.int x :: st) h K := by
  intro p e R s m args below meth c Q MC MS H locs ls cells slots C Rt hW hS hl hc ht hz
  exact lv_if_eq C.1 C.2.1 hd htg (fun q => kt q p e R s m args below meth c Q MC MS H locs ls cells slots C Rt hW hS hl hc ht hz) (fun q => kf q p e R s m args below meth c Q MC MS H locs ls cells slots C Rt hW hS hl hc ht hz)
theorem gk_if_ne {E : gk_E} {M : gk_M} {d : gk_B} {pc : Nat} {lv : List (Nat × Value)} {st : List Value} {h : gk_H} {K : Option Value → gk_H → Prop} {off : Int} {x : Int32} (tgt : Nat) (hd : decode M.2.1 pc = .ok (.ifCond .ne off, 3)) (htg : (pc : Int) + off = (tgt : Int)) (kt : ¬ x = 0 → gk_G E M d (tgt) lv (st) h K) (kf : x = 0 → gk_G E M d (pc + 3) lv (st) h K) : gk_G E M d (pc) lv (.int x :: st) h K := by
  intro p e R s m args below meth c Q MC MS H locs ls cells slots C Rt hW hS hl hc ht hz
  exact lv_if_ne C.1 C.2.1 hd htg (fun q => kt q p e R s m args below meth c Q MC MS H locs ls cells slots C Rt hW hS hl hc ht hz) (fun q => kf q p e R s m args below meth c Q MC MS H locs ls cells slots C Rt hW hS hl hc ht hz)
theorem gk_if_lt {E : gk_E} {M : gk_M} {d : gk_B} {pc : Nat} {lv : List (Nat × Value)} {st : List Value} {h : gk_H} {K : Option Value → gk_H → Prop} {off : Int} {x : Int32} (tgt : Nat) (hd : decode M.2.1 pc = .ok (.ifCond .lt off, 3)) (htg : (pc : Int) + off = (tgt : Int)) (kt : x < 0 → gk_G E M d (tgt) lv (st) h K) (kf : ¬ x < 0 → gk_G E M d (pc + 3) lv (st) h K) : gk_G E M d (pc) lv (.int x :: st) h K := by
  intro p e R s m args below meth c Q MC MS H locs ls cells slots C Rt hW hS hl hc ht hz
  exact lv_if_lt C.1 C.2.1 hd htg (fun q => kt q p e R s m args below meth c Q MC MS H locs ls cells slots C Rt hW hS hl hc ht hz) (fun q => kf q p e R s m args below meth c Q MC MS H locs ls cells slots C Rt hW hS hl hc ht hz)
theorem gk_if_ge {E : gk_E} {M : gk_M} {d : gk_B} {pc : Nat} {lv : List (Nat × Value)} {st : List Value} {h : gk_H} {K : Option Value → gk_H → Prop} {off : Int} {x : Int32} (tgt : Nat) (hd : decode M.2.1 pc = .ok (.ifCond .ge off, 3)) (htg : (pc : Int) + off = (tgt : Int)) (kt : 0 ≤ x → gk_G E M d (tgt) lv (st) h K) (kf : ¬ 0 ≤ x → gk_G E M d (pc + 3) lv (st) h K) : gk_G E M d (pc) lv (.int x :: st) h K := by
  intro p e R s m args below meth c Q MC MS H locs ls cells slots C Rt hW hS hl hc ht hz
  exact lv_if_ge C.1 C.2.1 hd htg (fun q => kt q p e R s m args below meth c Q MC MS H locs ls cells slots C Rt hW hS hl hc ht hz) (fun q => kf q p e R s m args below meth c Q MC MS H locs ls cells slots C Rt hW hS hl hc ht hz)
theorem gk_if_gt {E : gk_E} {M : gk_M} {d : gk_B} {pc : Nat} {lv : List (Nat × Value)} {st : List Value} {h : gk_H} {K : Option Value → gk_H → Prop} {off : Int} {x : Int32} (tgt : Nat) (hd : decode M.2.1 pc = .ok (.ifCond .gt off, 3)) (htg : (pc : Int) + off = (tgt : Int)) (kt : 0 < x → gk_G E M d (tgt) lv (st) h K) (kf : ¬ 0 < x → gk_G E M d (pc + 3) lv (st) h K) : gk_G E M d (pc) lv (.int x :: st) h K := by
  intro p e R s m args below meth c Q MC MS H locs ls cells slots C Rt hW hS hl hc ht hz
  exact lv_if_gt C.1 C.2.1 hd htg (fun q => kt q p e R s m args below meth c Q MC MS H locs ls cells slots C Rt hW hS hl hc ht hz) (fun q => kf q p e R s m args below meth c Q MC MS H locs ls cells slots C Rt hW hS hl hc ht hz)
theorem gk_if_le {E : gk_E} {M : gk_M} {d : gk_B} {pc : Nat} {lv : List (Nat × Value)} {st : List Value} {h : gk_H} {K : Option Value → gk_H → Prop} {off : Int} {x : Int32} (tgt : Nat) (hd : decode M.2.1 pc = .ok (.ifCond .le off, 3)) (htg : (pc : Int) + off = (tgt : Int)) (kt : x ≤ 0 → gk_G E M d (tgt) lv (st) h K) (kf : ¬ x ≤ 0 → gk_G E M d (pc + 3) lv (st) h K) : gk_G E M d (pc) lv (.int x :: st) h K := by
  intro p e R s m args below meth c Q MC MS H locs ls cells slots C Rt hW hS hl hc ht hz
  exact lv_if_le C.1 C.2.1 hd htg (fun q => kt q p e R s m args below meth c Q MC MS H locs ls cells slots C Rt hW hS hl hc ht hz) (fun q => kf q p e R s m args below meth c Q MC MS H locs ls cells slots C Rt hW hS hl hc ht hz)
theorem gk_icmp_eq {E : gk_E} {M : gk_M} {d : gk_B} {pc : Nat} {lv : List (Nat × Value)} {st : List Value} {h : gk_H} {K : Option Value → gk_H → Prop} {off : Int} {x y : Int32} (tgt : Nat) (hd : decode M.2.1 pc = .ok (.if_icmp .eq off, 3)) (htg : (pc : Int) + off = (tgt : Int)) (kt : x = y → gk_G E M d (tgt) lv (st) h K) (kf : ¬ x = y → gk_G E M d (pc + 3) lv (st) h K) : gk_G E M d (pc) lv (.int y :: .int x :: st) h K := by
  intro p e R s m args below meth c Q MC MS H locs ls cells slots C Rt hW hS hl hc ht hz
  exact lv_icmp_eq C.1 C.2.1 hd htg (fun q => kt q p e R s m args below meth c Q MC MS H locs ls cells slots C Rt hW hS hl hc ht hz) (fun q => kf q p e R s m args below meth c Q MC MS H locs ls cells slots C Rt hW hS hl hc ht hz)
theorem gk_icmp_ne {E : gk_E} {M : gk_M} {d : gk_B} {pc : Nat} {lv : List (Nat × Value)} {st : List Value} {h : gk_H} {K : Option Value → gk_H → Prop} {off : Int} {x y : Int32} (tgt : Nat) (hd : decode M.2.1 pc = .ok (.if_icmp .ne off, 3)) (htg : (pc : Int) + off = (tgt : Int)) (kt : ¬ x = y → gk_G E M d (tgt) lv (st) h K) (kf : x = y → gk_G E M d (pc + 3) lv (st) h K) : gk_G E M d (pc) lv (.int y :: .int x :: st) h K := by
  intro p e R s m args below meth c Q MC MS H locs ls cells slots C Rt hW hS hl hc ht hz
  exact lv_icmp_ne C.1 C.2.1 hd htg (fun q => kt q p e R s m args below meth c Q MC MS H locs ls cells slots C Rt hW hS hl hc ht hz) (fun q => kf q p e R s m args below meth c Q MC MS H locs ls cells slots C Rt hW hS hl hc ht hz)
theorem gk_icmp_lt {E : gk_E} {M : gk_M} {d : gk_B} {pc : Nat} {lv : List (Nat × Value)} {st : List Value} {h : gk_H} {K : Option Value → gk_H → Prop} {off : Int} {x y : Int32} (tgt : Nat) (hd : decode M.2.1 pc = .ok (.if_icmp .lt off, 3)) (htg : (pc : Int) + off = (tgt : Int)) (kt : x < y → gk_G E M d (tgt) lv (st) h K) (kf : ¬ x < y → gk_G E M d (pc + 3) lv (st) h K) : gk_G E M d (pc) lv (.int y :: .int x :: st) h K := by
  intro p e R s m args below meth c Q MC MS H locs ls cells slots C Rt hW hS hl hc ht hz
  exact lv_icmp_lt C.1 C.2.1 hd htg (fun q => kt q p e R s m args below meth c Q MC MS H locs ls cells slots C Rt hW hS hl hc ht hz) (fun q => kf q p e R s m args below meth c Q MC MS H locs ls cells slots C Rt hW hS hl hc ht hz)
theorem gk_icmp_ge {E : gk_E} {M : gk_M} {d : gk_B} {pc : Nat} {lv : List (Nat × Value)} {st : List Value} {h : gk_H} {K : Option Value → gk_H → Prop} {off : Int} {x y : Int32} (tgt : Nat) (hd : decode M.2.1 pc = .ok (.if_icmp .ge off, 3)) (htg : (pc : Int) + off = (tgt : Int)) (kt : y ≤ x → gk_G E M d (tgt) lv (st) h K) (kf : ¬ y ≤ x → gk_G E M d (pc + 3) lv (st) h K) : gk_G E M d (pc) lv (.int y :: .int x :: st) h K := by
  intro p e R s m args below meth c Q MC MS H locs ls cells slots C Rt hW hS hl hc ht hz
  exact lv_icmp_ge C.1 C.2.1 hd htg (fun q => kt q p e R s m args below meth c Q MC MS H locs ls cells slots C Rt hW hS hl hc ht hz) (fun q => kf q p e R s m args below meth c Q MC MS H locs ls cells slots C Rt hW hS hl hc ht hz)
theorem gk_icmp_gt {E : gk_E} {M : gk_M} {d : gk_B} {pc : Nat} {lv : List (Nat × Value)} {st : List Value} {h : gk_H} {K : Option Value → gk_H → Prop} {off : Int} {x y : Int32} (tgt : Nat) (hd : decode M.2.1 pc = .ok (.if_icmp .gt off, 3)) (htg : (pc : Int) + off = (tgt : Int)) (kt : y < x → gk_G E M d (tgt) lv (st) h K) (kf : ¬ y < x → gk_G E M d (pc + 3) lv (st) h K) : gk_G E M d (pc) lv (.int y :: .int x :: st) h K := by
  intro p e R s m args below meth c Q MC MS H locs ls cells slots C Rt hW hS hl hc ht hz
  exact lv_icmp_gt C.1 C.2.1 hd htg (fun q => kt q p e R s m args below meth c Q MC MS H locs ls cells slots C Rt hW hS hl hc ht hz) (fun q => kf q p e R s m args below meth c Q MC MS H locs ls cells slots C Rt hW hS hl hc ht hz)
theorem gk_icmp_le {E : gk_E} {M : gk_M} {d : gk_B} {pc : Nat} {lv : List (Nat × Value)} {st : List Value} {h : gk_H} {K : Option Value → gk_H → Prop} {off : Int} {x y : Int32} (tgt : Nat) (hd : decode M.2.1 pc = .ok (.if_icmp .le off, 3)) (htg : (pc : Int) + off = (tgt : Int)) (kt : x ≤ y → gk_G E M d (tgt) lv (st) h K) (kf : ¬ x ≤ y → gk_G E M d (pc + 3) lv (st) h K) : gk_G E M d (pc) lv (.int y :: .int x :: st) h K := by
  intro p e R s m args below meth c Q MC MS H locs ls cells slots C Rt hW hS hl hc ht hz
  exact lv_icmp_le C.1 C.2.1 hd htg (fun q => kt q p e R s m args below meth c Q MC MS H locs ls cells slots C Rt hW hS hl hc ht hz) (fun q => kf q p e R s m args below meth c Q MC MS H locs ls cells slots C Rt hW hS hl hc ht hz)
theorem gk_goto {E : gk_E} {M : gk_M} {d : gk_B} {pc : Nat} {lv : List (Nat × Value)} {st : List Value} {h : gk_H} {K : Option Value → gk_H → Prop} {off : Int} (tgt : Nat) (hd : decode M.2.1 pc = .ok (.goto off, 3)) (htg : (pc : Int) + off = (tgt : Int)) (k : gk_G E M d (tgt) lv (st) h K) : gk_G E M d (pc) lv (st) h K := by
  intro p e R s m args below meth c Q MC MS H locs ls cells slots C Rt hW hS hl hc ht hz
  exact lv_goto C.1 C.2.1 hd htg (k p e R s m args below meth c Q MC MS H locs ls cells slots C Rt hW hS hl hc ht hz)
theorem gk_ireturn {E : gk_E} {M : gk_M} {d1 b2 : Nat} {pc : Nat} {lv : List (Nat × Value)} {h : gk_H} {K : Option Value → gk_H → Prop} {x : Int32} (ty : FieldType) (hd : decode M.2.1 pc = .ok (.ireturn, 1)) (hr : M.2.2.2 = some ty) (hn : narrow ty (.int x) = .int x) (k : K (some (.int x)) h) : gk_G E M (d1, 0, b2) pc lv [.int x] h K := by
  intro p e R s m args below meth c Q MC MS H locs ls cells slots C Rt hW hS hl hc ht hz
  have e1 : cells = MC := hc
  subst e1
  exact Rt (some (.int x)) h pc ls H locs slots k ⟨hd, ty, hr, hn⟩ hW hS (by have : slots + b2 = MS := ht; omega) hz
theorem gk_lreturn {E : gk_E} {M : gk_M} {d1 b2 : Nat} {pc : Nat} {lv : List (Nat × Value)} {h : gk_H} {K : Option Value → gk_H → Prop} {x : Int64} (hd : decode M.2.1 pc = .ok (.lreturn, 1)) (hr : M.2.2.2 = some .long) (k : K (some (.long x)) h) : gk_G E M (d1, 0, b2) pc lv [.long x] h K := by
  intro p e R s m args below meth c Q MC MS H locs ls cells slots C Rt hW hS hl hc ht hz
  have e1 : cells = MC := hc
  subst e1
  exact Rt (some (.long x)) h pc ls H locs slots k ⟨hd, hr⟩ hW hS (by have : slots + b2 = MS := ht; omega) hz
theorem gk_return {E : gk_E} {M : gk_M} {d1 b2 : Nat} {pc : Nat} {lv : List (Nat × Value)} {h : gk_H} {K : Option Value → gk_H → Prop} (hd : decode M.2.1 pc = .ok (.return_, 1)) (hr : M.2.2.2 = none) (k : K none h) : gk_G E M (d1, 0, b2) pc lv [] h K := by
  intro p e R s m args below meth c Q MC MS H locs ls cells slots C Rt hW hS hl hc ht hz
  have e1 : cells = MC := hc
  subst e1
  exact Rt none h pc ls H locs slots k ⟨hd, hr⟩ hW hS (by have : slots + b2 = MS := ht; omega) hz
end
section
/-! fields and arrays -/
theorem gk_cell {E : gk_E} {h : gk_H} {r : Nat} {x : gk_X} (hx : h[r]? = some x) : (gk_lay E 0 h)[r]? = some (gk_b E + (0 + r), gk_e E x) := by rw [gk_lay_at, hx]; rfl
theorem gk_ar {E : gk_E} {h : gk_H} {H : Heap} {r : Nat} {x : gk_X} (hW : gk_W E h H) (hx : h[r]? = some x) : gk_a E r = gk_b E + (0 + r) := by
  have h1 : r < h.length := (List.getElem?_eq_some_iff.mp hx).1
  have h2 := hW.2
  rw [gk_a, if_pos (by omega), Nat.zero_add]
theorem gk_W.set {E : gk_E} {h : gk_H} {H H1 : Heap} {r : Nat} {x y : gk_X} (hW : gk_W E h H) (hx : h[r]? = some x) (ha : va_at (gk_D E) vwCl (gk_b E + (0 + r), gk_e E y) H1) (oq : ∀ q : Nat, q ≠ gk_b E + (0 + r) → H1[q]? = H[q]?) : gk_W E (h.set r y) H1 :=
  ⟨by rw [gk_lay_set]; exact hW.1.set (gk_lay_D E h) (gk_cell hx) ha oq, by rw [List.length_set]; exact hW.2⟩
/-- a class of the world: its number, name, fields -/
def gk_Cl (ci : Nat) (C : String) (T : u_T) (N : Nat) : Prop := vwCl[ci]? = some (C, T, N) ∧ (∀ w ∈ u_ws C T N, w ∈ gk_T) ∧ (∃ ty : Nat → FieldType, ∀ k, k < N → parseFieldDescriptor (T k).2.2.1 = some (ty k)) ∧ ∀ a, a < N → ∀ b, b < N → a ≠ b → (T a).2.1 ≠ (T b).2.1
/-- the pool's entry idx of class own is field k of class ci, of type ty, final or not -/
def gk_Fl (own : String) (idx ci k : Nat) (ty : FieldType) (fin : Bool) : Prop := ∃ (C : String) (T : u_T) (N : Nat) (ref : String), gk_Cl ci C T N ∧ k < N ∧ Cond.fieldLink own idx ref (T k).2.1 (T k).2.2.1 ∈ gk_T ∧ (ref = (T k).1 ∨ Cond.sameField ref (T k).1 (T k).2.1 (T k).2.2.1 ∈ gk_T) ∧ parseFieldDescriptor (T k).2.2.1 = some ty ∧ (T k).2.2.2 = fin ∧ (fin = true → (T k).1 = own)
/-- for a read -/
def gk_Fg (own : String) (idx ci k : Nat) : Prop := ∃ (C : String) (T : u_T) (N : Nat) (ref : String), gk_Cl ci C T N ∧ k < N ∧ Cond.fieldLink own idx ref (T k).2.1 (T k).2.2.1 ∈ gk_T ∧ (ref = (T k).1 ∨ Cond.sameField ref (T k).1 (T k).2.1 (T k).2.2.1 ∈ gk_T)
theorem gk_Fl.g {own : String} {idx ci k : Nat} {ty : FieldType} {fin : Bool} (h : gk_Fl own idx ci k ty fin) : gk_Fg own idx ci k := by
  obtain ⟨C, T, N, ref, h1, h2, h3, h4, -⟩ := h
  exact ⟨C, T, N, ref, h1, h2, h3, h4⟩
section GKH
variable {E : gk_E} {M : gk_M} {d : gk_B} {pc : Nat} {lv : List (Nat × Value)} {st : List Value} {h : gk_H} {K : Option Value → gk_H → Prop}
theorem gk_same {own ref o n ds : String} {args : Array Value} {s : State} (hts : ∀ w ∈ gk_T, w.before args s = true) (h : ref = o ∨ Cond.sameField ref o n ds ∈ gk_T) : ∀ x, s.fieldFound? o n ds = some x → s.fieldFound? ref n ds = some x := by
  intro x hx
  rcases h with rfl | h
  · exact hx
  · exact u_same (hts _ h) x hx
theorem gk_get {idx ci k r : Nat} {fs : List Value} (v : Value) (hd : decode M.2.1 pc = .ok (.getfield idx, 3)) (hf : gk_Fg M.1.cls idx ci k) (hr : h[r]? = some (.inr (ci, fs))) (hv : fs[k]? = some v) (kk : gk_G E M d (pc + 3) lv (v :: st) h K) : gk_G E M d pc lv (.ref r :: st) h K := by
  intro p e R s m args below meth c Q MC MS H locs ls cells slots C Rt hW hS hl hc ht hz
  obtain ⟨Cn, T, N, ref, hC, hk, hln, hsm⟩ := hf
  have key := kk p e R s m args below meth c Q MC MS H locs ls cells slots C Rt hW hS hl hc ht hz
  have hts := C.2.2.2.2.2.2.1
  show W p E.1 e R s m args below meth c H locs cells slots Q (F0 m pc ls (.ref (gk_a E r) :: st.map (gk_v E)))
  rw [gk_ar hW hr]
  exact va_get C.1 C.2.1 hts hC.2.1 C.2.2.2.2.2.2.2.1 C.2.2.2.2.2.2.2.2.1.1 hW.1 r (gk_cell hr) hC.1 k hk (hts _ hln) (gk_same (own := ref) hts hsm) (v := gk_v E v) (by rw [List.getElem?_map, hv]; rfl) hd key
set_option maxHeartbeats 1000000 in
theorem gk_put {idx ci k r : Nat} {ty : FieldType} {fs : List Value} {v : Value} (hd : decode M.2.1 pc = .ok (.putfield idx, 3)) (hf : gk_Fl M.1.cls idx ci k ty false) (hr : h[r]? = some (.inr (ci, fs))) (hlen : k < fs.length) (hn : narrow ty v = v) (hfit : fits ty v = true) (kk : gk_G E M d (pc + 3) lv st (h.set r (.inr (ci, fs.set k v))) K) : gk_G E M d pc lv (v :: .ref r :: st) h K := by
  intro p e R s m args below meth c Q MC MS H locs ls cells slots C Rt hW hS hl hc ht hz
  obtain ⟨Cn, T, N, ref, hC, hk, hln, hsm, hty, hfin, -⟩ := hf
  have hts := C.2.2.2.2.2.2.1
  have hK := C.2.2.2.2.2.2.2.2.1.1
  obtain ⟨ty0, hty0⟩ := hC.2.2.1
  show W p E.1 e R s m args below meth c H locs cells slots Q (F0 m pc ls (gk_v E v :: .ref (gk_a E r) :: st.map (gk_v E)))
  rw [gk_ar hW hr]
  have hn' : narrow ty (gk_v E v) = gk_v E v := by
    cases v <;> first | exact hn | (cases ty <;> rfl)
  have hfit' : fits ty (gk_v E v) = true := by
    cases v <;> first | exact hfit | (cases ty <;> first | exact hfit | rfl)
  have hap := va_apart (own := ref) hts hC.2.1 ty0 hty0 hC.2.2.2 hK hC.1
  obtain ⟨rr, h1, cell, q1, q2, q3, q4⟩ := hW.1 r _ (gk_cell hr)
  have hrr : rr = (Cn, T, N) := Option.some.inj (h1.symm.trans hC.1)
  subst hrr
  obtain ⟨hSl, hfc, kC, hkC, hkind⟩ := hK.1 ci _ hC.1
  obtain ⟨cf, kf, fi, f, hi, hsl⟩ := hSl k hk
  have hlay := hts _ (hC.2.1 _ (u_in_lay hk))
  unfold u_lay at hlay
  rw [if_neg (by rw [hfin]; decide)] at hlay
  have hst := (u_facts hfc hkC (u_lays hts hC.2.1 hk) hi).1
  have h6 := u_store hfc hkC hkind hlay hi hty hn' hfit'
  refine W.putK C.1 C.2.1 (f := f) ⟨C.2.2.2.2.2.2.2.1, hts _ hln, ⟨_, _, _, gk_same (own := ref) hts hsm _ hi⟩, hst⟩ (by rw [q2]; exact h6) q1 q3 (by rw [hsl]; exact k2_hasslot (q4 k hk)) rfl rfl hd fun H' e1 e2 e3 => ?_
  rw [hsl] at e1 ⊢
  refine kk p e R s m args below meth c Q MC MS H' _ ls cells slots C Rt (hW.set hr ?_ e3) (hS.put e2 e3 (Nat.le_add_right _ _)) hl hc ht (by rw [List.length_set]; exact hz)
  refine ⟨_, hC.1, t_OB.to (V := updV (vp_V (fs.map (gk_v E))) k (gk_v E v)) ⟨_, e1, q2, q3, t_set q4 hap hk _⟩ (fun j _ => ?_)⟩
  rw [vp_updV_set (by rw [List.length_map]; exact hlen), List.map_set]
set_option maxHeartbeats 1000000 in
theorem gk_putF {idx ci k r : Nat} {ty : FieldType} {fs : List Value} {v : Value} (hd : decode M.2.1 pc = .ok (.putfield idx, 3)) (hm : M.1.name = "<init>") (hf : gk_Fl M.1.cls idx ci k ty true) (hr : h[r]? = some (.inr (ci, fs))) (hlen : k < fs.length) (hn : narrow ty v = v) (hfit : fits ty v = true) (kk : gk_G E M d (pc + 3) lv st (h.set r (.inr (ci, fs.set k v))) K) : gk_G E M d pc lv (v :: .ref r :: st) h K := by
  intro p e R s m args below meth c Q MC MS H locs ls cells slots C Rt hW hS hl hc ht hz
  obtain ⟨Cn, T, N, ref, hC, hk, hln, hsm, hty, hfin, hdecl⟩ := hf
  have hdecl := hdecl rfl
  have hts := C.2.2.2.2.2.2.1
  have hown := C.2.2.2.2.2.2.2.1
  have hK := C.2.2.2.2.2.2.2.2.1.1
  obtain ⟨ty0, hty0⟩ := hC.2.2.1
  show W p E.1 e R s m args below meth c H locs cells slots Q (F0 m pc ls (gk_v E v :: .ref (gk_a E r) :: st.map (gk_v E)))
  rw [gk_ar hW hr]
  have hn' : narrow ty (gk_v E v) = gk_v E v := by
    cases v <;> first | exact hn | (cases ty <;> rfl)
  have hfit' : fits ty (gk_v E v) = true := by
    cases v <;> first | exact hfit | (cases ty <;> first | exact hfit | rfl)
  have hap := va_apart (own := ref) hts hC.2.1 ty0 hty0 hC.2.2.2 hK hC.1
  obtain ⟨rr, h1, cell, q1, q2, q3, q4⟩ := hW.1 r _ (gk_cell hr)
  have hrr : rr = (Cn, T, N) := Option.some.inj (h1.symm.trans hC.1)
  subst hrr
  obtain ⟨hSl, hfc, kC, hkC, hkind⟩ := hK.1 ci _ hC.1
  obtain ⟨cf, kf, fi, f, hi, hsl⟩ := hSl k hk
  have hlay := hts _ (hC.2.1 _ (u_in_lay hk))
  unfold u_lay at hlay
  rw [if_pos hfin] at hlay
  have hst := (u_facts hfc hkC (u_lays hts hC.2.1 hk) hi).1
  have hcf : m.cls = cf := by
    obtain ⟨_, _, c', _, _, _, -, -, hf', -, -, -, hown2, -⟩ := Cond.laysFinal_spec hlay
    have e1 : c' = cf := by have := hi.symm.trans hf'; simp at this; exact this.1.symm
    rw [hdecl] at hown2
    rw [← e1]; exact Option.some.inj (hown.symm.trans hown2)
  have h6 := u_fits hfc hkC hkind (Or.inr hlay) hi hty hn' hfit'
  refine W.putFinK C.1 C.2.1 hown (hts _ hln) (gk_same (own := ref) hts hsm _ hi) hst hcf (C.2.2.2.2.2.1.trans hm) (by rw [q2]; exact h6) q1 q3 (by rw [hsl]; exact k2_hasslot (q4 k hk)) rfl rfl hd fun H' e1 e2 e3 => ?_
  rw [hsl] at e1 ⊢
  refine kk p e R s m args below meth c Q MC MS H' _ ls cells slots C Rt (hW.set hr ?_ e3) (hS.put e2 e3 (Nat.le_add_right _ _)) hl hc ht (by rw [List.length_set]; exact hz)
  refine ⟨_, hC.1, t_OB.to (V := updV (vp_V (fs.map (gk_v E))) k (gk_v E v)) ⟨_, e1, q2, q3, t_set q4 hap hk _⟩ (fun j _ => ?_)⟩
  rw [vp_updV_set (by rw [List.length_map]; exact hlen), List.map_set]
theorem gk_alen {r t : Nat} {x : vp_A} (v : Int32) (hd : decode M.2.1 pc = .ok (.arraylength, 1)) (hr : h[r]? = some (.inl (t, x))) (htt : t < 8) (hv : Int32.ofNat x.1 = v) (kk : gk_G E M d (pc + 1) lv (.int v :: st) h K) : gk_G E M d pc lv (.ref r :: st) h K := by
  intro p e R s m args below meth c Q MC MS H locs ls cells slots C Rt hW hS hl hc ht hz
  have key := kk p e R s m args below meth c Q MC MS H locs ls cells slots C Rt hW hS hl hc ht hz
  show W p E.1 e R s m args below meth c H locs cells slots Q (F0 m pc ls (.ref (gk_a E r) :: st.map (gk_v E)))
  rw [gk_ar hW hr]
  have hg : ∃ ty, (gk_tys E)[t]? = some (gk_cy E t, ty) := by
    match t, htt with
    | 0, _ => exact ⟨_, rfl⟩
    | 1, _ => exact ⟨_, rfl⟩
    | 2, _ => exact ⟨_, rfl⟩
    | 3, _ => exact ⟨_, rfl⟩
    | 4, _ => exact ⟨_, rfl⟩
    | 5, _ => exact ⟨_, rfl⟩
    | 6, _ => exact ⟨_, rfl⟩
    | 7, _ => exact ⟨_, rfl⟩
    | n + 8, q => omega
  obtain ⟨ty, hg⟩ := hg
  have hx1 : (gk_c E x).1 = x.1 := by obtain ⟨n, f | f | f | f | f⟩ := x <;> rfl
  exact va_alen C.1 C.2.1 C.2.2.2.2.2.2.2.2.1.1 hW.1 r t (gk_cell hr) hg (by rw [hx1]; exact hv) hd key
end GKH
theorem gk_iald {E : gk_E} {M : gk_M} {d : gk_B} {pc : Nat} {lv : List (Nat × Value)} {st : List Value} {h : gk_H} {K : Option Value → gk_H → Prop} {r n : Nat} {f : Nat → Int32} {i : Int32} (hd : decode M.2.1 pc = .ok (.iaload, 1)) (hr : h[r]? = some (.inl (0, n, .inl f))) (hin : vp_in i n) (kk : gk_G E M d (pc + 1) lv (.int (f i.toNatClampNeg) :: st) h K) : gk_G E M d pc lv (.int i :: .ref r :: st) h K := by
  intro p e R s m args below meth c Q MC MS H locs ls cells slots C Rt hW hS hl hc ht hz
  have key := kk p e R s m args below meth c Q MC MS H locs ls cells slots C Rt hW hS hl hc ht hz
  show W p E.1 e R s m args below meth c H locs cells slots Q (F0 m pc ls (.int i :: .ref (gk_a E r) :: st.map (gk_v E)))
  rw [gk_ar hW hr]
  exact va_iald C.1 C.2.1 C.2.2.2.2.2.2.2.2.1.1 hW.1 r 0 (gk_cell hr) rfl hin hd key
set_option maxHeartbeats 1000000 in
theorem gk_iast {E : gk_E} {M : gk_M} {d : gk_B} {pc : Nat} {lv : List (Nat × Value)} {st : List Value} {h : gk_H} {K : Option Value → gk_H → Prop} {r n : Nat} {f : Nat → Int32} {i : Int32} {x : Int32} (hd : decode M.2.1 pc = .ok (.iastore, 1)) (hr : h[r]? = some (.inl (0, n, .inl f))) (hin : vp_in i n) (kk : gk_G E M d (pc + 1) lv st (h.set r (.inl (0, n, .inl (upd f i.toNatClampNeg x)))) K) : gk_G E M d pc lv (.int x :: .int i :: .ref r :: st) h K := by
  intro p e R s m args below meth c Q MC MS H locs ls cells slots C Rt hW hS hl hc ht hz
  show W p E.1 e R s m args below meth c H locs cells slots Q (F0 m pc ls (.int x :: .int i :: .ref (gk_a E r) :: st.map (gk_v E)))
  rw [gk_ar hW hr]
  have hP := hW.1 r _ (gk_cell hr)
  have hA : s.isArrayOf (arrV (gk_cy E 0) n (fun j => .int (f j))) .int := (C.2.2.2.2.2.2.2.2.1.1.2 0 _ rfl).1 n (fun j => .int (f j))
  refine W.iast C.1 C.2.1 hP hA (fun q => by cases q) (by show ¬ (i < 0 ∨ (arrV _ _ _).slots.size ≤ _); rw [arrV_size]; exact hin) rfl rfl hd fun H1 e0 z oq => ?_
  refine kk p e R s m args below meth c Q MC MS H1 _ ls cells slots C Rt (hW.set hr ?_ oq) (hS.put z oq (Nat.le_add_right _ _)) hl hc ht (by rw [List.length_set]; exact hz)
  show H1[gk_b E + (0 + r)]? = some (vp_cell (gk_cy E 0) (n, _))
  rw [e0]
  show some ((arrV (gk_cy E 0) n (fun j => .int (f j))).setSlot _ _) = some (arrV (gk_cy E 0) n (fun j => .int ((upd f i.toNatClampNeg x) j)))
  rw [arrV_store]
  congr 2
  funext q
  by_cases hq : q = i.toNatClampNeg
  · subst hq
    simp [updV, upd, vp_updL, vp_nar]
    try rfl
  · simp [updV, upd, vp_updL, hq]
theorem gk_bald {E : gk_E} {M : gk_M} {d : gk_B} {pc : Nat} {lv : List (Nat × Value)} {st : List Value} {h : gk_H} {K : Option Value → gk_H → Prop} {r n : Nat} {f : Nat → Int32} {i : Int32} (hd : decode M.2.1 pc = .ok (.baload, 1)) (hr : h[r]? = some (.inl (2, n, .inl f))) (hin : vp_in i n) (kk : gk_G E M d (pc + 1) lv (.int (f i.toNatClampNeg) :: st) h K) : gk_G E M d pc lv (.int i :: .ref r :: st) h K := by
  intro p e R s m args below meth c Q MC MS H locs ls cells slots C Rt hW hS hl hc ht hz
  have key := kk p e R s m args below meth c Q MC MS H locs ls cells slots C Rt hW hS hl hc ht hz
  show W p E.1 e R s m args below meth c H locs cells slots Q (F0 m pc ls (.int i :: .ref (gk_a E r) :: st.map (gk_v E)))
  rw [gk_ar hW hr]
  exact va_bald C.1 C.2.1 C.2.2.2.2.2.2.2.2.1.1 hW.1 r 2 (gk_cell hr) rfl hin hd key
set_option maxHeartbeats 1000000 in
theorem gk_bast {E : gk_E} {M : gk_M} {d : gk_B} {pc : Nat} {lv : List (Nat × Value)} {st : List Value} {h : gk_H} {K : Option Value → gk_H → Prop} {r n : Nat} {f : Nat → Int32} {i : Int32} {x : Int32} (hd : decode M.2.1 pc = .ok (.bastore, 1)) (hr : h[r]? = some (.inl (2, n, .inl f))) (hin : vp_in i n) (kk : gk_G E M d (pc + 1) lv st (h.set r (.inl (2, n, .inl (upd f i.toNatClampNeg (vp_nar .byte x))))) K) : gk_G E M d pc lv (.int x :: .int i :: .ref r :: st) h K := by
  intro p e R s m args below meth c Q MC MS H locs ls cells slots C Rt hW hS hl hc ht hz
  show W p E.1 e R s m args below meth c H locs cells slots Q (F0 m pc ls (.int x :: .int i :: .ref (gk_a E r) :: st.map (gk_v E)))
  rw [gk_ar hW hr]
  have hP := hW.1 r _ (gk_cell hr)
  have hA : s.isArrayOf (arrV (gk_cy E 2) n (fun j => .int (f j))) .byte := (C.2.2.2.2.2.2.2.2.1.1.2 2 _ rfl).1 n (fun j => .int (f j))
  refine W.bast C.1 C.2.1 hP hA (fun q => by cases q) (by show ¬ (i < 0 ∨ (arrV _ _ _).slots.size ≤ _); rw [arrV_size]; exact hin) rfl rfl hd fun H1 e0 z oq => ?_
  refine kk p e R s m args below meth c Q MC MS H1 _ ls cells slots C Rt (hW.set hr ?_ oq) (hS.put z oq (Nat.le_add_right _ _)) hl hc ht (by rw [List.length_set]; exact hz)
  show H1[gk_b E + (0 + r)]? = some (vp_cell (gk_cy E 2) (n, _))
  rw [e0]
  show some ((arrV (gk_cy E 2) n (fun j => .int (f j))).setSlot _ _) = some (arrV (gk_cy E 2) n (fun j => .int ((upd f i.toNatClampNeg (vp_nar .byte x)) j)))
  rw [arrV_store]
  congr 2
  funext q
  by_cases hq : q = i.toNatClampNeg
  · subst hq
    simp [updV, upd, vp_updL, vp_nar]
    try rfl
  · simp [updV, upd, vp_updL, hq]
theorem gk_zald {E : gk_E} {M : gk_M} {d : gk_B} {pc : Nat} {lv : List (Nat × Value)} {st : List Value} {h : gk_H} {K : Option Value → gk_H → Prop} {r n : Nat} {f : Nat → Int32} {i : Int32} (hd : decode M.2.1 pc = .ok (.baload, 1)) (hr : h[r]? = some (.inl (3, n, .inl f))) (hin : vp_in i n) (kk : gk_G E M d (pc + 1) lv (.int (f i.toNatClampNeg) :: st) h K) : gk_G E M d pc lv (.int i :: .ref r :: st) h K := by
  intro p e R s m args below meth c Q MC MS H locs ls cells slots C Rt hW hS hl hc ht hz
  have key := kk p e R s m args below meth c Q MC MS H locs ls cells slots C Rt hW hS hl hc ht hz
  show W p E.1 e R s m args below meth c H locs cells slots Q (F0 m pc ls (.int i :: .ref (gk_a E r) :: st.map (gk_v E)))
  rw [gk_ar hW hr]
  exact va_zald C.1 C.2.1 C.2.2.2.2.2.2.2.2.1.1 hW.1 r 3 (gk_cell hr) rfl hin hd key
set_option maxHeartbeats 1000000 in
theorem gk_zast {E : gk_E} {M : gk_M} {d : gk_B} {pc : Nat} {lv : List (Nat × Value)} {st : List Value} {h : gk_H} {K : Option Value → gk_H → Prop} {r n : Nat} {f : Nat → Int32} {i : Int32} {x : Int32} (hd : decode M.2.1 pc = .ok (.bastore, 1)) (hr : h[r]? = some (.inl (3, n, .inl f))) (hin : vp_in i n) (kk : gk_G E M d (pc + 1) lv st (h.set r (.inl (3, n, .inl (upd f i.toNatClampNeg (vp_nar .boolean x))))) K) : gk_G E M d pc lv (.int x :: .int i :: .ref r :: st) h K := by
  intro p e R s m args below meth c Q MC MS H locs ls cells slots C Rt hW hS hl hc ht hz
  show W p E.1 e R s m args below meth c H locs cells slots Q (F0 m pc ls (.int x :: .int i :: .ref (gk_a E r) :: st.map (gk_v E)))
  rw [gk_ar hW hr]
  have hP := hW.1 r _ (gk_cell hr)
  have hA : s.isArrayOf (arrV (gk_cy E 3) n (fun j => .int (f j))) .boolean := (C.2.2.2.2.2.2.2.2.1.1.2 3 _ rfl).1 n (fun j => .int (f j))
  refine W.zast C.1 C.2.1 hP hA (fun q => by cases q) (by show ¬ (i < 0 ∨ (arrV _ _ _).slots.size ≤ _); rw [arrV_size]; exact hin) rfl rfl hd fun H1 e0 z oq => ?_
  refine kk p e R s m args below meth c Q MC MS H1 _ ls cells slots C Rt (hW.set hr ?_ oq) (hS.put z oq (Nat.le_add_right _ _)) hl hc ht (by rw [List.length_set]; exact hz)
  show H1[gk_b E + (0 + r)]? = some (vp_cell (gk_cy E 3) (n, _))
  rw [e0]
  show some ((arrV (gk_cy E 3) n (fun j => .int (f j))).setSlot _ _) = some (arrV (gk_cy E 3) n (fun j => .int ((upd f i.toNatClampNeg (vp_nar .boolean x)) j)))
  rw [arrV_store]
  congr 2
  funext q
  by_cases hq : q = i.toNatClampNeg
  · subst hq
    simp [updV, upd, vp_updL, vp_nar]
    try rfl
  · simp [updV, upd, vp_updL, hq]
theorem gk_cald {E : gk_E} {M : gk_M} {d : gk_B} {pc : Nat} {lv : List (Nat × Value)} {st : List Value} {h : gk_H} {K : Option Value → gk_H → Prop} {r n : Nat} {f : Nat → Int32} {i : Int32} (hd : decode M.2.1 pc = .ok (.caload, 1)) (hr : h[r]? = some (.inl (4, n, .inl f))) (hin : vp_in i n) (kk : gk_G E M d (pc + 1) lv (.int (f i.toNatClampNeg) :: st) h K) : gk_G E M d pc lv (.int i :: .ref r :: st) h K := by
  intro p e R s m args below meth c Q MC MS H locs ls cells slots C Rt hW hS hl hc ht hz
  have key := kk p e R s m args below meth c Q MC MS H locs ls cells slots C Rt hW hS hl hc ht hz
  show W p E.1 e R s m args below meth c H locs cells slots Q (F0 m pc ls (.int i :: .ref (gk_a E r) :: st.map (gk_v E)))
  rw [gk_ar hW hr]
  exact va_cald C.1 C.2.1 C.2.2.2.2.2.2.2.2.1.1 hW.1 r 4 (gk_cell hr) rfl hin hd key
set_option maxHeartbeats 1000000 in
theorem gk_cast {E : gk_E} {M : gk_M} {d : gk_B} {pc : Nat} {lv : List (Nat × Value)} {st : List Value} {h : gk_H} {K : Option Value → gk_H → Prop} {r n : Nat} {f : Nat → Int32} {i : Int32} {x : Int32} (hd : decode M.2.1 pc = .ok (.castore, 1)) (hr : h[r]? = some (.inl (4, n, .inl f))) (hin : vp_in i n) (kk : gk_G E M d (pc + 1) lv st (h.set r (.inl (4, n, .inl (upd f i.toNatClampNeg (vp_nar .char x))))) K) : gk_G E M d pc lv (.int x :: .int i :: .ref r :: st) h K := by
  intro p e R s m args below meth c Q MC MS H locs ls cells slots C Rt hW hS hl hc ht hz
  show W p E.1 e R s m args below meth c H locs cells slots Q (F0 m pc ls (.int x :: .int i :: .ref (gk_a E r) :: st.map (gk_v E)))
  rw [gk_ar hW hr]
  have hP := hW.1 r _ (gk_cell hr)
  have hA : s.isArrayOf (arrV (gk_cy E 4) n (fun j => .int (f j))) .char := (C.2.2.2.2.2.2.2.2.1.1.2 4 _ rfl).1 n (fun j => .int (f j))
  refine W.cast C.1 C.2.1 hP hA (fun q => by cases q) (by show ¬ (i < 0 ∨ (arrV _ _ _).slots.size ≤ _); rw [arrV_size]; exact hin) rfl rfl hd fun H1 e0 z oq => ?_
  refine kk p e R s m args below meth c Q MC MS H1 _ ls cells slots C Rt (hW.set hr ?_ oq) (hS.put z oq (Nat.le_add_right _ _)) hl hc ht (by rw [List.length_set]; exact hz)
  show H1[gk_b E + (0 + r)]? = some (vp_cell (gk_cy E 4) (n, _))
  rw [e0]
  show some ((arrV (gk_cy E 4) n (fun j => .int (f j))).setSlot _ _) = some (arrV (gk_cy E 4) n (fun j => .int ((upd f i.toNatClampNeg (vp_nar .char x)) j)))
  rw [arrV_store]
  congr 2
  funext q
  by_cases hq : q = i.toNatClampNeg
  · subst hq
    simp [updV, upd, vp_updL, vp_nar]
    try rfl
  · simp [updV, upd, vp_updL, hq]
theorem gk_lald {E : gk_E} {M : gk_M} {d : gk_B} {pc : Nat} {lv : List (Nat × Value)} {st : List Value} {h : gk_H} {K : Option Value → gk_H → Prop} {r n : Nat} {f : Nat → Int64} {i : Int32} (hd : decode M.2.1 pc = .ok (.laload, 1)) (hr : h[r]? = some (.inl (1, n, .inr (.inl f)))) (hin : vp_in i n) (kk : gk_G E M d (pc + 1) lv (.long (f i.toNatClampNeg) :: st) h K) : gk_G E M d pc lv (.int i :: .ref r :: st) h K := by
  intro p e R s m args below meth c Q MC MS H locs ls cells slots C Rt hW hS hl hc ht hz
  have key := kk p e R s m args below meth c Q MC MS H locs ls cells slots C Rt hW hS hl hc ht hz
  show W p E.1 e R s m args below meth c H locs cells slots Q (F0 m pc ls (.int i :: .ref (gk_a E r) :: st.map (gk_v E)))
  rw [gk_ar hW hr]
  exact va_lald C.1 C.2.1 C.2.2.2.2.2.2.2.2.1.1 hW.1 r 1 (gk_cell hr) rfl hin hd key
set_option maxHeartbeats 1000000 in
theorem gk_last {E : gk_E} {M : gk_M} {d : gk_B} {pc : Nat} {lv : List (Nat × Value)} {st : List Value} {h : gk_H} {K : Option Value → gk_H → Prop} {r n : Nat} {f : Nat → Int64} {i : Int32} {x : Int64} (hd : decode M.2.1 pc = .ok (.lastore, 1)) (hr : h[r]? = some (.inl (1, n, .inr (.inl f)))) (hin : vp_in i n) (kk : gk_G E M d (pc + 1) lv st (h.set r (.inl (1, n, .inr (.inl (vp_updL f i.toNatClampNeg x))))) K) : gk_G E M d pc lv (.long x :: .int i :: .ref r :: st) h K := by
  intro p e R s m args below meth c Q MC MS H locs ls cells slots C Rt hW hS hl hc ht hz
  show W p E.1 e R s m args below meth c H locs cells slots Q (F0 m pc ls (.long x :: .int i :: .ref (gk_a E r) :: st.map (gk_v E)))
  rw [gk_ar hW hr]
  have hP := hW.1 r _ (gk_cell hr)
  have hA : s.isArrayOf (arrV (gk_cy E 1) n (fun j => .long (f j))) .long := (C.2.2.2.2.2.2.2.2.1.1.2 1 _ rfl).1 n (fun j => .long (f j))
  refine W.last C.1 C.2.1 hP hA (fun q => by cases q) (by show ¬ (i < 0 ∨ (arrV _ _ _).slots.size ≤ _); rw [arrV_size]; exact hin) rfl rfl hd fun H1 e0 z oq => ?_
  refine kk p e R s m args below meth c Q MC MS H1 _ ls cells slots C Rt (hW.set hr ?_ oq) (hS.put z oq (Nat.le_add_right _ _)) hl hc ht (by rw [List.length_set]; exact hz)
  show H1[gk_b E + (0 + r)]? = some (vp_cell (gk_cy E 1) (n, _))
  rw [e0]
  show some ((arrV (gk_cy E 1) n (fun j => .long (f j))).setSlot _ _) = some (arrV (gk_cy E 1) n (fun j => .long ((vp_updL f i.toNatClampNeg x) j)))
  rw [arrV_store]
  congr 2
  funext q
  by_cases hq : q = i.toNatClampNeg
  · subst hq
    simp [updV, upd, vp_updL, vp_nar]
    try rfl
  · simp [updV, upd, vp_updL, hq]
theorem gk_aald5 {E : gk_E} {M : gk_M} {d : gk_B} {pc : Nat} {lv : List (Nat × Value)} {st : List Value} {h : gk_H} {K : Option Value → gk_H → Prop} {r n : Nat} {f : Nat → Option Nat} {i : Int32} (a : Nat) (hd : decode M.2.1 pc = .ok (.aaload, 1)) (hr : h[r]? = some (.inl (5, n, .inr (.inr (.inr (.inr f)))))) (hin : vp_in i n) (ha : f i.toNatClampNeg = some a) (kk : gk_G E M d (pc + 1) lv (.ref a :: st) h K) : gk_G E M d pc lv (.int i :: .ref r :: st) h K := by
  intro p e R s m args below meth c Q MC MS H locs ls cells slots C Rt hW hS hl hc ht hz
  have key := kk p e R s m args below meth c Q MC MS H locs ls cells slots C Rt hW hS hl hc ht hz
  show W p E.1 e R s m args below meth c H locs cells slots Q (F0 m pc ls (.int i :: .ref (gk_a E r) :: st.map (gk_v E)))
  rw [gk_ar hW hr]
  refine va_aldq C.1 C.2.1 C.2.2.2.2.2.2.2.2.1.1 hW.1 r 5 (C := RX3) (gk_cell hr) rfl hin hd ?_
  show W p E.1 e R s m args below meth c H locs cells slots Q (F0 m (pc + 1) ls (va_rf ((f i.toNatClampNeg).map (gk_a E)) :: st.map (gk_v E)))
  rw [ha]
  exact key
theorem gk_aald6 {E : gk_E} {M : gk_M} {d : gk_B} {pc : Nat} {lv : List (Nat × Value)} {st : List Value} {h : gk_H} {K : Option Value → gk_H → Prop} {r n : Nat} {f : Nat → Option Nat} {i : Int32} (a : Nat) (hd : decode M.2.1 pc = .ok (.aaload, 1)) (hr : h[r]? = some (.inl (6, n, .inr (.inr (.inr (.inr f)))))) (hin : vp_in i n) (ha : f i.toNatClampNeg = some a) (kk : gk_G E M d (pc + 1) lv (.ref a :: st) h K) : gk_G E M d pc lv (.int i :: .ref r :: st) h K := by
  intro p e R s m args below meth c Q MC MS H locs ls cells slots C Rt hW hS hl hc ht hz
  have key := kk p e R s m args below meth c Q MC MS H locs ls cells slots C Rt hW hS hl hc ht hz
  show W p E.1 e R s m args below meth c H locs cells slots Q (F0 m pc ls (.int i :: .ref (gk_a E r) :: st.map (gk_v E)))
  rw [gk_ar hW hr]
  refine va_aldq C.1 C.2.1 C.2.2.2.2.2.2.2.2.1.1 hW.1 r 6 (C := RX6) (gk_cell hr) rfl hin hd ?_
  show W p E.1 e R s m args below meth c H locs cells slots Q (F0 m (pc + 1) ls (va_rf ((f i.toNatClampNeg).map (gk_a E)) :: st.map (gk_v E)))
  rw [ha]
  exact key
theorem gk_scr_ld {E : gk_E} {M : gk_M} {d : gk_B} {pc : Nat} {lv : List (Nat × Value)} {st : List Value} {h : gk_H} {K : Option Value → gk_H → Prop} {i : Int32} (hd : decode M.2.1 pc = .ok (.iaload, 1)) (hin : vp_in i (gk_scr E).2.1) (kk : gk_G E M d (pc + 1) lv (.int ((gk_scr E).2.2 i.toNatClampNeg) :: st) h K) : gk_G E M d pc lv (.int i :: .ref 1000000 :: st) h K := by
  intro p e R s m args below meth c Q MC MS H locs ls cells slots C Rt hW hS hl hc ht hz
  have key := kk p e R s m args below meth c Q MC MS H locs ls cells slots C Rt hW hS hl hc ht hz
  have hSw := C.2.2.2.2.2.2.2.2.1
  exact va_sld C.1 C.2.1 hSw.2.1 (Nat.lt_of_lt_of_le hSw.2.2.1 hSw.2.2.2.1) (Nat.not_le.mpr hSw.2.2.1) hS hin hd key
theorem gk_aald7 {E : gk_E} {M : gk_M} {d : gk_B} {pc : Nat} {lv : List (Nat × Value)} {st : List Value} {h : gk_H} {K : Option Value → gk_H → Prop} {r n : Nat} {f : Nat → Option Nat} {i : Int32} (a : Nat) (hd : decode M.2.1 pc = .ok (.aaload, 1)) (hr : h[r]? = some (.inl (7, n, .inr (.inr (.inr (.inr f)))))) (hin : vp_in i n) (ha : f i.toNatClampNeg = some a) (kk : gk_G E M d (pc + 1) lv (.ref a :: st) h K) : gk_G E M d pc lv (.int i :: .ref r :: st) h K := by
  intro p e R s m args below meth c Q MC MS H locs ls cells slots C Rt hW hS hl hc ht hz
  have key := kk p e R s m args below meth c Q MC MS H locs ls cells slots C Rt hW hS hl hc ht hz
  show W p E.1 e R s m args below meth c H locs cells slots Q (F0 m pc ls (.int i :: .ref (gk_a E r) :: st.map (gk_v E)))
  rw [gk_ar hW hr]
  have hlt : i.toNatClampNeg < n := Nat.not_le.mp fun q => hin (Or.inr q)
  have hP : H[gk_b E + (0 + r)]? = some (arrV (gk_cy E 7) n (fun j => va_rf ((f j).map (gk_a E)))) := hW.1 r _ (gk_cell hr)
  have hA : s.isArrayOf (arrV (gk_cy E 7) n (fun j => va_rf ((f j).map (gk_a E)))) (.array .int) := (C.2.2.2.2.2.2.2.2.1.1.2 7 _ rfl).1 n (fun j => va_rf ((f j).map (gk_a E)))
  refine W.aald (v := va_rf ((f i.toNatClampNeg).map (gk_a E))) (ty := .array .int) C.1 C.2.1 hP hA rfl (fun q => by cases q) (by show ¬ (i < 0 ∨ (arrV _ _ _).slots.size ≤ _); rw [arrV_size]; exact hin) (by show (arrV _ _ _).slots[_]? = _; rw [arrV_read _ _ hlt]) rfl rfl hd ?_
  rw [ha]
  exact key
theorem gk_scr_len {E : gk_E} {M : gk_M} {d : gk_B} {pc : Nat} {lv : List (Nat × Value)} {st : List Value} {h : gk_H} {K : Option Value → gk_H → Prop} (hd : decode M.2.1 pc = .ok (.arraylength, 1)) (kk : gk_G E M d (pc + 1) lv (.int (nI (gk_scr E).2.1) :: st) h K) : gk_G E M d pc lv (.ref 1000000 :: st) h K := by
  intro p e R s m args below meth c Q MC MS H locs ls cells slots C Rt hW hS hl hc ht hz
  have key := kk p e R s m args below meth c Q MC MS H locs ls cells slots C Rt hW hS hl hc ht hz
  have hSw := C.2.2.2.2.2.2.2.2.1
  exact va_slen C.1 C.2.1 hSw.2.1 (Nat.lt_of_lt_of_le hSw.2.2.1 hSw.2.2.2.1) (Nat.not_le.mpr hSw.2.2.1) hS hd key
end
section
/-! calls -/
section GKC
variable {E : gk_E} {M : gk_M} {pc : Nat} {lv : List (Nat × Value)} {st : List Value} {h : gk_H} {K : Option Value → gk_H → Prop}
theorem gk_ts (E : gk_E) (r : Option Value) (rest : List Value) : (r.map (gk_v E)).toList ++ rest.map (gk_v E) = (r.toList ++ rest).map (gk_v E) := by cases r <;> rfl
theorem gk_cats (E : gk_E) (rest : List Value) : ((rest.map (gk_v E)).map fun v => v.category).sum = (rest.map fun v => v.category).sum := by
  rw [List.map_map]
  congr 1
  apply List.map_congr_left
  intro v _
  exact gk_cat E v
/-- behind a call -/
theorem gk_back {d1 b1 b2 c1 c2 : Nat} {p : Program} {e : Env} {R : Room} {s : State} {m : MethodId} {args : Array Value} {below : List Frame} {meth : Method} {c : Code} {Q : State → Prop} {MC MS : Nat} {H : Heap} {locs : List Loc} {ls : Array Slot} {cells slots : Nat} {rest st0 : List Value} {a : Array Value}
    (C : gk_Cx E M (d1, b1 + c1, b2 + c2) p R s m args meth c MC MS) (Rt : gk_R E M K p e R s m args below meth c MC MS Q) (hS : va_S (gk_A E) s.heap H locs) (hl : lv_has ls M.2.2.1 (gk_L E lv)) (hc : cells + (b1 + c1) = MC) (ht : slots + (b2 + c2) = MS) (hz : s.heap.size + cells ≤ gk_b E + h.length) (hsz : H.size = gk_b E + h.length)
    (hr : va_Run p E.1 e R s m args below meth c H locs cells slots c1 c2 (F0 m pc ls st0) (rest.map (gk_v E)) (gk_Q E (fun o h' => gk_G E M (d1, b1, b2) (pc + 3) lv (o.toList ++ rest) h' K) c1 a) (gk_A E)) : W p E.1 e R s m args below meth c H locs cells slots Q (F0 m pc ls st0) := by
  intro T hT X
  obtain ⟨v, st₀, t, T', L, h0, X', hL, e1, e2, ⟨⟨r', h', hv, hK, hW', hz'⟩, hF1, hF2⟩, go⟩ := hr T hT X
  cases hv
  rw [h0] at hz' hF1 hF2
  have key := hK p e R s m args below meth c Q MC MS T'.heap (locs ++ L) ls (cells + c1) (slots + c2) (gk_Cx.mono (d' := (d1, b1 + c1, b2 + c2)) (Nat.le_refl _) C) Rt (by rw [e1]; exact hW')
    ⟨Nat.le_trans hS.1 (by rw [e1]; exact hF1), fun q h1 h2 => by rw [e1, hF2 q (Nat.lt_of_lt_of_le h1 hS.1) h2]; exact hS.2.1 q h1 h2, fun q hq => by
      rcases List.mem_append.mp hq with h | h
      · exact hS.2.2 q h
      · exact hL q h⟩ hl (by show cells + c1 + b1 = MC; omega) (by show slots + c2 + b2 = MS; omega) (by omega)
  obtain ⟨t2, a1, q1⟩ := key T' rfl X'
  refine ⟨t2, go t2 ?_, q1⟩
  rw [← gk_ts] at a1
  exact a1
theorem gk_blind (E : gk_E) (h : gk_H) (av : List Value) : FrameBlind (va_Pc av (fun U => gk_S E U ∧ gk_W E h U.heap ∧ U.heap.size ≤ gk_b E + h.length)) := fun a U g mk q => ⟨q.1, q.2.1.call g mk a, q.2.2⟩
theorem gk_pre {E : gk_E} {h : gk_H} {s : State} {H : Heap} {locs : List Loc} {av : List Value} (hSw : gk_S E s) (hS : va_S (gk_A E) s.heap H locs) (hW : gk_W E h H) (hsz : H.size = gk_b E + h.length) : ∀ U : State, U.heap = H → s.WarmedH U.vm → va_Pc av (fun U => gk_S E U ∧ gk_W E h U.heap ∧ U.heap.size ≤ gk_b E + h.length) av.toArray U :=
  fun U hU hWm => ⟨rfl, hSw.moved hWm hU hS, by rw [hU]; exact hW, by rw [hU]; exact Nat.le_of_eq hsz⟩
/-- a method that can be called: not of the two odd classes, n parameters, few locals -/
def gk_Ok (M' : gk_M) (n : Nat) : Prop := (M'.1.cls ≠ "java/lang/invoke/MethodHandle" ∧ M'.1.cls ≠ "java/lang/invoke/VarHandle" ∧ (parseMethodDescriptor M'.1.desc).map (fun d => d.parameters.length) = some n) ∧ plainName M'.1.cls = true ∧ M'.2.2.1 ≤ 45 ∧ gk_cw M' ∈ gk_T
def gk_Cv (own : String) (idx : Nat) (M' : gk_M) (ci n : Nat) : Prop := gk_Ok M' n ∧ (∃ (T : u_T) (N : Nat), vwCl[ci]? = some (M'.1.cls, T, N)) ∧ Cond.methodLink own idx M'.1 ∈ gk_T ∧ Cond.instanceMethod M'.1 ∈ gk_T ∧ Cond.selects M'.1.cls M'.1 M'.1 ∈ gk_T ∧ Cond.initialized M'.1.cls ∈ gk_T
def gk_Cs (own : String) (idx : Nat) (M' : gk_M) (n : Nat) : Prop := gk_Ok M' n ∧ Cond.methodLink own idx M'.1 ∈ gk_T ∧ Cond.static M'.1 ∈ gk_T ∧ Cond.initialized M'.1.cls ∈ gk_T
def gk_Ci (own : String) (idx : Nat) (M' : gk_M) (n : Nat) : Prop := gk_Ok M' n ∧ Cond.methodLink own idx M'.1 ∈ gk_T ∧ Cond.instanceMethod M'.1 ∈ gk_T ∧ Cond.initialized M'.1.cls ∈ gk_T ∧ M'.1.name = "<init>" ∧ M'.2.2.2 = none
/-- inherited: the pool's entry names x, class ci has it from owner: M' -/
def gk_Cu (own : String) (idx : Nat) (x : MethodName) (owner : String) (M' : gk_M) (ci n : Nat) : Prop := gk_Ok M' n ∧ ∃ (C : String) (T : u_T) (N : Nat), vwCl[ci]? = some (C, T, N) ∧ (M'.1 = ⟨owner, x.name, x.desc⟩ ∨ (⟨owner, x.name, x.desc⟩ : MethodName) = ⟨"AtomTables$Wheels", "clash", "(I)I"⟩) ∧ (owner ≠ "java/lang/invoke/MethodHandle" ∧ owner ≠ "java/lang/invoke/VarHandle" ∧ (parseMethodDescriptor x.desc).map (fun d => d.parameters.length) = some n) ∧ Cond.methodLink own idx x ∈ gk_T ∧ Cond.sameMethod x.cls owner x.name x.desc ∈ gk_T ∧ Cond.selects C x M'.1 ∈ gk_T ∧ Cond.instanceMethod M'.1 ∈ gk_T ∧ Cond.initialized M'.1.cls ∈ gk_T
theorem gk_mw {M' : gk_M} {n : Nat} (h : gk_Ok M' n) {ws : List Cond} (hw : ∀ w ∈ ws, w ∈ gk_T) : GoodIn gk_T (ws ++ (gk_cw M' :: gk_T)) := gk_good fun w q => by
  rcases List.mem_append.mp q with q | q
  · exact hw w q
  · rcases List.mem_cons.mp q with rfl | q
    · exact h.2.2.2
    · exact q
set_option maxHeartbeats 2000000 in
theorem gk_callV {d1 b1 b2 c1 c2 idx ci n r : Nat} {M' : gk_M} {fs : List Value} {st0 : List Value} (As rest : List Value) (hd : decode M.2.1 pc = .ok (.invokevirtual idx, 3)) (hw : gk_Cv M.1.cls idx M' ci n) (hr : h[r]? = some (.inr (ci, fs))) (hs : st0 = As.reverse ++ .ref r :: rest) (hn : As.length = n) (hm : (lg_sl (.ref r :: As)).length ≤ M'.2.2.1) (h8 : (rest.map fun v => v.category).sum ≤ 8)
    (k : gk_Run E M' (d1, c1, c2) (.ref r :: As) h (fun o h' => gk_G E M (d1 + 1, b1, b2) (pc + 3) lv (o.toList ++ rest) h' K)) : gk_G E M (d1 + 1, b1 + c1, b2 + c2) pc lv st0 h K := by
  subst hs
  intro p e R s m args below meth c Q MC MS H locs ls cells slots C Rt hW hS hl hc ht hz
  intro T hT X
  obtain ⟨hok, ⟨Tc, Nc, hcl⟩, w1, w2, w3, w4⟩ := hw
  have hsz : H.size = gk_b E + h.length := by
    have := gk_size C (by rw [hT]; exact hW) (by rw [hT]; exact hS) hz X
    rwa [hT] at this
  have hts := C.2.2.2.2.2.2.1
  have hSw := C.2.2.2.2.2.2.2.2.1
  have ha := gk_ar hW hr
  have hfr : d1 + 1 ≤ R.frames := C.2.2.2.2.2.2.2.2.2.1
  have hlo : 64 * (d1 + 1) ≤ R.locals := C.2.2.2.2.2.2.2.2.2.2.1
  have hRc : MC ≤ R.cells := C.2.2.2.2.2.2.2.2.2.2.2.1
  have hRs : MS ≤ R.slots := C.2.2.2.2.2.2.2.2.2.2.2.2
  have hc' : cells + (b1 + c1) = MC := hc
  have ht' : slots + (b2 + c2) = MS := ht
  have h45 := hok.2.2.1
  refine gk_back C Rt hS hl hc' ht' hz hsz (va_runV (As := As.map (gk_v E)) (rest := rest.map (gk_v E)) (b := gk_a E r) ⟨C.1, C.2.1, C.2.2.1, C.2.2.2.2.2.2.2.1, hts⟩ (gk_met hok.2.1 hm k) (cwV n hts (gk_mw hok (ws := [.methodLink M.1.cls idx M'.1, .instanceMethod M'.1, .selects M'.1.cls M'.1 M'.1, .initialized M'.1.cls]) (fun w q => ?_)) rfl rfl rfl ⟨rfl, hok.1⟩ ⟨hfr, ?_⟩) ⟨gk_blind E h _, ?_, gk_pre hSw hS hW hsz⟩ rfl ?_ hl.1 ?_ ?_ hd ⟨?_, ?_⟩) T hT X
  · simp only [List.mem_cons, List.not_mem_nil, or_false] at q
    rcases q with rfl | rfl | rfl | rfl
    · exact w1
    · exact w2
    · exact w3
    · exact w4
  · show 8 + (M'.2.2.1 + 11) + 64 * d1 ≤ R.locals
    omega
  · rw [ha]
    exact va_recv hSw.1 hW.1 hcl (gk_cell hr)
  · rw [List.length_map]; exact hn
  · show (As.reverse ++ .ref r :: rest).map (gk_v E) = _
    rw [List.map_append, List.map_reverse]
    rfl
  · refine lv_room ?_
    rw [gk_cats]
    exact h8
  · omega
  · omega
set_option maxHeartbeats 2000000 in
theorem gk_callS {d1 b1 b2 c1 c2 idx n : Nat} {M' : gk_M} {st0 : List Value} (As rest : List Value) (hd : decode M.2.1 pc = .ok (.invokestatic idx, 3)) (hw : gk_Cs M.1.cls idx M' n) (hs : st0 = As.reverse ++ rest) (hn : As.length = n) (hm : (lg_sl As).length ≤ M'.2.2.1) (h8 : (rest.map fun v => v.category).sum ≤ 8)
    (k : gk_Run E M' (d1, c1, c2) As h (fun o h' => gk_G E M (d1 + 1, b1, b2) (pc + 3) lv (o.toList ++ rest) h' K)) : gk_G E M (d1 + 1, b1 + c1, b2 + c2) pc lv st0 h K := by
  subst hs
  intro p e R s m args below meth c Q MC MS H locs ls cells slots C Rt hW hS hl hc ht hz
  intro T hT X
  obtain ⟨hok, w1, w2, w3⟩ := hw
  have hsz : H.size = gk_b E + h.length := by
    have := gk_size C (by rw [hT]; exact hW) (by rw [hT]; exact hS) hz X
    rwa [hT] at this
  have hts := C.2.2.2.2.2.2.1
  have hSw := C.2.2.2.2.2.2.2.2.1
  have hfr : d1 + 1 ≤ R.frames := C.2.2.2.2.2.2.2.2.2.1
  have hlo : 64 * (d1 + 1) ≤ R.locals := C.2.2.2.2.2.2.2.2.2.2.1
  have hRc : MC ≤ R.cells := C.2.2.2.2.2.2.2.2.2.2.2.1
  have hRs : MS ≤ R.slots := C.2.2.2.2.2.2.2.2.2.2.2.2
  have hc' : cells + (b1 + c1) = MC := hc
  have ht' : slots + (b2 + c2) = MS := ht
  have h45 := hok.2.2.1
  refine gk_back C Rt hS hl hc' ht' hz hsz (va_runS (As := As.map (gk_v E)) (rest := rest.map (gk_v E)) ⟨C.1, C.2.1, C.2.2.1, C.2.2.2.2.2.2.2.1, hts⟩ (gk_met hok.2.1 hm k) (va_cwS n hts (gk_mw hok (ws := [.methodLink M.1.cls idx M'.1, .static M'.1, .initialized M'.1.cls]) (fun w q => ?_)) rfl rfl rfl hok.1 ⟨hfr, ?_⟩) ⟨gk_blind E h _, gk_pre hSw hS hW hsz⟩ rfl ?_ hl.1 ?_ ?_ hd ⟨?_, ?_⟩) T hT X
  · simp only [List.mem_cons, List.not_mem_nil, or_false] at q
    rcases q with rfl | rfl | rfl
    · exact w1
    · exact w2
    · exact w3
  · show 8 + (M'.2.2.1 + 11) + 64 * d1 ≤ R.locals
    omega
  · rw [List.length_map]; exact hn
  · show (As.reverse ++ rest).map (gk_v E) = _
    rw [List.map_append, List.map_reverse]
  · refine lv_room ?_
    rw [gk_cats]
    exact h8
  · omega
  · omega
set_option maxHeartbeats 2000000 in
theorem gk_callI {d1 b1 b2 c1 c2 idx n r : Nat} {M' : gk_M} {st0 : List Value} (As rest : List Value) (hd : decode M.2.1 pc = .ok (.invokespecial idx, 3)) (hw : gk_Ci M.1.cls idx M' n) (hs : st0 = As.reverse ++ .ref r :: rest) (hn : As.length = n) (hm : (lg_sl (.ref r :: As)).length ≤ M'.2.2.1) (h8 : (rest.map fun v => v.category).sum ≤ 8)
    (k : gk_Run E M' (d1, c1, c2) (.ref r :: As) h (fun o h' => gk_G E M (d1 + 1, b1, b2) (pc + 3) lv (o.toList ++ rest) h' K)) : gk_G E M (d1 + 1, b1 + c1, b2 + c2) pc lv st0 h K := by
  subst hs
  intro p e R s m args below meth c Q MC MS H locs ls cells slots C Rt hW hS hl hc ht hz
  intro T hT X
  obtain ⟨hok, w1, w2, w3, hini, hret⟩ := hw
  have hsz : H.size = gk_b E + h.length := by
    have := gk_size C (by rw [hT]; exact hW) (by rw [hT]; exact hS) hz X
    rwa [hT] at this
  have hts := C.2.2.2.2.2.2.1
  have hSw := C.2.2.2.2.2.2.2.2.1
  have hfr : d1 + 1 ≤ R.frames := C.2.2.2.2.2.2.2.2.2.1
  have hlo : 64 * (d1 + 1) ≤ R.locals := C.2.2.2.2.2.2.2.2.2.2.1
  have hRc : MC ≤ R.cells := C.2.2.2.2.2.2.2.2.2.2.2.1
  have hRs : MS ≤ R.slots := C.2.2.2.2.2.2.2.2.2.2.2.2
  have hc' : cells + (b1 + c1) = MC := hc
  have ht' : slots + (b2 + c2) = MS := ht
  have h45 := hok.2.2.1
  refine gk_back C Rt hS hl hc' ht' hz hsz (va_runI (As := As.map (gk_v E)) (rest := rest.map (gk_v E)) (b := gk_a E r) ⟨C.1, C.2.1, C.2.2.1, C.2.2.2.2.2.2.2.1, hts⟩ (gk_met hok.2.1 hm k) (cwI n hts (gk_mw hok (ws := []) (fun w q => absurd q List.not_mem_nil)) (show gk_cw M' :: gk_T = _ by rw [gk_cw, hret]) rfl rfl (hts _ w3) (hts _ w1) (hts _ w2) hini hok.1 ⟨hfr, ?_⟩) ⟨gk_blind E h _, gk_pre (av := (Value.ref r :: As).map (gk_v E)) hSw hS hW hsz⟩ rfl ?_ hl.1 ?_ ?_ hd ⟨?_, ?_⟩) T hT X
  · show 8 + (M'.2.2.1 + 11) + 64 * d1 ≤ R.locals
    omega
  · rw [List.length_map]; exact hn
  · show (As.reverse ++ .ref r :: rest).map (gk_v E) = _
    rw [List.map_append, List.map_reverse]
    rfl
  · refine lv_room ?_
    rw [gk_cats]
    exact h8
  · omega
  · omega
set_option maxHeartbeats 2000000 in
theorem gk_callU {d1 b1 b2 c1 c2 idx ci n r : Nat} {x : MethodName} {owner : String} {M' : gk_M} {fs : List Value} {st0 : List Value} (As rest : List Value) (hd : decode M.2.1 pc = .ok (.invokevirtual idx, 3)) (hw : gk_Cu M.1.cls idx x owner M' ci n) (hr : h[r]? = some (.inr (ci, fs))) (hs : st0 = As.reverse ++ .ref r :: rest) (hn : As.length = n) (hm : (lg_sl (.ref r :: As)).length ≤ M'.2.2.1) (h8 : (rest.map fun v => v.category).sum ≤ 8)
    (k : gk_Run E M' (d1, c1, c2) (.ref r :: As) h (fun o h' => gk_G E M (d1 + 1, b1, b2) (pc + 3) lv (o.toList ++ rest) h' K)) : gk_G E M (d1 + 1, b1 + c1, b2 + c2) pc lv st0 h K := by
  subst hs
  intro p e R s m args below meth c Q MC MS H locs ls cells slots C Rt hW hS hl hc ht hz
  intro T hT X
  obtain ⟨hok, Cn, Tc, Nc, hcl, hyx, ho, w1, w2, w3, w4, w5⟩ := hw
  have hsz : H.size = gk_b E + h.length := by
    have := gk_size C (by rw [hT]; exact hW) (by rw [hT]; exact hS) hz X
    rwa [hT] at this
  have hts := C.2.2.2.2.2.2.1
  have hSw := C.2.2.2.2.2.2.2.2.1
  have ha := gk_ar hW hr
  have hfr : d1 + 1 ≤ R.frames := C.2.2.2.2.2.2.2.2.2.1
  have hlo : 64 * (d1 + 1) ≤ R.locals := C.2.2.2.2.2.2.2.2.2.2.1
  have hRc : MC ≤ R.cells := C.2.2.2.2.2.2.2.2.2.2.2.1
  have hRs : MS ≤ R.slots := C.2.2.2.2.2.2.2.2.2.2.2.2
  have hc' : cells + (b1 + c1) = MC := hc
  have ht' : slots + (b2 + c2) = MS := ht
  have h45 := hok.2.2.1
  have hgd : GoodIn gk_T (va_wsU M.1.cls idx Cn owner x M'.1 (gk_cw M' :: gk_T)) := gk_mw hok (ws := [.methodLink M.1.cls idx x, .sameMethod x.cls owner x.name x.desc, .selects Cn x M'.1, .instanceMethod M'.1, .initialized M'.1.cls]) (fun w q => by
    simp only [List.mem_cons, List.not_mem_nil, or_false] at q
    rcases q with rfl | rfl | rfl | rfl | rfl
    · exact w1
    · exact w2
    · exact w3
    · exact w4
    · exact w5)
  have hrm : 8 + (M'.2.2.1 + 11) + 64 * d1 ≤ R.locals := by omega
  have hcw : va_CU R s args M.1.cls Cn owner idx x M'.1 M'.2.1 M'.2.2.1 M'.2.2.2 (gk_cw M' :: gk_T) (gk_rm (d1, c1, c2)) c1 c2 n := by
    rcases hyx with hyx | hyx
    · exact va_cwU n hts hgd rfl rfl rfl hyx ho ⟨hfr, hrm⟩
    · exact va_cwA n hts hgd rfl rfl rfl (by rw [hyx]; exact hSw.2.2.2.2.2.2.2) ho ⟨hfr, hrm⟩
  refine gk_back C Rt hS hl hc' ht' hz hsz (va_runU (As := As.map (gk_v E)) (rest := rest.map (gk_v E)) (b := gk_a E r) ⟨C.1, C.2.1, C.2.2.1, C.2.2.2.2.2.2.2.1, hts⟩ (gk_met hok.2.1 hm k) hcw ⟨gk_blind E h _, ?_, gk_pre (av := (Value.ref r :: As).map (gk_v E)) hSw hS hW hsz⟩ rfl ?_ hl.1 ?_ ?_ hd ⟨?_, ?_⟩) T hT X
  · rw [ha]
    exact va_recv hSw.1 hW.1 hcl (gk_cell hr)
  · rw [List.length_map]; exact hn
  · show (As.reverse ++ .ref r :: rest).map (gk_v E) = _
    rw [List.map_append, List.map_reverse]
    rfl
  · refine lv_room ?_
    rw [gk_cats]
    exact h8
  · omega
  · omega
end GKC
end
section
theorem p1k {w : Cond} (h : w ∈ k2_sels lw_privs_1) : w ∈ lw_tbl := by
  obtain ⟨q, h2, rfl⟩ := List.mem_map.mp h
  exact List.mem_append_left _ (List.mem_map.mpr ⟨q, List.mem_append_left _ h2, rfl⟩)
theorem p2k {w : Cond} (h : w ∈ k2_sels lw_privs_2) : w ∈ lw_tbl := by
  obtain ⟨q, h2, rfl⟩ := List.mem_map.mp h
  exact List.mem_append_left _ (List.mem_map.mpr ⟨q, List.mem_append_right _ (List.mem_append_left _ h2), rfl⟩)
theorem p3k {w : Cond} (h : w ∈ k2_sels lw_privs_3) : w ∈ lw_tbl := by
  obtain ⟨q, h2, rfl⟩ := List.mem_map.mp h
  exact List.mem_append_left _ (List.mem_map.mpr ⟨q, List.mem_append_right _ (List.mem_append_right _ (List.mem_append_left _ h2)), rfl⟩)
theorem p4k {w : Cond} (h : w ∈ k2_sels lw_privs_4) : w ∈ lw_tbl := by
  obtain ⟨q, h2, rfl⟩ := List.mem_map.mp h
  exact List.mem_append_left _ (List.mem_map.mpr ⟨q, List.mem_append_right _ (List.mem_append_right _ (List.mem_append_right _ (List.mem_append_left _ h2))), rfl⟩)
theorem p5k {w : Cond} (h : w ∈ k2_sels lw_privs_5) : w ∈ lw_tbl := by
  obtain ⟨q, h2, rfl⟩ := List.mem_map.mp h
  exact List.mem_append_left _ (List.mem_map.mpr ⟨q, List.mem_append_right _ (List.mem_append_right _ (List.mem_append_right _ (List.mem_append_right _ (List.mem_append_left _ h2)))), rfl⟩)
theorem p6k {w : Cond} (h : w ∈ k2_sels lw_privs_6) : w ∈ lw_tbl := by
  obtain ⟨q, h2, rfl⟩ := List.mem_map.mp h
  exact List.mem_append_left _ (List.mem_map.mpr ⟨q, List.mem_append_right _ (List.mem_append_right _ (List.mem_append_right _ (List.mem_append_right _ (List.mem_append_right _ (h2))))), rfl⟩)
theorem t1k {w : Cond} (h : w ∈ tables_1_1) : w ∈ lw_tbl := List.mem_append_right _ (List.mem_append_left _ h)
theorem t2k {w : Cond} (h : w ∈ tables_1_2) : w ∈ lw_tbl := List.mem_append_right _ (List.mem_append_right _ (List.mem_append_left _ h))
theorem t3k {w : Cond} (h : w ∈ tables_1_3) : w ∈ lw_tbl := List.mem_append_right _ (List.mem_append_right _ (List.mem_append_right _ (List.mem_append_left _ h)))
theorem t4k {w : Cond} (h : w ∈ tables_1_4) : w ∈ lw_tbl := List.mem_append_right _ (List.mem_append_right _ (List.mem_append_right _ (List.mem_append_right _ (List.mem_append_left _ h))))
theorem t5k {w : Cond} (h : w ∈ tables_1_5) : w ∈ lw_tbl := List.mem_append_right _ (List.mem_append_right _ (List.mem_append_right _ (List.mem_append_right _ (List.mem_append_right _ (List.mem_append_left _ h)))))
theorem t6k {w : Cond} (h : w ∈ tables_1_6) : w ∈ lw_tbl := List.mem_append_right _ (List.mem_append_right _ (List.mem_append_right _ (List.mem_append_right _ (List.mem_append_right _ (List.mem_append_right _ (List.mem_append_left _ h))))))
theorem t7k {w : Cond} (h : w ∈ tables_1_7) : w ∈ lw_tbl := List.mem_append_right _ (List.mem_append_right _ (List.mem_append_right _ (List.mem_append_right _ (List.mem_append_right _ (List.mem_append_right _ (List.mem_append_right _ (h)))))))
theorem gclX0 : gk_Cl 0 RX0 TX0 6 := ⟨rfl, fun w hw => gk_in (inX0 w hw) (List.all_eq_true.mp (by decide +kernel : (wsX00).all goodWord = true) w hw), ⟨tyX0, tyX0_ok⟩, nmX0⟩
theorem gclX1 : gk_Cl 1 RX1 TX1 5 := ⟨rfl, fun w hw => gk_in (inX1 w hw) (List.all_eq_true.mp (by decide +kernel : (wsX10).all goodWord = true) w hw), ⟨tyX1, tyX1_ok⟩, nmX1⟩
theorem gclX2 : gk_Cl 2 RX2 TX2 5 := ⟨rfl, fun w hw => gk_in (inX2 w hw) (List.all_eq_true.mp (by decide +kernel : (wsX20).all goodWord = true) w hw), ⟨tyX2, tyX2_ok⟩, nmX2⟩
theorem gclX3 : gk_Cl 3 RX3 TX3 2 := ⟨rfl, fun w hw => gk_in (inX3 w hw) (List.all_eq_true.mp (by decide +kernel : (wsX30).all goodWord = true) w hw), ⟨tyX3, tyX3_ok⟩, nmX3⟩
theorem gclX4 : gk_Cl 4 RX4 TX4 7 := ⟨rfl, fun w hw => gk_in (inX4 w hw) (List.all_eq_true.mp (by decide +kernel : (wsX40).all goodWord = true) w hw), ⟨tyX4, tyX4_ok⟩, nmX4⟩
theorem gclX5 : gk_Cl 5 RX5 TX5 8 := ⟨rfl, fun w hw => gk_in (inX5 w hw) (List.all_eq_true.mp (by decide +kernel : (wsX50).all goodWord = true) w hw), ⟨tyX5, tyX5_ok⟩, nmX5⟩
theorem gclX6 : gk_Cl 6 RX6 TX6 6 := ⟨rfl, fun w hw => gk_in (inX6 w hw) (List.all_eq_true.mp (by decide +kernel : (wsX60).all goodWord = true) w hw), ⟨tyX6, tyX6_ok⟩, nmX6⟩
theorem gclX7 : gk_Cl 7 RX7 TX7 4 := ⟨rfl, fun w hw => gk_in (inX7 w hw) (List.all_eq_true.mp (by decide +kernel : (wsX70).all goodWord = true) w hw), ⟨tyX7, tyX7_ok⟩, nmX7⟩
theorem gclX8 : gk_Cl 8 RX8 TX8 3 := ⟨rfl, fun w hw => gk_in (inX8 w hw) (List.all_eq_true.mp (by decide +kernel : (wsX80).all goodWord = true) w hw), ⟨tyX8, tyX8_ok⟩, nmX8⟩
theorem gclX9 : gk_Cl 9 RX9 TX9 2 := ⟨rfl, fun w hw => gk_in (inX9 w hw) (List.all_eq_true.mp (by decide +kernel : (wsX90).all goodWord = true) w hw), ⟨tyX9, tyX9_ok⟩, nmX9⟩
theorem gclX11 : gk_Cl 10 RX11 TX11 12 := ⟨rfl, fun w hw => gk_in (inX11 w hw) (List.all_eq_true.mp (by decide +kernel : (wsX110).all goodWord = true) w hw), ⟨tyX11, tyX11_ok⟩, nmX11⟩
theorem gclX12 : gk_Cl 11 RX12 TX12 34 := ⟨rfl, fun w hw => gk_in (inX12 w hw) (List.all_eq_true.mp (by decide +kernel : (wsX120).all goodWord = true) w hw), ⟨tyX12, tyX12_ok⟩, nmX12⟩
abbrev mJ0_charAt_5068e : gk_M := (yJ0_charAt_5068e, cJ0_charAt_5068e, 2, (some .char))
theorem kw_1011 : Cond.code yJ0_charAt_5068e prog_18_method_56_code 2 (some .char) ∈ gk_T := gk_in (t4k (List.mem_of_getElem? (i := 208) rfl)) rfl
theorem okJ0_charAt_5068e : gk_Ok mJ0_charAt_5068e 1 := ⟨⟨by decide +kernel, by decide +kernel, by decide +kernel⟩, by decide +kernel, by decide, kw_1011⟩
abbrev mJ0_checkIndex_df160 : gk_M := (yJ0_checkIndex_df160, cJ0_checkIndex_df160, 2, none)
theorem kw_1021 : Cond.code yJ0_checkIndex_df160 prog_18_method_155_code 2 none ∈ gk_T := gk_in (t4k (List.mem_of_getElem? (i := 218) rfl)) rfl
theorem okJ0_checkIndex_df160 : gk_Ok mJ0_checkIndex_df160 2 := ⟨⟨by decide +kernel, by decide +kernel, by decide +kernel⟩, by decide +kernel, by decide, kw_1021⟩
abbrev mJ0_coder_7d493 : gk_M := (yJ0_coder_7d493, cJ0_coder_7d493, 1, (some .byte))
theorem kw_1005 : Cond.code yJ0_coder_7d493 prog_18_method_152_code 1 (some .byte) ∈ gk_T := gk_in (t4k (List.mem_of_getElem? (i := 202) rfl)) rfl
theorem okJ0_coder_7d493 : gk_Ok mJ0_coder_7d493 0 := ⟨⟨by decide +kernel, by decide +kernel, by decide +kernel⟩, by decide +kernel, by decide, kw_1005⟩
abbrev mJ0_isLatin1_aae02 : gk_M := (yJ0_isLatin1_aae02, cJ0_isLatin1_aae02, 1, (some .boolean))
theorem kw_1015 : Cond.code yJ0_isLatin1_aae02 prog_18_method_154_code 1 (some .boolean) ∈ gk_T := gk_in (t4k (List.mem_of_getElem? (i := 212) rfl)) rfl
theorem okJ0_isLatin1_aae02 : gk_Ok mJ0_isLatin1_aae02 0 := ⟨⟨by decide +kernel, by decide +kernel, by decide +kernel⟩, by decide +kernel, by decide, kw_1015⟩
abbrev mJ0_length_8abf5 : gk_M := (yJ0_length_8abf5, cJ0_length_8abf5, 1, (some .int))
theorem kw_1001 : Cond.code yJ0_length_8abf5 prog_18_method_54_code 1 (some .int) ∈ gk_T := gk_in (t4k (List.mem_of_getElem? (i := 198) rfl)) rfl
theorem okJ0_length_8abf5 : gk_Ok mJ0_length_8abf5 0 := ⟨⟨by decide +kernel, by decide +kernel, by decide +kernel⟩, by decide +kernel, by decide, kw_1001⟩
abbrev mJ13_bitCount_95d88 : gk_M := (yJ13_bitCount_95d88, cJ13_bitCount_95d88, 2, (some .int))
theorem kw_495 : Cond.code yJ13_bitCount_95d88 prog_16_method_50_code 2 (some .int) ∈ gk_T := gk_in (t2k (List.mem_of_getElem? (i := 172) rfl)) rfl
theorem okJ13_bitCount_95d88 : gk_Ok mJ13_bitCount_95d88 1 := ⟨⟨by decide +kernel, by decide +kernel, by decide +kernel⟩, by decide +kernel, by decide, kw_495⟩
abbrev mJ1_charAt_3b067 : gk_M := (yJ1_charAt_3b067, cJ1_charAt_3b067, 2, (some .char))
theorem kw_1018 : Cond.code yJ1_charAt_3b067 prog_19_method_2_code 2 (some .char) ∈ gk_T := gk_in (t4k (List.mem_of_getElem? (i := 215) rfl)) rfl
theorem okJ1_charAt_3b067 : gk_Ok mJ1_charAt_3b067 2 := ⟨⟨by decide +kernel, by decide +kernel, by decide +kernel⟩, by decide +kernel, by decide, kw_1018⟩
abbrev mJ2_charAt_3b067 : gk_M := (yJ2_charAt_3b067, cJ2_charAt_3b067, 2, (some .char))
theorem kw_1029 : Cond.code yJ2_charAt_3b067 prog_20_method_83_code 2 (some .char) ∈ gk_T := gk_in (t4k (List.mem_of_getElem? (i := 226) rfl)) rfl
theorem okJ2_charAt_3b067 : gk_Ok mJ2_charAt_3b067 2 := ⟨⟨by decide +kernel, by decide +kernel, by decide +kernel⟩, by decide +kernel, by decide, kw_1029⟩
abbrev mJ2_checkIndex_2214a : gk_M := (yJ2_checkIndex_2214a, cJ2_checkIndex_2214a, 2, none)
theorem kw_1032 : Cond.code yJ2_checkIndex_2214a prog_20_method_91_code 2 none ∈ gk_T := gk_in (t4k (List.mem_of_getElem? (i := 229) rfl)) rfl
theorem okJ2_checkIndex_2214a : gk_Ok mJ2_checkIndex_2214a 2 := ⟨⟨by decide +kernel, by decide +kernel, by decide +kernel⟩, by decide +kernel, by decide, kw_1032⟩
abbrev mJ2_getChar_3b067 : gk_M := (yJ2_getChar_3b067, cJ2_getChar_3b067, 2, (some .char))
theorem kw_1039 : Cond.code yJ2_getChar_3b067 prog_20_method_5_code 2 (some .char) ∈ gk_T := gk_in (t4k (List.mem_of_getElem? (i := 236) rfl)) rfl
theorem okJ2_getChar_3b067 : gk_Ok mJ2_getChar_3b067 2 := ⟨⟨by decide +kernel, by decide +kernel, by decide +kernel⟩, by decide +kernel, by decide, kw_1039⟩
abbrev mJ2_length_9d52b : gk_M := (yJ2_length_9d52b, cJ2_length_9d52b, 1, (some .int))
theorem kw_1035 : Cond.code yJ2_length_9d52b prog_20_method_6_code 1 (some .int) ∈ gk_T := gk_in (t4k (List.mem_of_getElem? (i := 232) rfl)) rfl
theorem okJ2_length_9d52b : gk_Ok mJ2_length_9d52b 1 := ⟨⟨by decide +kernel, by decide +kernel, by decide +kernel⟩, by decide +kernel, by decide, kw_1035⟩
abbrev mJ3_checkIndex_8e157 : gk_M := (yJ3_checkIndex_8e157, cJ3_checkIndex_8e157, 3, (some .int))
theorem kw_1026 : Cond.code yJ3_checkIndex_8e157 prog_21_method_11_code 3 (some .int) ∈ gk_T := gk_in (t4k (List.mem_of_getElem? (i := 223) rfl)) rfl
theorem okJ3_checkIndex_8e157 : gk_Ok mJ3_checkIndex_8e157 3 := ⟨⟨by decide +kernel, by decide +kernel, by decide +kernel⟩, by decide +kernel, by decide, kw_1026⟩
abbrev mJ6_bitCount_0f7a4 : gk_M := (yJ6_bitCount_0f7a4, cJ6_bitCount_0f7a4, 1, (some .int))
theorem kw_662 : Cond.code yJ6_bitCount_0f7a4 prog_15_method_49_code 1 (some .int) ∈ gk_T := gk_in (t3k (List.mem_of_getElem? (i := 99) rfl)) rfl
theorem okJ6_bitCount_0f7a4 : gk_Ok mJ6_bitCount_0f7a4 1 := ⟨⟨by decide +kernel, by decide +kernel, by decide +kernel⟩, by decide +kernel, by decide, kw_662⟩
abbrev mX0_append : gk_M := (yX0_append, cX0_append, 5, none)
theorem kw_861 : Cond.code yX0_append prog_2_method_3_code 5 none ∈ gk_T := gk_in (t4k (List.mem_of_getElem? (i := 58) rfl)) rfl
theorem okX0_append : gk_Ok mX0_append 2 := ⟨⟨by decide +kernel, by decide +kernel, by decide +kernel⟩, by decide +kernel, by decide, kw_861⟩
abbrev mX0_dropClosed : gk_M := (yX0_dropClosed, cX0_dropClosed, 3, none)
theorem kw_887 : Cond.code yX0_dropClosed prog_2_method_5_code 3 none ∈ gk_T := gk_in (t4k (List.mem_of_getElem? (i := 84) rfl)) rfl
theorem okX0_dropClosed : gk_Ok mX0_dropClosed 0 := ⟨⟨by decide +kernel, by decide +kernel, by decide +kernel⟩, by decide +kernel, by decide, kw_887⟩
abbrev mX0_extend : gk_M := (yX0_extend, cX0_extend, 4, none)
theorem kw_882 : Cond.code yX0_extend prog_2_method_4_code 4 none ∈ gk_T := gk_in (t4k (List.mem_of_getElem? (i := 79) rfl)) rfl
theorem okX0_extend : gk_Ok mX0_extend 1 := ⟨⟨by decide +kernel, by decide +kernel, by decide +kernel⟩, by decide +kernel, by decide, kw_882⟩
abbrev mX0_init : gk_M := (yX0_init, cX0_init, 2, none)
theorem kw_321 : Cond.code yX0_init prog_2_method_1_code 2 none ∈ gk_T := gk_in (t1k (List.mem_of_getElem? (i := 238) rfl)) rfl
theorem okX0_init : gk_Ok mX0_init 1 := ⟨⟨by decide +kernel, by decide +kernel, by decide +kernel⟩, by decide +kernel, by decide, kw_321⟩
abbrev mX0_lay : gk_M := (yX0_lay, cX0_lay, 4, none)
theorem kw_856 : Cond.code yX0_lay prog_2_method_2_code 4 none ∈ gk_T := gk_in (t4k (List.mem_of_getElem? (i := 53) rfl)) rfl
theorem okX0_lay : gk_Ok mX0_lay 1 := ⟨⟨by decide +kernel, by decide +kernel, by decide +kernel⟩, by decide +kernel, by decide, kw_856⟩
abbrev mX0_rotate : gk_M := (yX0_rotate, cX0_rotate, 3, none)
theorem kw_896 : Cond.code yX0_rotate prog_2_method_6_code 3 none ∈ gk_T := gk_in (t4k (List.mem_of_getElem? (i := 93) rfl)) rfl
theorem okX0_rotate : gk_Ok mX0_rotate 0 := ⟨⟨by decide +kernel, by decide +kernel, by decide +kernel⟩, by decide +kernel, by decide, kw_896⟩
abbrev mX10_digits : gk_M := (yX10_digits, cX10_digits, 4, (some .int))
theorem kw_760 : Cond.code yX10_digits prog_12_method_9_code 4 (some .int) ∈ gk_T := gk_in (t3k (List.mem_of_getElem? (i := 197) rfl)) rfl
theorem okX10_digits : gk_Ok mX10_digits 1 := ⟨⟨by decide +kernel, by decide +kernel, by decide +kernel⟩, by decide +kernel, by decide, kw_760⟩
abbrev mX10_first : gk_M := (yX10_first, cX10_first, 3, (some .boolean))
theorem kw_706 : Cond.code yX10_first prog_12_method_5_code 3 (some .boolean) ∈ gk_T := gk_in (t3k (List.mem_of_getElem? (i := 143) rfl)) rfl
theorem okX10_first : gk_Ok mX10_first 0 := ⟨⟨by decide +kernel, by decide +kernel, by decide +kernel⟩, by decide +kernel, by decide, kw_706⟩
abbrev mX10_hold : gk_M := (yX10_hold, cX10_hold, 3, none)
theorem kw_700 : Cond.code yX10_hold prog_12_method_4_code 3 none ∈ gk_T := gk_in (t3k (List.mem_of_getElem? (i := 137) rfl)) rfl
theorem okX10_hold : gk_Ok mX10_hold 2 := ⟨⟨by decide +kernel, by decide +kernel, by decide +kernel⟩, by decide +kernel, by decide, kw_700⟩
abbrev mX10_init : gk_M := (yX10_init, cX10_init, 1, none)
theorem kw_208 : Cond.code yX10_init prog_12_method_1_code 1 none ∈ gk_T := gk_in (t1k (List.mem_of_getElem? (i := 125) rfl)) rfl
theorem okX10_init : gk_Ok mX10_init 0 := ⟨⟨by decide +kernel, by decide +kernel, by decide +kernel⟩, by decide +kernel, by decide, kw_208⟩
abbrev mX10_next : gk_M := (yX10_next, cX10_next, 2, (some .boolean))
theorem kw_766 : Cond.code yX10_next prog_12_method_6_code 2 (some .boolean) ∈ gk_T := gk_in (t3k (List.mem_of_getElem? (i := 203) rfl)) rfl
theorem okX10_next : gk_Ok mX10_next 0 := ⟨⟨by decide +kernel, by decide +kernel, by decide +kernel⟩, by decide +kernel, by decide, kw_766⟩
abbrev mX10_settle : gk_M := (yX10_settle, cX10_settle, 5, (some .boolean))
theorem kw_710 : Cond.code yX10_settle prog_12_method_7_code 5 (some .boolean) ∈ gk_T := gk_in (t3k (List.mem_of_getElem? (i := 147) rfl)) rfl
theorem okX10_settle : gk_Ok mX10_settle 1 := ⟨⟨by decide +kernel, by decide +kernel, by decide +kernel⟩, by decide +kernel, by decide, kw_710⟩
abbrev mX10_span : gk_M := (yX10_span, cX10_span, 5, none)
theorem kw_694 : Cond.code yX10_span prog_12_method_3_code 5 none ∈ gk_T := gk_in (t3k (List.mem_of_getElem? (i := 131) rfl)) rfl
theorem okX10_span : gk_Ok mX10_span 3 := ⟨⟨by decide +kernel, by decide +kernel, by decide +kernel⟩, by decide +kernel, by decide, kw_694⟩
abbrev mX10_turn : gk_M := (yX10_turn, cX10_turn, 4, (some .int))
theorem kw_734 : Cond.code yX10_turn prog_12_method_8_code 4 (some .int) ∈ gk_T := gk_in (t3k (List.mem_of_getElem? (i := 171) rfl)) rfl
theorem okX10_turn : gk_Ok mX10_turn 1 := ⟨⟨by decide +kernel, by decide +kernel, by decide +kernel⟩, by decide +kernel, by decide, kw_734⟩
abbrev mX11_answer : gk_M := (yX11_answer, cX11_answer, 2, (some .int))
theorem kw_871 : Cond.code yX11_answer prog_1_method_29_code 2 (some .int) ∈ gk_T := gk_in (t4k (List.mem_of_getElem? (i := 68) rfl)) rfl
theorem okX11_answer : gk_Ok mX11_answer 1 := ⟨⟨by decide +kernel, by decide +kernel, by decide +kernel⟩, by decide +kernel, by decide, kw_871⟩
abbrev mX11_ask : gk_M := (yX11_ask, cX11_ask, 2, (some .int))
theorem kw_867 : Cond.code yX11_ask prog_1_method_28_code 2 (some .int) ∈ gk_T := gk_in (t4k (List.mem_of_getElem? (i := 64) rfl)) rfl
theorem okX11_ask : gk_Ok mX11_ask 1 := ⟨⟨by decide +kernel, by decide +kernel, by decide +kernel⟩, by decide +kernel, by decide, kw_867⟩
abbrev mX11_atoms : gk_M := (yX11_atoms, cX11_atoms, 3, (some .int))
theorem kw_430 : Cond.code yX11_atoms prog_1_method_2_code 3 (some .int) ∈ gk_T := gk_in (t2k (List.mem_of_getElem? (i := 107) rfl)) rfl
theorem okX11_atoms : gk_Ok mX11_atoms 1 := ⟨⟨by decide +kernel, by decide +kernel, by decide +kernel⟩, by decide +kernel, by decide, kw_430⟩
abbrev mX11_begin : gk_M := (yX11_begin, cX11_begin, 2, (some .int))
theorem kw_852 : Cond.code yX11_begin prog_1_method_27_code 2 (some .int) ∈ gk_T := gk_in (t4k (List.mem_of_getElem? (i := 49) rfl)) rfl
theorem okX11_begin : gk_Ok mX11_begin 1 := ⟨⟨by decide +kernel, by decide +kernel, by decide +kernel⟩, by decide +kernel, by decide, kw_852⟩
abbrev mX11_board : gk_M := (yX11_board, cX11_board, 2, (some .int))
theorem kw_900 : Cond.code yX11_board prog_1_method_31_code 2 (some .int) ∈ gk_T := gk_in (t4k (List.mem_of_getElem? (i := 97) rfl)) rfl
theorem okX11_board : gk_Ok mX11_board 1 := ⟨⟨by decide +kernel, by decide +kernel, by decide +kernel⟩, by decide +kernel, by decide, kw_900⟩
abbrev mX11_broken : gk_M := (yX11_broken, cX11_broken, 2, (some .int))
theorem kw_560 : Cond.code yX11_broken prog_1_method_12_code 2 (some .int) ∈ gk_T := gk_in (t2k (List.mem_of_getElem? (i := 237) rfl)) rfl
theorem okX11_broken : gk_Ok mX11_broken 1 := ⟨⟨by decide +kernel, by decide +kernel, by decide +kernel⟩, by decide +kernel, by decide, kw_560⟩
abbrev mX11_compose : gk_M := (yX11_compose, cX11_compose, 3, (some .int))
theorem kw_510 : Cond.code yX11_compose prog_1_method_7_code 3 (some .int) ∈ gk_T := gk_in (t2k (List.mem_of_getElem? (i := 187) rfl)) rfl
theorem okX11_compose : gk_Ok mX11_compose 2 := ⟨⟨by decide +kernel, by decide +kernel, by decide +kernel⟩, by decide +kernel, by decide, kw_510⟩
abbrev mX11_converse : gk_M := (yX11_converse, cX11_converse, 2, (some .int))
theorem kw_463 : Cond.code yX11_converse prog_1_method_4_code 2 (some .int) ∈ gk_T := gk_in (t2k (List.mem_of_getElem? (i := 140) rfl)) rfl
theorem okX11_converse : gk_Ok mX11_converse 1 := ⟨⟨by decide +kernel, by decide +kernel, by decide +kernel⟩, by decide +kernel, by decide, kw_463⟩
abbrev mX11_copy : gk_M := (yX11_copy, cX11_copy, 3, (some .int))
theorem kw_633 : Cond.code yX11_copy prog_1_method_18_code 3 (some .int) ∈ gk_T := gk_in (t3k (List.mem_of_getElem? (i := 70) rfl)) rfl
theorem okX11_copy : gk_Ok mX11_copy 2 := ⟨⟨by decide +kernel, by decide +kernel, by decide +kernel⟩, by decide +kernel, by decide, kw_633⟩
abbrev mX11_count : gk_M := (yX11_count, cX11_count, 2, (some .int))
theorem kw_1124 : Cond.code yX11_count prog_1_method_44_code 2 (some .int) ∈ gk_T := gk_in (t5k (List.mem_of_getElem? (i := 81) rfl)) rfl
theorem okX11_count : gk_Ok mX11_count 1 := ⟨⟨by decide +kernel, by decide +kernel, by decide +kernel⟩, by decide +kernel, by decide, kw_1124⟩
abbrev mX11_cycles : gk_M := (yX11_cycles, cX11_cycles, 2, (some .int))
theorem kw_576 : Cond.code yX11_cycles prog_1_method_13_code 2 (some .int) ∈ gk_T := gk_in (t3k (List.mem_of_getElem? (i := 13) rfl)) rfl
theorem okX11_cycles : gk_Ok mX11_cycles 1 := ⟨⟨by decide +kernel, by decide +kernel, by decide +kernel⟩, by decide +kernel, by decide, kw_576⟩
abbrev mX11_drop : gk_M := (yX11_drop, cX11_drop, 3, (some .int))
theorem kw_612 : Cond.code yX11_drop prog_1_method_15_code 3 (some .int) ∈ gk_T := gk_in (t3k (List.mem_of_getElem? (i := 49) rfl)) rfl
theorem okX11_drop : gk_Ok mX11_drop 1 := ⟨⟨by decide +kernel, by decide +kernel, by decide +kernel⟩, by decide +kernel, by decide, kw_612⟩
abbrev mX11_equivalence : gk_M := (yX11_equivalence, cX11_equivalence, 4, (some .int))
theorem kw_543 : Cond.code yX11_equivalence prog_1_method_10_code 4 (some .int) ∈ gk_T := gk_in (t2k (List.mem_of_getElem? (i := 220) rfl)) rfl
theorem okX11_equivalence : gk_Ok mX11_equivalence 1 := ⟨⟨by decide +kernel, by decide +kernel, by decide +kernel⟩, by decide +kernel, by decide, kw_543⟩
abbrev mX11_feed : gk_M := (yX11_feed, cX11_feed, 2, (some .int))
theorem kw_968 : Cond.code yX11_feed prog_1_method_38_code 2 (some .int) ∈ gk_T := gk_in (t4k (List.mem_of_getElem? (i := 165) rfl)) rfl
theorem okX11_feed : gk_Ok mX11_feed 1 := ⟨⟨by decide +kernel, by decide +kernel, by decide +kernel⟩, by decide +kernel, by decide, kw_968⟩
abbrev mX11_fills : gk_M := (yX11_fills, cX11_fills, 5, (some .int))
theorem kw_675 : Cond.code yX11_fills prog_1_method_21_code 5 (some .int) ∈ gk_T := gk_in (t3k (List.mem_of_getElem? (i := 112) rfl)) rfl
theorem okX11_fills : gk_Ok mX11_fills 3 := ⟨⟨by decide +kernel, by decide +kernel, by decide +kernel⟩, by decide +kernel, by decide, kw_675⟩
abbrev mX11_forbid : gk_M := (yX11_forbid, cX11_forbid, 3, (some .int))
theorem kw_785 : Cond.code yX11_forbid prog_1_method_23_code 3 (some .int) ∈ gk_T := gk_in (t3k (List.mem_of_getElem? (i := 222) rfl)) rfl
theorem okX11_forbid : gk_Ok mX11_forbid 1 := ⟨⟨by decide +kernel, by decide +kernel, by decide +kernel⟩, by decide +kernel, by decide, kw_785⟩
abbrev mX11_forgetNetworks : gk_M := (yX11_forgetNetworks, cX11_forgetNetworks, 1, none)
theorem kw_435 : Cond.code yX11_forgetNetworks prog_1_method_53_code 1 none ∈ gk_T := gk_in (t2k (List.mem_of_getElem? (i := 112) rfl)) rfl
theorem okX11_forgetNetworks : gk_Ok mX11_forgetNetworks 0 := ⟨⟨by decide +kernel, by decide +kernel, by decide +kernel⟩, by decide +kernel, by decide, kw_435⟩
abbrev mX11_found : gk_M := (yX11_found, cX11_found, 4, (some .int))
theorem kw_936 : Cond.code yX11_found prog_1_method_34_code 4 (some .int) ∈ gk_T := gk_in (t4k (List.mem_of_getElem? (i := 133) rfl)) rfl
theorem okX11_found : gk_Ok mX11_found 1 := ⟨⟨by decide +kernel, by decide +kernel, by decide +kernel⟩, by decide +kernel, by decide, kw_936⟩
abbrev mX11_gameRefusal : gk_M := (yX11_gameRefusal, cX11_gameRefusal, 3, (some .int))
theorem kw_793 : Cond.code yX11_gameRefusal prog_1_method_55_code 3 (some .int) ∈ gk_T := gk_in (t3k (List.mem_of_getElem? (i := 230) rfl)) rfl
theorem okX11_gameRefusal : gk_Ok mX11_gameRefusal 2 := ⟨⟨by decide +kernel, by decide +kernel, by decide +kernel⟩, by decide +kernel, by decide, kw_793⟩
abbrev mX11_gap : gk_M := (yX11_gap, cX11_gap, 3, (some .int))
theorem kw_651 : Cond.code yX11_gap prog_1_method_20_code 3 (some .int) ∈ gk_T := gk_in (t3k (List.mem_of_getElem? (i := 88) rfl)) rfl
theorem okX11_gap : gk_Ok mX11_gap 2 := ⟨⟨by decide +kernel, by decide +kernel, by decide +kernel⟩, by decide +kernel, by decide, kw_651⟩
abbrev mX11_get : gk_M := (yX11_get, cX11_get, 3, (some .long))
theorem kw_963 : Cond.code yX11_get prog_1_method_37_code 3 (some .long) ∈ gk_T := gk_in (t4k (List.mem_of_getElem? (i := 160) rfl)) rfl
theorem okX11_get : gk_Ok mX11_get 2 := ⟨⟨by decide +kernel, by decide +kernel, by decide +kernel⟩, by decide +kernel, by decide, kw_963⟩
abbrev mX11_image : gk_M := (yX11_image, cX11_image, 1, (some .int))
theorem kw_1107 : Cond.code yX11_image prog_1_method_42_code 1 (some .int) ∈ gk_T := gk_in (t5k (List.mem_of_getElem? (i := 64) rfl)) rfl
theorem okX11_image : gk_Ok mX11_image 0 := ⟨⟨by decide +kernel, by decide +kernel, by decide +kernel⟩, by decide +kernel, by decide, kw_1107⟩
abbrev mX11_init : gk_M := (yX11_init, cX11_init, 2, none)
theorem kw_108 : Cond.code yX11_init prog_1_method_1_code 2 none ∈ gk_T := gk_in (t1k (List.mem_of_getElem? (i := 25) rfl)) rfl
theorem okX11_init : gk_Ok mX11_init 0 := ⟨⟨by decide +kernel, by decide +kernel, by decide +kernel⟩, by decide +kernel, by decide, kw_108⟩
abbrev mX11_isAtom : gk_M := (yX11_isAtom, cX11_isAtom, 2, (some .boolean))
theorem kw_483 : Cond.code yX11_isAtom prog_1_method_45_code 2 (some .boolean) ∈ gk_T := gk_in (t2k (List.mem_of_getElem? (i := 160) rfl)) rfl
theorem okX11_isAtom : gk_Ok mX11_isAtom 1 := ⟨⟨by decide +kernel, by decide +kernel, by decide +kernel⟩, by decide +kernel, by decide, kw_483⟩
abbrev mX11_isAtomButZero : gk_M := (yX11_isAtomButZero, cX11_isAtomButZero, 2, (some .boolean))
theorem kw_447 : Cond.code yX11_isAtomButZero prog_1_method_46_code 2 (some .boolean) ∈ gk_T := gk_in (t2k (List.mem_of_getElem? (i := 124) rfl)) rfl
theorem okX11_isAtomButZero : gk_Ok mX11_isAtomButZero 1 := ⟨⟨by decide +kernel, by decide +kernel, by decide +kernel⟩, by decide +kernel, by decide, kw_447⟩
abbrev mX11_isIn : gk_M := (yX11_isIn, cX11_isIn, 4, (some .int))
theorem kw_502 : Cond.code yX11_isIn prog_1_method_6_code 4 (some .int) ∈ gk_T := gk_in (t2k (List.mem_of_getElem? (i := 179) rfl)) rfl
theorem okX11_isIn : gk_Ok mX11_isIn 3 := ⟨⟨by decide +kernel, by decide +kernel, by decide +kernel⟩, by decide +kernel, by decide, kw_502⟩
abbrev mX11_isList : gk_M := (yX11_isList, cX11_isList, 1, (some .boolean))
theorem kw_911 : Cond.code yX11_isList prog_1_method_50_code 1 (some .boolean) ∈ gk_T := gk_in (t4k (List.mem_of_getElem? (i := 108) rfl)) rfl
theorem okX11_isList : gk_Ok mX11_isList 1 := ⟨⟨by decide +kernel, by decide +kernel, by decide +kernel⟩, by decide +kernel, by decide, kw_911⟩
abbrev mX11_isNet : gk_M := (yX11_isNet, cX11_isNet, 1, (some .boolean))
theorem kw_596 : Cond.code yX11_isNet prog_1_method_49_code 1 (some .boolean) ∈ gk_T := gk_in (t3k (List.mem_of_getElem? (i := 33) rfl)) rfl
theorem okX11_isNet : gk_Ok mX11_isNet 1 := ⟨⟨by decide +kernel, by decide +kernel, by decide +kernel⟩, by decide +kernel, by decide, kw_596⟩
abbrev mX11_isNode : gk_M := (yX11_isNode, cX11_isNode, 3, (some .boolean))
theorem kw_620 : Cond.code yX11_isNode prog_1_method_51_code 3 (some .boolean) ∈ gk_T := gk_in (t3k (List.mem_of_getElem? (i := 57) rfl)) rfl
theorem okX11_isNode : gk_Ok mX11_isNode 2 := ⟨⟨by decide +kernel, by decide +kernel, by decide +kernel⟩, by decide +kernel, by decide, kw_620⟩
abbrev mX11_isPlayable : gk_M := (yX11_isPlayable, cX11_isPlayable, 2, (some .boolean))
theorem kw_797 : Cond.code yX11_isPlayable prog_1_method_54_code 2 (some .boolean) ∈ gk_T := gk_in (t3k (List.mem_of_getElem? (i := 234) rfl)) rfl
theorem okX11_isPlayable : gk_Ok mX11_isPlayable 1 := ⟨⟨by decide +kernel, by decide +kernel, by decide +kernel⟩, by decide +kernel, by decide, kw_797⟩
abbrev mX11_isRelation : gk_M := (yX11_isRelation, cX11_isRelation, 2, (some .boolean))
theorem kw_467 : Cond.code yX11_isRelation prog_1_method_47_code 2 (some .boolean) ∈ gk_T := gk_in (t2k (List.mem_of_getElem? (i := 144) rfl)) rfl
theorem okX11_isRelation : gk_Ok mX11_isRelation 1 := ⟨⟨by decide +kernel, by decide +kernel, by decide +kernel⟩, by decide +kernel, by decide, kw_467⟩
abbrev mX11_isSide : gk_M := (yX11_isSide, cX11_isSide, 1, (some .boolean))
theorem kw_521 : Cond.code yX11_isSide prog_1_method_48_code 1 (some .boolean) ∈ gk_T := gk_in (t2k (List.mem_of_getElem? (i := 198) rfl)) rfl
theorem okX11_isSide : gk_Ok mX11_isSide 1 := ⟨⟨by decide +kernel, by decide +kernel, by decide +kernel⟩, by decide +kernel, by decide, kw_521⟩
abbrev mX11_judge : gk_M := (yX11_judge, cX11_judge, 2, (some .int))
theorem kw_908 : Cond.code yX11_judge prog_1_method_33_code 2 (some .int) ∈ gk_T := gk_in (t4k (List.mem_of_getElem? (i := 105) rfl)) rfl
theorem okX11_judge : gk_Ok mX11_judge 1 := ⟨⟨by decide +kernel, by decide +kernel, by decide +kernel⟩, by decide +kernel, by decide, kw_908⟩
abbrev mX11_killer : gk_M := (yX11_killer, cX11_killer, 4, (some .int))
theorem kw_838 : Cond.code yX11_killer prog_1_method_25_code 4 (some .int) ∈ gk_T := gk_in (t4k (List.mem_of_getElem? (i := 35) rfl)) rfl
theorem okX11_killer : gk_Ok mX11_killer 2 := ⟨⟨by decide +kernel, by decide +kernel, by decide +kernel⟩, by decide +kernel, by decide, kw_838⟩
abbrev mX11_label : gk_M := (yX11_label, cX11_label, 4, (some .int))
theorem kw_616 : Cond.code yX11_label prog_1_method_16_code 4 (some .int) ∈ gk_T := gk_in (t3k (List.mem_of_getElem? (i := 53) rfl)) rfl
theorem okX11_label : gk_Ok mX11_label 3 := ⟨⟨by decide +kernel, by decide +kernel, by decide +kernel⟩, by decide +kernel, by decide, kw_616⟩
abbrev mX11_lasts : gk_M := (yX11_lasts, cX11_lasts, 4, (some .int))
theorem kw_848 : Cond.code yX11_lasts prog_1_method_26_code 4 (some .int) ∈ gk_T := gk_in (t4k (List.mem_of_getElem? (i := 45) rfl)) rfl
theorem okX11_lasts : gk_Ok mX11_lasts 1 := ⟨⟨by decide +kernel, by decide +kernel, by decide +kernel⟩, by decide +kernel, by decide, kw_848⟩
abbrev mX11_later : gk_M := (yX11_later, cX11_later, 1, (some .int))
theorem kw_892 : Cond.code yX11_later prog_1_method_30_code 1 (some .int) ∈ gk_T := gk_in (t4k (List.mem_of_getElem? (i := 89) rfl)) rfl
theorem okX11_later : gk_Ok mX11_later 0 := ⟨⟨by decide +kernel, by decide +kernel, by decide +kernel⟩, by decide +kernel, by decide, kw_892⟩
abbrev mX11_list : gk_M := (yX11_list, cX11_list, 4, (some .int))
theorem kw_955 : Cond.code yX11_list prog_1_method_35_code 4 (some .int) ∈ gk_T := gk_in (t4k (List.mem_of_getElem? (i := 152) rfl)) rfl
theorem okX11_list : gk_Ok mX11_list 2 := ⟨⟨by decide +kernel, by decide +kernel, by decide +kernel⟩, by decide +kernel, by decide, kw_955⟩
abbrev mX11_listsPresent : gk_M := (yX11_listsPresent, cX11_listsPresent, 3, (some .int))
theorem kw_1128 : Cond.code yX11_listsPresent prog_1_method_52_code 3 (some .int) ∈ gk_T := gk_in (t5k (List.mem_of_getElem? (i := 85) rfl)) rfl
theorem okX11_listsPresent : gk_Ok mX11_listsPresent 0 := ⟨⟨by decide +kernel, by decide +kernel, by decide +kernel⟩, by decide +kernel, by decide, kw_1128⟩
abbrev mX11_node : gk_M := (yX11_node, cX11_node, 4, (some .int))
theorem kw_593 : Cond.code yX11_node prog_1_method_14_code 4 (some .int) ∈ gk_T := gk_in (t3k (List.mem_of_getElem? (i := 30) rfl)) rfl
theorem okX11_node : gk_Ok mX11_node 2 := ⟨⟨by decide +kernel, by decide +kernel, by decide +kernel⟩, by decide +kernel, by decide, kw_593⟩
abbrev mX11_occurs : gk_M := (yX11_occurs, cX11_occurs, 4, (some .int))
theorem kw_770 : Cond.code yX11_occurs prog_1_method_22_code 4 (some .int) ∈ gk_T := gk_in (t3k (List.mem_of_getElem? (i := 207) rfl)) rfl
theorem okX11_occurs : gk_Ok mX11_occurs 3 := ⟨⟨by decide +kernel, by decide +kernel, by decide +kernel⟩, by decide +kernel, by decide, kw_770⟩
abbrev mX11_over : gk_M := (yX11_over, cX11_over, 4, (some .int))
theorem kw_518 : Cond.code yX11_over prog_1_method_8_code 4 (some .int) ∈ gk_T := gk_in (t2k (List.mem_of_getElem? (i := 195) rfl)) rfl
theorem okX11_over : gk_Ok mX11_over 3 := ⟨⟨by decide +kernel, by decide +kernel, by decide +kernel⟩, by decide +kernel, by decide, kw_518⟩
abbrev mX11_pair : gk_M := (yX11_pair, cX11_pair, 3, (some .int))
theorem kw_443 : Cond.code yX11_pair prog_1_method_3_code 3 (some .int) ∈ gk_T := gk_in (t2k (List.mem_of_getElem? (i := 120) rfl)) rfl
theorem okX11_pair : gk_Ok mX11_pair 2 := ⟨⟨by decide +kernel, by decide +kernel, by decide +kernel⟩, by decide +kernel, by decide, kw_443⟩
abbrev mX11_perform : gk_M := (yX11_perform, cX11_perform, 6, (some .int))
theorem kw_1064 : Cond.code yX11_perform prog_1_method_56_code 6 (some .int) ∈ gk_T := gk_in (t5k (List.mem_of_getElem? (i := 21) rfl)) rfl
theorem okX11_perform : gk_Ok mX11_perform 0 := ⟨⟨by decide +kernel, by decide +kernel, by decide +kernel⟩, by decide +kernel, by decide, kw_1064⟩
abbrev mX11_power : gk_M := (yX11_power, cX11_power, 3, (some .int))
theorem kw_534 : Cond.code yX11_power prog_1_method_9_code 3 (some .int) ∈ gk_T := gk_in (t2k (List.mem_of_getElem? (i := 211) rfl)) rfl
theorem okX11_power : gk_Ok mX11_power 2 := ⟨⟨by decide +kernel, by decide +kernel, by decide +kernel⟩, by decide +kernel, by decide, kw_534⟩
abbrev mX11_put : gk_M := (yX11_put, cX11_put, 5, (some .int))
theorem kw_959 : Cond.code yX11_put prog_1_method_36_code 5 (some .int) ∈ gk_T := gk_in (t4k (List.mem_of_getElem? (i := 156) rfl)) rfl
theorem okX11_put : gk_Ok mX11_put 3 := ⟨⟨by decide +kernel, by decide +kernel, by decide +kernel⟩, by decide +kernel, by decide, kw_959⟩
abbrev mX11_read : gk_M := (yX11_read, cX11_read, 3, (some .int))
theorem kw_980 : Cond.code yX11_read prog_1_method_40_code 3 (some .int) ∈ gk_T := gk_in (t4k (List.mem_of_getElem? (i := 177) rfl)) rfl
theorem okX11_read : gk_Ok mX11_read 0 := ⟨⟨by decide +kernel, by decide +kernel, by decide +kernel⟩, by decide +kernel, by decide, kw_980⟩
abbrev mX11_relabel : gk_M := (yX11_relabel, cX11_relabel, 6, (some .int))
theorem kw_628 : Cond.code yX11_relabel prog_1_method_17_code 6 (some .int) ∈ gk_T := gk_in (t3k (List.mem_of_getElem? (i := 65) rfl)) rfl
theorem okX11_relabel : gk_Ok mX11_relabel 4 := ⟨⟨by decide +kernel, by decide +kernel, by decide +kernel⟩, by decide +kernel, by decide, kw_628⟩
abbrev mX11_solved : gk_M := (yX11_solved, cX11_solved, 5, (some .int))
theorem kw_552 : Cond.code yX11_solved prog_1_method_11_code 5 (some .int) ∈ gk_T := gk_in (t2k (List.mem_of_getElem? (i := 229) rfl)) rfl
theorem okX11_solved : gk_Ok mX11_solved 4 := ⟨⟨by decide +kernel, by decide +kernel, by decide +kernel⟩, by decide +kernel, by decide, kw_552⟩
abbrev mX11_sound : gk_M := (yX11_sound, cX11_sound, 2, (some .int))
theorem kw_641 : Cond.code yX11_sound prog_1_method_19_code 2 (some .int) ∈ gk_T := gk_in (t3k (List.mem_of_getElem? (i := 78) rfl)) rfl
theorem okX11_sound : gk_Ok mX11_sound 1 := ⟨⟨by decide +kernel, by decide +kernel, by decide +kernel⟩, by decide +kernel, by decide, kw_641⟩
abbrev mX11_spelled : gk_M := (yX11_spelled, cX11_spelled, 2, (some .int))
theorem kw_1082 : Cond.code yX11_spelled prog_1_method_41_code 2 (some .int) ∈ gk_T := gk_in (t5k (List.mem_of_getElem? (i := 39) rfl)) rfl
theorem okX11_spelled : gk_Ok mX11_spelled 1 := ⟨⟨by decide +kernel, by decide +kernel, by decide +kernel⟩, by decide +kernel, by decide, kw_1082⟩
abbrev mX11_statement : gk_M := (yX11_statement, cX11_statement, 6, (some .int))
theorem kw_1070 : Cond.code yX11_statement prog_1_method_57_code 6 (some .int) ∈ gk_T := gk_in (t5k (List.mem_of_getElem? (i := 27) rfl)) rfl
theorem okX11_statement : gk_Ok mX11_statement 2 := ⟨⟨by decide +kernel, by decide +kernel, by decide +kernel⟩, by decide +kernel, by decide, kw_1070⟩
abbrev mX11_take : gk_M := (yX11_take, cX11_take, 2, (some .int))
theorem kw_904 : Cond.code yX11_take prog_1_method_32_code 2 (some .int) ∈ gk_T := gk_in (t4k (List.mem_of_getElem? (i := 101) rfl)) rfl
theorem okX11_take : gk_Ok mX11_take 1 := ⟨⟨by decide +kernel, by decide +kernel, by decide +kernel⟩, by decide +kernel, by decide, kw_904⟩
abbrev mX11_triangle : gk_M := (yX11_triangle, cX11_triangle, 5, (some .int))
theorem kw_479 : Cond.code yX11_triangle prog_1_method_5_code 5 (some .int) ∈ gk_T := gk_in (t2k (List.mem_of_getElem? (i := 156) rfl)) rfl
theorem okX11_triangle : gk_Ok mX11_triangle 4 := ⟨⟨by decide +kernel, by decide +kernel, by decide +kernel⟩, by decide +kernel, by decide, kw_479⟩
abbrev mX11_undo : gk_M := (yX11_undo, cX11_undo, 1, (some .int))
theorem kw_1120 : Cond.code yX11_undo prog_1_method_43_code 1 (some .int) ∈ gk_T := gk_in (t5k (List.mem_of_getElem? (i := 77) rfl)) rfl
theorem okX11_undo : gk_Ok mX11_undo 0 := ⟨⟨by decide +kernel, by decide +kernel, by decide +kernel⟩, by decide +kernel, by decide, kw_1120⟩
abbrev mX11_wipe : gk_M := (yX11_wipe, cX11_wipe, 2, (some .int))
theorem kw_976 : Cond.code yX11_wipe prog_1_method_39_code 2 (some .int) ∈ gk_T := gk_in (t4k (List.mem_of_getElem? (i := 173) rfl)) rfl
theorem okX11_wipe : gk_Ok mX11_wipe 0 := ⟨⟨by decide +kernel, by decide +kernel, by decide +kernel⟩, by decide +kernel, by decide, kw_976⟩
abbrev mX11_won : gk_M := (yX11_won, cX11_won, 4, (some .int))
theorem kw_789 : Cond.code yX11_won prog_1_method_24_code 4 (some .int) ∈ gk_T := gk_in (t3k (List.mem_of_getElem? (i := 226) rfl)) rfl
theorem okX11_won : gk_Ok mX11_won 2 := ⟨⟨by decide +kernel, by decide +kernel, by decide +kernel⟩, by decide +kernel, by decide, kw_789⟩
abbrev mX12_answer : gk_M := (yX12_answer, cX12_answer, 5, (some .int))
theorem kw_1511 : Cond.code yX12_answer prog_14_method_70_code 5 (some .int) ∈ gk_T := gk_in (t6k (List.mem_of_getElem? (i := 228) rfl)) rfl
theorem okX12_answer : gk_Ok mX12_answer 1 := ⟨⟨by decide +kernel, by decide +kernel, by decide +kernel⟩, by decide +kernel, by decide, kw_1511⟩
abbrev mX12_areAtoms : gk_M := (yX12_areAtoms, cX12_areAtoms, 5, (some .boolean))
theorem kw_1360 : Cond.code yX12_areAtoms prog_14_method_35_code 5 (some .boolean) ∈ gk_T := gk_in (t6k (List.mem_of_getElem? (i := 77) rfl)) rfl
theorem okX12_areAtoms : gk_Ok mX12_areAtoms 2 := ⟨⟨by decide +kernel, by decide +kernel, by decide +kernel⟩, by decide +kernel, by decide, kw_1360⟩
abbrev mX12_ask : gk_M := (yX12_ask, cX12_ask, 2, (some .int))
theorem kw_1507 : Cond.code yX12_ask prog_14_method_68_code 2 (some .int) ∈ gk_T := gk_in (t6k (List.mem_of_getElem? (i := 224) rfl)) rfl
theorem okX12_ask : gk_Ok mX12_ask 1 := ⟨⟨by decide +kernel, by decide +kernel, by decide +kernel⟩, by decide +kernel, by decide, kw_1507⟩
abbrev mX12_atoms : gk_M := (yX12_atoms, cX12_atoms, 4, (some .int))
theorem kw_1247 : Cond.code yX12_atoms prog_14_method_9_code 4 (some .int) ∈ gk_T := gk_in (t5k (List.mem_of_getElem? (i := 204) rfl)) rfl
theorem okX12_atoms : gk_Ok mX12_atoms 1 := ⟨⟨by decide +kernel, by decide +kernel, by decide +kernel⟩, by decide +kernel, by decide, kw_1247⟩
abbrev mX12_begin : gk_M := (yX12_begin, cX12_begin, 3, (some .int))
theorem kw_1503 : Cond.code yX12_begin prog_14_method_67_code 3 (some .int) ∈ gk_T := gk_in (t6k (List.mem_of_getElem? (i := 220) rfl)) rfl
theorem okX12_begin : gk_Ok mX12_begin 1 := ⟨⟨by decide +kernel, by decide +kernel, by decide +kernel⟩, by decide +kernel, by decide, kw_1503⟩
abbrev mX12_board : gk_M := (yX12_board, cX12_board, 2, (some .int))
theorem kw_1523 : Cond.code yX12_board prog_14_method_72_code 2 (some .int) ∈ gk_T := gk_in (t7k (List.mem_of_getElem? (i := 0) rfl)) rfl
theorem okX12_board : gk_Ok mX12_board 1 := ⟨⟨by decide +kernel, by decide +kernel, by decide +kernel⟩, by decide +kernel, by decide, kw_1523⟩
abbrev mX12_broken : gk_M := (yX12_broken, cX12_broken, 10, (some .int))
theorem kw_1335 : Cond.code yX12_broken prog_14_method_25_code 10 (some .int) ∈ gk_T := gk_in (t6k (List.mem_of_getElem? (i := 52) rfl)) rfl
theorem okX12_broken : gk_Ok mX12_broken 1 := ⟨⟨by decide +kernel, by decide +kernel, by decide +kernel⟩, by decide +kernel, by decide, kw_1335⟩
abbrev mX12_comes : gk_M := (yX12_comes, cX12_comes, 5, none)
theorem kw_1364 : Cond.code yX12_comes prog_14_method_36_code 5 none ∈ gk_T := gk_in (t6k (List.mem_of_getElem? (i := 81) rfl)) rfl
theorem okX12_comes : gk_Ok mX12_comes 2 := ⟨⟨by decide +kernel, by decide +kernel, by decide +kernel⟩, by decide +kernel, by decide, kw_1364⟩
abbrev mX12_compose : gk_M := (yX12_compose, cX12_compose, 3, (some .int))
theorem kw_1298 : Cond.code yX12_compose prog_14_method_18_code 3 (some .int) ∈ gk_T := gk_in (t6k (List.mem_of_getElem? (i := 15) rfl)) rfl
theorem okX12_compose : gk_Ok mX12_compose 2 := ⟨⟨by decide +kernel, by decide +kernel, by decide +kernel⟩, by decide +kernel, by decide, kw_1298⟩
abbrev mX12_composed : gk_M := (yX12_composed, cX12_composed, 7, (some .int))
theorem kw_1302 : Cond.code yX12_composed prog_14_method_16_code 7 (some .int) ∈ gk_T := gk_in (t6k (List.mem_of_getElem? (i := 19) rfl)) rfl
theorem okX12_composed : gk_Ok mX12_composed 2 := ⟨⟨by decide +kernel, by decide +kernel, by decide +kernel⟩, by decide +kernel, by decide, kw_1302⟩
abbrev mX12_composedBy : gk_M := (yX12_composedBy, cX12_composedBy, 4, (some .int))
theorem kw_1310 : Cond.code yX12_composedBy prog_14_method_17_code 4 (some .int) ∈ gk_T := gk_in (t6k (List.mem_of_getElem? (i := 27) rfl)) rfl
theorem okX12_composedBy : gk_Ok mX12_composedBy 3 := ⟨⟨by decide +kernel, by decide +kernel, by decide +kernel⟩, by decide +kernel, by decide, kw_1310⟩
abbrev mX12_converse : gk_M := (yX12_converse, cX12_converse, 2, (some .int))
theorem kw_1263 : Cond.code yX12_converse prog_14_method_12_code 2 (some .int) ∈ gk_T := gk_in (t5k (List.mem_of_getElem? (i := 220) rfl)) rfl
theorem okX12_converse : gk_Ok mX12_converse 1 := ⟨⟨by decide +kernel, by decide +kernel, by decide +kernel⟩, by decide +kernel, by decide, kw_1263⟩
abbrev mX12_copy : gk_M := (yX12_copy, cX12_copy, 3, (some .int))
theorem kw_1395 : Cond.code yX12_copy prog_14_method_41_code 3 (some .int) ∈ gk_T := gk_in (t6k (List.mem_of_getElem? (i := 112) rfl)) rfl
theorem okX12_copy : gk_Ok mX12_copy 2 := ⟨⟨by decide +kernel, by decide +kernel, by decide +kernel⟩, by decide +kernel, by decide, kw_1395⟩
abbrev mX12_count : gk_M := (yX12_count, cX12_count, 4, (some .int))
theorem kw_1632 : Cond.code yX12_count prog_14_method_98_code 4 (some .int) ∈ gk_T := gk_in (t7k (List.mem_of_getElem? (i := 109) rfl)) rfl
theorem okX12_count : gk_Ok mX12_count 1 := ⟨⟨by decide +kernel, by decide +kernel, by decide +kernel⟩, by decide +kernel, by decide, kw_1632⟩
abbrev mX12_cycleOf : gk_M := (yX12_cycleOf, cX12_cycleOf, 8, (some .int))
theorem kw_1348 : Cond.code yX12_cycleOf prog_14_method_27_code 8 (some .int) ∈ gk_T := gk_in (t6k (List.mem_of_getElem? (i := 65) rfl)) rfl
theorem okX12_cycleOf : gk_Ok mX12_cycleOf 3 := ⟨⟨by decide +kernel, by decide +kernel, by decide +kernel⟩, by decide +kernel, by decide, kw_1348⟩
abbrev mX12_cycles : gk_M := (yX12_cycles, cX12_cycles, 9, (some .int))
theorem kw_1340 : Cond.code yX12_cycles prog_14_method_28_code 9 (some .int) ∈ gk_T := gk_in (t6k (List.mem_of_getElem? (i := 57) rfl)) rfl
theorem okX12_cycles : gk_Ok mX12_cycles 1 := ⟨⟨by decide +kernel, by decide +kernel, by decide +kernel⟩, by decide +kernel, by decide, kw_1340⟩
abbrev mX12_digit : gk_M := (yX12_digit, cX12_digit, 4, (some .int))
theorem kw_1367 : Cond.code yX12_digit prog_14_method_34_code 4 (some .int) ∈ gk_T := gk_in (t6k (List.mem_of_getElem? (i := 84) rfl)) rfl
theorem okX12_digit : gk_Ok mX12_digit 2 := ⟨⟨by decide +kernel, by decide +kernel, by decide +kernel⟩, by decide +kernel, by decide, kw_1367⟩
abbrev mX12_drop : gk_M := (yX12_drop, cX12_drop, 2, (some .int))
theorem kw_1375 : Cond.code yX12_drop prog_14_method_38_code 2 (some .int) ∈ gk_T := gk_in (t6k (List.mem_of_getElem? (i := 92) rfl)) rfl
theorem okX12_drop : gk_Ok mX12_drop 1 := ⟨⟨by decide +kernel, by decide +kernel, by decide +kernel⟩, by decide +kernel, by decide, kw_1375⟩
abbrev mX12_equivalence : gk_M := (yX12_equivalence, cX12_equivalence, 4, (some .int))
theorem kw_1322 : Cond.code yX12_equivalence prog_14_method_23_code 4 (some .int) ∈ gk_T := gk_in (t6k (List.mem_of_getElem? (i := 39) rfl)) rfl
theorem okX12_equivalence : gk_Ok mX12_equivalence 1 := ⟨⟨by decide +kernel, by decide +kernel, by decide +kernel⟩, by decide +kernel, by decide, kw_1322⟩
abbrev mX12_falseStep : gk_M := (yX12_falseStep, cX12_falseStep, 4, (some .int))
theorem kw_1542 : Cond.code yX12_falseStep prog_14_method_76_code 4 (some .int) ∈ gk_T := gk_in (t7k (List.mem_of_getElem? (i := 19) rfl)) rfl
theorem okX12_falseStep : gk_Ok mX12_falseStep 0 := ⟨⟨by decide +kernel, by decide +kernel, by decide +kernel⟩, by decide +kernel, by decide, kw_1542⟩
abbrev mX12_feed : gk_M := (yX12_feed, cX12_feed, 2, (some .int))
theorem kw_1571 : Cond.code yX12_feed prog_14_method_84_code 2 (some .int) ∈ gk_T := gk_in (t7k (List.mem_of_getElem? (i := 48) rfl)) rfl
theorem okX12_feed : gk_Ok mX12_feed 1 := ⟨⟨by decide +kernel, by decide +kernel, by decide +kernel⟩, by decide +kernel, by decide, kw_1571⟩
abbrev mX12_fills : gk_M := (yX12_fills, cX12_fills, 4, (some .int))
theorem kw_1443 : Cond.code yX12_fills prog_14_method_59_code 4 (some .int) ∈ gk_T := gk_in (t6k (List.mem_of_getElem? (i := 160) rfl)) rfl
theorem okX12_fills : gk_Ok mX12_fills 3 := ⟨⟨by decide +kernel, by decide +kernel, by decide +kernel⟩, by decide +kernel, by decide, kw_1443⟩
abbrev mX12_fillsFrom : gk_M := (yX12_fillsFrom, cX12_fillsFrom, 13, (some .boolean))
theorem kw_1459 : Cond.code yX12_fillsFrom prog_14_method_55_code 13 (some .boolean) ∈ gk_T := gk_in (t6k (List.mem_of_getElem? (i := 176) rfl)) rfl
theorem okX12_fillsFrom : gk_Ok mX12_fillsFrom 5 := ⟨⟨by decide +kernel, by decide +kernel, by decide +kernel⟩, by decide +kernel, by decide, kw_1459⟩
abbrev mX12_fixes : gk_M := (yX12_fixes, cX12_fixes, 5, none)
theorem kw_1138 : Cond.code yX12_fixes prog_14_method_8_code 5 none ∈ gk_T := gk_in (t5k (List.mem_of_getElem? (i := 95) rfl)) rfl
theorem okX12_fixes : gk_Ok mX12_fixes 0 := ⟨⟨by decide +kernel, by decide +kernel, by decide +kernel⟩, by decide +kernel, by decide, kw_1138⟩
abbrev mX12_forbid : gk_M := (yX12_forbid, cX12_forbid, 3, (some .int))
theorem kw_1439 : Cond.code yX12_forbid prog_14_method_53_code 3 (some .int) ∈ gk_T := gk_in (t6k (List.mem_of_getElem? (i := 156) rfl)) rfl
theorem okX12_forbid : gk_Ok mX12_forbid 1 := ⟨⟨by decide +kernel, by decide +kernel, by decide +kernel⟩, by decide +kernel, by decide, kw_1439⟩
abbrev mX12_found : gk_M := (yX12_found, cX12_found, 3, (some .int))
theorem kw_1550 : Cond.code yX12_found prog_14_method_79_code 3 (some .int) ∈ gk_T := gk_in (t7k (List.mem_of_getElem? (i := 27) rfl)) rfl
theorem okX12_found : gk_Ok mX12_found 1 := ⟨⟨by decide +kernel, by decide +kernel, by decide +kernel⟩, by decide +kernel, by decide, kw_1550⟩
abbrev mX12_gap : gk_M := (yX12_gap, cX12_gap, 5, (some .int))
theorem kw_1411 : Cond.code yX12_gap prog_14_method_47_code 5 (some .int) ∈ gk_T := gk_in (t6k (List.mem_of_getElem? (i := 128) rfl)) rfl
theorem okX12_gap : gk_Ok mX12_gap 2 := ⟨⟨by decide +kernel, by decide +kernel, by decide +kernel⟩, by decide +kernel, by decide, kw_1411⟩
abbrev mX12_gapBehind : gk_M := (yX12_gapBehind, cX12_gapBehind, 9, (some .int))
theorem kw_1415 : Cond.code yX12_gapBehind prog_14_method_46_code 9 (some .int) ∈ gk_T := gk_in (t6k (List.mem_of_getElem? (i := 132) rfl)) rfl
theorem okX12_gapBehind : gk_Ok mX12_gapBehind 2 := ⟨⟨by decide +kernel, by decide +kernel, by decide +kernel⟩, by decide +kernel, by decide, kw_1415⟩
abbrev mX12_get : gk_M := (yX12_get, cX12_get, 3, (some .long))
theorem kw_1566 : Cond.code yX12_get prog_14_method_83_code 3 (some .long) ∈ gk_T := gk_in (t7k (List.mem_of_getElem? (i := 43) rfl)) rfl
theorem okX12_get : gk_Ok mX12_get 2 := ⟨⟨by decide +kernel, by decide +kernel, by decide +kernel⟩, by decide +kernel, by decide, kw_1566⟩
abbrev mX12_has : gk_M := (yX12_has, cX12_has, 2, (some .boolean))
theorem kw_1274 : Cond.code yX12_has prog_14_method_6_code 2 (some .boolean) ∈ gk_T := gk_in (t5k (List.mem_of_getElem? (i := 231) rfl)) rfl
theorem okX12_has : gk_Ok mX12_has 2 := ⟨⟨by decide +kernel, by decide +kernel, by decide +kernel⟩, by decide +kernel, by decide, kw_1274⟩
abbrev mX12_image : gk_M := (yX12_image, cX12_image, 2, (some .int))
theorem kw_1624 : Cond.code yX12_image prog_14_method_96_code 2 (some .int) ∈ gk_T := gk_in (t7k (List.mem_of_getElem? (i := 101) rfl)) rfl
theorem okX12_image : gk_Ok mX12_image 0 := ⟨⟨by decide +kernel, by decide +kernel, by decide +kernel⟩, by decide +kernel, by decide, kw_1624⟩
abbrev mX12_init : gk_M := (yX12_init, cX12_init, 1, none)
theorem kw_1133 : Cond.code yX12_init prog_14_method_1_code 1 none ∈ gk_T := gk_in (t5k (List.mem_of_getElem? (i := 90) rfl)) rfl
theorem okX12_init : gk_Ok mX12_init 0 := ⟨⟨by decide +kernel, by decide +kernel, by decide +kernel⟩, by decide +kernel, by decide, kw_1133⟩
abbrev mX12_is : gk_M := (yX12_is, cX12_is, 4, (some .boolean))
theorem kw_1294 : Cond.code yX12_is prog_14_method_7_code 4 (some .boolean) ∈ gk_T := gk_in (t6k (List.mem_of_getElem? (i := 11) rfl)) rfl
theorem okX12_is : gk_Ok mX12_is 3 := ⟨⟨by decide +kernel, by decide +kernel, by decide +kernel⟩, by decide +kernel, by decide, kw_1294⟩
abbrev mX12_isAllHad : gk_M := (yX12_isAllHad, cX12_isAllHad, 3, (some .boolean))
theorem kw_1538 : Cond.code yX12_isAllHad prog_14_method_75_code 3 (some .boolean) ∈ gk_T := gk_in (t7k (List.mem_of_getElem? (i := 15) rfl)) rfl
theorem okX12_isAllHad : gk_Ok mX12_isAllHad 0 := ⟨⟨by decide +kernel, by decide +kernel, by decide +kernel⟩, by decide +kernel, by decide, kw_1538⟩
abbrev mX12_isAt : gk_M := (yX12_isAt, cX12_isAt, 3, (some .boolean))
theorem kw_1593 : Cond.code yX12_isAt prog_14_method_86_code 3 (some .boolean) ∈ gk_T := gk_in (t7k (List.mem_of_getElem? (i := 70) rfl)) rfl
theorem okX12_isAt : gk_Ok mX12_isAt 2 := ⟨⟨by decide +kernel, by decide +kernel, by decide +kernel⟩, by decide +kernel, by decide, kw_1593⟩
abbrev mX12_isAtom : gk_M := (yX12_isAtom, cX12_isAtom, 2, (some .boolean))
theorem kw_1282 : Cond.code yX12_isAtom prog_14_method_3_code 2 (some .boolean) ∈ gk_T := gk_in (t5k (List.mem_of_getElem? (i := 239) rfl)) rfl
theorem okX12_isAtom : gk_Ok mX12_isAtom 1 := ⟨⟨by decide +kernel, by decide +kernel, by decide +kernel⟩, by decide +kernel, by decide, kw_1282⟩
abbrev mX12_isBarred : gk_M := (yX12_isBarred, cX12_isBarred, 2, (some .boolean))
theorem kw_1467 : Cond.code yX12_isBarred prog_14_method_51_code 2 (some .boolean) ∈ gk_T := gk_in (t6k (List.mem_of_getElem? (i := 184) rfl)) rfl
theorem okX12_isBarred : gk_Ok mX12_isBarred 1 := ⟨⟨by decide +kernel, by decide +kernel, by decide +kernel⟩, by decide +kernel, by decide, kw_1467⟩
abbrev mX12_isDone : gk_M := (yX12_isDone, cX12_isDone, 2, (some .boolean))
theorem kw_1597 : Cond.code yX12_isDone prog_14_method_89_code 2 (some .boolean) ∈ gk_T := gk_in (t7k (List.mem_of_getElem? (i := 74) rfl)) rfl
theorem okX12_isDone : gk_Ok mX12_isDone 1 := ⟨⟨by decide +kernel, by decide +kernel, by decide +kernel⟩, by decide +kernel, by decide, kw_1597⟩
abbrev mX12_isEquivalence : gk_M := (yX12_isEquivalence, cX12_isEquivalence, 2, (some .boolean))
theorem kw_1326 : Cond.code yX12_isEquivalence prog_14_method_22_code 2 (some .boolean) ∈ gk_T := gk_in (t6k (List.mem_of_getElem? (i := 43) rfl)) rfl
theorem okX12_isEquivalence : gk_Ok mX12_isEquivalence 1 := ⟨⟨by decide +kernel, by decide +kernel, by decide +kernel⟩, by decide +kernel, by decide, kw_1326⟩
abbrev mX12_isFillOf : gk_M := (yX12_isFillOf, cX12_isFillOf, 3, (some .boolean))
theorem kw_1515 : Cond.code yX12_isFillOf prog_14_method_69_code 3 (some .boolean) ∈ gk_T := gk_in (t6k (List.mem_of_getElem? (i := 232) rfl)) rfl
theorem okX12_isFillOf : gk_Ok mX12_isFillOf 2 := ⟨⟨by decide +kernel, by decide +kernel, by decide +kernel⟩, by decide +kernel, by decide, kw_1515⟩
abbrev mX12_isFillable : gk_M := (yX12_isFillable, cX12_isFillable, 5, (some .boolean))
theorem kw_1455 : Cond.code yX12_isFillable prog_14_method_57_code 5 (some .boolean) ∈ gk_T := gk_in (t6k (List.mem_of_getElem? (i := 172) rfl)) rfl
theorem okX12_isFillable : gk_Ok mX12_isFillable 2 := ⟨⟨by decide +kernel, by decide +kernel, by decide +kernel⟩, by decide +kernel, by decide, kw_1455⟩
abbrev mX12_isFilled : gk_M := (yX12_isFilled, cX12_isFilled, 8, (some .boolean))
theorem kw_1463 : Cond.code yX12_isFilled prog_14_method_56_code 8 (some .boolean) ∈ gk_T := gk_in (t6k (List.mem_of_getElem? (i := 180) rfl)) rfl
theorem okX12_isFilled : gk_Ok mX12_isFilled 2 := ⟨⟨by decide +kernel, by decide +kernel, by decide +kernel⟩, by decide +kernel, by decide, kw_1463⟩
abbrev mX12_isFrom : gk_M := (yX12_isFrom, cX12_isFrom, 6, (some .boolean))
theorem kw_1251 : Cond.code yX12_isFrom prog_14_method_2_code 6 (some .boolean) ∈ gk_T := gk_in (t5k (List.mem_of_getElem? (i := 208) rfl)) rfl
theorem okX12_isFrom : gk_Ok mX12_isFrom 3 := ⟨⟨by decide +kernel, by decide +kernel, by decide +kernel⟩, by decide +kernel, by decide, kw_1251⟩
abbrev mX12_isGap : gk_M := (yX12_isGap, cX12_isGap, 7, (some .boolean))
theorem kw_1419 : Cond.code yX12_isGap prog_14_method_44_code 7 (some .boolean) ∈ gk_T := gk_in (t6k (List.mem_of_getElem? (i := 136) rfl)) rfl
theorem okX12_isGap : gk_Ok mX12_isGap 5 := ⟨⟨by decide +kernel, by decide +kernel, by decide +kernel⟩, by decide +kernel, by decide, kw_1419⟩
abbrev mX12_isGapOf : gk_M := (yX12_isGapOf, cX12_isGapOf, 7, (some .boolean))
theorem kw_1447 : Cond.code yX12_isGapOf prog_14_method_45_code 7 (some .boolean) ∈ gk_T := gk_in (t6k (List.mem_of_getElem? (i := 164) rfl)) rfl
theorem okX12_isGapOf : gk_Ok mX12_isGapOf 2 := ⟨⟨by decide +kernel, by decide +kernel, by decide +kernel⟩, by decide +kernel, by decide, kw_1447⟩
abbrev mX12_isIn : gk_M := (yX12_isIn, cX12_isIn, 4, (some .int))
theorem kw_1290 : Cond.code yX12_isIn prog_14_method_15_code 4 (some .int) ∈ gk_T := gk_in (t6k (List.mem_of_getElem? (i := 7) rfl)) rfl
theorem okX12_isIn : gk_Ok mX12_isIn 3 := ⟨⟨by decide +kernel, by decide +kernel, by decide +kernel⟩, by decide +kernel, by decide, kw_1290⟩
abbrev mX12_isLeast : gk_M := (yX12_isLeast, cX12_isLeast, 6, (some .boolean))
theorem kw_1344 : Cond.code yX12_isLeast prog_14_method_26_code 6 (some .boolean) ∈ gk_T := gk_in (t6k (List.mem_of_getElem? (i := 61) rfl)) rfl
theorem okX12_isLeast : gk_Ok mX12_isLeast 3 := ⟨⟨by decide +kernel, by decide +kernel, by decide +kernel⟩, by decide +kernel, by decide, kw_1344⟩
abbrev mX12_isLike : gk_M := (yX12_isLike, cX12_isLike, 9, (some .boolean))
theorem kw_1435 : Cond.code yX12_isLike prog_14_method_48_code 9 (some .boolean) ∈ gk_T := gk_in (t6k (List.mem_of_getElem? (i := 152) rfl)) rfl
theorem okX12_isLike : gk_Ok mX12_isLike 5 := ⟨⟨by decide +kernel, by decide +kernel, by decide +kernel⟩, by decide +kernel, by decide, kw_1435⟩
abbrev mX12_isList : gk_M := (yX12_isList, cX12_isList, 1, (some .boolean))
theorem kw_1534 : Cond.code yX12_isList prog_14_method_80_code 1 (some .boolean) ∈ gk_T := gk_in (t7k (List.mem_of_getElem? (i := 11) rfl)) rfl
theorem okX12_isList : gk_Ok mX12_isList 1 := ⟨⟨by decide +kernel, by decide +kernel, by decide +kernel⟩, by decide +kernel, by decide, kw_1534⟩
abbrev mX12_isMet : gk_M := (yX12_isMet, cX12_isMet, 5, (some .boolean))
theorem kw_1546 : Cond.code yX12_isMet prog_14_method_74_code 5 (some .boolean) ∈ gk_T := gk_in (t7k (List.mem_of_getElem? (i := 23) rfl)) rfl
theorem okX12_isMet : gk_Ok mX12_isMet 3 := ⟨⟨by decide +kernel, by decide +kernel, by decide +kernel⟩, by decide +kernel, by decide, kw_1546⟩
abbrev mX12_isNet : gk_M := (yX12_isNet, cX12_isNet, 1, (some .boolean))
theorem kw_1356 : Cond.code yX12_isNet prog_14_method_29_code 1 (some .boolean) ∈ gk_T := gk_in (t6k (List.mem_of_getElem? (i := 73) rfl)) rfl
theorem okX12_isNet : gk_Ok mX12_isNet 1 := ⟨⟨by decide +kernel, by decide +kernel, by decide +kernel⟩, by decide +kernel, by decide, kw_1356⟩
abbrev mX12_isNode : gk_M := (yX12_isNode, cX12_isNode, 3, (some .boolean))
theorem kw_1383 : Cond.code yX12_isNode prog_14_method_30_code 3 (some .boolean) ∈ gk_T := gk_in (t6k (List.mem_of_getElem? (i := 100) rfl)) rfl
theorem okX12_isNode : gk_Ok mX12_isNode 2 := ⟨⟨by decide +kernel, by decide +kernel, by decide +kernel⟩, by decide +kernel, by decide, kw_1383⟩
abbrev mX12_isOther : gk_M := (yX12_isOther, cX12_isOther, 2, (some .boolean))
theorem kw_1259 : Cond.code yX12_isOther prog_14_method_4_code 2 (some .boolean) ∈ gk_T := gk_in (t5k (List.mem_of_getElem? (i := 216) rfl)) rfl
theorem okX12_isOther : gk_Ok mX12_isOther 1 := ⟨⟨by decide +kernel, by decide +kernel, by decide +kernel⟩, by decide +kernel, by decide, kw_1259⟩
abbrev mX12_isPictured : gk_M := (yX12_isPictured, cX12_isPictured, 3, (some .boolean))
theorem kw_1554 : Cond.code yX12_isPictured prog_14_method_78_code 3 (some .boolean) ∈ gk_T := gk_in (t7k (List.mem_of_getElem? (i := 31) rfl)) rfl
theorem okX12_isPictured : gk_Ok mX12_isPictured 1 := ⟨⟨by decide +kernel, by decide +kernel, by decide +kernel⟩, by decide +kernel, by decide, kw_1554⟩
abbrev mX12_isPlayed : gk_M := (yX12_isPlayed, cX12_isPlayed, 2, (some .boolean))
theorem kw_1491 : Cond.code yX12_isPlayed prog_14_method_62_code 2 (some .boolean) ∈ gk_T := gk_in (t6k (List.mem_of_getElem? (i := 208) rfl)) rfl
theorem okX12_isPlayed : gk_Ok mX12_isPlayed 1 := ⟨⟨by decide +kernel, by decide +kernel, by decide +kernel⟩, by decide +kernel, by decide, kw_1491⟩
abbrev mX12_isRelation : gk_M := (yX12_isRelation, cX12_isRelation, 2, (some .boolean))
theorem kw_1267 : Cond.code yX12_isRelation prog_14_method_5_code 2 (some .boolean) ∈ gk_T := gk_in (t5k (List.mem_of_getElem? (i := 224) rfl)) rfl
theorem okX12_isRelation : gk_Ok mX12_isRelation 1 := ⟨⟨by decide +kernel, by decide +kernel, by decide +kernel⟩, by decide +kernel, by decide, kw_1267⟩
abbrev mX12_isWon : gk_M := (yX12_isWon, cX12_isWon, 2, (some .boolean))
theorem kw_1471 : Cond.code yX12_isWon prog_14_method_60_code 2 (some .boolean) ∈ gk_T := gk_in (t6k (List.mem_of_getElem? (i := 188) rfl)) rfl
theorem okX12_isWon : gk_Ok mX12_isWon 1 := ⟨⟨by decide +kernel, by decide +kernel, by decide +kernel⟩, by decide +kernel, by decide, kw_1471⟩
abbrev mX12_judge : gk_M := (yX12_judge, cX12_judge, 7, (some .int))
theorem kw_1531 : Cond.code yX12_judge prog_14_method_77_code 7 (some .int) ∈ gk_T := gk_in (t7k (List.mem_of_getElem? (i := 8) rfl)) rfl
theorem okX12_judge : gk_Ok mX12_judge 1 := ⟨⟨by decide +kernel, by decide +kernel, by decide +kernel⟩, by decide +kernel, by decide, kw_1531⟩
abbrev mX12_killer : gk_M := (yX12_killer, cX12_killer, 4, (some .int))
theorem kw_1495 : Cond.code yX12_killer prog_14_method_65_code 4 (some .int) ∈ gk_T := gk_in (t6k (List.mem_of_getElem? (i := 212) rfl)) rfl
theorem okX12_killer : gk_Ok mX12_killer 2 := ⟨⟨by decide +kernel, by decide +kernel, by decide +kernel⟩, by decide +kernel, by decide, kw_1495⟩
abbrev mX12_killerOf : gk_M := (yX12_killerOf, cX12_killerOf, 3, (some .int))
theorem kw_1475 : Cond.code yX12_killerOf prog_14_method_61_code 3 (some .int) ∈ gk_T := gk_in (t6k (List.mem_of_getElem? (i := 192) rfl)) rfl
theorem okX12_killerOf : gk_Ok mX12_killerOf 1 := ⟨⟨by decide +kernel, by decide +kernel, by decide +kernel⟩, by decide +kernel, by decide, kw_1475⟩
abbrev mX12_label : gk_M := (yX12_label, cX12_label, 4, (some .int))
theorem kw_1379 : Cond.code yX12_label prog_14_method_39_code 4 (some .int) ∈ gk_T := gk_in (t6k (List.mem_of_getElem? (i := 96) rfl)) rfl
theorem okX12_label : gk_Ok mX12_label 3 := ⟨⟨by decide +kernel, by decide +kernel, by decide +kernel⟩, by decide +kernel, by decide, kw_1379⟩
abbrev mX12_labelOf : gk_M := (yX12_labelOf, cX12_labelOf, 4, (some .int))
theorem kw_1387 : Cond.code yX12_labelOf prog_14_method_31_code 4 (some .int) ∈ gk_T := gk_in (t6k (List.mem_of_getElem? (i := 104) rfl)) rfl
theorem okX12_labelOf : gk_Ok mX12_labelOf 3 := ⟨⟨by decide +kernel, by decide +kernel, by decide +kernel⟩, by decide +kernel, by decide, kw_1387⟩
abbrev mX12_lasts : gk_M := (yX12_lasts, cX12_lasts, 3, (some .int))
theorem kw_1499 : Cond.code yX12_lasts prog_14_method_66_code 3 (some .int) ∈ gk_T := gk_in (t6k (List.mem_of_getElem? (i := 216) rfl)) rfl
theorem okX12_lasts : gk_Ok mX12_lasts 1 := ⟨⟨by decide +kernel, by decide +kernel, by decide +kernel⟩, by decide +kernel, by decide, kw_1499⟩
abbrev mX12_later : gk_M := (yX12_later, cX12_later, 3, (some .int))
theorem kw_1519 : Cond.code yX12_later prog_14_method_71_code 3 (some .int) ∈ gk_T := gk_in (t6k (List.mem_of_getElem? (i := 236) rfl)) rfl
theorem okX12_later : gk_Ok mX12_later 0 := ⟨⟨by decide +kernel, by decide +kernel, by decide +kernel⟩, by decide +kernel, by decide, kw_1519⟩
abbrev mX12_lays : gk_M := (yX12_lays, cX12_lays, 5, none)
theorem kw_1371 : Cond.code yX12_lays prog_14_method_32_code 5 none ∈ gk_T := gk_in (t6k (List.mem_of_getElem? (i := 88) rfl)) rfl
theorem okX12_lays : gk_Ok mX12_lays 4 := ⟨⟨by decide +kernel, by decide +kernel, by decide +kernel⟩, by decide +kernel, by decide, kw_1371⟩
abbrev mX12_likens : gk_M := (yX12_likens, cX12_likens, 4, none)
theorem kw_1399 : Cond.code yX12_likens prog_14_method_33_code 4 none ∈ gk_T := gk_in (t6k (List.mem_of_getElem? (i := 116) rfl)) rfl
theorem okX12_likens : gk_Ok mX12_likens 2 := ⟨⟨by decide +kernel, by decide +kernel, by decide +kernel⟩, by decide +kernel, by decide, kw_1399⟩
abbrev mX12_list : gk_M := (yX12_list, cX12_list, 4, (some .int))
theorem kw_1558 : Cond.code yX12_list prog_14_method_81_code 4 (some .int) ∈ gk_T := gk_in (t7k (List.mem_of_getElem? (i := 35) rfl)) rfl
theorem okX12_list : gk_Ok mX12_list 2 := ⟨⟨by decide +kernel, by decide +kernel, by decide +kernel⟩, by decide +kernel, by decide, kw_1558⟩
abbrev mX12_looks : gk_M := (yX12_looks, cX12_looks, 6, none)
theorem kw_1427 : Cond.code yX12_looks prog_14_method_50_code 6 none ∈ gk_T := gk_in (t6k (List.mem_of_getElem? (i := 144) rfl)) rfl
theorem okX12_looks : gk_Ok mX12_looks 3 := ⟨⟨by decide +kernel, by decide +kernel, by decide +kernel⟩, by decide +kernel, by decide, kw_1427⟩
abbrev mX12_looksToFill : gk_M := (yX12_looksToFill, cX12_looksToFill, 4, none)
theorem kw_1451 : Cond.code yX12_looksToFill prog_14_method_58_code 4 none ∈ gk_T := gk_in (t6k (List.mem_of_getElem? (i := 168) rfl)) rfl
theorem okX12_looksToFill : gk_Ok mX12_looksToFill 3 := ⟨⟨by decide +kernel, by decide +kernel, by decide +kernel⟩, by decide +kernel, by decide, kw_1451⟩
abbrev mX12_mayStand : gk_M := (yX12_mayStand, cX12_mayStand, 5, (some .boolean))
theorem kw_1479 : Cond.code yX12_mayStand prog_14_method_54_code 5 (some .boolean) ∈ gk_T := gk_in (t6k (List.mem_of_getElem? (i := 196) rfl)) rfl
theorem okX12_mayStand : gk_Ok mX12_mayStand 2 := ⟨⟨by decide +kernel, by decide +kernel, by decide +kernel⟩, by decide +kernel, by decide, kw_1479⟩
abbrev mX12_node : gk_M := (yX12_node, cX12_node, 3, (some .int))
theorem kw_1353 : Cond.code yX12_node prog_14_method_37_code 3 (some .int) ∈ gk_T := gk_in (t6k (List.mem_of_getElem? (i := 70) rfl)) rfl
theorem okX12_node : gk_Ok mX12_node 2 := ⟨⟨by decide +kernel, by decide +kernel, by decide +kernel⟩, by decide +kernel, by decide, kw_1353⟩
abbrev mX12_occurs : gk_M := (yX12_occurs, cX12_occurs, 4, (some .int))
theorem kw_1423 : Cond.code yX12_occurs prog_14_method_52_code 4 (some .int) ∈ gk_T := gk_in (t6k (List.mem_of_getElem? (i := 140) rfl)) rfl
theorem okX12_occurs : gk_Ok mX12_occurs 3 := ⟨⟨by decide +kernel, by decide +kernel, by decide +kernel⟩, by decide +kernel, by decide, kw_1423⟩
abbrev mX12_over : gk_M := (yX12_over, cX12_over, 6, (some .int))
theorem kw_1306 : Cond.code yX12_over prog_14_method_19_code 6 (some .int) ∈ gk_T := gk_in (t6k (List.mem_of_getElem? (i := 23) rfl)) rfl
theorem okX12_over : gk_Ok mX12_over 3 := ⟨⟨by decide +kernel, by decide +kernel, by decide +kernel⟩, by decide +kernel, by decide, kw_1306⟩
abbrev mX12_pair : gk_M := (yX12_pair, cX12_pair, 7, (some .int))
theorem kw_1255 : Cond.code yX12_pair prog_14_method_10_code 7 (some .int) ∈ gk_T := gk_in (t5k (List.mem_of_getElem? (i := 212) rfl)) rfl
theorem okX12_pair : gk_Ok mX12_pair 2 := ⟨⟨by decide +kernel, by decide +kernel, by decide +kernel⟩, by decide +kernel, by decide, kw_1255⟩
abbrev mX12_power : gk_M := (yX12_power, cX12_power, 7, (some .int))
theorem kw_1314 : Cond.code yX12_power prog_14_method_21_code 7 (some .int) ∈ gk_T := gk_in (t6k (List.mem_of_getElem? (i := 31) rfl)) rfl
theorem okX12_power : gk_Ok mX12_power 2 := ⟨⟨by decide +kernel, by decide +kernel, by decide +kernel⟩, by decide +kernel, by decide, kw_1314⟩
abbrev mX12_powerOf : gk_M := (yX12_powerOf, cX12_powerOf, 5, (some .int))
theorem kw_1318 : Cond.code yX12_powerOf prog_14_method_20_code 5 (some .int) ∈ gk_T := gk_in (t6k (List.mem_of_getElem? (i := 35) rfl)) rfl
theorem okX12_powerOf : gk_Ok mX12_powerOf 2 := ⟨⟨by decide +kernel, by decide +kernel, by decide +kernel⟩, by decide +kernel, by decide, kw_1318⟩
abbrev mX12_put : gk_M := (yX12_put, cX12_put, 5, (some .int))
theorem kw_1562 : Cond.code yX12_put prog_14_method_82_code 5 (some .int) ∈ gk_T := gk_in (t7k (List.mem_of_getElem? (i := 39) rfl)) rfl
theorem okX12_put : gk_Ok mX12_put 3 := ⟨⟨by decide +kernel, by decide +kernel, by decide +kernel⟩, by decide +kernel, by decide, kw_1562⟩
abbrev mX12_read : gk_M := (yX12_read, cX12_read, 3, (some .int))
theorem kw_1581 : Cond.code yX12_read prog_14_method_90_code 3 (some .int) ∈ gk_T := gk_in (t7k (List.mem_of_getElem? (i := 58) rfl)) rfl
theorem okX12_read : gk_Ok mX12_read 0 := ⟨⟨by decide +kernel, by decide +kernel, by decide +kernel⟩, by decide +kernel, by decide, kw_1581⟩
abbrev mX12_relabel : gk_M := (yX12_relabel, cX12_relabel, 6, (some .int))
theorem kw_1391 : Cond.code yX12_relabel prog_14_method_40_code 6 (some .int) ∈ gk_T := gk_in (t6k (List.mem_of_getElem? (i := 108) rfl)) rfl
theorem okX12_relabel : gk_Ok mX12_relabel 4 := ⟨⟨by decide +kernel, by decide +kernel, by decide +kernel⟩, by decide +kernel, by decide, kw_1391⟩
abbrev mX12_seeks : gk_M := (yX12_seeks, cX12_seeks, 7, (some .boolean))
theorem kw_1431 : Cond.code yX12_seeks prog_14_method_49_code 7 (some .boolean) ∈ gk_T := gk_in (t6k (List.mem_of_getElem? (i := 148) rfl)) rfl
theorem okX12_seeks : gk_Ok mX12_seeks 5 := ⟨⟨by decide +kernel, by decide +kernel, by decide +kernel⟩, by decide +kernel, by decide, kw_1431⟩
abbrev mX12_solved : gk_M := (yX12_solved, cX12_solved, 9, (some .int))
theorem kw_1330 : Cond.code yX12_solved prog_14_method_24_code 9 (some .int) ∈ gk_T := gk_in (t6k (List.mem_of_getElem? (i := 47) rfl)) rfl
theorem okX12_solved : gk_Ok mX12_solved 4 := ⟨⟨by decide +kernel, by decide +kernel, by decide +kernel⟩, by decide +kernel, by decide, kw_1330⟩
abbrev mX12_sound : gk_M := (yX12_sound, cX12_sound, 2, (some .int))
theorem kw_1403 : Cond.code yX12_sound prog_14_method_43_code 2 (some .int) ∈ gk_T := gk_in (t6k (List.mem_of_getElem? (i := 120) rfl)) rfl
theorem okX12_sound : gk_Ok mX12_sound 1 := ⟨⟨by decide +kernel, by decide +kernel, by decide +kernel⟩, by decide +kernel, by decide, kw_1403⟩
abbrev mX12_spelled : gk_M := (yX12_spelled, cX12_spelled, 2, (some .int))
theorem kw_1604 : Cond.code yX12_spelled prog_14_method_95_code 2 (some .int) ∈ gk_T := gk_in (t7k (List.mem_of_getElem? (i := 81) rfl)) rfl
theorem okX12_spelled : gk_Ok mX12_spelled 1 := ⟨⟨by decide +kernel, by decide +kernel, by decide +kernel⟩, by decide +kernel, by decide, kw_1604⟩
abbrev mX12_spells : gk_M := (yX12_spells, cX12_spells, 4, none)
theorem kw_1608 : Cond.code yX12_spells prog_14_method_94_code 4 none ∈ gk_T := gk_in (t7k (List.mem_of_getElem? (i := 85) rfl)) rfl
theorem okX12_spells : gk_Ok mX12_spells 0 := ⟨⟨by decide +kernel, by decide +kernel, by decide +kernel⟩, by decide +kernel, by decide, kw_1608⟩
abbrev mX12_statement : gk_M := (yX12_statement, cX12_statement, 3, (some .int))
theorem kw_1585 : Cond.code yX12_statement prog_14_method_88_code 3 (some .int) ∈ gk_T := gk_in (t7k (List.mem_of_getElem? (i := 62) rfl)) rfl
theorem okX12_statement : gk_Ok mX12_statement 0 := ⟨⟨by decide +kernel, by decide +kernel, by decide +kernel⟩, by decide +kernel, by decide, kw_1585⟩
abbrev mX12_take : gk_M := (yX12_take, cX12_take, 2, (some .int))
theorem kw_1527 : Cond.code yX12_take prog_14_method_73_code 2 (some .int) ∈ gk_T := gk_in (t7k (List.mem_of_getElem? (i := 4) rfl)) rfl
theorem okX12_take : gk_Ok mX12_take 1 := ⟨⟨by decide +kernel, by decide +kernel, by decide +kernel⟩, by decide +kernel, by decide, kw_1527⟩
abbrev mX12_triangle : gk_M := (yX12_triangle, cX12_triangle, 8, (some .int))
theorem kw_1278 : Cond.code yX12_triangle prog_14_method_14_code 8 (some .int) ∈ gk_T := gk_in (t5k (List.mem_of_getElem? (i := 235) rfl)) rfl
theorem okX12_triangle : gk_Ok mX12_triangle 4 := ⟨⟨by decide +kernel, by decide +kernel, by decide +kernel⟩, by decide +kernel, by decide, kw_1278⟩
abbrev mX12_turn : gk_M := (yX12_turn, cX12_turn, 5, (some .int))
theorem kw_1286 : Cond.code yX12_turn prog_14_method_13_code 5 (some .int) ∈ gk_T := gk_in (t6k (List.mem_of_getElem? (i := 3) rfl)) rfl
theorem okX12_turn : gk_Ok mX12_turn 4 := ⟨⟨by decide +kernel, by decide +kernel, by decide +kernel⟩, by decide +kernel, by decide, kw_1286⟩
abbrev mX12_turned : gk_M := (yX12_turned, cX12_turned, 4, (some .int))
theorem kw_1271 : Cond.code yX12_turned prog_14_method_11_code 4 (some .int) ∈ gk_T := gk_in (t5k (List.mem_of_getElem? (i := 228) rfl)) rfl
theorem okX12_turned : gk_Ok mX12_turned 1 := ⟨⟨by decide +kernel, by decide +kernel, by decide +kernel⟩, by decide +kernel, by decide, kw_1271⟩
abbrev mX12_undo : gk_M := (yX12_undo, cX12_undo, 2, (some .int))
theorem kw_1628 : Cond.code yX12_undo prog_14_method_97_code 2 (some .int) ∈ gk_T := gk_in (t7k (List.mem_of_getElem? (i := 105) rfl)) rfl
theorem okX12_undo : gk_Ok mX12_undo 0 := ⟨⟨by decide +kernel, by decide +kernel, by decide +kernel⟩, by decide +kernel, by decide, kw_1628⟩
abbrev mX12_unsound : gk_M := (yX12_unsound, cX12_unsound, 5, (some .int))
theorem kw_1407 : Cond.code yX12_unsound prog_14_method_42_code 5 (some .int) ∈ gk_T := gk_in (t6k (List.mem_of_getElem? (i := 124) rfl)) rfl
theorem okX12_unsound : gk_Ok mX12_unsound 1 := ⟨⟨by decide +kernel, by decide +kernel, by decide +kernel⟩, by decide +kernel, by decide, kw_1407⟩
abbrev mX12_whyNot : gk_M := (yX12_whyNot, cX12_whyNot, 3, (some .int))
theorem kw_1487 : Cond.code yX12_whyNot prog_14_method_63_code 3 (some .int) ∈ gk_T := gk_in (t6k (List.mem_of_getElem? (i := 204) rfl)) rfl
theorem okX12_whyNot : gk_Ok mX12_whyNot 2 := ⟨⟨by decide +kernel, by decide +kernel, by decide +kernel⟩, by decide +kernel, by decide, kw_1487⟩
abbrev mX12_wipe : gk_M := (yX12_wipe, cX12_wipe, 2, (some .int))
theorem kw_1577 : Cond.code yX12_wipe prog_14_method_85_code 2 (some .int) ∈ gk_T := gk_in (t7k (List.mem_of_getElem? (i := 54) rfl)) rfl
theorem okX12_wipe : gk_Ok mX12_wipe 0 := ⟨⟨by decide +kernel, by decide +kernel, by decide +kernel⟩, by decide +kernel, by decide, kw_1577⟩
abbrev mX12_won : gk_M := (yX12_won, cX12_won, 4, (some .int))
theorem kw_1483 : Cond.code yX12_won prog_14_method_64_code 4 (some .int) ∈ gk_T := gk_in (t6k (List.mem_of_getElem? (i := 200) rfl)) rfl
theorem okX12_won : gk_Ok mX12_won 2 := ⟨⟨by decide +kernel, by decide +kernel, by decide +kernel⟩, by decide +kernel, by decide, kw_1483⟩
abbrev mX12_word : gk_M := (yX12_word, cX12_word, 7, (some .int))
theorem kw_1589 : Cond.code yX12_word prog_14_method_87_code 7 (some .int) ∈ gk_T := gk_in (t7k (List.mem_of_getElem? (i := 66) rfl)) rfl
theorem okX12_word : gk_Ok mX12_word 0 := ⟨⟨by decide +kernel, by decide +kernel, by decide +kernel⟩, by decide +kernel, by decide, kw_1589⟩
abbrev mX12_writes : gk_M := (yX12_writes, cX12_writes, 2, none)
theorem kw_1616 : Cond.code yX12_writes prog_14_method_91_code 2 none ∈ gk_T := gk_in (t7k (List.mem_of_getElem? (i := 93) rfl)) rfl
theorem okX12_writes : gk_Ok mX12_writes 1 := ⟨⟨by decide +kernel, by decide +kernel, by decide +kernel⟩, by decide +kernel, by decide, kw_1616⟩
abbrev mX12_writesFigure : gk_M := (yX12_writesFigure, cX12_writesFigure, 2, none)
theorem kw_1620 : Cond.code yX12_writesFigure prog_14_method_93_code 2 none ∈ gk_T := gk_in (t7k (List.mem_of_getElem? (i := 97) rfl)) rfl
theorem okX12_writesFigure : gk_Ok mX12_writesFigure 1 := ⟨⟨by decide +kernel, by decide +kernel, by decide +kernel⟩, by decide +kernel, by decide, kw_1620⟩
abbrev mX12_writesWord : gk_M := (yX12_writesWord, cX12_writesWord, 4, none)
theorem kw_1612 : Cond.code yX12_writesWord prog_14_method_92_code 4 none ∈ gk_T := gk_in (t7k (List.mem_of_getElem? (i := 89) rfl)) rfl
theorem okX12_writesWord : gk_Ok mX12_writesWord 1 := ⟨⟨by decide +kernel, by decide +kernel, by decide +kernel⟩, by decide +kernel, by decide, kw_1612⟩
abbrev mX1_init : gk_M := (yX1_init, cX1_init, 3, none)
theorem kw_250 : Cond.code yX1_init prog_3_method_1_code 3 none ∈ gk_T := gk_in (t1k (List.mem_of_getElem? (i := 167) rfl)) rfl
theorem okX1_init : gk_Ok mX1_init 2 := ⟨⟨by decide +kernel, by decide +kernel, by decide +kernel⟩, by decide +kernel, by decide, kw_250⟩
abbrev mX1_isAllowed : gk_M := (yX1_isAllowed, cX1_isAllowed, 3, (some .boolean))
theorem kw_739 : Cond.code yX1_isAllowed prog_3_method_4_code 3 (some .boolean) ∈ gk_T := gk_in (t3k (List.mem_of_getElem? (i := 176) rfl)) rfl
theorem okX1_isAllowed : gk_Ok mX1_isAllowed 1 := ⟨⟨by decide +kernel, by decide +kernel, by decide +kernel⟩, by decide +kernel, by decide, kw_739⟩
abbrev mX1_isFilledBy : gk_M := (yX1_isFilledBy, cX1_isFilledBy, 5, (some .boolean))
theorem kw_875 : Cond.code yX1_isFilledBy prog_3_method_5_code 5 (some .boolean) ∈ gk_T := gk_in (t4k (List.mem_of_getElem? (i := 72) rfl)) rfl
theorem okX1_isFilledBy : gk_Ok mX1_isFilledBy 3 := ⟨⟨by decide +kernel, by decide +kernel, by decide +kernel⟩, by decide +kernel, by decide, kw_875⟩
abbrev mX1_spread : gk_M := (yX1_spread, cX1_spread, 5, (some .boolean))
theorem kw_600 : Cond.code yX1_spread prog_3_method_2_code 5 (some .boolean) ∈ gk_T := gk_in (t3k (List.mem_of_getElem? (i := 37) rfl)) rfl
theorem okX1_spread : gk_Ok mX1_spread 2 := ⟨⟨by decide +kernel, by decide +kernel, by decide +kernel⟩, by decide +kernel, by decide, kw_600⟩
abbrev mX1_way : gk_M := (yX1_way, cX1_way, 7, (some .int))
theorem kw_683 : Cond.code yX1_way prog_3_method_3_code 7 (some .int) ∈ gk_T := gk_in (t3k (List.mem_of_getElem? (i := 120) rfl)) rfl
theorem okX1_way : gk_Ok mX1_way 3 := ⟨⟨by decide +kernel, by decide +kernel, by decide +kernel⟩, by decide +kernel, by decide, kw_683⟩
abbrev mX2_answers : gk_M := (yX2_answers, cX2_answers, 6, (some .boolean))
theorem kw_823 : Cond.code yX2_answers prog_4_method_6_code 6 (some .boolean) ∈ gk_T := gk_in (t4k (List.mem_of_getElem? (i := 20) rfl)) rfl
theorem okX2_answers : gk_Ok mX2_answers 2 := ⟨⟨by decide +kernel, by decide +kernel, by decide +kernel⟩, by decide +kernel, by decide, kw_823⟩
abbrev mX2_findGaps : gk_M := (yX2_findGaps, cX2_findGaps, 4, none)
theorem kw_811 : Cond.code yX2_findGaps prog_4_method_4_code 4 none ∈ gk_T := gk_in (t4k (List.mem_of_getElem? (i := 8) rfl)) rfl
theorem okX2_findGaps : gk_Ok mX2_findGaps 1 := ⟨⟨by decide +kernel, by decide +kernel, by decide +kernel⟩, by decide +kernel, by decide, kw_811⟩
abbrev mX2_firstLeft : gk_M := (yX2_firstLeft, cX2_firstLeft, 5, (some .int))
theorem kw_842 : Cond.code yX2_firstLeft prog_4_method_9_code 5 (some .int) ∈ gk_T := gk_in (t4k (List.mem_of_getElem? (i := 39) rfl)) rfl
theorem okX2_firstLeft : gk_Ok mX2_firstLeft 1 := ⟨⟨by decide +kernel, by decide +kernel, by decide +kernel⟩, by decide +kernel, by decide, kw_842⟩
abbrev mX2_init : gk_M := (yX2_init, cX2_init, 4, none)
theorem kw_292 : Cond.code yX2_init prog_4_method_1_code 4 none ∈ gk_T := gk_in (t1k (List.mem_of_getElem? (i := 209) rfl)) rfl
theorem okX2_init : gk_Ok mX2_init 2 := ⟨⟨by decide +kernel, by decide +kernel, by decide +kernel⟩, by decide +kernel, by decide, kw_292⟩
abbrev mX2_isOpen : gk_M := (yX2_isOpen, cX2_isOpen, 4, (some .boolean))
theorem kw_817 : Cond.code yX2_isOpen prog_4_method_5_code 4 (some .boolean) ∈ gk_T := gk_in (t4k (List.mem_of_getElem? (i := 14) rfl)) rfl
theorem okX2_isOpen : gk_Ok mX2_isOpen 1 := ⟨⟨by decide +kernel, by decide +kernel, by decide +kernel⟩, by decide +kernel, by decide, kw_817⟩
abbrev mX2_isWon : gk_M := (yX2_isWon, cX2_isWon, 3, (some .boolean))
theorem kw_802 : Cond.code yX2_isWon prog_4_method_2_code 3 (some .boolean) ∈ gk_T := gk_in (t3k (List.mem_of_getElem? (i := 239) rfl)) rfl
theorem okX2_isWon : gk_Ok mX2_isWon 2 := ⟨⟨by decide +kernel, by decide +kernel, by decide +kernel⟩, by decide +kernel, by decide, kw_802⟩
abbrev mX2_outlives : gk_M := (yX2_outlives, cX2_outlives, 7, (some .boolean))
theorem kw_807 : Cond.code yX2_outlives prog_4_method_3_code 7 (some .boolean) ∈ gk_T := gk_in (t4k (List.mem_of_getElem? (i := 4) rfl)) rfl
theorem okX2_outlives : gk_Ok mX2_outlives 1 := ⟨⟨by decide +kernel, by decide +kernel, by decide +kernel⟩, by decide +kernel, by decide, kw_807⟩
abbrev mX2_stands : gk_M := (yX2_stands, cX2_stands, 4, (some .boolean))
theorem kw_827 : Cond.code yX2_stands prog_4_method_8_code 4 (some .boolean) ∈ gk_T := gk_in (t4k (List.mem_of_getElem? (i := 24) rfl)) rfl
theorem okX2_stands : gk_Ok mX2_stands 2 := ⟨⟨by decide +kernel, by decide +kernel, by decide +kernel⟩, by decide +kernel, by decide, kw_827⟩
abbrev mX2_strike : gk_M := (yX2_strike, cX2_strike, 6, none)
theorem kw_833 : Cond.code yX2_strike prog_4_method_7_code 6 none ∈ gk_T := gk_in (t4k (List.mem_of_getElem? (i := 30) rfl)) rfl
theorem okX2_strike : gk_Ok mX2_strike 2 := ⟨⟨by decide +kernel, by decide +kernel, by decide +kernel⟩, by decide +kernel, by decide, kw_833⟩
abbrev mX3_at : gk_M := (yX3_at, cX3_at, 3, (some .int))
theorem kw_624 : Cond.code yX3_at prog_5_method_2_code 3 (some .int) ∈ gk_T := gk_in (t3k (List.mem_of_getElem? (i := 61) rfl)) rfl
theorem okX3_at : gk_Ok mX3_at 2 := ⟨⟨by decide +kernel, by decide +kernel, by decide +kernel⟩, by decide +kernel, by decide, kw_624⟩
abbrev mX3_become : gk_M := (yX3_become, cX3_become, 3, none)
theorem kw_637 : Cond.code yX3_become prog_5_method_4_code 3 none ∈ gk_T := gk_in (t3k (List.mem_of_getElem? (i := 74) rfl)) rfl
theorem okX3_become : gk_Ok mX3_become 1 := ⟨⟨by decide +kernel, by decide +kernel, by decide +kernel⟩, by decide +kernel, by decide, kw_637⟩
abbrev mX3_gapAt : gk_M := (yX3_gapAt, cX3_gapAt, 8, (some .int))
theorem kw_655 : Cond.code yX3_gapAt prog_5_method_9_code 8 (some .int) ∈ gk_T := gk_in (t3k (List.mem_of_getElem? (i := 92) rfl)) rfl
theorem okX3_gapAt : gk_Ok mX3_gapAt 2 := ⟨⟨by decide +kernel, by decide +kernel, by decide +kernel⟩, by decide +kernel, by decide, kw_655⟩
abbrev mX3_gapNumber : gk_M := (yX3_gapNumber, cX3_gapNumber, 3, (some .int))
theorem kw_671 : Cond.code yX3_gapNumber prog_5_method_8_code 3 (some .int) ∈ gk_T := gk_in (t3k (List.mem_of_getElem? (i := 108) rfl)) rfl
theorem okX3_gapNumber : gk_Ok mX3_gapNumber 3 := ⟨⟨by decide +kernel, by decide +kernel, by decide +kernel⟩, by decide +kernel, by decide, kw_671⟩
abbrev mX3_grow : gk_M := (yX3_grow, cX3_grow, 4, none)
theorem kw_604 : Cond.code yX3_grow prog_5_method_5_code 4 none ∈ gk_T := gk_in (t3k (List.mem_of_getElem? (i := 41) rfl)) rfl
theorem okX3_grow : gk_Ok mX3_grow 2 := ⟨⟨by decide +kernel, by decide +kernel, by decide +kernel⟩, by decide +kernel, by decide, kw_604⟩
abbrev mX3_init : gk_M := (yX3_init, cX3_init, 1, none)
theorem kw_163 : Cond.code yX3_init prog_5_method_1_code 1 none ∈ gk_T := gk_in (t1k (List.mem_of_getElem? (i := 80) rfl)) rfl
theorem okX3_init : gk_Ok mX3_init 0 := ⟨⟨by decide +kernel, by decide +kernel, by decide +kernel⟩, by decide +kernel, by decide, kw_163⟩
abbrev mX3_lacks : gk_M := (yX3_lacks, cX3_lacks, 7, (some .boolean))
theorem kw_679 : Cond.code yX3_lacks prog_5_method_11_code 7 (some .boolean) ∈ gk_T := gk_in (t3k (List.mem_of_getElem? (i := 116) rfl)) rfl
theorem okX3_lacks : gk_Ok mX3_lacks 2 := ⟨⟨by decide +kernel, by decide +kernel, by decide +kernel⟩, by decide +kernel, by decide, kw_679⟩
abbrev mX3_link : gk_M := (yX3_link, cX3_link, 5, none)
theorem kw_608 : Cond.code yX3_link prog_5_method_3_code 5 none ∈ gk_T := gk_in (t3k (List.mem_of_getElem? (i := 45) rfl)) rfl
theorem okX3_link : gk_Ok mX3_link 4 := ⟨⟨by decide +kernel, by decide +kernel, by decide +kernel⟩, by decide +kernel, by decide, kw_608⟩
abbrev mX3_open : gk_M := (yX3_open, cX3_open, 8, (some .int))
theorem kw_659 : Cond.code yX3_open prog_5_method_7_code 8 (some .int) ∈ gk_T := gk_in (t3k (List.mem_of_getElem? (i := 96) rfl)) rfl
theorem okX3_open : gk_Ok mX3_open 3 := ⟨⟨by decide +kernel, by decide +kernel, by decide +kernel⟩, by decide +kernel, by decide, kw_659⟩
abbrev mX3_placeOf : gk_M := (yX3_placeOf, cX3_placeOf, 4, (some .int))
theorem kw_668 : Cond.code yX3_placeOf prog_5_method_10_code 4 (some .int) ∈ gk_T := gk_in (t3k (List.mem_of_getElem? (i := 105) rfl)) rfl
theorem okX3_placeOf : gk_Ok mX3_placeOf 2 := ⟨⟨by decide +kernel, by decide +kernel, by decide +kernel⟩, by decide +kernel, by decide, kw_668⟩
abbrev mX3_unsound : gk_M := (yX3_unsound, cX3_unsound, 5, (some .int))
theorem kw_645 : Cond.code yX3_unsound prog_5_method_6_code 5 (some .int) ∈ gk_T := gk_in (t3k (List.mem_of_getElem? (i := 82) rfl)) rfl
theorem okX3_unsound : gk_Ok mX3_unsound 1 := ⟨⟨by decide +kernel, by decide +kernel, by decide +kernel⟩, by decide +kernel, by decide, kw_645⟩
abbrev mX4_clash : gk_M := (yX4_clash, cX4_clash, 5, (some .int))
theorem kw_717 : Cond.code yX4_clash prog_6_method_5_code 5 (some .int) ∈ gk_T := gk_in (t3k (List.mem_of_getElem? (i := 154) rfl)) rfl
theorem okX4_clash : gk_Ok mX4_clash 1 := ⟨⟨by decide +kernel, by decide +kernel, by decide +kernel⟩, by decide +kernel, by decide, kw_717⟩
abbrev mX4_init : gk_M := (yX4_init, cX4_init, 2, none)
theorem kw_205 : Cond.code yX4_init prog_6_method_1_code 2 none ∈ gk_T := gk_in (t1k (List.mem_of_getElem? (i := 122) rfl)) rfl
theorem okX4_init : gk_Ok mX4_init 1 := ⟨⟨by decide +kernel, by decide +kernel, by decide +kernel⟩, by decide +kernel, by decide, kw_205⟩
abbrev mX4_isBarred : gk_M := (yX4_isBarred, cX4_isBarred, 3, (some .boolean))
theorem kw_744 : Cond.code yX4_isBarred prog_6_method_3_code 3 (some .boolean) ∈ gk_T := gk_in (t3k (List.mem_of_getElem? (i := 181) rfl)) rfl
theorem okX4_isBarred : gk_Ok mX4_isBarred 1 := ⟨⟨by decide +kernel, by decide +kernel, by decide +kernel⟩, by decide +kernel, by decide, kw_744⟩
abbrev mX4_look : gk_M := (yX4_look, cX4_look, 3, none)
theorem kw_748 : Cond.code yX4_look prog_6_method_4_code 3 none ∈ gk_T := gk_in (t3k (List.mem_of_getElem? (i := 185) rfl)) rfl
theorem okX4_look : gk_Ok mX4_look 2 := ⟨⟨by decide +kernel, by decide +kernel, by decide +kernel⟩, by decide +kernel, by decide, kw_748⟩
abbrev mX4_way : gk_M := (yX4_way, cX4_way, 7, (some .int))
theorem kw_774 : Cond.code yX4_way prog_6_method_2_code 7 (some .int) ∈ gk_T := gk_in (t3k (List.mem_of_getElem? (i := 211) rfl)) rfl
theorem okX4_way : gk_Ok mX4_way 3 := ⟨⟨by decide +kernel, by decide +kernel, by decide +kernel⟩, by decide +kernel, by decide, kw_774⟩
abbrev mX5_clash : gk_M := (yX5_clash, cX5_clash, 5, (some .int))
theorem kw_720 : Cond.code yX5_clash prog_7_method_7_code 5 (some .int) ∈ gk_T := gk_in (t3k (List.mem_of_getElem? (i := 157) rfl)) rfl
theorem okX5_clash : gk_Ok mX5_clash 1 := ⟨⟨by decide +kernel, by decide +kernel, by decide +kernel⟩, by decide +kernel, by decide, kw_720⟩
abbrev mX5_goes : gk_M := (yX5_goes, cX5_goes, 5, (some .boolean))
theorem kw_724 : Cond.code yX5_goes prog_7_method_8_code 5 (some .boolean) ∈ gk_T := gk_in (t3k (List.mem_of_getElem? (i := 161) rfl)) rfl
theorem okX5_goes : gk_Ok mX5_goes 1 := ⟨⟨by decide +kernel, by decide +kernel, by decide +kernel⟩, by decide +kernel, by decide, kw_724⟩
abbrev mX5_init : gk_M := (yX5_init, cX5_init, 2, none)
theorem kw_353 : Cond.code yX5_init prog_7_method_1_code 2 none ∈ gk_T := gk_in (t2k (List.mem_of_getElem? (i := 30) rfl)) rfl
theorem okX5_init : gk_Ok mX5_init 1 := ⟨⟨by decide +kernel, by decide +kernel, by decide +kernel⟩, by decide +kernel, by decide, kw_353⟩
abbrev mX5_isFull : gk_M := (yX5_isFull, cX5_isFull, 3, (some .boolean))
theorem kw_919 : Cond.code yX5_isFull prog_7_method_3_code 3 (some .boolean) ∈ gk_T := gk_in (t4k (List.mem_of_getElem? (i := 116) rfl)) rfl
theorem okX5_isFull : gk_Ok mX5_isFull 0 := ⟨⟨by decide +kernel, by decide +kernel, by decide +kernel⟩, by decide +kernel, by decide, kw_919⟩
abbrev mX5_misfit : gk_M := (yX5_misfit, cX5_misfit, 4, (some .int))
theorem kw_932 : Cond.code yX5_misfit prog_7_method_5_code 4 (some .int) ∈ gk_T := gk_in (t4k (List.mem_of_getElem? (i := 129) rfl)) rfl
theorem okX5_misfit : gk_Ok mX5_misfit 0 := ⟨⟨by decide +kernel, by decide +kernel, by decide +kernel⟩, by decide +kernel, by decide, kw_932⟩
abbrev mX5_readDue : gk_M := (yX5_readDue, cX5_readDue, 2, none)
theorem kw_924 : Cond.code yX5_readDue prog_7_method_4_code 2 none ∈ gk_T := gk_in (t4k (List.mem_of_getElem? (i := 121) rfl)) rfl
theorem okX5_readDue : gk_Ok mX5_readDue 0 := ⟨⟨by decide +kernel, by decide +kernel, by decide +kernel⟩, by decide +kernel, by decide, kw_924⟩
abbrev mX5_search : gk_M := (yX5_search, cX5_search, 4, (some .int))
theorem kw_940 : Cond.code yX5_search prog_7_method_6_code 4 (some .int) ∈ gk_T := gk_in (t4k (List.mem_of_getElem? (i := 137) rfl)) rfl
theorem okX5_search : gk_Ok mX5_search 0 := ⟨⟨by decide +kernel, by decide +kernel, by decide +kernel⟩, by decide +kernel, by decide, kw_940⟩
abbrev mX5_verdict : gk_M := (yX5_verdict, cX5_verdict, 7, (some .int))
theorem kw_915 : Cond.code yX5_verdict prog_7_method_2_code 7 (some .int) ∈ gk_T := gk_in (t4k (List.mem_of_getElem? (i := 112) rfl)) rfl
theorem okX5_verdict : gk_Ok mX5_verdict 3 := ⟨⟨by decide +kernel, by decide +kernel, by decide +kernel⟩, by decide +kernel, by decide, kw_915⟩
abbrev mX6_clash : gk_M := (yX6_clash, cX6_clash, 4, (some .int))
theorem kw_728 : Cond.code yX6_clash prog_8_method_3_code 4 (some .int) ∈ gk_T := gk_in (t3k (List.mem_of_getElem? (i := 165) rfl)) rfl
theorem okX6_clash : gk_Ok mX6_clash 1 := ⟨⟨by decide +kernel, by decide +kernel, by decide +kernel⟩, by decide +kernel, by decide, kw_728⟩
abbrev mX6_init : gk_M := (yX6_init, cX6_init, 3, none)
theorem kw_258 : Cond.code yX6_init prog_8_method_1_code 3 none ∈ gk_T := gk_in (t1k (List.mem_of_getElem? (i := 175) rfl)) rfl
theorem okX6_init : gk_Ok mX6_init 2 := ⟨⟨by decide +kernel, by decide +kernel, by decide +kernel⟩, by decide +kernel, by decide, kw_258⟩
abbrev mX6_spanAll : gk_M := (yX6_spanAll, cX6_spanAll, 1, none)
theorem kw_688 : Cond.code yX6_spanAll prog_8_method_2_code 1 none ∈ gk_T := gk_in (t3k (List.mem_of_getElem? (i := 125) rfl)) rfl
theorem okX6_spanAll : gk_Ok mX6_spanAll 0 := ⟨⟨by decide +kernel, by decide +kernel, by decide +kernel⟩, by decide +kernel, by decide, kw_688⟩
abbrev mX7_become : gk_M := (yX7_become, cX7_become, 3, none)
theorem kw_1111 : Cond.code yX7_become prog_9_method_3_code 3 none ∈ gk_T := gk_in (t5k (List.mem_of_getElem? (i := 68) rfl)) rfl
theorem okX7_become : gk_Ok mX7_become 1 := ⟨⟨by decide +kernel, by decide +kernel, by decide +kernel⟩, by decide +kernel, by decide, kw_1111⟩
abbrev mX7_clearNets : gk_M := (yX7_clearNets, cX7_clearNets, 2, none)
theorem kw_439 : Cond.code yX7_clearNets prog_9_method_2_code 2 none ∈ gk_T := gk_in (t2k (List.mem_of_getElem? (i := 116) rfl)) rfl
theorem okX7_clearNets : gk_Ok mX7_clearNets 0 := ⟨⟨by decide +kernel, by decide +kernel, by decide +kernel⟩, by decide +kernel, by decide, kw_439⟩
abbrev mX7_init : gk_M := (yX7_init, cX7_init, 2, none)
theorem kw_116 : Cond.code yX7_init prog_9_method_1_code 2 none ∈ gk_T := gk_in (t1k (List.mem_of_getElem? (i := 33) rfl)) rfl
theorem okX7_init : gk_Ok mX7_init 0 := ⟨⟨by decide +kernel, by decide +kernel, by decide +kernel⟩, by decide +kernel, by decide, kw_116⟩
abbrev mX8_become : gk_M := (yX8_become, cX8_become, 3, none)
theorem kw_1115 : Cond.code yX8_become prog_10_method_3_code 3 none ∈ gk_T := gk_in (t5k (List.mem_of_getElem? (i := 72) rfl)) rfl
theorem okX8_become : gk_Ok mX8_become 1 := ⟨⟨by decide +kernel, by decide +kernel, by decide +kernel⟩, by decide +kernel, by decide, kw_1115⟩
abbrev mX8_bit : gk_M := (yX8_bit, cX8_bit, 3, (some .long))
theorem kw_134 : Cond.code yX8_bit prog_10_method_8_code 3 (some .long) ∈ gk_T := gk_in (t1k (List.mem_of_getElem? (i := 51) rfl)) rfl
theorem okX8_bit : gk_Ok mX8_bit 3 := ⟨⟨by decide +kernel, by decide +kernel, by decide +kernel⟩, by decide +kernel, by decide, kw_134⟩
abbrev mX8_couple : gk_M := (yX8_couple, cX8_couple, 3, none)
theorem kw_451 : Cond.code yX8_couple prog_10_method_4_code 3 none ∈ gk_T := gk_in (t2k (List.mem_of_getElem? (i := 128) rfl)) rfl
theorem okX8_couple : gk_Ok mX8_couple 2 := ⟨⟨by decide +kernel, by decide +kernel, by decide +kernel⟩, by decide +kernel, by decide, kw_451⟩
abbrev mX8_coupled : gk_M := (yX8_coupled, cX8_coupled, 3, (some .int))
theorem kw_459 : Cond.code yX8_coupled prog_10_method_7_code 3 (some .int) ∈ gk_T := gk_in (t2k (List.mem_of_getElem? (i := 136) rfl)) rfl
theorem okX8_coupled : gk_Ok mX8_coupled 0 := ⟨⟨by decide +kernel, by decide +kernel, by decide +kernel⟩, by decide +kernel, by decide, kw_459⟩
abbrev mX8_cycleFacts : gk_M := (yX8_cycleFacts, cX8_cycleFacts, 8, (some .int))
theorem kw_581 : Cond.code yX8_cycleFacts prog_10_method_24_code 8 (some .int) ∈ gk_T := gk_in (t3k (List.mem_of_getElem? (i := 18) rfl)) rfl
theorem okX8_cycleFacts : gk_Ok mX8_cycleFacts 1 := ⟨⟨by decide +kernel, by decide +kernel, by decide +kernel⟩, by decide +kernel, by decide, kw_581⟩
abbrev mX8_free : gk_M := (yX8_free, cX8_free, 3, none)
theorem kw_455 : Cond.code yX8_free prog_10_method_5_code 3 none ∈ gk_T := gk_in (t2k (List.mem_of_getElem? (i := 132) rfl)) rfl
theorem okX8_free : gk_Ok mX8_free 1 := ⟨⟨by decide +kernel, by decide +kernel, by decide +kernel⟩, by decide +kernel, by decide, kw_455⟩
abbrev mX8_has : gk_M := (yX8_has, cX8_has, 4, (some .boolean))
theorem kw_506 : Cond.code yX8_has prog_10_method_9_code 4 (some .boolean) ∈ gk_T := gk_in (t2k (List.mem_of_getElem? (i := 183) rfl)) rfl
theorem okX8_has : gk_Ok mX8_has 3 := ⟨⟨by decide +kernel, by decide +kernel, by decide +kernel⟩, by decide +kernel, by decide, kw_506⟩
abbrev mX8_init : gk_M := (yX8_init, cX8_init, 1, none)
theorem kw_122 : Cond.code yX8_init prog_10_method_1_code 1 none ∈ gk_T := gk_in (t1k (List.mem_of_getElem? (i := 39) rfl)) rfl
theorem okX8_init : gk_Ok mX8_init 0 := ⟨⟨by decide +kernel, by decide +kernel, by decide +kernel⟩, by decide +kernel, by decide, kw_122⟩
abbrev mX8_isEquivalence : gk_M := (yX8_isEquivalence, cX8_isEquivalence, 2, (some .boolean))
theorem kw_547 : Cond.code yX8_isEquivalence prog_10_method_18_code 2 (some .boolean) ∈ gk_T := gk_in (t2k (List.mem_of_getElem? (i := 224) rfl)) rfl
theorem okX8_isEquivalence : gk_Ok mX8_isEquivalence 1 := ⟨⟨by decide +kernel, by decide +kernel, by decide +kernel⟩, by decide +kernel, by decide, kw_547⟩
abbrev mX8_isLeastTurn : gk_M := (yX8_isLeastTurn, cX8_isLeastTurn, 6, (some .boolean))
theorem kw_585 : Cond.code yX8_isLeastTurn prog_10_method_23_code 6 (some .boolean) ∈ gk_T := gk_in (t3k (List.mem_of_getElem? (i := 22) rfl)) rfl
theorem okX8_isLeastTurn : gk_Ok mX8_isLeastTurn 3 := ⟨⟨by decide +kernel, by decide +kernel, by decide +kernel⟩, by decide +kernel, by decide, kw_585⟩
abbrev mX8_isUnbalanced : gk_M := (yX8_isUnbalanced, cX8_isUnbalanced, 5, (some .boolean))
theorem kw_568 : Cond.code yX8_isUnbalanced prog_10_method_20_code 5 (some .boolean) ∈ gk_T := gk_in (t3k (List.mem_of_getElem? (i := 5) rfl)) rfl
theorem okX8_isUnbalanced : gk_Ok mX8_isUnbalanced 3 := ⟨⟨by decide +kernel, by decide +kernel, by decide +kernel⟩, by decide +kernel, by decide, kw_568⟩
abbrev mX8_keepFixed : gk_M := (yX8_keepFixed, cX8_keepFixed, 2, none)
theorem kw_131 : Cond.code yX8_keepFixed prog_10_method_6_code 2 none ∈ gk_T := gk_in (t1k (List.mem_of_getElem? (i := 48) rfl)) rfl
theorem okX8_keepFixed : gk_Ok mX8_keepFixed 0 := ⟨⟨by decide +kernel, by decide +kernel, by decide +kernel⟩, by decide +kernel, by decide, kw_131⟩
abbrev mX8_mark : gk_M := (yX8_mark, cX8_mark, 9, (some .int))
theorem kw_487 : Cond.code yX8_mark prog_10_method_11_code 9 (some .int) ∈ gk_T := gk_in (t2k (List.mem_of_getElem? (i := 164) rfl)) rfl
theorem okX8_mark : gk_Ok mX8_mark 4 := ⟨⟨by decide +kernel, by decide +kernel, by decide +kernel⟩, by decide +kernel, by decide, kw_487⟩
abbrev mX8_mirrored : gk_M := (yX8_mirrored, cX8_mirrored, 4, (some .int))
theorem kw_475 : Cond.code yX8_mirrored prog_10_method_13_code 4 (some .int) ∈ gk_T := gk_in (t2k (List.mem_of_getElem? (i := 152) rfl)) rfl
theorem okX8_mirrored : gk_Ok mX8_mirrored 1 := ⟨⟨by decide +kernel, by decide +kernel, by decide +kernel⟩, by decide +kernel, by decide, kw_475⟩
abbrev mX8_pairsInto : gk_M := (yX8_pairsInto, cX8_pairsInto, 5, (some .int))
theorem kw_928 : Cond.code yX8_pairsInto prog_10_method_25_code 5 (some .int) ∈ gk_T := gk_in (t4k (List.mem_of_getElem? (i := 125) rfl)) rfl
theorem okX8_pairsInto : gk_Ok mX8_pairsInto 1 := ⟨⟨by decide +kernel, by decide +kernel, by decide +kernel⟩, by decide +kernel, by decide, kw_928⟩
abbrev mX8_powers : gk_M := (yX8_powers, cX8_powers, 8, (some .int))
theorem kw_538 : Cond.code yX8_powers prog_10_method_17_code 8 (some .int) ∈ gk_T := gk_in (t2k (List.mem_of_getElem? (i := 215) rfl)) rfl
theorem okX8_powers : gk_Ok mX8_powers 2 := ⟨⟨by decide +kernel, by decide +kernel, by decide +kernel⟩, by decide +kernel, by decide, kw_538⟩
abbrev mX8_product : gk_M := (yX8_product, cX8_product, 6, (some .int))
theorem kw_514 : Cond.code yX8_product prog_10_method_14_code 6 (some .int) ∈ gk_T := gk_in (t2k (List.mem_of_getElem? (i := 191) rfl)) rfl
theorem okX8_product : gk_Ok mX8_product 2 := ⟨⟨by decide +kernel, by decide +kernel, by decide +kernel⟩, by decide +kernel, by decide, kw_514⟩
abbrev mX8_relations : gk_M := (yX8_relations, cX8_relations, 1, (some .int))
theorem kw_471 : Cond.code yX8_relations prog_10_method_12_code 1 (some .int) ∈ gk_T := gk_in (t2k (List.mem_of_getElem? (i := 148) rfl)) rfl
theorem okX8_relations : gk_Ok mX8_relations 0 := ⟨⟨by decide +kernel, by decide +kernel, by decide +kernel⟩, by decide +kernel, by decide, kw_471⟩
abbrev mX8_residual : gk_M := (yX8_residual, cX8_residual, 6, (some .int))
theorem kw_525 : Cond.code yX8_residual prog_10_method_16_code 6 (some .int) ∈ gk_T := gk_in (t2k (List.mem_of_getElem? (i := 202) rfl)) rfl
theorem okX8_residual : gk_Ok mX8_residual 3 := ⟨⟨by decide +kernel, by decide +kernel, by decide +kernel⟩, by decide +kernel, by decide, kw_525⟩
abbrev mX8_restart : gk_M := (yX8_restart, cX8_restart, 3, none)
theorem kw_127 : Cond.code yX8_restart prog_10_method_2_code 3 none ∈ gk_T := gk_in (t1k (List.mem_of_getElem? (i := 44) rfl)) rfl
theorem okX8_restart : gk_Ok mX8_restart 1 := ⟨⟨by decide +kernel, by decide +kernel, by decide +kernel⟩, by decide +kernel, by decide, kw_127⟩
abbrev mX8_sided : gk_M := (yX8_sided, cX8_sided, 4, (some .int))
theorem kw_529 : Cond.code yX8_sided prog_10_method_15_code 4 (some .int) ∈ gk_T := gk_in (t2k (List.mem_of_getElem? (i := 206) rfl)) rfl
theorem okX8_sided : gk_Ok mX8_sided 3 := ⟨⟨by decide +kernel, by decide +kernel, by decide +kernel⟩, by decide +kernel, by decide, kw_529⟩
abbrev mX8_solutions : gk_M := (yX8_solutions, cX8_solutions, 9, (some .int))
theorem kw_556 : Cond.code yX8_solutions prog_10_method_19_code 9 (some .int) ∈ gk_T := gk_in (t2k (List.mem_of_getElem? (i := 233) rfl)) rfl
theorem okX8_solutions : gk_Ok mX8_solutions 4 := ⟨⟨by decide +kernel, by decide +kernel, by decide +kernel⟩, by decide +kernel, by decide, kw_556⟩
abbrev mX8_thin : gk_M := (yX8_thin, cX8_thin, 5, (some .int))
theorem kw_572 : Cond.code yX8_thin prog_10_method_22_code 5 (some .int) ∈ gk_T := gk_in (t3k (List.mem_of_getElem? (i := 9) rfl)) rfl
theorem okX8_thin : gk_Ok mX8_thin 1 := ⟨⟨by decide +kernel, by decide +kernel, by decide +kernel⟩, by decide +kernel, by decide, kw_572⟩
abbrev mX8_turns : gk_M := (yX8_turns, cX8_turns, 7, (some .long))
theorem kw_491 : Cond.code yX8_turns prog_10_method_10_code 7 (some .long) ∈ gk_T := gk_in (t2k (List.mem_of_getElem? (i := 168) rfl)) rfl
theorem okX8_turns : gk_Ok mX8_turns 3 := ⟨⟨by decide +kernel, by decide +kernel, by decide +kernel⟩, by decide +kernel, by decide, kw_491⟩
abbrev mX8_unbalanced : gk_M := (yX8_unbalanced, cX8_unbalanced, 6, (some .int))
theorem kw_564 : Cond.code yX8_unbalanced prog_10_method_21_code 6 (some .int) ∈ gk_T := gk_in (t3k (List.mem_of_getElem? (i := 1) rfl)) rfl
theorem okX8_unbalanced : gk_Ok mX8_unbalanced 1 := ⟨⟨by decide +kernel, by decide +kernel, by decide +kernel⟩, by decide +kernel, by decide, kw_564⟩
abbrev mX9_append : gk_M := (yX9_append, cX9_append, 2, none)
theorem kw_972 : Cond.code yX9_append prog_11_method_2_code 2 none ∈ gk_T := gk_in (t4k (List.mem_of_getElem? (i := 169) rfl)) rfl
theorem okX9_append : gk_Ok mX9_append 1 := ⟨⟨by decide +kernel, by decide +kernel, by decide +kernel⟩, by decide +kernel, by decide, kw_972⟩
abbrev mX9_faultPlace : gk_M := (yX9_faultPlace, cX9_faultPlace, 7, (some .int))
theorem kw_984 : Cond.code yX9_faultPlace prog_11_method_3_code 7 (some .int) ∈ gk_T := gk_in (t4k (List.mem_of_getElem? (i := 181) rfl)) rfl
theorem okX9_faultPlace : gk_Ok mX9_faultPlace 0 := ⟨⟨by decide +kernel, by decide +kernel, by decide +kernel⟩, by decide +kernel, by decide, kw_984⟩
abbrev mX9_figure : gk_M := (yX9_figure, cX9_figure, 2, (some .int))
theorem kw_1074 : Cond.code yX9_figure prog_11_method_10_code 2 (some .int) ∈ gk_T := gk_in (t5k (List.mem_of_getElem? (i := 31) rfl)) rfl
theorem okX9_figure : gk_Ok mX9_figure 1 := ⟨⟨by decide +kernel, by decide +kernel, by decide +kernel⟩, by decide +kernel, by decide, kw_1074⟩
abbrev mX9_figuresOf : gk_M := (yX9_figuresOf, cX9_figuresOf, 2, (some .int))
theorem kw_1052 : Cond.code yX9_figuresOf prog_11_method_9_code 2 (some .int) ∈ gk_T := gk_in (t5k (List.mem_of_getElem? (i := 9) rfl)) rfl
theorem okX9_figuresOf : gk_Ok mX9_figuresOf 1 := ⟨⟨by decide +kernel, by decide +kernel, by decide +kernel⟩, by decide +kernel, by decide, kw_1052⟩
abbrev mX9_goodFigures : gk_M := (yX9_goodFigures, cX9_goodFigures, 4, (some .int))
theorem kw_1056 : Cond.code yX9_goodFigures prog_11_method_4_code 4 (some .int) ∈ gk_T := gk_in (t5k (List.mem_of_getElem? (i := 13) rfl)) rfl
theorem okX9_goodFigures : gk_Ok mX9_goodFigures 2 := ⟨⟨by decide +kernel, by decide +kernel, by decide +kernel⟩, by decide +kernel, by decide, kw_1056⟩
abbrev mX9_init : gk_M := (yX9_init, cX9_init, 1, none)
theorem kw_377 : Cond.code yX9_init prog_11_method_1_code 1 none ∈ gk_T := gk_in (t2k (List.mem_of_getElem? (i := 54) rfl)) rfl
theorem okX9_init : gk_Ok mX9_init 0 := ⟨⟨by decide +kernel, by decide +kernel, by decide +kernel⟩, by decide +kernel, by decide, kw_377⟩
abbrev mX9_isDue : gk_M := (yX9_isDue, cX9_isDue, 4, (some .boolean))
theorem kw_1060 : Cond.code yX9_isDue prog_11_method_5_code 4 (some .boolean) ∈ gk_T := gk_in (t5k (List.mem_of_getElem? (i := 17) rfl)) rfl
theorem okX9_isDue : gk_Ok mX9_isDue 2 := ⟨⟨by decide +kernel, by decide +kernel, by decide +kernel⟩, by decide +kernel, by decide, kw_1060⟩
abbrev mX9_isWord : gk_M := (yX9_isWord, cX9_isWord, 5, (some .boolean))
theorem kw_997 : Cond.code yX9_isWord prog_11_method_8_code 5 (some .boolean) ∈ gk_T := gk_in (t4k (List.mem_of_getElem? (i := 194) rfl)) rfl
theorem okX9_isWord : gk_Ok mX9_isWord 3 := ⟨⟨by decide +kernel, by decide +kernel, by decide +kernel⟩, by decide +kernel, by decide, kw_997⟩
abbrev mX9_spell : gk_M := (yX9_spell, cX9_spell, 5, none)
theorem kw_1086 : Cond.code yX9_spell prog_11_method_11_code 5 none ∈ gk_T := gk_in (t5k (List.mem_of_getElem? (i := 43) rfl)) rfl
theorem okX9_spell : gk_Ok mX9_spell 1 := ⟨⟨by decide +kernel, by decide +kernel, by decide +kernel⟩, by decide +kernel, by decide, kw_1086⟩
abbrev mX9_wordEnd : gk_M := (yX9_wordEnd, cX9_wordEnd, 3, (some .int))
theorem kw_988 : Cond.code yX9_wordEnd prog_11_method_6_code 3 (some .int) ∈ gk_T := gk_in (t4k (List.mem_of_getElem? (i := 185) rfl)) rfl
theorem okX9_wordEnd : gk_Ok mX9_wordEnd 1 := ⟨⟨by decide +kernel, by decide +kernel, by decide +kernel⟩, by decide +kernel, by decide, kw_988⟩
abbrev mX9_wordKind : gk_M := (yX9_wordKind, cX9_wordKind, 3, (some .int))
theorem kw_992 : Cond.code yX9_wordKind prog_11_method_7_code 3 (some .int) ∈ gk_T := gk_in (t4k (List.mem_of_getElem? (i := 189) rfl)) rfl
theorem okX9_wordKind : gk_Ok mX9_wordKind 2 := ⟨⟨by decide +kernel, by decide +kernel, by decide +kernel⟩, by decide +kernel, by decide, kw_992⟩
abbrev mX9_writeFigure : gk_M := (yX9_writeFigure, cX9_writeFigure, 2, none)
theorem kw_1095 : Cond.code yX9_writeFigure prog_11_method_14_code 2 none ∈ gk_T := gk_in (t5k (List.mem_of_getElem? (i := 52) rfl)) rfl
theorem okX9_writeFigure : gk_Ok mX9_writeFigure 1 := ⟨⟨by decide +kernel, by decide +kernel, by decide +kernel⟩, by decide +kernel, by decide, kw_1095⟩
abbrev mX9_writeThree : gk_M := (yX9_writeThree, cX9_writeThree, 4, none)
theorem kw_1102 : Cond.code yX9_writeThree prog_11_method_12_code 4 none ∈ gk_T := gk_in (t5k (List.mem_of_getElem? (i := 59) rfl)) rfl
theorem okX9_writeThree : gk_Ok mX9_writeThree 3 := ⟨⟨by decide +kernel, by decide +kernel, by decide +kernel⟩, by decide +kernel, by decide, kw_1102⟩
abbrev mX9_writeWord : gk_M := (yX9_writeWord, cX9_writeWord, 3, none)
theorem kw_1090 : Cond.code yX9_writeWord prog_11_method_13_code 3 none ∈ gk_T := gk_in (t5k (List.mem_of_getElem? (i := 47) rfl)) rfl
theorem okX9_writeWord : gk_Ok mX9_writeWord 1 := ⟨⟨by decide +kernel, by decide +kernel, by decide +kernel⟩, by decide +kernel, by decide, kw_1090⟩
abbrev mL_law : gk_M := (x, code, 4, some .boolean)
theorem kw_390 : Cond.fieldLink "AtomTables" 12 "AtomTables" "now" "LAtomTables$Sheet;" ∈ gk_T := gk_in (t2k (List.mem_of_getElem? (i := 67) rfl)) rfl
theorem fX11_12_10 : gk_Fg RX11 12 10 0 := ⟨RX11, TX11, 12, "AtomTables", gclX11, by decide, kw_390, Or.inl rfl⟩
theorem fX11_12_10w : gk_Fl RX11 12 10 0 (tyX11 0) true := ⟨RX11, TX11, 12, "AtomTables", gclX11, by decide, kw_390, Or.inl rfl, tyX11_ok 0 (by decide), rfl, fun _ => rfl⟩
theorem kw_391 : Cond.fieldLink "AtomTables" 18 "AtomTables" "kept" "LAtomTables$Sheet;" ∈ gk_T := gk_in (t2k (List.mem_of_getElem? (i := 68) rfl)) rfl
theorem fX11_18_10 : gk_Fg RX11 18 10 1 := ⟨RX11, TX11, 12, "AtomTables", gclX11, by decide, kw_391, Or.inl rfl⟩
theorem fX11_18_10w : gk_Fl RX11 18 10 1 (tyX11 1) true := ⟨RX11, TX11, 12, "AtomTables", gclX11, by decide, kw_391, Or.inl rfl, tyX11_ok 1 (by decide), rfl, fun _ => rfl⟩
theorem kw_392 : Cond.fieldLink "AtomTables" 21 "AtomTables" "taken" "Z" ∈ gk_T := gk_in (t2k (List.mem_of_getElem? (i := 69) rfl)) rfl
theorem fX11_21_10 : gk_Fg RX11 21 10 2 := ⟨RX11, TX11, 12, "AtomTables", gclX11, by decide, kw_392, Or.inl rfl⟩
theorem fX11_21_10w : gk_Fl RX11 21 10 2 (tyX11 2) false := ⟨RX11, TX11, 12, "AtomTables", gclX11, by decide, kw_392, Or.inl rfl, tyX11_ok 2 (by decide), rfl, fun q => by cases q⟩
theorem kw_393 : Cond.fieldLink "AtomTables" 30 "AtomTables" "patterns" "LAtomTables$Patterns;" ∈ gk_T := gk_in (t2k (List.mem_of_getElem? (i := 70) rfl)) rfl
theorem fX11_30_10 : gk_Fg RX11 30 10 3 := ⟨RX11, TX11, 12, "AtomTables", gclX11, by decide, kw_393, Or.inl rfl⟩
theorem fX11_30_10w : gk_Fl RX11 30 10 3 (tyX11 3) true := ⟨RX11, TX11, 12, "AtomTables", gclX11, by decide, kw_393, Or.inl rfl, tyX11_ok 3 (by decide), rfl, fun _ => rfl⟩
theorem kw_394 : Cond.fieldLink "AtomTables" 39 "AtomTables" "filler" "LAtomTables$Filler;" ∈ gk_T := gk_in (t2k (List.mem_of_getElem? (i := 71) rfl)) rfl
theorem fX11_39_10 : gk_Fg RX11 39 10 4 := ⟨RX11, TX11, 12, "AtomTables", gclX11, by decide, kw_394, Or.inl rfl⟩
theorem fX11_39_10w : gk_Fl RX11 39 10 4 (tyX11 4) true := ⟨RX11, TX11, 12, "AtomTables", gclX11, by decide, kw_394, Or.inl rfl, tyX11_ok 4 (by decide), rfl, fun _ => rfl⟩
theorem kw_395 : Cond.fieldLink "AtomTables" 46 "AtomTables" "game" "LAtomTables$Game;" ∈ gk_T := gk_in (t2k (List.mem_of_getElem? (i := 72) rfl)) rfl
theorem fX11_46_10 : gk_Fg RX11 46 10 5 := ⟨RX11, TX11, 12, "AtomTables", gclX11, by decide, kw_395, Or.inl rfl⟩
theorem fX11_46_10w : gk_Fl RX11 46 10 5 (tyX11 5) true := ⟨RX11, TX11, 12, "AtomTables", gclX11, by decide, kw_395, Or.inl rfl, tyX11_ok 5 (by decide), rfl, fun _ => rfl⟩
theorem kw_183 : Cond.fieldLink "AtomTables" 52 "AtomTables$Sheet" "table" "LAtomTables$Table;" ∈ gk_T := gk_in (t1k (List.mem_of_getElem? (i := 100) rfl)) rfl
theorem fX11_52_7 : gk_Fg RX11 52 7 0 := ⟨RX7, TX7, 4, "AtomTables$Sheet", gclX7, by decide, kw_183, Or.inl rfl⟩
theorem kw_396 : Cond.fieldLink "AtomTables" 59 "AtomTables" "desk" "LAtomTables$Board;" ∈ gk_T := gk_in (t2k (List.mem_of_getElem? (i := 73) rfl)) rfl
theorem fX11_59_10 : gk_Fg RX11 59 10 6 := ⟨RX11, TX11, 12, "AtomTables", gclX11, by decide, kw_396, Or.inl rfl⟩
theorem fX11_59_10w : gk_Fl RX11 59 10 6 (tyX11 6) true := ⟨RX11, TX11, 12, "AtomTables", gclX11, by decide, kw_396, Or.inl rfl, tyX11_ok 6 (by decide), rfl, fun _ => rfl⟩
theorem kw_397 : Cond.fieldLink "AtomTables" 66 "AtomTables" "pictures" "LAtomTables$Pictures;" ∈ gk_T := gk_in (t2k (List.mem_of_getElem? (i := 74) rfl)) rfl
theorem fX11_66_10 : gk_Fg RX11 66 10 7 := ⟨RX11, TX11, 12, "AtomTables", gclX11, by decide, kw_397, Or.inl rfl⟩
theorem fX11_66_10w : gk_Fl RX11 66 10 7 (tyX11 7) true := ⟨RX11, TX11, 12, "AtomTables", gclX11, by decide, kw_397, Or.inl rfl, tyX11_ok 7 (by decide), rfl, fun _ => rfl⟩
theorem kw_398 : Cond.fieldLink "AtomTables" 70 "AtomTables" "sizes" "[I" ∈ gk_T := gk_in (t2k (List.mem_of_getElem? (i := 75) rfl)) rfl
theorem fX11_70_10 : gk_Fg RX11 70 10 8 := ⟨RX11, TX11, 12, "AtomTables", gclX11, by decide, kw_398, Or.inl rfl⟩
theorem fX11_70_10w : gk_Fl RX11 70 10 8 (tyX11 8) true := ⟨RX11, TX11, 12, "AtomTables", gclX11, by decide, kw_398, Or.inl rfl, tyX11_ok 8 (by decide), rfl, fun _ => rfl⟩
theorem kw_399 : Cond.fieldLink "AtomTables" 74 "AtomTables" "longs" "[J" ∈ gk_T := gk_in (t2k (List.mem_of_getElem? (i := 76) rfl)) rfl
theorem fX11_74_10 : gk_Fg RX11 74 10 9 := ⟨RX11, TX11, 12, "AtomTables", gclX11, by decide, kw_399, Or.inl rfl⟩
theorem fX11_74_10w : gk_Fl RX11 74 10 9 (tyX11 9) true := ⟨RX11, TX11, 12, "AtomTables", gclX11, by decide, kw_399, Or.inl rfl, tyX11_ok 9 (by decide), rfl, fun _ => rfl⟩
theorem kw_400 : Cond.fieldLink "AtomTables" 81 "AtomTables" "tape" "LAtomTables$Tape;" ∈ gk_T := gk_in (t2k (List.mem_of_getElem? (i := 77) rfl)) rfl
theorem fX11_81_10 : gk_Fg RX11 81 10 10 := ⟨RX11, TX11, 12, "AtomTables", gclX11, by decide, kw_400, Or.inl rfl⟩
theorem fX11_81_10w : gk_Fl RX11 81 10 10 (tyX11 10) true := ⟨RX11, TX11, 12, "AtomTables", gclX11, by decide, kw_400, Or.inl rfl, tyX11_ok 10 (by decide), rfl, fun _ => rfl⟩
theorem kw_401 : Cond.fieldLink "AtomTables" 85 "AtomTables" "spelling" "LAtomTables$Tape;" ∈ gk_T := gk_in (t2k (List.mem_of_getElem? (i := 78) rfl)) rfl
theorem fX11_85_10 : gk_Fg RX11 85 10 11 := ⟨RX11, TX11, 12, "AtomTables", gclX11, by decide, kw_401, Or.inl rfl⟩
theorem fX11_85_10w : gk_Fl RX11 85 10 11 (tyX11 11) true := ⟨RX11, TX11, 12, "AtomTables", gclX11, by decide, kw_401, Or.inl rfl, tyX11_ok 11 (by decide), rfl, fun _ => rfl⟩
theorem kw_137 : Cond.fieldLink "AtomTables" 88 "AtomTables$Table" "size" "I" ∈ gk_T := gk_in (t1k (List.mem_of_getElem? (i := 54) rfl)) rfl
theorem fX11_88_8 : gk_Fg RX11 88 8 0 := ⟨RX8, TX8, 3, "AtomTables$Table", gclX8, by decide, kw_137, Or.inl rfl⟩
theorem fX11_88_8w : gk_Fl RX11 88 8 0 (tyX8 0) false := ⟨RX8, TX8, 3, "AtomTables$Table", gclX8, by decide, kw_137, Or.inl rfl, tyX8_ok 0 (by decide), rfl, fun q => by cases q⟩
theorem kw_149 : Cond.fieldLink "AtomTables" 163 "AtomTables$Table" "threes" "J" ∈ gk_T := gk_in (t1k (List.mem_of_getElem? (i := 66) rfl)) rfl
theorem fX11_163_8 : gk_Fg RX11 163 8 2 := ⟨RX8, TX8, 3, "AtomTables$Table", gclX8, by decide, kw_149, Or.inl rfl⟩
theorem fX11_163_8w : gk_Fl RX11 163 8 2 (tyX8 2) false := ⟨RX8, TX8, 3, "AtomTables$Table", gclX8, by decide, kw_149, Or.inl rfl, tyX8_ok 2 (by decide), rfl, fun q => by cases q⟩
theorem kw_185 : Cond.fieldLink "AtomTables" 177 "AtomTables$Sheet" "nets" "[LAtomTables$Net;" ∈ gk_T := gk_in (t1k (List.mem_of_getElem? (i := 102) rfl)) rfl
theorem fX11_177_7 : gk_Fg RX11 177 7 1 := ⟨RX7, TX7, 4, "AtomTables$Sheet", gclX7, by decide, kw_185, Or.inl rfl⟩
theorem kw_172 : Cond.fieldLink "AtomTables" 181 "AtomTables$Net" "size" "I" ∈ gk_T := gk_in (t1k (List.mem_of_getElem? (i := 89) rfl)) rfl
theorem fX11_181_3 : gk_Fg RX11 181 3 0 := ⟨RX3, TX3, 2, "AtomTables$Net", gclX3, by decide, kw_172, Or.inl rfl⟩
theorem fX11_181_3w : gk_Fl RX11 181 3 0 (tyX3 0) false := ⟨RX3, TX3, 2, "AtomTables$Net", gclX3, by decide, kw_172, Or.inl rfl, tyX3_ok 0 (by decide), rfl, fun q => by cases q⟩
theorem kw_276 : Cond.fieldLink "AtomTables" 188 "AtomTables$Filler" "row" "[I" ∈ gk_T := gk_in (t1k (List.mem_of_getElem? (i := 193) rfl)) rfl
theorem fX11_188_1 : gk_Fg RX11 188 1 4 := ⟨RX1, TX1, 5, "AtomTables$Filler", gclX1, by decide, kw_276, Or.inl rfl⟩
theorem kw_191 : Cond.fieldLink "AtomTables" 228 "AtomTables$Sheet" "bars" "Z" ∈ gk_T := gk_in (t1k (List.mem_of_getElem? (i := 108) rfl)) rfl
theorem fX11_228_7 : gk_Fg RX11 228 7 3 := ⟨RX7, TX7, 4, "AtomTables$Sheet", gclX7, by decide, kw_191, Or.inl rfl⟩
theorem fX11_228_7w : gk_Fl RX11 228 7 3 (tyX7 3) false := ⟨RX7, TX7, 4, "AtomTables$Sheet", gclX7, by decide, kw_191, Or.inl rfl, tyX7_ok 3 (by decide), rfl, fun q => by cases q⟩
theorem kw_188 : Cond.fieldLink "AtomTables" 231 "AtomTables$Sheet" "barred" "LAtomTables$Net;" ∈ gk_T := gk_in (t1k (List.mem_of_getElem? (i := 105) rfl)) rfl
theorem fX11_231_7 : gk_Fg RX11 231 7 2 := ⟨RX7, TX7, 4, "AtomTables$Sheet", gclX7, by decide, kw_188, Or.inl rfl⟩
theorem kw_333 : Cond.fieldLink "AtomTables" 252 "AtomTables$Board" "asked" "I" ∈ gk_T := gk_in (t2k (List.mem_of_getElem? (i := 10) rfl)) rfl
theorem fX11_252_0 : gk_Fg RX11 252 0 4 := ⟨RX0, TX0, 6, "AtomTables$Board", gclX0, by decide, kw_333, Or.inl rfl⟩
theorem fX11_252_0w : gk_Fl RX11 252 0 4 (tyX0 4) false := ⟨RX0, TX0, 6, "AtomTables$Board", gclX0, by decide, kw_333, Or.inl rfl, tyX0_ok 4 (by decide), rfl, fun q => by cases q⟩
theorem kw_327 : Cond.fieldLink "AtomTables" 255 "AtomTables$Board" "stands" "Z" ∈ gk_T := gk_in (t2k (List.mem_of_getElem? (i := 4) rfl)) rfl
theorem fX11_255_0 : gk_Fg RX11 255 0 1 := ⟨RX0, TX0, 6, "AtomTables$Board", gclX0, by decide, kw_327, Or.inl rfl⟩
theorem fX11_255_0w : gk_Fl RX11 255 0 1 (tyX0 1) false := ⟨RX0, TX0, 6, "AtomTables$Board", gclX0, by decide, kw_327, Or.inl rfl, tyX0_ok 1 (by decide), rfl, fun q => by cases q⟩
theorem kw_331 : Cond.fieldLink "AtomTables" 258 "AtomTables$Board" "asks" "[I" ∈ gk_T := gk_in (t2k (List.mem_of_getElem? (i := 8) rfl)) rfl
theorem fX11_258_0 : gk_Fg RX11 258 0 3 := ⟨RX0, TX0, 6, "AtomTables$Board", gclX0, by decide, kw_331, Or.inl rfl⟩
theorem kw_329 : Cond.fieldLink "AtomTables" 261 "AtomTables$Board" "net" "LAtomTables$Net;" ∈ gk_T := gk_in (t2k (List.mem_of_getElem? (i := 6) rfl)) rfl
theorem fX11_261_0 : gk_Fg RX11 261 0 2 := ⟨RX0, TX0, 6, "AtomTables$Board", gclX0, by decide, kw_329, Or.inl rfl⟩
theorem kw_335 : Cond.fieldLink "AtomTables" 275 "AtomTables$Board" "answered" "I" ∈ gk_T := gk_in (t2k (List.mem_of_getElem? (i := 12) rfl)) rfl
theorem fX11_275_0 : gk_Fg RX11 275 0 5 := ⟨RX0, TX0, 6, "AtomTables$Board", gclX0, by decide, kw_335, Or.inl rfl⟩
theorem fX11_275_0w : gk_Fl RX11 275 0 5 (tyX0 5) false := ⟨RX0, TX0, 6, "AtomTables$Board", gclX0, by decide, kw_335, Or.inl rfl, tyX0_ok 5 (by decide), rfl, fun q => by cases q⟩
theorem kw_358 : Cond.fieldLink "AtomTables" 288 "AtomTables$Pictures" "steps" "[I" ∈ gk_T := gk_in (t2k (List.mem_of_getElem? (i := 35) rfl)) rfl
theorem fX11_288_5 : gk_Fg RX11 288 5 6 := ⟨RX5, TX5, 8, "AtomTables$Pictures", gclX5, by decide, kw_358, Or.inl rfl⟩
theorem kw_380 : Cond.fieldLink "AtomTables" 293 "AtomTables$Tape" "size" "I" ∈ gk_T := gk_in (t2k (List.mem_of_getElem? (i := 57) rfl)) rfl
theorem fX11_293_9 : gk_Fg RX11 293 9 0 := ⟨RX9, TX9, 2, "AtomTables$Tape", gclX9, by decide, kw_380, Or.inl rfl⟩
theorem fX11_293_9w : gk_Fl RX11 293 9 0 (tyX9 0) false := ⟨RX9, TX9, 2, "AtomTables$Tape", gclX9, by decide, kw_380, Or.inl rfl, tyX9_ok 0 (by decide), rfl, fun q => by cases q⟩
theorem kw_382 : Cond.fieldLink "AtomTables" 306 "AtomTables$Tape" "bytes" "[B" ∈ gk_T := gk_in (t2k (List.mem_of_getElem? (i := 59) rfl)) rfl
theorem fX11_306_9 : gk_Fg RX11 306 9 1 := ⟨RX9, TX9, 2, "AtomTables$Tape", gclX9, by decide, kw_382, Or.inl rfl⟩
theorem kw_326 : Cond.fieldLink "AtomTables$Board" 9 "AtomTables$Board" "stands" "Z" ∈ gk_T := gk_in (t2k (List.mem_of_getElem? (i := 3) rfl)) rfl
theorem fX0_9_0 : gk_Fg RX0 9 0 1 := ⟨RX0, TX0, 6, "AtomTables$Board", gclX0, by decide, kw_326, Or.inl rfl⟩
theorem fX0_9_0w : gk_Fl RX0 9 0 1 (tyX0 1) false := ⟨RX0, TX0, 6, "AtomTables$Board", gclX0, by decide, kw_326, Or.inl rfl, tyX0_ok 1 (by decide), rfl, fun q => by cases q⟩
theorem kw_328 : Cond.fieldLink "AtomTables$Board" 18 "AtomTables$Board" "net" "LAtomTables$Net;" ∈ gk_T := gk_in (t2k (List.mem_of_getElem? (i := 5) rfl)) rfl
theorem fX0_18_0 : gk_Fg RX0 18 0 2 := ⟨RX0, TX0, 6, "AtomTables$Board", gclX0, by decide, kw_328, Or.inl rfl⟩
theorem fX0_18_0w : gk_Fl RX0 18 0 2 (tyX0 2) true := ⟨RX0, TX0, 6, "AtomTables$Board", gclX0, by decide, kw_328, Or.inl rfl, tyX0_ok 2 (by decide), rfl, fun _ => rfl⟩
theorem kw_330 : Cond.fieldLink "AtomTables$Board" 22 "AtomTables$Board" "asks" "[I" ∈ gk_T := gk_in (t2k (List.mem_of_getElem? (i := 7) rfl)) rfl
theorem fX0_22_0 : gk_Fg RX0 22 0 3 := ⟨RX0, TX0, 6, "AtomTables$Board", gclX0, by decide, kw_330, Or.inl rfl⟩
theorem fX0_22_0w : gk_Fl RX0 22 0 3 (tyX0 3) true := ⟨RX0, TX0, 6, "AtomTables$Board", gclX0, by decide, kw_330, Or.inl rfl, tyX0_ok 3 (by decide), rfl, fun _ => rfl⟩
theorem kw_332 : Cond.fieldLink "AtomTables$Board" 26 "AtomTables$Board" "asked" "I" ∈ gk_T := gk_in (t2k (List.mem_of_getElem? (i := 9) rfl)) rfl
theorem fX0_26_0 : gk_Fg RX0 26 0 4 := ⟨RX0, TX0, 6, "AtomTables$Board", gclX0, by decide, kw_332, Or.inl rfl⟩
theorem fX0_26_0w : gk_Fl RX0 26 0 4 (tyX0 4) false := ⟨RX0, TX0, 6, "AtomTables$Board", gclX0, by decide, kw_332, Or.inl rfl, tyX0_ok 4 (by decide), rfl, fun q => by cases q⟩
theorem kw_334 : Cond.fieldLink "AtomTables$Board" 30 "AtomTables$Board" "answered" "I" ∈ gk_T := gk_in (t2k (List.mem_of_getElem? (i := 11) rfl)) rfl
theorem fX0_30_0 : gk_Fg RX0 30 0 5 := ⟨RX0, TX0, 6, "AtomTables$Board", gclX0, by decide, kw_334, Or.inl rfl⟩
theorem fX0_30_0w : gk_Fl RX0 30 0 5 (tyX0 5) false := ⟨RX0, TX0, 6, "AtomTables$Board", gclX0, by decide, kw_334, Or.inl rfl, tyX0_ok 5 (by decide), rfl, fun q => by cases q⟩
theorem kw_325 : Cond.fieldLink "AtomTables$Board" 33 "AtomTables$Board" "table" "LAtomTables$Table;" ∈ gk_T := gk_in (t2k (List.mem_of_getElem? (i := 2) rfl)) rfl
theorem fX0_33_0 : gk_Fg RX0 33 0 0 := ⟨RX0, TX0, 6, "AtomTables$Board", gclX0, by decide, kw_325, Or.inl rfl⟩
theorem fX0_33_0w : gk_Fl RX0 33 0 0 (tyX0 0) true := ⟨RX0, TX0, 6, "AtomTables$Board", gclX0, by decide, kw_325, Or.inl rfl, tyX0_ok 0 (by decide), rfl, fun _ => rfl⟩
theorem kw_168 : Cond.fieldLink "AtomTables$Board" 41 "AtomTables$Net" "size" "I" ∈ gk_T := gk_in (t1k (List.mem_of_getElem? (i := 85) rfl)) rfl
theorem fX0_41_3 : gk_Fg RX0 41 3 0 := ⟨RX3, TX3, 2, "AtomTables$Net", gclX3, by decide, kw_168, Or.inl rfl⟩
theorem fX0_41_3w : gk_Fl RX0 41 3 0 (tyX3 0) false := ⟨RX3, TX3, 2, "AtomTables$Net", gclX3, by decide, kw_168, Or.inl rfl, tyX3_ok 0 (by decide), rfl, fun q => by cases q⟩
theorem kw_273 : Cond.fieldLink "AtomTables$Filler" 12 "AtomTables$Filler" "trial" "LAtomTables$Net;" ∈ gk_T := gk_in (t1k (List.mem_of_getElem? (i := 190) rfl)) rfl
theorem fX1_12_1 : gk_Fg RX1 12 1 2 := ⟨RX1, TX1, 5, "AtomTables$Filler", gclX1, by decide, kw_273, Or.inl rfl⟩
theorem fX1_12_1w : gk_Fl RX1 12 1 2 (tyX1 2) true := ⟨RX1, TX1, 5, "AtomTables$Filler", gclX1, by decide, kw_273, Or.inl rfl, tyX1_ok 2 (by decide), rfl, fun _ => rfl⟩
theorem kw_275 : Cond.fieldLink "AtomTables$Filler" 18 "AtomTables$Filler" "row" "[I" ∈ gk_T := gk_in (t1k (List.mem_of_getElem? (i := 192) rfl)) rfl
theorem fX1_18_1 : gk_Fg RX1 18 1 4 := ⟨RX1, TX1, 5, "AtomTables$Filler", gclX1, by decide, kw_275, Or.inl rfl⟩
theorem fX1_18_1w : gk_Fl RX1 18 1 4 (tyX1 4) true := ⟨RX1, TX1, 5, "AtomTables$Filler", gclX1, by decide, kw_275, Or.inl rfl, tyX1_ok 4 (by decide), rfl, fun _ => rfl⟩
theorem kw_271 : Cond.fieldLink "AtomTables$Filler" 22 "AtomTables$Filler" "sheet" "LAtomTables$Sheet;" ∈ gk_T := gk_in (t1k (List.mem_of_getElem? (i := 188) rfl)) rfl
theorem fX1_22_1 : gk_Fg RX1 22 1 0 := ⟨RX1, TX1, 5, "AtomTables$Filler", gclX1, by decide, kw_271, Or.inl rfl⟩
theorem fX1_22_1w : gk_Fl RX1 22 1 0 (tyX1 0) true := ⟨RX1, TX1, 5, "AtomTables$Filler", gclX1, by decide, kw_271, Or.inl rfl, tyX1_ok 0 (by decide), rfl, fun _ => rfl⟩
theorem kw_272 : Cond.fieldLink "AtomTables$Filler" 26 "AtomTables$Filler" "patterns" "LAtomTables$Patterns;" ∈ gk_T := gk_in (t1k (List.mem_of_getElem? (i := 189) rfl)) rfl
theorem fX1_26_1 : gk_Fg RX1 26 1 1 := ⟨RX1, TX1, 5, "AtomTables$Filler", gclX1, by decide, kw_272, Or.inl rfl⟩
theorem fX1_26_1w : gk_Fl RX1 26 1 1 (tyX1 1) true := ⟨RX1, TX1, 5, "AtomTables$Filler", gclX1, by decide, kw_272, Or.inl rfl, tyX1_ok 1 (by decide), rfl, fun _ => rfl⟩
theorem kw_181 : Cond.fieldLink "AtomTables$Filler" 32 "AtomTables$Sheet" "table" "LAtomTables$Table;" ∈ gk_T := gk_in (t1k (List.mem_of_getElem? (i := 98) rfl)) rfl
theorem fX1_32_7 : gk_Fg RX1 32 7 0 := ⟨RX7, TX7, 4, "AtomTables$Sheet", gclX7, by decide, kw_181, Or.inl rfl⟩
theorem kw_274 : Cond.fieldLink "AtomTables$Filler" 41 "AtomTables$Filler" "rows" "LAtomTables$Rows;" ∈ gk_T := gk_in (t1k (List.mem_of_getElem? (i := 191) rfl)) rfl
theorem fX1_41_1 : gk_Fg RX1 41 1 3 := ⟨RX1, TX1, 5, "AtomTables$Filler", gclX1, by decide, kw_274, Or.inl rfl⟩
theorem fX1_41_1w : gk_Fl RX1 41 1 3 (tyX1 3) true := ⟨RX1, TX1, 5, "AtomTables$Filler", gclX1, by decide, kw_274, Or.inl rfl, tyX1_ok 3 (by decide), rfl, fun _ => rfl⟩
theorem kw_139 : Cond.fieldLink "AtomTables$Filler" 45 "AtomTables$Table" "size" "I" ∈ gk_T := gk_in (t1k (List.mem_of_getElem? (i := 56) rfl)) rfl
theorem fX1_45_8 : gk_Fg RX1 45 8 0 := ⟨RX8, TX8, 3, "AtomTables$Table", gclX8, by decide, kw_139, Or.inl rfl⟩
theorem fX1_45_8w : gk_Fl RX1 45 8 0 (tyX8 0) false := ⟨RX8, TX8, 3, "AtomTables$Table", gclX8, by decide, kw_139, Or.inl rfl, tyX8_ok 0 (by decide), rfl, fun q => by cases q⟩
theorem kw_145 : Cond.fieldLink "AtomTables$Filler" 62 "AtomTables$Table" "mirror" "[I" ∈ gk_T := gk_in (t1k (List.mem_of_getElem? (i := 62) rfl)) rfl
theorem fX1_62_8 : gk_Fg RX1 62 8 1 := ⟨RX8, TX8, 3, "AtomTables$Table", gclX8, by decide, kw_145, Or.inl rfl⟩
theorem kw_224 : Cond.fieldLink "AtomTables$Filler" 70 "AtomTables$Rows" "at" "[I" ∈ gk_T := gk_in (t1k (List.mem_of_getElem? (i := 141) rfl)) rfl
theorem kw_222 : Cond.sameField "AtomTables$Rows" "AtomTables$Wheels" "at" "[I" ∈ gk_T := gk_in (t1k (List.mem_of_getElem? (i := 139) rfl)) rfl
theorem fX1_70_6 : gk_Fg RX1 70 6 1 := ⟨RX6, TX6, 6, "AtomTables$Rows", gclX6, by decide, kw_224, Or.inr kw_222⟩
theorem kw_171 : Cond.fieldLink "AtomTables$Filler" 94 "AtomTables$Net" "size" "I" ∈ gk_T := gk_in (t1k (List.mem_of_getElem? (i := 88) rfl)) rfl
theorem fX1_94_3 : gk_Fg RX1 94 3 0 := ⟨RX3, TX3, 2, "AtomTables$Net", gclX3, by decide, kw_171, Or.inl rfl⟩
theorem fX1_94_3w : gk_Fl RX1 94 3 0 (tyX3 0) false := ⟨RX3, TX3, 2, "AtomTables$Net", gclX3, by decide, kw_171, Or.inl rfl, tyX3_ok 0 (by decide), rfl, fun q => by cases q⟩
theorem kw_303 : Cond.fieldLink "AtomTables$Game" 12 "AtomTables$Game" "stage" "LAtomTables$Net;" ∈ gk_T := gk_in (t1k (List.mem_of_getElem? (i := 220) rfl)) rfl
theorem fX2_12_2 : gk_Fg RX2 12 2 2 := ⟨RX2, TX2, 5, "AtomTables$Game", gclX2, by decide, kw_303, Or.inl rfl⟩
theorem fX2_12_2w : gk_Fl RX2 12 2 2 (tyX2 2) true := ⟨RX2, TX2, 5, "AtomTables$Game", gclX2, by decide, kw_303, Or.inl rfl, tyX2_ok 2 (by decide), rfl, fun _ => rfl⟩
theorem kw_304 : Cond.fieldLink "AtomTables$Game" 20 "AtomTables$Game" "rows" "[LAtomTables$Rows;" ∈ gk_T := gk_in (t1k (List.mem_of_getElem? (i := 221) rfl)) rfl
theorem fX2_20_2 : gk_Fg RX2 20 2 3 := ⟨RX2, TX2, 5, "AtomTables$Game", gclX2, by decide, kw_304, Or.inl rfl⟩
theorem fX2_20_2w : gk_Fl RX2 20 2 3 (tyX2 3) true := ⟨RX2, TX2, 5, "AtomTables$Game", gclX2, by decide, kw_304, Or.inl rfl, tyX2_ok 3 (by decide), rfl, fun _ => rfl⟩
theorem kw_305 : Cond.fieldLink "AtomTables$Game" 26 "AtomTables$Game" "left" "[[I" ∈ gk_T := gk_in (t1k (List.mem_of_getElem? (i := 222) rfl)) rfl
theorem fX2_26_2 : gk_Fg RX2 26 2 4 := ⟨RX2, TX2, 5, "AtomTables$Game", gclX2, by decide, kw_305, Or.inl rfl⟩
theorem fX2_26_2w : gk_Fl RX2 26 2 4 (tyX2 4) true := ⟨RX2, TX2, 5, "AtomTables$Game", gclX2, by decide, kw_305, Or.inl rfl, tyX2_ok 4 (by decide), rfl, fun _ => rfl⟩
theorem kw_301 : Cond.fieldLink "AtomTables$Game" 29 "AtomTables$Game" "sheet" "LAtomTables$Sheet;" ∈ gk_T := gk_in (t1k (List.mem_of_getElem? (i := 218) rfl)) rfl
theorem fX2_29_2 : gk_Fg RX2 29 2 0 := ⟨RX2, TX2, 5, "AtomTables$Game", gclX2, by decide, kw_301, Or.inl rfl⟩
theorem fX2_29_2w : gk_Fl RX2 29 2 0 (tyX2 0) true := ⟨RX2, TX2, 5, "AtomTables$Game", gclX2, by decide, kw_301, Or.inl rfl, tyX2_ok 0 (by decide), rfl, fun _ => rfl⟩
theorem kw_302 : Cond.fieldLink "AtomTables$Game" 33 "AtomTables$Game" "patterns" "LAtomTables$Patterns;" ∈ gk_T := gk_in (t1k (List.mem_of_getElem? (i := 219) rfl)) rfl
theorem fX2_33_2 : gk_Fg RX2 33 2 1 := ⟨RX2, TX2, 5, "AtomTables$Game", gclX2, by decide, kw_302, Or.inl rfl⟩
theorem fX2_33_2w : gk_Fl RX2 33 2 1 (tyX2 1) true := ⟨RX2, TX2, 5, "AtomTables$Game", gclX2, by decide, kw_302, Or.inl rfl, tyX2_ok 1 (by decide), rfl, fun _ => rfl⟩
theorem kw_182 : Cond.fieldLink "AtomTables$Game" 37 "AtomTables$Sheet" "table" "LAtomTables$Table;" ∈ gk_T := gk_in (t1k (List.mem_of_getElem? (i := 99) rfl)) rfl
theorem fX2_37_7 : gk_Fg RX2 37 7 0 := ⟨RX7, TX7, 4, "AtomTables$Sheet", gclX7, by decide, kw_182, Or.inl rfl⟩
theorem kw_223 : Cond.fieldLink "AtomTables$Game" 70 "AtomTables$Rows" "at" "[I" ∈ gk_T := gk_in (t1k (List.mem_of_getElem? (i := 140) rfl)) rfl
theorem fX2_70_6 : gk_Fg RX2 70 6 1 := ⟨RX6, TX6, 6, "AtomTables$Rows", gclX6, by decide, kw_223, Or.inr kw_222⟩
theorem kw_170 : Cond.fieldLink "AtomTables$Game" 89 "AtomTables$Net" "size" "I" ∈ gk_T := gk_in (t1k (List.mem_of_getElem? (i := 87) rfl)) rfl
theorem fX2_89_3 : gk_Fg RX2 89 3 0 := ⟨RX3, TX3, 2, "AtomTables$Net", gclX3, by decide, kw_170, Or.inl rfl⟩
theorem fX2_89_3w : gk_Fl RX2 89 3 0 (tyX3 0) false := ⟨RX3, TX3, 2, "AtomTables$Net", gclX3, by decide, kw_170, Or.inl rfl, tyX3_ok 0 (by decide), rfl, fun q => by cases q⟩
theorem kw_146 : Cond.fieldLink "AtomTables$Game" 97 "AtomTables$Table" "mirror" "[I" ∈ gk_T := gk_in (t1k (List.mem_of_getElem? (i := 63) rfl)) rfl
theorem fX2_97_8 : gk_Fg RX2 97 8 1 := ⟨RX8, TX8, 3, "AtomTables$Table", gclX8, by decide, kw_146, Or.inl rfl⟩
theorem kw_165 : Cond.fieldLink "AtomTables$Net" 9 "AtomTables$Net" "size" "I" ∈ gk_T := gk_in (t1k (List.mem_of_getElem? (i := 82) rfl)) rfl
theorem fX3_9_3 : gk_Fg RX3 9 3 0 := ⟨RX3, TX3, 2, "AtomTables$Net", gclX3, by decide, kw_165, Or.inl rfl⟩
theorem fX3_9_3w : gk_Fl RX3 9 3 0 (tyX3 0) false := ⟨RX3, TX3, 2, "AtomTables$Net", gclX3, by decide, kw_165, Or.inl rfl, tyX3_ok 0 (by decide), rfl, fun q => by cases q⟩
theorem kw_173 : Cond.fieldLink "AtomTables$Net" 15 "AtomTables$Net" "labels" "[I" ∈ gk_T := gk_in (t1k (List.mem_of_getElem? (i := 90) rfl)) rfl
theorem fX3_15_3 : gk_Fg RX3 15 3 1 := ⟨RX3, TX3, 2, "AtomTables$Net", gclX3, by decide, kw_173, Or.inl rfl⟩
theorem fX3_15_3w : gk_Fl RX3 15 3 1 (tyX3 1) true := ⟨RX3, TX3, 2, "AtomTables$Net", gclX3, by decide, kw_173, Or.inl rfl, tyX3_ok 1 (by decide), rfl, fun _ => rfl⟩
theorem kw_144 : Cond.fieldLink "AtomTables$Net" 19 "AtomTables$Table" "mirror" "[I" ∈ gk_T := gk_in (t1k (List.mem_of_getElem? (i := 61) rfl)) rfl
theorem fX3_19_8 : gk_Fg RX3 19 8 1 := ⟨RX8, TX8, 3, "AtomTables$Table", gclX8, by decide, kw_144, Or.inl rfl⟩
theorem kw_140 : Cond.fieldLink "AtomTables$Net" 36 "AtomTables$Table" "size" "I" ∈ gk_T := gk_in (t1k (List.mem_of_getElem? (i := 57) rfl)) rfl
theorem fX3_36_8 : gk_Fg RX3 36 8 0 := ⟨RX8, TX8, 3, "AtomTables$Table", gclX8, by decide, kw_140, Or.inl rfl⟩
theorem fX3_36_8w : gk_Fl RX3 36 8 0 (tyX8 0) false := ⟨RX8, TX8, 3, "AtomTables$Table", gclX8, by decide, kw_140, Or.inl rfl, tyX8_ok 0 (by decide), rfl, fun q => by cases q⟩
theorem kw_210 : Cond.fieldLink "AtomTables$Patterns" 9 "AtomTables$Patterns" "sheet" "LAtomTables$Sheet;" ∈ gk_T := gk_in (t1k (List.mem_of_getElem? (i := 127) rfl)) rfl
theorem fX4_9_4 : gk_Fg RX4 9 4 4 := ⟨RX4, TX4, 7, "AtomTables$Patterns", gclX4, by decide, kw_210, Or.inl rfl⟩
theorem fX4_9_4w : gk_Fl RX4 9 4 4 (tyX4 4) true := ⟨RX4, TX4, 7, "AtomTables$Patterns", gclX4, by decide, kw_210, Or.inl rfl, tyX4_ok 4 (by decide), rfl, fun _ => rfl⟩
theorem kw_186 : Cond.fieldLink "AtomTables$Patterns" 15 "AtomTables$Sheet" "barred" "LAtomTables$Net;" ∈ gk_T := gk_in (t1k (List.mem_of_getElem? (i := 103) rfl)) rfl
theorem fX4_15_7 : gk_Fg RX4 15 7 2 := ⟨RX7, TX7, 4, "AtomTables$Sheet", gclX7, by decide, kw_186, Or.inl rfl⟩
theorem kw_211 : Cond.fieldLink "AtomTables$Patterns" 21 "AtomTables$Patterns" "small" "LAtomTables$Net;" ∈ gk_T := gk_in (t1k (List.mem_of_getElem? (i := 128) rfl)) rfl
theorem fX4_21_4 : gk_Fg RX4 21 4 5 := ⟨RX4, TX4, 7, "AtomTables$Patterns", gclX4, by decide, kw_211, Or.inl rfl⟩
theorem fX4_21_4w : gk_Fl RX4 21 4 5 (tyX4 5) false := ⟨RX4, TX4, 7, "AtomTables$Patterns", gclX4, by decide, kw_211, Or.inl rfl, tyX4_ok 5 (by decide), rfl, fun q => by cases q⟩
theorem kw_212 : Cond.fieldLink "AtomTables$Patterns" 24 "AtomTables$Patterns" "big" "LAtomTables$Net;" ∈ gk_T := gk_in (t1k (List.mem_of_getElem? (i := 129) rfl)) rfl
theorem fX4_24_4 : gk_Fg RX4 24 4 6 := ⟨RX4, TX4, 7, "AtomTables$Patterns", gclX4, by decide, kw_212, Or.inl rfl⟩
theorem fX4_24_4w : gk_Fl RX4 24 4 6 (tyX4 6) false := ⟨RX4, TX4, 7, "AtomTables$Patterns", gclX4, by decide, kw_212, Or.inl rfl, tyX4_ok 6 (by decide), rfl, fun q => by cases q⟩
theorem kw_190 : Cond.fieldLink "AtomTables$Patterns" 43 "AtomTables$Sheet" "bars" "Z" ∈ gk_T := gk_in (t1k (List.mem_of_getElem? (i := 107) rfl)) rfl
theorem fX4_43_7 : gk_Fg RX4 43 7 3 := ⟨RX7, TX7, 4, "AtomTables$Sheet", gclX7, by decide, kw_190, Or.inl rfl⟩
theorem fX4_43_7w : gk_Fl RX4 43 7 3 (tyX7 3) false := ⟨RX7, TX7, 4, "AtomTables$Sheet", gclX7, by decide, kw_190, Or.inl rfl, tyX7_ok 3 (by decide), rfl, fun q => by cases q⟩
theorem kw_169 : Cond.fieldLink "AtomTables$Patterns" 47 "AtomTables$Net" "size" "I" ∈ gk_T := gk_in (t1k (List.mem_of_getElem? (i := 86) rfl)) rfl
theorem fX4_47_3 : gk_Fg RX4 47 3 0 := ⟨RX3, TX3, 2, "AtomTables$Net", gclX3, by decide, kw_169, Or.inl rfl⟩
theorem fX4_47_3w : gk_Fl RX4 47 3 0 (tyX3 0) false := ⟨RX3, TX3, 2, "AtomTables$Net", gclX3, by decide, kw_169, Or.inl rfl, tyX3_ok 0 (by decide), rfl, fun q => by cases q⟩
theorem kw_216 : Cond.fieldLink "AtomTables$Patterns" 57 "AtomTables$Patterns" "size" "I" ∈ gk_T := gk_in (t1k (List.mem_of_getElem? (i := 133) rfl)) rfl
theorem kw_217 : Cond.sameField "AtomTables$Patterns" "AtomTables$Wheels" "size" "I" ∈ gk_T := gk_in (t1k (List.mem_of_getElem? (i := 134) rfl)) rfl
theorem fX4_57_4 : gk_Fg RX4 57 4 0 := ⟨RX4, TX4, 7, "AtomTables$Patterns", gclX4, by decide, kw_216, Or.inr kw_217⟩
theorem fX4_57_4w : gk_Fl RX4 57 4 0 (tyX4 0) false := ⟨RX4, TX4, 7, "AtomTables$Patterns", gclX4, by decide, kw_216, Or.inr kw_217, tyX4_ok 0 (by decide), rfl, fun q => by cases q⟩
theorem kw_174 : Cond.fieldLink "AtomTables$Patterns" 58 "AtomTables$Net" "labels" "[I" ∈ gk_T := gk_in (t1k (List.mem_of_getElem? (i := 91) rfl)) rfl
theorem fX4_58_3 : gk_Fg RX4 58 3 1 := ⟨RX3, TX3, 2, "AtomTables$Net", gclX3, by decide, kw_174, Or.inl rfl⟩
theorem kw_225 : Cond.fieldLink "AtomTables$Patterns" 62 "AtomTables$Patterns" "at" "[I" ∈ gk_T := gk_in (t1k (List.mem_of_getElem? (i := 142) rfl)) rfl
theorem kw_226 : Cond.sameField "AtomTables$Patterns" "AtomTables$Wheels" "at" "[I" ∈ gk_T := gk_in (t1k (List.mem_of_getElem? (i := 143) rfl)) rfl
theorem fX4_62_4 : gk_Fg RX4 62 4 1 := ⟨RX4, TX4, 7, "AtomTables$Patterns", gclX4, by decide, kw_225, Or.inr kw_226⟩
theorem kw_356 : Cond.fieldLink "AtomTables$Pictures" 9 "AtomTables$Pictures" "points" "I" ∈ gk_T := gk_in (t2k (List.mem_of_getElem? (i := 33) rfl)) rfl
theorem fX5_9_5 : gk_Fg RX5 9 5 5 := ⟨RX5, TX5, 8, "AtomTables$Pictures", gclX5, by decide, kw_356, Or.inl rfl⟩
theorem fX5_9_5w : gk_Fl RX5 9 5 5 (tyX5 5) false := ⟨RX5, TX5, 8, "AtomTables$Pictures", gclX5, by decide, kw_356, Or.inl rfl, tyX5_ok 5 (by decide), rfl, fun q => by cases q⟩
theorem kw_357 : Cond.fieldLink "AtomTables$Pictures" 15 "AtomTables$Pictures" "steps" "[I" ∈ gk_T := gk_in (t2k (List.mem_of_getElem? (i := 34) rfl)) rfl
theorem fX5_15_5 : gk_Fg RX5 15 5 6 := ⟨RX5, TX5, 8, "AtomTables$Pictures", gclX5, by decide, kw_357, Or.inl rfl⟩
theorem fX5_15_5w : gk_Fl RX5 15 5 6 (tyX5 6) true := ⟨RX5, TX5, 8, "AtomTables$Pictures", gclX5, by decide, kw_357, Or.inl rfl, tyX5_ok 6 (by decide), rfl, fun _ => rfl⟩
theorem kw_359 : Cond.fieldLink "AtomTables$Pictures" 19 "AtomTables$Pictures" "due" "[I" ∈ gk_T := gk_in (t2k (List.mem_of_getElem? (i := 36) rfl)) rfl
theorem fX5_19_5 : gk_Fg RX5 19 5 7 := ⟨RX5, TX5, 8, "AtomTables$Pictures", gclX5, by decide, kw_359, Or.inl rfl⟩
theorem fX5_19_5w : gk_Fl RX5 19 5 7 (tyX5 7) true := ⟨RX5, TX5, 8, "AtomTables$Pictures", gclX5, by decide, kw_359, Or.inl rfl, tyX5_ok 7 (by decide), rfl, fun _ => rfl⟩
theorem kw_355 : Cond.fieldLink "AtomTables$Pictures" 22 "AtomTables$Pictures" "table" "LAtomTables$Table;" ∈ gk_T := gk_in (t2k (List.mem_of_getElem? (i := 32) rfl)) rfl
theorem fX5_22_5 : gk_Fg RX5 22 5 4 := ⟨RX5, TX5, 8, "AtomTables$Pictures", gclX5, by decide, kw_355, Or.inl rfl⟩
theorem fX5_22_5w : gk_Fl RX5 22 5 4 (tyX5 4) true := ⟨RX5, TX5, 8, "AtomTables$Pictures", gclX5, by decide, kw_355, Or.inl rfl, tyX5_ok 4 (by decide), rfl, fun _ => rfl⟩
theorem kw_138 : Cond.fieldLink "AtomTables$Pictures" 26 "AtomTables$Table" "size" "I" ∈ gk_T := gk_in (t1k (List.mem_of_getElem? (i := 55) rfl)) rfl
theorem fX5_26_8 : gk_Fg RX5 26 8 0 := ⟨RX8, TX8, 3, "AtomTables$Table", gclX8, by decide, kw_138, Or.inl rfl⟩
theorem fX5_26_8w : gk_Fl RX5 26 8 0 (tyX8 0) false := ⟨RX8, TX8, 3, "AtomTables$Table", gclX8, by decide, kw_138, Or.inl rfl, tyX8_ok 0 (by decide), rfl, fun q => by cases q⟩
theorem kw_143 : Cond.fieldLink "AtomTables$Pictures" 31 "AtomTables$Table" "mirror" "[I" ∈ gk_T := gk_in (t1k (List.mem_of_getElem? (i := 60) rfl)) rfl
theorem fX5_31_8 : gk_Fg RX5 31 8 1 := ⟨RX8, TX8, 3, "AtomTables$Table", gclX8, by decide, kw_143, Or.inl rfl⟩
theorem kw_218 : Cond.fieldLink "AtomTables$Pictures" 67 "AtomTables$Pictures" "size" "I" ∈ gk_T := gk_in (t1k (List.mem_of_getElem? (i := 135) rfl)) rfl
theorem kw_219 : Cond.sameField "AtomTables$Pictures" "AtomTables$Wheels" "size" "I" ∈ gk_T := gk_in (t1k (List.mem_of_getElem? (i := 136) rfl)) rfl
theorem fX5_67_5 : gk_Fg RX5 67 5 0 := ⟨RX5, TX5, 8, "AtomTables$Pictures", gclX5, by decide, kw_218, Or.inr kw_219⟩
theorem fX5_67_5w : gk_Fl RX5 67 5 0 (tyX5 0) false := ⟨RX5, TX5, 8, "AtomTables$Pictures", gclX5, by decide, kw_218, Or.inr kw_219, tyX5_ok 0 (by decide), rfl, fun q => by cases q⟩
theorem kw_227 : Cond.fieldLink "AtomTables$Pictures" 68 "AtomTables$Pictures" "at" "[I" ∈ gk_T := gk_in (t1k (List.mem_of_getElem? (i := 144) rfl)) rfl
theorem kw_228 : Cond.sameField "AtomTables$Pictures" "AtomTables$Wheels" "at" "[I" ∈ gk_T := gk_in (t1k (List.mem_of_getElem? (i := 145) rfl)) rfl
theorem fX5_68_5 : gk_Fg RX5 68 5 1 := ⟨RX5, TX5, 8, "AtomTables$Pictures", gclX5, by decide, kw_227, Or.inr kw_228⟩
theorem kw_260 : Cond.fieldLink "AtomTables$Rows" 7 "AtomTables$Rows" "table" "LAtomTables$Table;" ∈ gk_T := gk_in (t1k (List.mem_of_getElem? (i := 177) rfl)) rfl
theorem fX6_7_6 : gk_Fg RX6 7 6 4 := ⟨RX6, TX6, 6, "AtomTables$Rows", gclX6, by decide, kw_260, Or.inl rfl⟩
theorem fX6_7_6w : gk_Fl RX6 7 6 4 (tyX6 4) true := ⟨RX6, TX6, 6, "AtomTables$Rows", gclX6, by decide, kw_260, Or.inl rfl, tyX6_ok 4 (by decide), rfl, fun _ => rfl⟩
theorem kw_261 : Cond.fieldLink "AtomTables$Rows" 13 "AtomTables$Rows" "net" "LAtomTables$Net;" ∈ gk_T := gk_in (t1k (List.mem_of_getElem? (i := 178) rfl)) rfl
theorem fX6_13_6 : gk_Fg RX6 13 6 5 := ⟨RX6, TX6, 6, "AtomTables$Rows", gclX6, by decide, kw_261, Or.inl rfl⟩
theorem fX6_13_6w : gk_Fl RX6 13 6 5 (tyX6 5) true := ⟨RX6, TX6, 6, "AtomTables$Rows", gclX6, by decide, kw_261, Or.inl rfl, tyX6_ok 5 (by decide), rfl, fun _ => rfl⟩
theorem kw_166 : Cond.fieldLink "AtomTables$Rows" 17 "AtomTables$Net" "size" "I" ∈ gk_T := gk_in (t1k (List.mem_of_getElem? (i := 83) rfl)) rfl
theorem fX6_17_3 : gk_Fg RX6 17 3 0 := ⟨RX3, TX3, 2, "AtomTables$Net", gclX3, by decide, kw_166, Or.inl rfl⟩
theorem fX6_17_3w : gk_Fl RX6 17 3 0 (tyX3 0) false := ⟨RX3, TX3, 2, "AtomTables$Net", gclX3, by decide, kw_166, Or.inl rfl, tyX3_ok 0 (by decide), rfl, fun q => by cases q⟩
theorem kw_136 : Cond.fieldLink "AtomTables$Rows" 23 "AtomTables$Table" "size" "I" ∈ gk_T := gk_in (t1k (List.mem_of_getElem? (i := 53) rfl)) rfl
theorem fX6_23_8 : gk_Fg RX6 23 8 0 := ⟨RX8, TX8, 3, "AtomTables$Table", gclX8, by decide, kw_136, Or.inl rfl⟩
theorem fX6_23_8w : gk_Fl RX6 23 8 0 (tyX8 0) false := ⟨RX8, TX8, 3, "AtomTables$Table", gclX8, by decide, kw_136, Or.inl rfl, tyX8_ok 0 (by decide), rfl, fun q => by cases q⟩
theorem kw_214 : Cond.fieldLink "AtomTables$Rows" 30 "AtomTables$Rows" "size" "I" ∈ gk_T := gk_in (t1k (List.mem_of_getElem? (i := 131) rfl)) rfl
theorem kw_215 : Cond.sameField "AtomTables$Rows" "AtomTables$Wheels" "size" "I" ∈ gk_T := gk_in (t1k (List.mem_of_getElem? (i := 132) rfl)) rfl
theorem fX6_30_6 : gk_Fg RX6 30 6 0 := ⟨RX6, TX6, 6, "AtomTables$Rows", gclX6, by decide, kw_214, Or.inr kw_215⟩
theorem fX6_30_6w : gk_Fl RX6 30 6 0 (tyX6 0) false := ⟨RX6, TX6, 6, "AtomTables$Rows", gclX6, by decide, kw_214, Or.inr kw_215, tyX6_ok 0 (by decide), rfl, fun q => by cases q⟩
theorem kw_221 : Cond.fieldLink "AtomTables$Rows" 35 "AtomTables$Rows" "at" "[I" ∈ gk_T := gk_in (t1k (List.mem_of_getElem? (i := 138) rfl)) rfl
theorem fX6_35_6 : gk_Fg RX6 35 6 1 := ⟨RX6, TX6, 6, "AtomTables$Rows", gclX6, by decide, kw_221, Or.inr kw_222⟩
theorem kw_180 : Cond.fieldLink "AtomTables$Sheet" 12 "AtomTables$Sheet" "table" "LAtomTables$Table;" ∈ gk_T := gk_in (t1k (List.mem_of_getElem? (i := 97) rfl)) rfl
theorem fX7_12_7 : gk_Fg RX7 12 7 0 := ⟨RX7, TX7, 4, "AtomTables$Sheet", gclX7, by decide, kw_180, Or.inl rfl⟩
theorem fX7_12_7w : gk_Fl RX7 12 7 0 (tyX7 0) true := ⟨RX7, TX7, 4, "AtomTables$Sheet", gclX7, by decide, kw_180, Or.inl rfl, tyX7_ok 0 (by decide), rfl, fun _ => rfl⟩
theorem kw_184 : Cond.fieldLink "AtomTables$Sheet" 20 "AtomTables$Sheet" "nets" "[LAtomTables$Net;" ∈ gk_T := gk_in (t1k (List.mem_of_getElem? (i := 101) rfl)) rfl
theorem fX7_20_7 : gk_Fg RX7 20 7 1 := ⟨RX7, TX7, 4, "AtomTables$Sheet", gclX7, by decide, kw_184, Or.inl rfl⟩
theorem fX7_20_7w : gk_Fl RX7 20 7 1 (tyX7 1) true := ⟨RX7, TX7, 4, "AtomTables$Sheet", gclX7, by decide, kw_184, Or.inl rfl, tyX7_ok 1 (by decide), rfl, fun _ => rfl⟩
theorem kw_187 : Cond.fieldLink "AtomTables$Sheet" 25 "AtomTables$Sheet" "barred" "LAtomTables$Net;" ∈ gk_T := gk_in (t1k (List.mem_of_getElem? (i := 104) rfl)) rfl
theorem fX7_25_7 : gk_Fg RX7 25 7 2 := ⟨RX7, TX7, 4, "AtomTables$Sheet", gclX7, by decide, kw_187, Or.inl rfl⟩
theorem fX7_25_7w : gk_Fl RX7 25 7 2 (tyX7 2) true := ⟨RX7, TX7, 4, "AtomTables$Sheet", gclX7, by decide, kw_187, Or.inl rfl, tyX7_ok 2 (by decide), rfl, fun _ => rfl⟩
theorem kw_189 : Cond.fieldLink "AtomTables$Sheet" 29 "AtomTables$Sheet" "bars" "Z" ∈ gk_T := gk_in (t1k (List.mem_of_getElem? (i := 106) rfl)) rfl
theorem fX7_29_7 : gk_Fg RX7 29 7 3 := ⟨RX7, TX7, 4, "AtomTables$Sheet", gclX7, by decide, kw_189, Or.inl rfl⟩
theorem fX7_29_7w : gk_Fl RX7 29 7 3 (tyX7 3) false := ⟨RX7, TX7, 4, "AtomTables$Sheet", gclX7, by decide, kw_189, Or.inl rfl, tyX7_ok 3 (by decide), rfl, fun q => by cases q⟩
theorem kw_167 : Cond.fieldLink "AtomTables$Sheet" 33 "AtomTables$Net" "size" "I" ∈ gk_T := gk_in (t1k (List.mem_of_getElem? (i := 84) rfl)) rfl
theorem fX7_33_3 : gk_Fg RX7 33 3 0 := ⟨RX3, TX3, 2, "AtomTables$Net", gclX3, by decide, kw_167, Or.inl rfl⟩
theorem fX7_33_3w : gk_Fl RX7 33 3 0 (tyX3 0) false := ⟨RX3, TX3, 2, "AtomTables$Net", gclX3, by decide, kw_167, Or.inl rfl, tyX3_ok 0 (by decide), rfl, fun q => by cases q⟩
theorem kw_135 : Cond.fieldLink "AtomTables$Table" 9 "AtomTables$Table" "size" "I" ∈ gk_T := gk_in (t1k (List.mem_of_getElem? (i := 52) rfl)) rfl
theorem fX8_9_8 : gk_Fg RX8 9 8 0 := ⟨RX8, TX8, 3, "AtomTables$Table", gclX8, by decide, kw_135, Or.inl rfl⟩
theorem fX8_9_8w : gk_Fl RX8 9 8 0 (tyX8 0) false := ⟨RX8, TX8, 3, "AtomTables$Table", gclX8, by decide, kw_135, Or.inl rfl, tyX8_ok 0 (by decide), rfl, fun q => by cases q⟩
theorem kw_142 : Cond.fieldLink "AtomTables$Table" 15 "AtomTables$Table" "mirror" "[I" ∈ gk_T := gk_in (t1k (List.mem_of_getElem? (i := 59) rfl)) rfl
theorem fX8_15_8 : gk_Fg RX8 15 8 1 := ⟨RX8, TX8, 3, "AtomTables$Table", gclX8, by decide, kw_142, Or.inl rfl⟩
theorem fX8_15_8w : gk_Fl RX8 15 8 1 (tyX8 1) true := ⟨RX8, TX8, 3, "AtomTables$Table", gclX8, by decide, kw_142, Or.inl rfl, tyX8_ok 1 (by decide), rfl, fun _ => rfl⟩
theorem kw_148 : Cond.fieldLink "AtomTables$Table" 19 "AtomTables$Table" "threes" "J" ∈ gk_T := gk_in (t1k (List.mem_of_getElem? (i := 65) rfl)) rfl
theorem fX8_19_8 : gk_Fg RX8 19 8 2 := ⟨RX8, TX8, 3, "AtomTables$Table", gclX8, by decide, kw_148, Or.inl rfl⟩
theorem fX8_19_8w : gk_Fl RX8 19 8 2 (tyX8 2) false := ⟨RX8, TX8, 3, "AtomTables$Table", gclX8, by decide, kw_148, Or.inl rfl, tyX8_ok 2 (by decide), rfl, fun q => by cases q⟩
theorem kw_379 : Cond.fieldLink "AtomTables$Tape" 9 "AtomTables$Tape" "size" "I" ∈ gk_T := gk_in (t2k (List.mem_of_getElem? (i := 56) rfl)) rfl
theorem fX9_9_9 : gk_Fg RX9 9 9 0 := ⟨RX9, TX9, 2, "AtomTables$Tape", gclX9, by decide, kw_379, Or.inl rfl⟩
theorem fX9_9_9w : gk_Fl RX9 9 9 0 (tyX9 0) false := ⟨RX9, TX9, 2, "AtomTables$Tape", gclX9, by decide, kw_379, Or.inl rfl, tyX9_ok 0 (by decide), rfl, fun q => by cases q⟩
theorem kw_381 : Cond.fieldLink "AtomTables$Tape" 15 "AtomTables$Tape" "bytes" "[B" ∈ gk_T := gk_in (t2k (List.mem_of_getElem? (i := 58) rfl)) rfl
theorem fX9_15_9 : gk_Fg RX9 15 9 1 := ⟨RX9, TX9, 2, "AtomTables$Tape", gclX9, by decide, kw_381, Or.inl rfl⟩
theorem fX9_15_9w : gk_Fl RX9 15 9 1 (tyX9 1) true := ⟨RX9, TX9, 2, "AtomTables$Tape", gclX9, by decide, kw_381, Or.inl rfl, tyX9_ok 1 (by decide), rfl, fun _ => rfl⟩
theorem kw_141 : Cond.fieldLink "AtomTables$Tape" 63 "AtomTables$Table" "size" "I" ∈ gk_T := gk_in (t1k (List.mem_of_getElem? (i := 58) rfl)) rfl
theorem fX9_63_8 : gk_Fg RX9 63 8 0 := ⟨RX8, TX8, 3, "AtomTables$Table", gclX8, by decide, kw_141, Or.inl rfl⟩
theorem fX9_63_8w : gk_Fl RX9 63 8 0 (tyX8 0) false := ⟨RX8, TX8, 3, "AtomTables$Table", gclX8, by decide, kw_141, Or.inl rfl, tyX8_ok 0 (by decide), rfl, fun q => by cases q⟩
theorem kw_147 : Cond.fieldLink "AtomTables$Tape" 70 "AtomTables$Table" "mirror" "[I" ∈ gk_T := gk_in (t1k (List.mem_of_getElem? (i := 64) rfl)) rfl
theorem fX9_70_8 : gk_Fg RX9 70 8 1 := ⟨RX8, TX8, 3, "AtomTables$Table", gclX8, by decide, kw_147, Or.inl rfl⟩
theorem kw_213 : Cond.fieldLink "AtomTables$Wheels" 9 "AtomTables$Wheels" "size" "I" ∈ gk_T := gk_in (t1k (List.mem_of_getElem? (i := 130) rfl)) rfl
theorem fX10_9_4 : gk_Fg RX10 9 4 0 := ⟨RX4, TX4, 7, "AtomTables$Wheels", gclX4, by decide, kw_213, Or.inl rfl⟩
theorem fX10_9_4w : gk_Fl RX10 9 4 0 (tyX4 0) false := ⟨RX4, TX4, 7, "AtomTables$Wheels", gclX4, by decide, kw_213, Or.inl rfl, tyX4_ok 0 (by decide), rfl, fun q => by cases q⟩
theorem fX10_9_5 : gk_Fg RX10 9 5 0 := ⟨RX5, TX5, 8, "AtomTables$Wheels", gclX5, by decide, kw_213, Or.inl rfl⟩
theorem fX10_9_5w : gk_Fl RX10 9 5 0 (tyX5 0) false := ⟨RX5, TX5, 8, "AtomTables$Wheels", gclX5, by decide, kw_213, Or.inl rfl, tyX5_ok 0 (by decide), rfl, fun q => by cases q⟩
theorem fX10_9_6 : gk_Fg RX10 9 6 0 := ⟨RX6, TX6, 6, "AtomTables$Wheels", gclX6, by decide, kw_213, Or.inl rfl⟩
theorem fX10_9_6w : gk_Fl RX10 9 6 0 (tyX6 0) false := ⟨RX6, TX6, 6, "AtomTables$Wheels", gclX6, by decide, kw_213, Or.inl rfl, tyX6_ok 0 (by decide), rfl, fun q => by cases q⟩
theorem kw_220 : Cond.fieldLink "AtomTables$Wheels" 15 "AtomTables$Wheels" "at" "[I" ∈ gk_T := gk_in (t1k (List.mem_of_getElem? (i := 137) rfl)) rfl
theorem fX10_15_4 : gk_Fg RX10 15 4 1 := ⟨RX4, TX4, 7, "AtomTables$Wheels", gclX4, by decide, kw_220, Or.inl rfl⟩
theorem fX10_15_4w : gk_Fl RX10 15 4 1 (tyX4 1) true := ⟨RX4, TX4, 7, "AtomTables$Wheels", gclX4, by decide, kw_220, Or.inl rfl, tyX4_ok 1 (by decide), rfl, fun _ => rfl⟩
theorem fX10_15_5 : gk_Fg RX10 15 5 1 := ⟨RX5, TX5, 8, "AtomTables$Wheels", gclX5, by decide, kw_220, Or.inl rfl⟩
theorem fX10_15_5w : gk_Fl RX10 15 5 1 (tyX5 1) true := ⟨RX5, TX5, 8, "AtomTables$Wheels", gclX5, by decide, kw_220, Or.inl rfl, tyX5_ok 1 (by decide), rfl, fun _ => rfl⟩
theorem fX10_15_6 : gk_Fg RX10 15 6 1 := ⟨RX6, TX6, 6, "AtomTables$Wheels", gclX6, by decide, kw_220, Or.inl rfl⟩
theorem fX10_15_6w : gk_Fl RX10 15 6 1 (tyX6 1) true := ⟨RX6, TX6, 6, "AtomTables$Wheels", gclX6, by decide, kw_220, Or.inl rfl, tyX6_ok 1 (by decide), rfl, fun _ => rfl⟩
theorem kw_229 : Cond.fieldLink "AtomTables$Wheels" 19 "AtomTables$Wheels" "low" "[I" ∈ gk_T := gk_in (t1k (List.mem_of_getElem? (i := 146) rfl)) rfl
theorem fX10_19_4 : gk_Fg RX10 19 4 2 := ⟨RX4, TX4, 7, "AtomTables$Wheels", gclX4, by decide, kw_229, Or.inl rfl⟩
theorem fX10_19_4w : gk_Fl RX10 19 4 2 (tyX4 2) true := ⟨RX4, TX4, 7, "AtomTables$Wheels", gclX4, by decide, kw_229, Or.inl rfl, tyX4_ok 2 (by decide), rfl, fun _ => rfl⟩
theorem fX10_19_5 : gk_Fg RX10 19 5 2 := ⟨RX5, TX5, 8, "AtomTables$Wheels", gclX5, by decide, kw_229, Or.inl rfl⟩
theorem fX10_19_5w : gk_Fl RX10 19 5 2 (tyX5 2) true := ⟨RX5, TX5, 8, "AtomTables$Wheels", gclX5, by decide, kw_229, Or.inl rfl, tyX5_ok 2 (by decide), rfl, fun _ => rfl⟩
theorem fX10_19_6 : gk_Fg RX10 19 6 2 := ⟨RX6, TX6, 6, "AtomTables$Wheels", gclX6, by decide, kw_229, Or.inl rfl⟩
theorem fX10_19_6w : gk_Fl RX10 19 6 2 (tyX6 2) true := ⟨RX6, TX6, 6, "AtomTables$Wheels", gclX6, by decide, kw_229, Or.inl rfl, tyX6_ok 2 (by decide), rfl, fun _ => rfl⟩
theorem kw_230 : Cond.fieldLink "AtomTables$Wheels" 22 "AtomTables$Wheels" "high" "[I" ∈ gk_T := gk_in (t1k (List.mem_of_getElem? (i := 147) rfl)) rfl
theorem fX10_22_4 : gk_Fg RX10 22 4 3 := ⟨RX4, TX4, 7, "AtomTables$Wheels", gclX4, by decide, kw_230, Or.inl rfl⟩
theorem fX10_22_4w : gk_Fl RX10 22 4 3 (tyX4 3) true := ⟨RX4, TX4, 7, "AtomTables$Wheels", gclX4, by decide, kw_230, Or.inl rfl, tyX4_ok 3 (by decide), rfl, fun _ => rfl⟩
theorem fX10_22_5 : gk_Fg RX10 22 5 3 := ⟨RX5, TX5, 8, "AtomTables$Wheels", gclX5, by decide, kw_230, Or.inl rfl⟩
theorem fX10_22_5w : gk_Fl RX10 22 5 3 (tyX5 3) true := ⟨RX5, TX5, 8, "AtomTables$Wheels", gclX5, by decide, kw_230, Or.inl rfl, tyX5_ok 3 (by decide), rfl, fun _ => rfl⟩
theorem fX10_22_6 : gk_Fg RX10 22 6 3 := ⟨RX6, TX6, 6, "AtomTables$Wheels", gclX6, by decide, kw_230, Or.inl rfl⟩
theorem fX10_22_6w : gk_Fl RX10 22 6 3 (tyX6 3) true := ⟨RX6, TX6, 6, "AtomTables$Wheels", gclX6, by decide, kw_230, Or.inl rfl, tyX6_ok 3 (by decide), rfl, fun _ => rfl⟩
theorem kw_1139 : Cond.fieldLink "AtomTablesModel" 9 "AtomTablesModel" "atoms" "I" ∈ gk_T := gk_in (t5k (List.mem_of_getElem? (i := 96) rfl)) rfl
theorem fX12_9_11 : gk_Fg RX12 9 11 0 := ⟨RX12, TX12, 34, "AtomTablesModel", gclX12, by decide, kw_1139, Or.inl rfl⟩
theorem fX12_9_11w : gk_Fl RX12 9 11 0 (tyX12 0) false := ⟨RX12, TX12, 34, "AtomTablesModel", gclX12, by decide, kw_1139, Or.inl rfl, tyX12_ok 0 (by decide), rfl, fun q => by cases q⟩
theorem kw_1140 : Cond.fieldLink "AtomTablesModel" 15 "AtomTablesModel" "converses" "[I" ∈ gk_T := gk_in (t5k (List.mem_of_getElem? (i := 97) rfl)) rfl
theorem fX12_15_11 : gk_Fg RX12 15 11 1 := ⟨RX12, TX12, 34, "AtomTablesModel", gclX12, by decide, kw_1140, Or.inl rfl⟩
theorem fX12_15_11w : gk_Fl RX12 15 11 1 (tyX12 1) true := ⟨RX12, TX12, 34, "AtomTablesModel", gclX12, by decide, kw_1140, Or.inl rfl, tyX12_ok 1 (by decide), rfl, fun _ => rfl⟩
theorem kw_1141 : Cond.fieldLink "AtomTablesModel" 19 "AtomTablesModel" "threes" "[Z" ∈ gk_T := gk_in (t5k (List.mem_of_getElem? (i := 98) rfl)) rfl
theorem fX12_19_11 : gk_Fg RX12 19 11 2 := ⟨RX12, TX12, 34, "AtomTablesModel", gclX12, by decide, kw_1141, Or.inl rfl⟩
theorem fX12_19_11w : gk_Fl RX12 19 11 2 (tyX12 2) true := ⟨RX12, TX12, 34, "AtomTablesModel", gclX12, by decide, kw_1141, Or.inl rfl, tyX12_ok 2 (by decide), rfl, fun _ => rfl⟩
theorem kw_1142 : Cond.fieldLink "AtomTablesModel" 23 "AtomTablesModel" "sizes" "[I" ∈ gk_T := gk_in (t5k (List.mem_of_getElem? (i := 99) rfl)) rfl
theorem fX12_23_11 : gk_Fg RX12 23 11 3 := ⟨RX12, TX12, 34, "AtomTablesModel", gclX12, by decide, kw_1142, Or.inl rfl⟩
theorem fX12_23_11w : gk_Fl RX12 23 11 3 (tyX12 3) true := ⟨RX12, TX12, 34, "AtomTablesModel", gclX12, by decide, kw_1142, Or.inl rfl, tyX12_ok 3 (by decide), rfl, fun _ => rfl⟩
theorem kw_1143 : Cond.fieldLink "AtomTablesModel" 26 "AtomTablesModel" "labels" "[I" ∈ gk_T := gk_in (t5k (List.mem_of_getElem? (i := 100) rfl)) rfl
theorem fX12_26_11 : gk_Fg RX12 26 11 4 := ⟨RX12, TX12, 34, "AtomTablesModel", gclX12, by decide, kw_1143, Or.inl rfl⟩
theorem fX12_26_11w : gk_Fl RX12 26 11 4 (tyX12 4) true := ⟨RX12, TX12, 34, "AtomTablesModel", gclX12, by decide, kw_1143, Or.inl rfl, tyX12_ok 4 (by decide), rfl, fun _ => rfl⟩
theorem kw_1146 : Cond.fieldLink "AtomTablesModel" 29 "AtomTablesModel" "asks" "[I" ∈ gk_T := gk_in (t5k (List.mem_of_getElem? (i := 103) rfl)) rfl
theorem fX12_29_11 : gk_Fg RX12 29 11 7 := ⟨RX12, TX12, 34, "AtomTablesModel", gclX12, by decide, kw_1146, Or.inl rfl⟩
theorem fX12_29_11w : gk_Fl RX12 29 11 7 (tyX12 7) true := ⟨RX12, TX12, 34, "AtomTablesModel", gclX12, by decide, kw_1146, Or.inl rfl, tyX12_ok 7 (by decide), rfl, fun _ => rfl⟩
theorem kw_1153 : Cond.fieldLink "AtomTablesModel" 32 "AtomTablesModel" "steps" "[I" ∈ gk_T := gk_in (t5k (List.mem_of_getElem? (i := 110) rfl)) rfl
theorem fX12_32_11 : gk_Fg RX12 32 11 14 := ⟨RX12, TX12, 34, "AtomTablesModel", gclX12, by decide, kw_1153, Or.inl rfl⟩
theorem fX12_32_11w : gk_Fl RX12 32 11 14 (tyX12 14) true := ⟨RX12, TX12, 34, "AtomTablesModel", gclX12, by decide, kw_1153, Or.inl rfl, tyX12_ok 14 (by decide), rfl, fun _ => rfl⟩
theorem kw_1154 : Cond.fieldLink "AtomTablesModel" 35 "AtomTablesModel" "longs" "[I" ∈ gk_T := gk_in (t5k (List.mem_of_getElem? (i := 111) rfl)) rfl
theorem fX12_35_11 : gk_Fg RX12 35 11 15 := ⟨RX12, TX12, 34, "AtomTablesModel", gclX12, by decide, kw_1154, Or.inl rfl⟩
theorem fX12_35_11w : gk_Fl RX12 35 11 15 (tyX12 15) true := ⟨RX12, TX12, 34, "AtomTablesModel", gclX12, by decide, kw_1154, Or.inl rfl, tyX12_ok 15 (by decide), rfl, fun _ => rfl⟩
theorem kw_1155 : Cond.fieldLink "AtomTablesModel" 38 "AtomTablesModel" "items" "[J" ∈ gk_T := gk_in (t5k (List.mem_of_getElem? (i := 112) rfl)) rfl
theorem fX12_38_11 : gk_Fg RX12 38 11 16 := ⟨RX12, TX12, 34, "AtomTablesModel", gclX12, by decide, kw_1155, Or.inl rfl⟩
theorem fX12_38_11w : gk_Fl RX12 38 11 16 (tyX12 16) true := ⟨RX12, TX12, 34, "AtomTablesModel", gclX12, by decide, kw_1155, Or.inl rfl, tyX12_ok 16 (by decide), rfl, fun _ => rfl⟩
theorem kw_1156 : Cond.fieldLink "AtomTablesModel" 42 "AtomTablesModel" "words" "[C" ∈ gk_T := gk_in (t5k (List.mem_of_getElem? (i := 113) rfl)) rfl
theorem fX12_42_11 : gk_Fg RX12 42 11 17 := ⟨RX12, TX12, 34, "AtomTablesModel", gclX12, by decide, kw_1156, Or.inl rfl⟩
theorem fX12_42_11w : gk_Fl RX12 42 11 17 (tyX12 17) true := ⟨RX12, TX12, 34, "AtomTablesModel", gclX12, by decide, kw_1156, Or.inl rfl, tyX12_ok 17 (by decide), rfl, fun _ => rfl⟩
theorem kw_1157 : Cond.fieldLink "AtomTablesModel" 46 "AtomTablesModel" "figures" "[I" ∈ gk_T := gk_in (t5k (List.mem_of_getElem? (i := 114) rfl)) rfl
theorem fX12_46_11 : gk_Fg RX12 46 11 18 := ⟨RX12, TX12, 34, "AtomTablesModel", gclX12, by decide, kw_1157, Or.inl rfl⟩
theorem fX12_46_11w : gk_Fl RX12 46 11 18 (tyX12 18) true := ⟨RX12, TX12, 34, "AtomTablesModel", gclX12, by decide, kw_1157, Or.inl rfl, tyX12_ok 18 (by decide), rfl, fun _ => rfl⟩
theorem kw_1158 : Cond.fieldLink "AtomTablesModel" 49 "AtomTablesModel" "tape" "[I" ∈ gk_T := gk_in (t5k (List.mem_of_getElem? (i := 115) rfl)) rfl
theorem fX12_49_11 : gk_Fg RX12 49 11 19 := ⟨RX12, TX12, 34, "AtomTablesModel", gclX12, by decide, kw_1158, Or.inl rfl⟩
theorem fX12_49_11w : gk_Fl RX12 49 11 19 (tyX12 19) true := ⟨RX12, TX12, 34, "AtomTablesModel", gclX12, by decide, kw_1158, Or.inl rfl, tyX12_ok 19 (by decide), rfl, fun _ => rfl⟩
theorem kw_1162 : Cond.fieldLink "AtomTablesModel" 52 "AtomTablesModel" "told" "[I" ∈ gk_T := gk_in (t5k (List.mem_of_getElem? (i := 119) rfl)) rfl
theorem fX12_52_11 : gk_Fg RX12 52 11 23 := ⟨RX12, TX12, 34, "AtomTablesModel", gclX12, by decide, kw_1162, Or.inl rfl⟩
theorem fX12_52_11w : gk_Fl RX12 52 11 23 (tyX12 23) true := ⟨RX12, TX12, 34, "AtomTablesModel", gclX12, by decide, kw_1162, Or.inl rfl, tyX12_ok 23 (by decide), rfl, fun _ => rfl⟩
theorem kw_1168 : Cond.fieldLink "AtomTablesModel" 55 "AtomTablesModel" "keptConverses" "[I" ∈ gk_T := gk_in (t5k (List.mem_of_getElem? (i := 125) rfl)) rfl
theorem fX12_55_11 : gk_Fg RX12 55 11 29 := ⟨RX12, TX12, 34, "AtomTablesModel", gclX12, by decide, kw_1168, Or.inl rfl⟩
theorem fX12_55_11w : gk_Fl RX12 55 11 29 (tyX12 29) true := ⟨RX12, TX12, 34, "AtomTablesModel", gclX12, by decide, kw_1168, Or.inl rfl, tyX12_ok 29 (by decide), rfl, fun _ => rfl⟩
theorem kw_1169 : Cond.fieldLink "AtomTablesModel" 58 "AtomTablesModel" "keptThrees" "[Z" ∈ gk_T := gk_in (t5k (List.mem_of_getElem? (i := 126) rfl)) rfl
theorem fX12_58_11 : gk_Fg RX12 58 11 30 := ⟨RX12, TX12, 34, "AtomTablesModel", gclX12, by decide, kw_1169, Or.inl rfl⟩
theorem fX12_58_11w : gk_Fl RX12 58 11 30 (tyX12 30) true := ⟨RX12, TX12, 34, "AtomTablesModel", gclX12, by decide, kw_1169, Or.inl rfl, tyX12_ok 30 (by decide), rfl, fun _ => rfl⟩
theorem kw_1170 : Cond.fieldLink "AtomTablesModel" 61 "AtomTablesModel" "keptSizes" "[I" ∈ gk_T := gk_in (t5k (List.mem_of_getElem? (i := 127) rfl)) rfl
theorem fX12_61_11 : gk_Fg RX12 61 11 31 := ⟨RX12, TX12, 34, "AtomTablesModel", gclX12, by decide, kw_1170, Or.inl rfl⟩
theorem fX12_61_11w : gk_Fl RX12 61 11 31 (tyX12 31) true := ⟨RX12, TX12, 34, "AtomTablesModel", gclX12, by decide, kw_1170, Or.inl rfl, tyX12_ok 31 (by decide), rfl, fun _ => rfl⟩
theorem kw_1171 : Cond.fieldLink "AtomTablesModel" 64 "AtomTablesModel" "keptLabels" "[I" ∈ gk_T := gk_in (t5k (List.mem_of_getElem? (i := 128) rfl)) rfl
theorem fX12_64_11 : gk_Fg RX12 64 11 32 := ⟨RX12, TX12, 34, "AtomTablesModel", gclX12, by decide, kw_1171, Or.inl rfl⟩
theorem fX12_64_11w : gk_Fl RX12 64 11 32 (tyX12 32) true := ⟨RX12, TX12, 34, "AtomTablesModel", gclX12, by decide, kw_1171, Or.inl rfl, tyX12_ok 32 (by decide), rfl, fun _ => rfl⟩
theorem kw_1144 : Cond.fieldLink "AtomTablesModel" 74 "AtomTablesModel" "isForbidden" "Z" ∈ gk_T := gk_in (t5k (List.mem_of_getElem? (i := 101) rfl)) rfl
theorem fX12_74_11 : gk_Fg RX12 74 11 5 := ⟨RX12, TX12, 34, "AtomTablesModel", gclX12, by decide, kw_1144, Or.inl rfl⟩
theorem fX12_74_11w : gk_Fl RX12 74 11 5 (tyX12 5) false := ⟨RX12, TX12, 34, "AtomTablesModel", gclX12, by decide, kw_1144, Or.inl rfl, tyX12_ok 5 (by decide), rfl, fun q => by cases q⟩
theorem kw_1145 : Cond.fieldLink "AtomTablesModel" 78 "AtomTablesModel" "isBoard" "Z" ∈ gk_T := gk_in (t5k (List.mem_of_getElem? (i := 102) rfl)) rfl
theorem fX12_78_11 : gk_Fg RX12 78 11 6 := ⟨RX12, TX12, 34, "AtomTablesModel", gclX12, by decide, kw_1145, Or.inl rfl⟩
theorem fX12_78_11w : gk_Fl RX12 78 11 6 (tyX12 6) false := ⟨RX12, TX12, 34, "AtomTablesModel", gclX12, by decide, kw_1145, Or.inl rfl, tyX12_ok 6 (by decide), rfl, fun q => by cases q⟩
theorem kw_1149 : Cond.fieldLink "AtomTablesModel" 174 "AtomTablesModel" "seen" "I" ∈ gk_T := gk_in (t5k (List.mem_of_getElem? (i := 106) rfl)) rfl
theorem fX12_174_11 : gk_Fg RX12 174 11 10 := ⟨RX12, TX12, 34, "AtomTablesModel", gclX12, by decide, kw_1149, Or.inl rfl⟩
theorem fX12_174_11w : gk_Fl RX12 174 11 10 (tyX12 10) false := ⟨RX12, TX12, 34, "AtomTablesModel", gclX12, by decide, kw_1149, Or.inl rfl, tyX12_ok 10 (by decide), rfl, fun q => by cases q⟩
theorem kw_1150 : Cond.fieldLink "AtomTablesModel" 177 "AtomTablesModel" "sought" "I" ∈ gk_T := gk_in (t5k (List.mem_of_getElem? (i := 107) rfl)) rfl
theorem fX12_177_11 : gk_Fg RX12 177 11 11 := ⟨RX12, TX12, 34, "AtomTablesModel", gclX12, by decide, kw_1150, Or.inl rfl⟩
theorem fX12_177_11w : gk_Fl RX12 177 11 11 (tyX12 11) false := ⟨RX12, TX12, 34, "AtomTablesModel", gclX12, by decide, kw_1150, Or.inl rfl, tyX12_ok 11 (by decide), rfl, fun q => by cases q⟩
theorem kw_1151 : Cond.fieldLink "AtomTablesModel" 180 "AtomTablesModel" "found" "I" ∈ gk_T := gk_in (t5k (List.mem_of_getElem? (i := 108) rfl)) rfl
theorem fX12_180_11 : gk_Fg RX12 180 11 12 := ⟨RX12, TX12, 34, "AtomTablesModel", gclX12, by decide, kw_1151, Or.inl rfl⟩
theorem fX12_180_11w : gk_Fl RX12 180 11 12 (tyX12 12) false := ⟨RX12, TX12, 34, "AtomTablesModel", gclX12, by decide, kw_1151, Or.inl rfl, tyX12_ok 12 (by decide), rfl, fun q => by cases q⟩
theorem kw_1147 : Cond.fieldLink "AtomTablesModel" 226 "AtomTablesModel" "asked" "I" ∈ gk_T := gk_in (t5k (List.mem_of_getElem? (i := 104) rfl)) rfl
theorem fX12_226_11 : gk_Fg RX12 226 11 8 := ⟨RX12, TX12, 34, "AtomTablesModel", gclX12, by decide, kw_1147, Or.inl rfl⟩
theorem fX12_226_11w : gk_Fl RX12 226 11 8 (tyX12 8) false := ⟨RX12, TX12, 34, "AtomTablesModel", gclX12, by decide, kw_1147, Or.inl rfl, tyX12_ok 8 (by decide), rfl, fun q => by cases q⟩
theorem kw_1148 : Cond.fieldLink "AtomTablesModel" 229 "AtomTablesModel" "answered" "I" ∈ gk_T := gk_in (t5k (List.mem_of_getElem? (i := 105) rfl)) rfl
theorem fX12_229_11 : gk_Fg RX12 229 11 9 := ⟨RX12, TX12, 34, "AtomTablesModel", gclX12, by decide, kw_1148, Or.inl rfl⟩
theorem fX12_229_11w : gk_Fl RX12 229 11 9 (tyX12 9) false := ⟨RX12, TX12, 34, "AtomTablesModel", gclX12, by decide, kw_1148, Or.inl rfl, tyX12_ok 9 (by decide), rfl, fun q => by cases q⟩
theorem kw_1152 : Cond.fieldLink "AtomTablesModel" 235 "AtomTablesModel" "points" "I" ∈ gk_T := gk_in (t5k (List.mem_of_getElem? (i := 109) rfl)) rfl
theorem fX12_235_11 : gk_Fg RX12 235 11 13 := ⟨RX12, TX12, 34, "AtomTablesModel", gclX12, by decide, kw_1152, Or.inl rfl⟩
theorem fX12_235_11w : gk_Fl RX12 235 11 13 (tyX12 13) false := ⟨RX12, TX12, 34, "AtomTablesModel", gclX12, by decide, kw_1152, Or.inl rfl, tyX12_ok 13 (by decide), rfl, fun q => by cases q⟩
theorem kw_1159 : Cond.fieldLink "AtomTablesModel" 261 "AtomTablesModel" "taped" "I" ∈ gk_T := gk_in (t5k (List.mem_of_getElem? (i := 116) rfl)) rfl
theorem fX12_261_11 : gk_Fg RX12 261 11 20 := ⟨RX12, TX12, 34, "AtomTablesModel", gclX12, by decide, kw_1159, Or.inl rfl⟩
theorem fX12_261_11w : gk_Fl RX12 261 11 20 (tyX12 20) false := ⟨RX12, TX12, 34, "AtomTablesModel", gclX12, by decide, kw_1159, Or.inl rfl, tyX12_ok 20 (by decide), rfl, fun q => by cases q⟩
theorem kw_1161 : Cond.fieldLink "AtomTablesModel" 264 "AtomTablesModel" "at" "I" ∈ gk_T := gk_in (t5k (List.mem_of_getElem? (i := 118) rfl)) rfl
theorem fX12_264_11 : gk_Fg RX12 264 11 22 := ⟨RX12, TX12, 34, "AtomTablesModel", gclX12, by decide, kw_1161, Or.inl rfl⟩
theorem fX12_264_11w : gk_Fl RX12 264 11 22 (tyX12 22) false := ⟨RX12, TX12, 34, "AtomTablesModel", gclX12, by decide, kw_1161, Or.inl rfl, tyX12_ok 22 (by decide), rfl, fun q => by cases q⟩
theorem kw_1160 : Cond.fieldLink "AtomTablesModel" 267 "AtomTablesModel" "size" "I" ∈ gk_T := gk_in (t5k (List.mem_of_getElem? (i := 117) rfl)) rfl
theorem fX12_267_11 : gk_Fg RX12 267 11 21 := ⟨RX12, TX12, 34, "AtomTablesModel", gclX12, by decide, kw_1160, Or.inl rfl⟩
theorem fX12_267_11w : gk_Fl RX12 267 11 21 (tyX12 21) false := ⟨RX12, TX12, 34, "AtomTablesModel", gclX12, by decide, kw_1160, Or.inl rfl, tyX12_ok 21 (by decide), rfl, fun q => by cases q⟩
theorem kw_1163 : Cond.fieldLink "AtomTablesModel" 290 "AtomTablesModel" "signs" "I" ∈ gk_T := gk_in (t5k (List.mem_of_getElem? (i := 120) rfl)) rfl
theorem fX12_290_11 : gk_Fg RX12 290 11 24 := ⟨RX12, TX12, 34, "AtomTablesModel", gclX12, by decide, kw_1163, Or.inl rfl⟩
theorem fX12_290_11w : gk_Fl RX12 290 11 24 (tyX12 24) false := ⟨RX12, TX12, 34, "AtomTablesModel", gclX12, by decide, kw_1163, Or.inl rfl, tyX12_ok 24 (by decide), rfl, fun q => by cases q⟩
theorem kw_1164 : Cond.fieldLink "AtomTablesModel" 293 "AtomTablesModel" "wanted" "I" ∈ gk_T := gk_in (t5k (List.mem_of_getElem? (i := 121) rfl)) rfl
theorem fX12_293_11 : gk_Fg RX12 293 11 25 := ⟨RX12, TX12, 34, "AtomTablesModel", gclX12, by decide, kw_1164, Or.inl rfl⟩
theorem fX12_293_11w : gk_Fl RX12 293 11 25 (tyX12 25) false := ⟨RX12, TX12, 34, "AtomTablesModel", gclX12, by decide, kw_1164, Or.inl rfl, tyX12_ok 25 (by decide), rfl, fun q => by cases q⟩
theorem kw_1165 : Cond.fieldLink "AtomTablesModel" 296 "AtomTablesModel" "sign" "I" ∈ gk_T := gk_in (t5k (List.mem_of_getElem? (i := 122) rfl)) rfl
theorem fX12_296_11 : gk_Fg RX12 296 11 26 := ⟨RX12, TX12, 34, "AtomTablesModel", gclX12, by decide, kw_1165, Or.inl rfl⟩
theorem fX12_296_11w : gk_Fl RX12 296 11 26 (tyX12 26) false := ⟨RX12, TX12, 34, "AtomTablesModel", gclX12, by decide, kw_1165, Or.inl rfl, tyX12_ok 26 (by decide), rfl, fun q => by cases q⟩
theorem kw_1166 : Cond.fieldLink "AtomTablesModel" 312 "AtomTablesModel" "isKept" "Z" ∈ gk_T := gk_in (t5k (List.mem_of_getElem? (i := 123) rfl)) rfl
theorem fX12_312_11 : gk_Fg RX12 312 11 27 := ⟨RX12, TX12, 34, "AtomTablesModel", gclX12, by decide, kw_1166, Or.inl rfl⟩
theorem fX12_312_11w : gk_Fl RX12 312 11 27 (tyX12 27) false := ⟨RX12, TX12, 34, "AtomTablesModel", gclX12, by decide, kw_1166, Or.inl rfl, tyX12_ok 27 (by decide), rfl, fun q => by cases q⟩
theorem kw_1167 : Cond.fieldLink "AtomTablesModel" 315 "AtomTablesModel" "keptAtoms" "I" ∈ gk_T := gk_in (t5k (List.mem_of_getElem? (i := 124) rfl)) rfl
theorem fX12_315_11 : gk_Fg RX12 315 11 28 := ⟨RX12, TX12, 34, "AtomTablesModel", gclX12, by decide, kw_1167, Or.inl rfl⟩
theorem fX12_315_11w : gk_Fl RX12 315 11 28 (tyX12 28) false := ⟨RX12, TX12, 34, "AtomTablesModel", gclX12, by decide, kw_1167, Or.inl rfl, tyX12_ok 28 (by decide), rfl, fun q => by cases q⟩
theorem kw_1172 : Cond.fieldLink "AtomTablesModel" 318 "AtomTablesModel" "keptForbidden" "Z" ∈ gk_T := gk_in (t5k (List.mem_of_getElem? (i := 129) rfl)) rfl
theorem fX12_318_11 : gk_Fg RX12 318 11 33 := ⟨RX12, TX12, 34, "AtomTablesModel", gclX12, by decide, kw_1172, Or.inl rfl⟩
theorem fX12_318_11w : gk_Fl RX12 318 11 33 (tyX12 33) false := ⟨RX12, TX12, 34, "AtomTablesModel", gclX12, by decide, kw_1172, Or.inl rfl, tyX12_ok 33 (by decide), rfl, fun q => by cases q⟩
theorem kw_1636 : Cond.fieldLink "java/lang/String" 9 "java/lang/String" "value" "[B" ∈ gk_T := gk_in (t7k (List.mem_of_getElem? (i := 113) rfl)) rfl
theorem kw_1637 : Cond.fieldLink "java/lang/String" 15 "java/lang/String" "coder" "B" ∈ gk_T := gk_in (t7k (List.mem_of_getElem? (i := 114) rfl)) rfl
theorem kw_1006 : Cond.fieldLink "java/lang/String" 38 "java/lang/String" "COMPACT_STRINGS" "Z" ∈ gk_T := gk_in (t4k (List.mem_of_getElem? (i := 203) rfl)) rfl
theorem kw_1022 : Cond.fieldLink "java/lang/String" 1053 "jdk/internal/util/Preconditions" "SIOOBE_FORMATTER" "Ljava/util/function/BiFunction;" ∈ gk_T := gk_in (t4k (List.mem_of_getElem? (i := 219) rfl)) rfl
theorem kw_1040 : Cond.fieldLink "java/lang/StringUTF16" 44 "java/lang/StringUTF16" "$assertionsDisabled" "Z" ∈ gk_T := gk_in (t4k (List.mem_of_getElem? (i := 237) rfl)) rfl
theorem kw_1042 : Cond.fieldLink "java/lang/StringUTF16" 59 "java/lang/StringUTF16" "HI_BYTE_SHIFT" "I" ∈ gk_T := gk_in (t4k (List.mem_of_getElem? (i := 239) rfl)) rfl
theorem kw_1044 : Cond.fieldLink "java/lang/StringUTF16" 63 "java/lang/StringUTF16" "LO_BYTE_SHIFT" "I" ∈ gk_T := gk_in (t5k (List.mem_of_getElem? (i := 1) rfl)) rfl
theorem kw_109 : Cond.methodLink "AtomTables" 3 objectInit ∈ gk_T := gk_in (t1k (List.mem_of_getElem? (i := 26) rfl)) rfl
theorem kw_114 : Cond.methodLink "AtomTables" 11 yX7_init ∈ gk_T := gk_in (t1k (List.mem_of_getElem? (i := 31) rfl)) rfl
theorem kw_115 : Cond.instanceMethod yX7_init ∈ gk_T := gk_in (t1k (List.mem_of_getElem? (i := 32) rfl)) rfl
theorem kw_85 : Cond.initialized "AtomTables$Sheet" ∈ gk_T := gk_in (t1k (List.mem_of_getElem? (i := 2) rfl)) rfl
theorem ciX11_11 : gk_Ci RX11 11 mX7_init 0 := ⟨okX7_init, kw_114, kw_115, kw_85, rfl, rfl⟩
theorem kw_203 : Cond.methodLink "AtomTables" 27 yX4_init ∈ gk_T := gk_in (t1k (List.mem_of_getElem? (i := 120) rfl)) rfl
theorem kw_204 : Cond.instanceMethod yX4_init ∈ gk_T := gk_in (t1k (List.mem_of_getElem? (i := 121) rfl)) rfl
theorem kw_89 : Cond.initialized "AtomTables$Patterns" ∈ gk_T := gk_in (t1k (List.mem_of_getElem? (i := 6) rfl)) rfl
theorem ciX11_27 : gk_Ci RX11 27 mX4_init 1 := ⟨okX4_init, kw_203, kw_204, kw_89, rfl, rfl⟩
theorem kw_248 : Cond.methodLink "AtomTables" 36 yX1_init ∈ gk_T := gk_in (t1k (List.mem_of_getElem? (i := 165) rfl)) rfl
theorem kw_249 : Cond.instanceMethod yX1_init ∈ gk_T := gk_in (t1k (List.mem_of_getElem? (i := 166) rfl)) rfl
theorem kw_90 : Cond.initialized "AtomTables$Filler" ∈ gk_T := gk_in (t1k (List.mem_of_getElem? (i := 7) rfl)) rfl
theorem ciX11_36 : gk_Ci RX11 36 mX1_init 2 := ⟨okX1_init, kw_248, kw_249, kw_90, rfl, rfl⟩
theorem kw_290 : Cond.methodLink "AtomTables" 45 yX2_init ∈ gk_T := gk_in (t1k (List.mem_of_getElem? (i := 207) rfl)) rfl
theorem kw_291 : Cond.instanceMethod yX2_init ∈ gk_T := gk_in (t1k (List.mem_of_getElem? (i := 208) rfl)) rfl
theorem kw_92 : Cond.initialized "AtomTables$Game" ∈ gk_T := gk_in (t1k (List.mem_of_getElem? (i := 9) rfl)) rfl
theorem ciX11_45 : gk_Ci RX11 45 mX2_init 2 := ⟨okX2_init, kw_290, kw_291, kw_92, rfl, rfl⟩
theorem kw_319 : Cond.methodLink "AtomTables" 56 yX0_init ∈ gk_T := gk_in (t1k (List.mem_of_getElem? (i := 236) rfl)) rfl
theorem kw_320 : Cond.instanceMethod yX0_init ∈ gk_T := gk_in (t1k (List.mem_of_getElem? (i := 237) rfl)) rfl
theorem kw_93 : Cond.initialized "AtomTables$Board" ∈ gk_T := gk_in (t1k (List.mem_of_getElem? (i := 10) rfl)) rfl
theorem ciX11_56 : gk_Ci RX11 56 mX0_init 1 := ⟨okX0_init, kw_319, kw_320, kw_93, rfl, rfl⟩
theorem kw_351 : Cond.methodLink "AtomTables" 65 yX5_init ∈ gk_T := gk_in (t2k (List.mem_of_getElem? (i := 28) rfl)) rfl
theorem kw_352 : Cond.instanceMethod yX5_init ∈ gk_T := gk_in (t2k (List.mem_of_getElem? (i := 29) rfl)) rfl
theorem kw_94 : Cond.initialized "AtomTables$Pictures" ∈ gk_T := gk_in (t1k (List.mem_of_getElem? (i := 11) rfl)) rfl
theorem ciX11_65 : gk_Ci RX11 65 mX5_init 1 := ⟨okX5_init, kw_351, kw_352, kw_94, rfl, rfl⟩
theorem kw_375 : Cond.methodLink "AtomTables" 80 yX9_init ∈ gk_T := gk_in (t2k (List.mem_of_getElem? (i := 52) rfl)) rfl
theorem kw_376 : Cond.instanceMethod yX9_init ∈ gk_T := gk_in (t2k (List.mem_of_getElem? (i := 53) rfl)) rfl
theorem kw_95 : Cond.initialized "AtomTables$Tape" ∈ gk_T := gk_in (t1k (List.mem_of_getElem? (i := 12) rfl)) rfl
theorem ciX11_80 : gk_Ci RX11 80 mX9_init 0 := ⟨okX9_init, kw_375, kw_376, kw_95, rfl, rfl⟩
theorem kw_431 : Cond.methodLink "AtomTables" 94 yX8_restart ∈ gk_T := gk_in (t2k (List.mem_of_getElem? (i := 108) rfl)) rfl
theorem kw_125 : Cond.instanceMethod yX8_restart ∈ gk_T := gk_in (t1k (List.mem_of_getElem? (i := 42) rfl)) rfl
theorem kw_126 : Cond.selects "AtomTables$Table" yX8_restart yX8_restart ∈ gk_T := gk_in (t1k (List.mem_of_getElem? (i := 43) rfl)) rfl
theorem kw_86 : Cond.initialized "AtomTables$Table" ∈ gk_T := gk_in (t1k (List.mem_of_getElem? (i := 3) rfl)) rfl
theorem cvX11_94 : gk_Cv RX11 94 mX8_restart 8 1 := ⟨okX8_restart, ⟨_, _, rfl⟩, kw_431, kw_125, kw_126, kw_86⟩
theorem kw_432 : Cond.methodLink "AtomTables" 98 yX11_forgetNetworks ∈ gk_T := gk_in (t2k (List.mem_of_getElem? (i := 109) rfl)) rfl
theorem kw_434 : Cond.instanceMethod yX11_forgetNetworks ∈ gk_T := gk_in (t2k (List.mem_of_getElem? (i := 111) rfl)) rfl
theorem kw_1 : Cond.selects "AtomTables" yX11_forgetNetworks yX11_forgetNetworks ∈ gk_T := gk_in (p1k (List.mem_of_getElem? (i := 1) rfl)) rfl
theorem kw_84 : Cond.initialized "AtomTables" ∈ gk_T := gk_in (t1k (List.mem_of_getElem? (i := 1) rfl)) rfl
theorem cvX11_98 : gk_Cv RX11 98 mX11_forgetNetworks 10 0 := ⟨okX11_forgetNetworks, ⟨_, _, rfl⟩, kw_432, kw_434, kw_1, kw_84⟩
theorem kw_444 : Cond.methodLink "AtomTables" 101 yX11_isAtomButZero ∈ gk_T := gk_in (t2k (List.mem_of_getElem? (i := 121) rfl)) rfl
theorem kw_446 : Cond.instanceMethod yX11_isAtomButZero ∈ gk_T := gk_in (t2k (List.mem_of_getElem? (i := 123) rfl)) rfl
theorem kw_2 : Cond.selects "AtomTables" yX11_isAtomButZero yX11_isAtomButZero ∈ gk_T := gk_in (p1k (List.mem_of_getElem? (i := 2) rfl)) rfl
theorem cvX11_101 : gk_Cv RX11 101 mX11_isAtomButZero 10 1 := ⟨okX11_isAtomButZero, ⟨_, _, rfl⟩, kw_444, kw_446, kw_2, kw_84⟩
theorem kw_448 : Cond.methodLink "AtomTables" 105 yX8_couple ∈ gk_T := gk_in (t2k (List.mem_of_getElem? (i := 125) rfl)) rfl
theorem kw_449 : Cond.instanceMethod yX8_couple ∈ gk_T := gk_in (t2k (List.mem_of_getElem? (i := 126) rfl)) rfl
theorem kw_450 : Cond.selects "AtomTables$Table" yX8_couple yX8_couple ∈ gk_T := gk_in (t2k (List.mem_of_getElem? (i := 127) rfl)) rfl
theorem cvX11_105 : gk_Cv RX11 105 mX8_couple 8 2 := ⟨okX8_couple, ⟨_, _, rfl⟩, kw_448, kw_449, kw_450, kw_86⟩
theorem kw_456 : Cond.methodLink "AtomTables" 109 yX8_coupled ∈ gk_T := gk_in (t2k (List.mem_of_getElem? (i := 133) rfl)) rfl
theorem kw_457 : Cond.instanceMethod yX8_coupled ∈ gk_T := gk_in (t2k (List.mem_of_getElem? (i := 134) rfl)) rfl
theorem kw_458 : Cond.selects "AtomTables$Table" yX8_coupled yX8_coupled ∈ gk_T := gk_in (t2k (List.mem_of_getElem? (i := 135) rfl)) rfl
theorem cvX11_109 : gk_Cv RX11 109 mX8_coupled 8 0 := ⟨okX8_coupled, ⟨_, _, rfl⟩, kw_456, kw_457, kw_458, kw_86⟩
theorem kw_464 : Cond.methodLink "AtomTables" 113 yX11_isRelation ∈ gk_T := gk_in (t2k (List.mem_of_getElem? (i := 141) rfl)) rfl
theorem kw_466 : Cond.instanceMethod yX11_isRelation ∈ gk_T := gk_in (t2k (List.mem_of_getElem? (i := 143) rfl)) rfl
theorem kw_4 : Cond.selects "AtomTables" yX11_isRelation yX11_isRelation ∈ gk_T := gk_in (p1k (List.mem_of_getElem? (i := 4) rfl)) rfl
theorem cvX11_113 : gk_Cv RX11 113 mX11_isRelation 10 1 := ⟨okX11_isRelation, ⟨_, _, rfl⟩, kw_464, kw_466, kw_4, kw_84⟩
theorem kw_472 : Cond.methodLink "AtomTables" 116 yX8_mirrored ∈ gk_T := gk_in (t2k (List.mem_of_getElem? (i := 149) rfl)) rfl
theorem kw_473 : Cond.instanceMethod yX8_mirrored ∈ gk_T := gk_in (t2k (List.mem_of_getElem? (i := 150) rfl)) rfl
theorem kw_474 : Cond.selects "AtomTables$Table" yX8_mirrored yX8_mirrored ∈ gk_T := gk_in (t2k (List.mem_of_getElem? (i := 151) rfl)) rfl
theorem cvX11_116 : gk_Cv RX11 116 mX8_mirrored 8 1 := ⟨okX8_mirrored, ⟨_, _, rfl⟩, kw_472, kw_473, kw_474, kw_86⟩
theorem kw_480 : Cond.methodLink "AtomTables" 120 yX11_isAtom ∈ gk_T := gk_in (t2k (List.mem_of_getElem? (i := 157) rfl)) rfl
theorem kw_482 : Cond.instanceMethod yX11_isAtom ∈ gk_T := gk_in (t2k (List.mem_of_getElem? (i := 159) rfl)) rfl
theorem kw_5 : Cond.selects "AtomTables" yX11_isAtom yX11_isAtom ∈ gk_T := gk_in (p1k (List.mem_of_getElem? (i := 5) rfl)) rfl
theorem cvX11_120 : gk_Cv RX11 120 mX11_isAtom 10 1 := ⟨okX11_isAtom, ⟨_, _, rfl⟩, kw_480, kw_482, kw_5, kw_84⟩
theorem kw_484 : Cond.methodLink "AtomTables" 123 yX8_mark ∈ gk_T := gk_in (t2k (List.mem_of_getElem? (i := 161) rfl)) rfl
theorem kw_485 : Cond.instanceMethod yX8_mark ∈ gk_T := gk_in (t2k (List.mem_of_getElem? (i := 162) rfl)) rfl
theorem kw_486 : Cond.selects "AtomTables$Table" yX8_mark yX8_mark ∈ gk_T := gk_in (t2k (List.mem_of_getElem? (i := 163) rfl)) rfl
theorem cvX11_123 : gk_Cv RX11 123 mX8_mark 8 4 := ⟨okX8_mark, ⟨_, _, rfl⟩, kw_484, kw_485, kw_486, kw_86⟩
theorem kw_503 : Cond.methodLink "AtomTables" 127 yX8_has ∈ gk_T := gk_in (t2k (List.mem_of_getElem? (i := 180) rfl)) rfl
theorem kw_504 : Cond.instanceMethod yX8_has ∈ gk_T := gk_in (t2k (List.mem_of_getElem? (i := 181) rfl)) rfl
theorem kw_505 : Cond.selects "AtomTables$Table" yX8_has yX8_has ∈ gk_T := gk_in (t2k (List.mem_of_getElem? (i := 182) rfl)) rfl
theorem cvX11_127 : gk_Cv RX11 127 mX8_has 8 3 := ⟨okX8_has, ⟨_, _, rfl⟩, kw_503, kw_504, kw_505, kw_86⟩
theorem kw_511 : Cond.methodLink "AtomTables" 131 yX8_product ∈ gk_T := gk_in (t2k (List.mem_of_getElem? (i := 188) rfl)) rfl
theorem kw_512 : Cond.instanceMethod yX8_product ∈ gk_T := gk_in (t2k (List.mem_of_getElem? (i := 189) rfl)) rfl
theorem kw_513 : Cond.selects "AtomTables$Table" yX8_product yX8_product ∈ gk_T := gk_in (t2k (List.mem_of_getElem? (i := 190) rfl)) rfl
theorem cvX11_131 : gk_Cv RX11 131 mX8_product 8 2 := ⟨okX8_product, ⟨_, _, rfl⟩, kw_511, kw_512, kw_513, kw_86⟩
theorem kw_519 : Cond.methodLink "AtomTables" 135 yX11_isSide ∈ gk_T := gk_in (t2k (List.mem_of_getElem? (i := 196) rfl)) rfl
theorem kw_520 : Cond.static yX11_isSide ∈ gk_T := gk_in (t2k (List.mem_of_getElem? (i := 197) rfl)) rfl
theorem csX11_135 : gk_Cs RX11 135 mX11_isSide 1 := ⟨okX11_isSide, kw_519, kw_520, kw_84⟩
theorem kw_522 : Cond.methodLink "AtomTables" 138 yX8_residual ∈ gk_T := gk_in (t2k (List.mem_of_getElem? (i := 199) rfl)) rfl
theorem kw_523 : Cond.instanceMethod yX8_residual ∈ gk_T := gk_in (t2k (List.mem_of_getElem? (i := 200) rfl)) rfl
theorem kw_524 : Cond.selects "AtomTables$Table" yX8_residual yX8_residual ∈ gk_T := gk_in (t2k (List.mem_of_getElem? (i := 201) rfl)) rfl
theorem cvX11_138 : gk_Cv RX11 138 mX8_residual 8 3 := ⟨okX8_residual, ⟨_, _, rfl⟩, kw_522, kw_523, kw_524, kw_86⟩
theorem kw_535 : Cond.methodLink "AtomTables" 142 yX8_powers ∈ gk_T := gk_in (t2k (List.mem_of_getElem? (i := 212) rfl)) rfl
theorem kw_536 : Cond.instanceMethod yX8_powers ∈ gk_T := gk_in (t2k (List.mem_of_getElem? (i := 213) rfl)) rfl
theorem kw_537 : Cond.selects "AtomTables$Table" yX8_powers yX8_powers ∈ gk_T := gk_in (t2k (List.mem_of_getElem? (i := 214) rfl)) rfl
theorem cvX11_142 : gk_Cv RX11 142 mX8_powers 8 2 := ⟨okX8_powers, ⟨_, _, rfl⟩, kw_535, kw_536, kw_537, kw_86⟩
theorem kw_468 : Cond.methodLink "AtomTables" 146 yX8_relations ∈ gk_T := gk_in (t2k (List.mem_of_getElem? (i := 145) rfl)) rfl
theorem kw_469 : Cond.instanceMethod yX8_relations ∈ gk_T := gk_in (t2k (List.mem_of_getElem? (i := 146) rfl)) rfl
theorem kw_470 : Cond.selects "AtomTables$Table" yX8_relations yX8_relations ∈ gk_T := gk_in (t2k (List.mem_of_getElem? (i := 147) rfl)) rfl
theorem cvX11_146 : gk_Cv RX11 146 mX8_relations 8 0 := ⟨okX8_relations, ⟨_, _, rfl⟩, kw_468, kw_469, kw_470, kw_86⟩
theorem kw_544 : Cond.methodLink "AtomTables" 149 yX8_isEquivalence ∈ gk_T := gk_in (t2k (List.mem_of_getElem? (i := 221) rfl)) rfl
theorem kw_545 : Cond.instanceMethod yX8_isEquivalence ∈ gk_T := gk_in (t2k (List.mem_of_getElem? (i := 222) rfl)) rfl
theorem kw_546 : Cond.selects "AtomTables$Table" yX8_isEquivalence yX8_isEquivalence ∈ gk_T := gk_in (t2k (List.mem_of_getElem? (i := 223) rfl)) rfl
theorem cvX11_149 : gk_Cv RX11 149 mX8_isEquivalence 8 1 := ⟨okX8_isEquivalence, ⟨_, _, rfl⟩, kw_544, kw_545, kw_546, kw_86⟩
theorem kw_553 : Cond.methodLink "AtomTables" 152 yX8_solutions ∈ gk_T := gk_in (t2k (List.mem_of_getElem? (i := 230) rfl)) rfl
theorem kw_554 : Cond.instanceMethod yX8_solutions ∈ gk_T := gk_in (t2k (List.mem_of_getElem? (i := 231) rfl)) rfl
theorem kw_555 : Cond.selects "AtomTables$Table" yX8_solutions yX8_solutions ∈ gk_T := gk_in (t2k (List.mem_of_getElem? (i := 232) rfl)) rfl
theorem cvX11_152 : gk_Cv RX11 152 mX8_solutions 8 4 := ⟨okX8_solutions, ⟨_, _, rfl⟩, kw_553, kw_554, kw_555, kw_86⟩
theorem kw_561 : Cond.methodLink "AtomTables" 156 yX8_unbalanced ∈ gk_T := gk_in (t2k (List.mem_of_getElem? (i := 238) rfl)) rfl
theorem kw_562 : Cond.instanceMethod yX8_unbalanced ∈ gk_T := gk_in (t2k (List.mem_of_getElem? (i := 239) rfl)) rfl
theorem kw_563 : Cond.selects "AtomTables$Table" yX8_unbalanced yX8_unbalanced ∈ gk_T := gk_in (t3k (List.mem_of_getElem? (i := 0) rfl)) rfl
theorem cvX11_156 : gk_Cv RX11 156 mX8_unbalanced 8 1 := ⟨okX8_unbalanced, ⟨_, _, rfl⟩, kw_561, kw_562, kw_563, kw_86⟩
theorem kw_569 : Cond.methodLink "AtomTables" 160 yX8_thin ∈ gk_T := gk_in (t3k (List.mem_of_getElem? (i := 6) rfl)) rfl
theorem kw_570 : Cond.instanceMethod yX8_thin ∈ gk_T := gk_in (t3k (List.mem_of_getElem? (i := 7) rfl)) rfl
theorem kw_571 : Cond.selects "AtomTables$Table" yX8_thin yX8_thin ∈ gk_T := gk_in (t3k (List.mem_of_getElem? (i := 8) rfl)) rfl
theorem cvX11_160 : gk_Cv RX11 160 mX8_thin 8 1 := ⟨okX8_thin, ⟨_, _, rfl⟩, kw_569, kw_570, kw_571, kw_86⟩
theorem kw_577 : Cond.methodLink "AtomTables" 167 yJ13_bitCount_95d88 ∈ gk_T := gk_in (t3k (List.mem_of_getElem? (i := 14) rfl)) rfl
theorem kw_494 : Cond.static yJ13_bitCount_95d88 ∈ gk_T := gk_in (t2k (List.mem_of_getElem? (i := 171) rfl)) rfl
theorem kw_97 : Cond.initialized "java/lang/Long" ∈ gk_T := gk_in (t1k (List.mem_of_getElem? (i := 14) rfl)) rfl
theorem csX11_167 : gk_Cs RX11 167 mJ13_bitCount_95d88 1 := ⟨okJ13_bitCount_95d88, kw_577, kw_494, kw_97⟩
theorem kw_578 : Cond.methodLink "AtomTables" 171 yX8_cycleFacts ∈ gk_T := gk_in (t3k (List.mem_of_getElem? (i := 15) rfl)) rfl
theorem kw_579 : Cond.instanceMethod yX8_cycleFacts ∈ gk_T := gk_in (t3k (List.mem_of_getElem? (i := 16) rfl)) rfl
theorem kw_580 : Cond.selects "AtomTables$Table" yX8_cycleFacts yX8_cycleFacts ∈ gk_T := gk_in (t3k (List.mem_of_getElem? (i := 17) rfl)) rfl
theorem cvX11_171 : gk_Cv RX11 171 mX8_cycleFacts 8 1 := ⟨okX8_cycleFacts, ⟨_, _, rfl⟩, kw_578, kw_579, kw_580, kw_86⟩
theorem kw_594 : Cond.methodLink "AtomTables" 174 yX11_isNet ∈ gk_T := gk_in (t3k (List.mem_of_getElem? (i := 31) rfl)) rfl
theorem kw_595 : Cond.static yX11_isNet ∈ gk_T := gk_in (t3k (List.mem_of_getElem? (i := 32) rfl)) rfl
theorem csX11_174 : gk_Cs RX11 174 mX11_isNet 1 := ⟨okX11_isNet, kw_594, kw_595, kw_84⟩
theorem kw_597 : Cond.methodLink "AtomTables" 184 yX1_spread ∈ gk_T := gk_in (t3k (List.mem_of_getElem? (i := 34) rfl)) rfl
theorem kw_598 : Cond.instanceMethod yX1_spread ∈ gk_T := gk_in (t3k (List.mem_of_getElem? (i := 35) rfl)) rfl
theorem kw_599 : Cond.selects "AtomTables$Filler" yX1_spread yX1_spread ∈ gk_T := gk_in (t3k (List.mem_of_getElem? (i := 36) rfl)) rfl
theorem cvX11_184 : gk_Cv RX11 184 mX1_spread 1 2 := ⟨okX1_spread, ⟨_, _, rfl⟩, kw_597, kw_598, kw_599, kw_90⟩
theorem kw_601 : Cond.methodLink "AtomTables" 191 yX3_grow ∈ gk_T := gk_in (t3k (List.mem_of_getElem? (i := 38) rfl)) rfl
theorem kw_602 : Cond.instanceMethod yX3_grow ∈ gk_T := gk_in (t3k (List.mem_of_getElem? (i := 39) rfl)) rfl
theorem kw_603 : Cond.selects "AtomTables$Net" yX3_grow yX3_grow ∈ gk_T := gk_in (t3k (List.mem_of_getElem? (i := 40) rfl)) rfl
theorem kw_87 : Cond.initialized "AtomTables$Net" ∈ gk_T := gk_in (t1k (List.mem_of_getElem? (i := 4) rfl)) rfl
theorem cvX11_191 : gk_Cv RX11 191 mX3_grow 3 2 := ⟨okX3_grow, ⟨_, _, rfl⟩, kw_601, kw_602, kw_603, kw_87⟩
theorem kw_617 : Cond.methodLink "AtomTables" 195 yX11_isNode ∈ gk_T := gk_in (t3k (List.mem_of_getElem? (i := 54) rfl)) rfl
theorem kw_619 : Cond.instanceMethod yX11_isNode ∈ gk_T := gk_in (t3k (List.mem_of_getElem? (i := 56) rfl)) rfl
theorem kw_8 : Cond.selects "AtomTables" yX11_isNode yX11_isNode ∈ gk_T := gk_in (p1k (List.mem_of_getElem? (i := 8) rfl)) rfl
theorem cvX11_195 : gk_Cv RX11 195 mX11_isNode 10 2 := ⟨okX11_isNode, ⟨_, _, rfl⟩, kw_617, kw_619, kw_8, kw_84⟩
theorem kw_621 : Cond.methodLink "AtomTables" 198 yX3_at ∈ gk_T := gk_in (t3k (List.mem_of_getElem? (i := 58) rfl)) rfl
theorem kw_622 : Cond.instanceMethod yX3_at ∈ gk_T := gk_in (t3k (List.mem_of_getElem? (i := 59) rfl)) rfl
theorem kw_623 : Cond.selects "AtomTables$Net" yX3_at yX3_at ∈ gk_T := gk_in (t3k (List.mem_of_getElem? (i := 60) rfl)) rfl
theorem cvX11_198 : gk_Cv RX11 198 mX3_at 3 2 := ⟨okX3_at, ⟨_, _, rfl⟩, kw_621, kw_622, kw_623, kw_87⟩
theorem kw_629 : Cond.methodLink "AtomTables" 201 yX3_link ∈ gk_T := gk_in (t3k (List.mem_of_getElem? (i := 66) rfl)) rfl
theorem kw_606 : Cond.instanceMethod yX3_link ∈ gk_T := gk_in (t3k (List.mem_of_getElem? (i := 43) rfl)) rfl
theorem kw_607 : Cond.selects "AtomTables$Net" yX3_link yX3_link ∈ gk_T := gk_in (t3k (List.mem_of_getElem? (i := 44) rfl)) rfl
theorem cvX11_201 : gk_Cv RX11 201 mX3_link 3 4 := ⟨okX3_link, ⟨_, _, rfl⟩, kw_629, kw_606, kw_607, kw_87⟩
theorem kw_634 : Cond.methodLink "AtomTables" 205 yX3_become ∈ gk_T := gk_in (t3k (List.mem_of_getElem? (i := 71) rfl)) rfl
theorem kw_635 : Cond.instanceMethod yX3_become ∈ gk_T := gk_in (t3k (List.mem_of_getElem? (i := 72) rfl)) rfl
theorem kw_636 : Cond.selects "AtomTables$Net" yX3_become yX3_become ∈ gk_T := gk_in (t3k (List.mem_of_getElem? (i := 73) rfl)) rfl
theorem cvX11_205 : gk_Cv RX11 205 mX3_become 3 1 := ⟨okX3_become, ⟨_, _, rfl⟩, kw_634, kw_635, kw_636, kw_87⟩
theorem kw_642 : Cond.methodLink "AtomTables" 209 yX3_unsound ∈ gk_T := gk_in (t3k (List.mem_of_getElem? (i := 79) rfl)) rfl
theorem kw_643 : Cond.instanceMethod yX3_unsound ∈ gk_T := gk_in (t3k (List.mem_of_getElem? (i := 80) rfl)) rfl
theorem kw_644 : Cond.selects "AtomTables$Net" yX3_unsound yX3_unsound ∈ gk_T := gk_in (t3k (List.mem_of_getElem? (i := 81) rfl)) rfl
theorem cvX11_209 : gk_Cv RX11 209 mX3_unsound 3 1 := ⟨okX3_unsound, ⟨_, _, rfl⟩, kw_642, kw_643, kw_644, kw_87⟩
theorem kw_652 : Cond.methodLink "AtomTables" 213 yX3_gapAt ∈ gk_T := gk_in (t3k (List.mem_of_getElem? (i := 89) rfl)) rfl
theorem kw_653 : Cond.instanceMethod yX3_gapAt ∈ gk_T := gk_in (t3k (List.mem_of_getElem? (i := 90) rfl)) rfl
theorem kw_654 : Cond.selects "AtomTables$Net" yX3_gapAt yX3_gapAt ∈ gk_T := gk_in (t3k (List.mem_of_getElem? (i := 91) rfl)) rfl
theorem cvX11_213 : gk_Cv RX11 213 mX3_gapAt 3 2 := ⟨okX3_gapAt, ⟨_, _, rfl⟩, kw_652, kw_653, kw_654, kw_87⟩
theorem kw_676 : Cond.methodLink "AtomTables" 217 yX3_lacks ∈ gk_T := gk_in (t3k (List.mem_of_getElem? (i := 113) rfl)) rfl
theorem kw_677 : Cond.instanceMethod yX3_lacks ∈ gk_T := gk_in (t3k (List.mem_of_getElem? (i := 114) rfl)) rfl
theorem kw_678 : Cond.selects "AtomTables$Net" yX3_lacks yX3_lacks ∈ gk_T := gk_in (t3k (List.mem_of_getElem? (i := 115) rfl)) rfl
theorem cvX11_217 : gk_Cv RX11 217 mX3_lacks 3 2 := ⟨okX3_lacks, ⟨_, _, rfl⟩, kw_676, kw_677, kw_678, kw_87⟩
theorem kw_680 : Cond.methodLink "AtomTables" 221 yX1_way ∈ gk_T := gk_in (t3k (List.mem_of_getElem? (i := 117) rfl)) rfl
theorem kw_681 : Cond.instanceMethod yX1_way ∈ gk_T := gk_in (t3k (List.mem_of_getElem? (i := 118) rfl)) rfl
theorem kw_682 : Cond.selects "AtomTables$Filler" yX1_way yX1_way ∈ gk_T := gk_in (t3k (List.mem_of_getElem? (i := 119) rfl)) rfl
theorem cvX11_221 : gk_Cv RX11 221 mX1_way 1 3 := ⟨okX1_way, ⟨_, _, rfl⟩, kw_680, kw_681, kw_682, kw_90⟩
theorem kw_771 : Cond.methodLink "AtomTables" 225 yX4_way ∈ gk_T := gk_in (t3k (List.mem_of_getElem? (i := 208) rfl)) rfl
theorem kw_772 : Cond.instanceMethod yX4_way ∈ gk_T := gk_in (t3k (List.mem_of_getElem? (i := 209) rfl)) rfl
theorem kw_773 : Cond.selects "AtomTables$Patterns" yX4_way yX4_way ∈ gk_T := gk_in (t3k (List.mem_of_getElem? (i := 210) rfl)) rfl
theorem cvX11_225 : gk_Cv RX11 225 mX4_way 4 3 := ⟨okX4_way, ⟨_, _, rfl⟩, kw_771, kw_772, kw_773, kw_89⟩
theorem kw_790 : Cond.methodLink "AtomTables" 235 yX11_gameRefusal ∈ gk_T := gk_in (t3k (List.mem_of_getElem? (i := 227) rfl)) rfl
theorem kw_792 : Cond.instanceMethod yX11_gameRefusal ∈ gk_T := gk_in (t3k (List.mem_of_getElem? (i := 229) rfl)) rfl
theorem kw_12 : Cond.selects "AtomTables" yX11_gameRefusal yX11_gameRefusal ∈ gk_T := gk_in (p1k (List.mem_of_getElem? (i := 12) rfl)) rfl
theorem cvX11_235 : gk_Cv RX11 235 mX11_gameRefusal 10 2 := ⟨okX11_gameRefusal, ⟨_, _, rfl⟩, kw_790, kw_792, kw_12, kw_84⟩
theorem kw_799 : Cond.methodLink "AtomTables" 238 yX2_isWon ∈ gk_T := gk_in (t3k (List.mem_of_getElem? (i := 236) rfl)) rfl
theorem kw_800 : Cond.instanceMethod yX2_isWon ∈ gk_T := gk_in (t3k (List.mem_of_getElem? (i := 237) rfl)) rfl
theorem kw_801 : Cond.selects "AtomTables$Game" yX2_isWon yX2_isWon ∈ gk_T := gk_in (t3k (List.mem_of_getElem? (i := 238) rfl)) rfl
theorem cvX11_238 : gk_Cv RX11 238 mX2_isWon 2 2 := ⟨okX2_isWon, ⟨_, _, rfl⟩, kw_799, kw_800, kw_801, kw_92⟩
theorem kw_839 : Cond.methodLink "AtomTables" 242 yX2_firstLeft ∈ gk_T := gk_in (t4k (List.mem_of_getElem? (i := 36) rfl)) rfl
theorem kw_840 : Cond.instanceMethod yX2_firstLeft ∈ gk_T := gk_in (t4k (List.mem_of_getElem? (i := 37) rfl)) rfl
theorem kw_841 : Cond.selects "AtomTables$Game" yX2_firstLeft yX2_firstLeft ∈ gk_T := gk_in (t4k (List.mem_of_getElem? (i := 38) rfl)) rfl
theorem cvX11_242 : gk_Cv RX11 242 mX2_firstLeft 2 1 := ⟨okX2_firstLeft, ⟨_, _, rfl⟩, kw_839, kw_840, kw_841, kw_92⟩
theorem kw_794 : Cond.methodLink "AtomTables" 245 yX11_isPlayable ∈ gk_T := gk_in (t3k (List.mem_of_getElem? (i := 231) rfl)) rfl
theorem kw_796 : Cond.instanceMethod yX11_isPlayable ∈ gk_T := gk_in (t3k (List.mem_of_getElem? (i := 233) rfl)) rfl
theorem kw_13 : Cond.selects "AtomTables" yX11_isPlayable yX11_isPlayable ∈ gk_T := gk_in (p1k (List.mem_of_getElem? (i := 13) rfl)) rfl
theorem cvX11_245 : gk_Cv RX11 245 mX11_isPlayable 10 1 := ⟨okX11_isPlayable, ⟨_, _, rfl⟩, kw_794, kw_796, kw_13, kw_84⟩
theorem kw_853 : Cond.methodLink "AtomTables" 249 yX0_lay ∈ gk_T := gk_in (t4k (List.mem_of_getElem? (i := 50) rfl)) rfl
theorem kw_854 : Cond.instanceMethod yX0_lay ∈ gk_T := gk_in (t4k (List.mem_of_getElem? (i := 51) rfl)) rfl
theorem kw_855 : Cond.selects "AtomTables$Board" yX0_lay yX0_lay ∈ gk_T := gk_in (t4k (List.mem_of_getElem? (i := 52) rfl)) rfl
theorem cvX11_249 : gk_Cv RX11 249 mX0_lay 0 1 := ⟨okX0_lay, ⟨_, _, rfl⟩, kw_853, kw_854, kw_855, kw_93⟩
theorem kw_872 : Cond.methodLink "AtomTables" 264 yX1_isFilledBy ∈ gk_T := gk_in (t4k (List.mem_of_getElem? (i := 69) rfl)) rfl
theorem kw_873 : Cond.instanceMethod yX1_isFilledBy ∈ gk_T := gk_in (t4k (List.mem_of_getElem? (i := 70) rfl)) rfl
theorem kw_874 : Cond.selects "AtomTables$Filler" yX1_isFilledBy yX1_isFilledBy ∈ gk_T := gk_in (t4k (List.mem_of_getElem? (i := 71) rfl)) rfl
theorem cvX11_264 : gk_Cv RX11 264 mX1_isFilledBy 1 3 := ⟨okX1_isFilledBy, ⟨_, _, rfl⟩, kw_872, kw_873, kw_874, kw_90⟩
theorem kw_879 : Cond.methodLink "AtomTables" 268 yX0_extend ∈ gk_T := gk_in (t4k (List.mem_of_getElem? (i := 76) rfl)) rfl
theorem kw_880 : Cond.instanceMethod yX0_extend ∈ gk_T := gk_in (t4k (List.mem_of_getElem? (i := 77) rfl)) rfl
theorem kw_881 : Cond.selects "AtomTables$Board" yX0_extend yX0_extend ∈ gk_T := gk_in (t4k (List.mem_of_getElem? (i := 78) rfl)) rfl
theorem cvX11_268 : gk_Cv RX11 268 mX0_extend 0 1 := ⟨okX0_extend, ⟨_, _, rfl⟩, kw_879, kw_880, kw_881, kw_93⟩
theorem kw_893 : Cond.methodLink "AtomTables" 272 yX0_rotate ∈ gk_T := gk_in (t4k (List.mem_of_getElem? (i := 90) rfl)) rfl
theorem kw_894 : Cond.instanceMethod yX0_rotate ∈ gk_T := gk_in (t4k (List.mem_of_getElem? (i := 91) rfl)) rfl
theorem kw_895 : Cond.selects "AtomTables$Board" yX0_rotate yX0_rotate ∈ gk_T := gk_in (t4k (List.mem_of_getElem? (i := 92) rfl)) rfl
theorem cvX11_272 : gk_Cv RX11 272 mX0_rotate 0 0 := ⟨okX0_rotate, ⟨_, _, rfl⟩, kw_893, kw_894, kw_895, kw_93⟩
theorem kw_909 : Cond.methodLink "AtomTables" 278 yX11_isList ∈ gk_T := gk_in (t4k (List.mem_of_getElem? (i := 106) rfl)) rfl
theorem kw_910 : Cond.static yX11_isList ∈ gk_T := gk_in (t4k (List.mem_of_getElem? (i := 107) rfl)) rfl
theorem csX11_278 : gk_Cs RX11 278 mX11_isList 1 := ⟨okX11_isList, kw_909, kw_910, kw_84⟩
theorem kw_912 : Cond.methodLink "AtomTables" 281 yX5_verdict ∈ gk_T := gk_in (t4k (List.mem_of_getElem? (i := 109) rfl)) rfl
theorem kw_913 : Cond.instanceMethod yX5_verdict ∈ gk_T := gk_in (t4k (List.mem_of_getElem? (i := 110) rfl)) rfl
theorem kw_914 : Cond.selects "AtomTables$Pictures" yX5_verdict yX5_verdict ∈ gk_T := gk_in (t4k (List.mem_of_getElem? (i := 111) rfl)) rfl
theorem cvX11_281 : gk_Cv RX11 281 mX5_verdict 5 3 := ⟨okX5_verdict, ⟨_, _, rfl⟩, kw_912, kw_913, kw_914, kw_94⟩
theorem kw_937 : Cond.methodLink "AtomTables" 285 yX5_search ∈ gk_T := gk_in (t4k (List.mem_of_getElem? (i := 134) rfl)) rfl
theorem kw_938 : Cond.instanceMethod yX5_search ∈ gk_T := gk_in (t4k (List.mem_of_getElem? (i := 135) rfl)) rfl
theorem kw_939 : Cond.selects "AtomTables$Pictures" yX5_search yX5_search ∈ gk_T := gk_in (t4k (List.mem_of_getElem? (i := 136) rfl)) rfl
theorem cvX11_285 : gk_Cv RX11 285 mX5_search 5 0 := ⟨okX5_search, ⟨_, _, rfl⟩, kw_937, kw_938, kw_939, kw_94⟩
theorem kw_969 : Cond.methodLink "AtomTables" 294 yX9_append ∈ gk_T := gk_in (t4k (List.mem_of_getElem? (i := 166) rfl)) rfl
theorem kw_970 : Cond.instanceMethod yX9_append ∈ gk_T := gk_in (t4k (List.mem_of_getElem? (i := 167) rfl)) rfl
theorem kw_971 : Cond.selects "AtomTables$Tape" yX9_append yX9_append ∈ gk_T := gk_in (t4k (List.mem_of_getElem? (i := 168) rfl)) rfl
theorem cvX11_294 : gk_Cv RX11 294 mX9_append 9 1 := ⟨okX9_append, ⟨_, _, rfl⟩, kw_969, kw_970, kw_971, kw_95⟩
theorem kw_981 : Cond.methodLink "AtomTables" 297 yX9_faultPlace ∈ gk_T := gk_in (t4k (List.mem_of_getElem? (i := 178) rfl)) rfl
theorem kw_982 : Cond.instanceMethod yX9_faultPlace ∈ gk_T := gk_in (t4k (List.mem_of_getElem? (i := 179) rfl)) rfl
theorem kw_983 : Cond.selects "AtomTables$Tape" yX9_faultPlace yX9_faultPlace ∈ gk_T := gk_in (t4k (List.mem_of_getElem? (i := 180) rfl)) rfl
theorem cvX11_297 : gk_Cv RX11 297 mX9_faultPlace 9 0 := ⟨okX9_faultPlace, ⟨_, _, rfl⟩, kw_981, kw_982, kw_983, kw_95⟩
theorem kw_1061 : Cond.methodLink "AtomTables" 300 yX11_perform ∈ gk_T := gk_in (t5k (List.mem_of_getElem? (i := 18) rfl)) rfl
theorem kw_1063 : Cond.instanceMethod yX11_perform ∈ gk_T := gk_in (t5k (List.mem_of_getElem? (i := 20) rfl)) rfl
theorem kw_28 : Cond.selects "AtomTables" yX11_perform yX11_perform ∈ gk_T := gk_in (p2k (List.mem_of_getElem? (i := 12) rfl)) rfl
theorem cvX11_300 : gk_Cv RX11 300 mX11_perform 10 0 := ⟨okX11_perform, ⟨_, _, rfl⟩, kw_1061, kw_1063, kw_28, kw_84⟩
theorem kw_1083 : Cond.methodLink "AtomTables" 303 yX9_spell ∈ gk_T := gk_in (t5k (List.mem_of_getElem? (i := 40) rfl)) rfl
theorem kw_1084 : Cond.instanceMethod yX9_spell ∈ gk_T := gk_in (t5k (List.mem_of_getElem? (i := 41) rfl)) rfl
theorem kw_1085 : Cond.selects "AtomTables$Tape" yX9_spell yX9_spell ∈ gk_T := gk_in (t5k (List.mem_of_getElem? (i := 42) rfl)) rfl
theorem cvX11_303 : gk_Cv RX11 303 mX9_spell 9 1 := ⟨okX9_spell, ⟨_, _, rfl⟩, kw_1083, kw_1084, kw_1085, kw_95⟩
theorem kw_1108 : Cond.methodLink "AtomTables" 310 yX7_become ∈ gk_T := gk_in (t5k (List.mem_of_getElem? (i := 65) rfl)) rfl
theorem kw_1109 : Cond.instanceMethod yX7_become ∈ gk_T := gk_in (t5k (List.mem_of_getElem? (i := 66) rfl)) rfl
theorem kw_1110 : Cond.selects "AtomTables$Sheet" yX7_become yX7_become ∈ gk_T := gk_in (t5k (List.mem_of_getElem? (i := 67) rfl)) rfl
theorem cvX11_310 : gk_Cv RX11 310 mX7_become 7 1 := ⟨okX7_become, ⟨_, _, rfl⟩, kw_1108, kw_1109, kw_1110, kw_85⟩
theorem kw_1125 : Cond.methodLink "AtomTables" 312 yX11_listsPresent ∈ gk_T := gk_in (t5k (List.mem_of_getElem? (i := 82) rfl)) rfl
theorem kw_1127 : Cond.instanceMethod yX11_listsPresent ∈ gk_T := gk_in (t5k (List.mem_of_getElem? (i := 84) rfl)) rfl
theorem kw_33 : Cond.selects "AtomTables" yX11_listsPresent yX11_listsPresent ∈ gk_T := gk_in (p3k (List.mem_of_getElem? (i := 1) rfl)) rfl
theorem cvX11_312 : gk_Cv RX11 312 mX11_listsPresent 10 0 := ⟨okX11_listsPresent, ⟨_, _, rfl⟩, kw_1125, kw_1127, kw_33, kw_84⟩
theorem kw_436 : Cond.methodLink "AtomTables" 315 yX7_clearNets ∈ gk_T := gk_in (t2k (List.mem_of_getElem? (i := 113) rfl)) rfl
theorem kw_437 : Cond.instanceMethod yX7_clearNets ∈ gk_T := gk_in (t2k (List.mem_of_getElem? (i := 114) rfl)) rfl
theorem kw_438 : Cond.selects "AtomTables$Sheet" yX7_clearNets yX7_clearNets ∈ gk_T := gk_in (t2k (List.mem_of_getElem? (i := 115) rfl)) rfl
theorem cvX11_315 : gk_Cv RX11 315 mX7_clearNets 7 0 := ⟨okX7_clearNets, ⟨_, _, rfl⟩, kw_436, kw_437, kw_438, kw_85⟩
theorem kw_798 : Cond.methodLink "AtomTables" 318 yX4_isBarred ∈ gk_T := gk_in (t3k (List.mem_of_getElem? (i := 235) rfl)) rfl
theorem kw_742 : Cond.instanceMethod yX4_isBarred ∈ gk_T := gk_in (t3k (List.mem_of_getElem? (i := 179) rfl)) rfl
theorem kw_743 : Cond.selects "AtomTables$Patterns" yX4_isBarred yX4_isBarred ∈ gk_T := gk_in (t3k (List.mem_of_getElem? (i := 180) rfl)) rfl
theorem cvX11_318 : gk_Cv RX11 318 mX4_isBarred 4 1 := ⟨okX4_isBarred, ⟨_, _, rfl⟩, kw_798, kw_742, kw_743, kw_89⟩
theorem kw_1065 : Cond.methodLink "AtomTables" 321 yX9_wordEnd ∈ gk_T := gk_in (t5k (List.mem_of_getElem? (i := 22) rfl)) rfl
theorem kw_986 : Cond.instanceMethod yX9_wordEnd ∈ gk_T := gk_in (t4k (List.mem_of_getElem? (i := 183) rfl)) rfl
theorem kw_987 : Cond.selects "AtomTables$Tape" yX9_wordEnd yX9_wordEnd ∈ gk_T := gk_in (t4k (List.mem_of_getElem? (i := 184) rfl)) rfl
theorem cvX11_321 : gk_Cv RX11 321 mX9_wordEnd 9 1 := ⟨okX9_wordEnd, ⟨_, _, rfl⟩, kw_1065, kw_986, kw_987, kw_95⟩
theorem kw_1066 : Cond.methodLink "AtomTables" 324 yX9_wordKind ∈ gk_T := gk_in (t5k (List.mem_of_getElem? (i := 23) rfl)) rfl
theorem kw_990 : Cond.instanceMethod yX9_wordKind ∈ gk_T := gk_in (t4k (List.mem_of_getElem? (i := 187) rfl)) rfl
theorem kw_991 : Cond.selects "AtomTables$Tape" yX9_wordKind yX9_wordKind ∈ gk_T := gk_in (t4k (List.mem_of_getElem? (i := 188) rfl)) rfl
theorem cvX11_324 : gk_Cv RX11 324 mX9_wordKind 9 2 := ⟨okX9_wordKind, ⟨_, _, rfl⟩, kw_1066, kw_990, kw_991, kw_95⟩
theorem kw_1067 : Cond.methodLink "AtomTables" 327 yX11_statement ∈ gk_T := gk_in (t5k (List.mem_of_getElem? (i := 24) rfl)) rfl
theorem kw_1069 : Cond.instanceMethod yX11_statement ∈ gk_T := gk_in (t5k (List.mem_of_getElem? (i := 26) rfl)) rfl
theorem kw_29 : Cond.selects "AtomTables" yX11_statement yX11_statement ∈ gk_T := gk_in (p2k (List.mem_of_getElem? (i := 13) rfl)) rfl
theorem cvX11_327 : gk_Cv RX11 327 mX11_statement 10 2 := ⟨okX11_statement, ⟨_, _, rfl⟩, kw_1067, kw_1069, kw_29, kw_84⟩
theorem kw_1078 : Cond.methodLink "AtomTables" 330 yX9_figuresOf ∈ gk_T := gk_in (t5k (List.mem_of_getElem? (i := 35) rfl)) rfl
theorem kw_1050 : Cond.instanceMethod yX9_figuresOf ∈ gk_T := gk_in (t5k (List.mem_of_getElem? (i := 7) rfl)) rfl
theorem kw_1051 : Cond.selects "AtomTables$Tape" yX9_figuresOf yX9_figuresOf ∈ gk_T := gk_in (t5k (List.mem_of_getElem? (i := 8) rfl)) rfl
theorem cvX11_330 : gk_Cv RX11 330 mX9_figuresOf 9 1 := ⟨okX9_figuresOf, ⟨_, _, rfl⟩, kw_1078, kw_1050, kw_1051, kw_95⟩
theorem kw_1071 : Cond.methodLink "AtomTables" 333 yX9_figure ∈ gk_T := gk_in (t5k (List.mem_of_getElem? (i := 28) rfl)) rfl
theorem kw_1072 : Cond.instanceMethod yX9_figure ∈ gk_T := gk_in (t5k (List.mem_of_getElem? (i := 29) rfl)) rfl
theorem kw_1073 : Cond.selects "AtomTables$Tape" yX9_figure yX9_figure ∈ gk_T := gk_in (t5k (List.mem_of_getElem? (i := 30) rfl)) rfl
theorem cvX11_333 : gk_Cv RX11 333 mX9_figure 9 1 := ⟨okX9_figure, ⟨_, _, rfl⟩, kw_1071, kw_1072, kw_1073, kw_95⟩
theorem kw_1075 : Cond.methodLink "AtomTables" 336 yX11_atoms ∈ gk_T := gk_in (t5k (List.mem_of_getElem? (i := 32) rfl)) rfl
theorem kw_428 : Cond.instanceMethod yX11_atoms ∈ gk_T := gk_in (t2k (List.mem_of_getElem? (i := 105) rfl)) rfl
theorem kw_429 : Cond.selects "AtomTables" yX11_atoms yX11_atoms ∈ gk_T := gk_in (t2k (List.mem_of_getElem? (i := 106) rfl)) rfl
theorem cvX11_336 : gk_Cv RX11 336 mX11_atoms 10 1 := ⟨okX11_atoms, ⟨_, _, rfl⟩, kw_1075, kw_428, kw_429, kw_84⟩
theorem kw_1076 : Cond.methodLink "AtomTables" 339 yX11_pair ∈ gk_T := gk_in (t5k (List.mem_of_getElem? (i := 33) rfl)) rfl
theorem kw_441 : Cond.instanceMethod yX11_pair ∈ gk_T := gk_in (t2k (List.mem_of_getElem? (i := 118) rfl)) rfl
theorem kw_442 : Cond.selects "AtomTables" yX11_pair yX11_pair ∈ gk_T := gk_in (t2k (List.mem_of_getElem? (i := 119) rfl)) rfl
theorem cvX11_339 : gk_Cv RX11 339 mX11_pair 10 2 := ⟨okX11_pair, ⟨_, _, rfl⟩, kw_1076, kw_441, kw_442, kw_84⟩
theorem kw_1077 : Cond.methodLink "AtomTables" 342 yX11_triangle ∈ gk_T := gk_in (t5k (List.mem_of_getElem? (i := 34) rfl)) rfl
theorem kw_477 : Cond.instanceMethod yX11_triangle ∈ gk_T := gk_in (t2k (List.mem_of_getElem? (i := 154) rfl)) rfl
theorem kw_478 : Cond.selects "AtomTables" yX11_triangle yX11_triangle ∈ gk_T := gk_in (t2k (List.mem_of_getElem? (i := 155) rfl)) rfl
theorem cvX11_342 : gk_Cv RX11 342 mX11_triangle 10 4 := ⟨okX11_triangle, ⟨_, _, rfl⟩, kw_1077, kw_477, kw_478, kw_84⟩
theorem kw_322 : Cond.methodLink "AtomTables$Board" 3 objectInit ∈ gk_T := gk_in (t1k (List.mem_of_getElem? (i := 239) rfl)) rfl
theorem kw_324 : Cond.methodLink "AtomTables$Board" 17 yX3_init ∈ gk_T := gk_in (t2k (List.mem_of_getElem? (i := 1) rfl)) rfl
theorem kw_162 : Cond.instanceMethod yX3_init ∈ gk_T := gk_in (t1k (List.mem_of_getElem? (i := 79) rfl)) rfl
theorem ciX0_17 : gk_Ci RX0 17 mX3_init 0 := ⟨okX3_init, kw_324, kw_162, kw_87, rfl, rfl⟩
theorem kw_857 : Cond.methodLink "AtomTables$Board" 37 yX3_become ∈ gk_T := gk_in (t4k (List.mem_of_getElem? (i := 54) rfl)) rfl
theorem cvX0_37 : gk_Cv RX0 37 mX3_become 3 1 := ⟨okX3_become, ⟨_, _, rfl⟩, kw_857, kw_635, kw_636, kw_87⟩
theorem kw_858 : Cond.methodLink "AtomTables$Board" 44 yX0_append ∈ gk_T := gk_in (t4k (List.mem_of_getElem? (i := 55) rfl)) rfl
theorem kw_860 : Cond.instanceMethod yX0_append ∈ gk_T := gk_in (t4k (List.mem_of_getElem? (i := 57) rfl)) rfl
theorem kw_20 : Cond.selects "AtomTables$Board" yX0_append yX0_append ∈ gk_T := gk_in (p2k (List.mem_of_getElem? (i := 4) rfl)) rfl
theorem cvX0_44 : gk_Cv RX0 44 mX0_append 0 2 := ⟨okX0_append, ⟨_, _, rfl⟩, kw_858, kw_860, kw_20, kw_93⟩
theorem kw_862 : Cond.methodLink "AtomTables$Board" 48 yX3_open ∈ gk_T := gk_in (t4k (List.mem_of_getElem? (i := 59) rfl)) rfl
theorem kw_657 : Cond.instanceMethod yX3_open ∈ gk_T := gk_in (t3k (List.mem_of_getElem? (i := 94) rfl)) rfl
theorem kw_658 : Cond.selects "AtomTables$Net" yX3_open yX3_open ∈ gk_T := gk_in (t3k (List.mem_of_getElem? (i := 95) rfl)) rfl
theorem cvX0_48 : gk_Cv RX0 48 mX3_open 3 3 := ⟨okX3_open, ⟨_, _, rfl⟩, kw_862, kw_657, kw_658, kw_87⟩
theorem kw_863 : Cond.methodLink "AtomTables$Board" 52 yX3_gapNumber ∈ gk_T := gk_in (t4k (List.mem_of_getElem? (i := 60) rfl)) rfl
theorem kw_670 : Cond.static yX3_gapNumber ∈ gk_T := gk_in (t3k (List.mem_of_getElem? (i := 107) rfl)) rfl
theorem csX0_52 : gk_Cs RX0 52 mX3_gapNumber 3 := ⟨okX3_gapNumber, kw_863, kw_670, kw_87⟩
theorem kw_883 : Cond.methodLink "AtomTables$Board" 56 yX3_grow ∈ gk_T := gk_in (t4k (List.mem_of_getElem? (i := 80) rfl)) rfl
theorem cvX0_56 : gk_Cv RX0 56 mX3_grow 3 2 := ⟨okX3_grow, ⟨_, _, rfl⟩, kw_883, kw_602, kw_603, kw_87⟩
theorem kw_884 : Cond.methodLink "AtomTables$Board" 60 yX0_dropClosed ∈ gk_T := gk_in (t4k (List.mem_of_getElem? (i := 81) rfl)) rfl
theorem kw_886 : Cond.instanceMethod yX0_dropClosed ∈ gk_T := gk_in (t4k (List.mem_of_getElem? (i := 83) rfl)) rfl
theorem kw_21 : Cond.selects "AtomTables$Board" yX0_dropClosed yX0_dropClosed ∈ gk_T := gk_in (p2k (List.mem_of_getElem? (i := 5) rfl)) rfl
theorem cvX0_60 : gk_Cv RX0 60 mX0_dropClosed 0 0 := ⟨okX0_dropClosed, ⟨_, _, rfl⟩, kw_884, kw_886, kw_21, kw_93⟩
theorem kw_888 : Cond.methodLink "AtomTables$Board" 63 yX3_lacks ∈ gk_T := gk_in (t4k (List.mem_of_getElem? (i := 85) rfl)) rfl
theorem cvX0_63 : gk_Cv RX0 63 mX3_lacks 3 2 := ⟨okX3_lacks, ⟨_, _, rfl⟩, kw_888, kw_677, kw_678, kw_87⟩
theorem kw_251 : Cond.methodLink "AtomTables$Filler" 3 objectInit ∈ gk_T := gk_in (t1k (List.mem_of_getElem? (i := 168) rfl)) rfl
theorem kw_253 : Cond.methodLink "AtomTables$Filler" 11 yX3_init ∈ gk_T := gk_in (t1k (List.mem_of_getElem? (i := 170) rfl)) rfl
theorem ciX1_11 : gk_Ci RX1 11 mX3_init 0 := ⟨okX3_init, kw_253, kw_162, kw_87, rfl, rfl⟩
theorem kw_256 : Cond.methodLink "AtomTables$Filler" 38 yX6_init ∈ gk_T := gk_in (t1k (List.mem_of_getElem? (i := 173) rfl)) rfl
theorem kw_257 : Cond.instanceMethod yX6_init ∈ gk_T := gk_in (t1k (List.mem_of_getElem? (i := 174) rfl)) rfl
theorem kw_91 : Cond.initialized "AtomTables$Rows" ∈ gk_T := gk_in (t1k (List.mem_of_getElem? (i := 8) rfl)) rfl
theorem ciX1_38 : gk_Ci RX1 38 mX6_init 2 := ⟨okX6_init, kw_256, kw_257, kw_91, rfl, rfl⟩
theorem kw_684 : Cond.methodLink "AtomTables$Filler" 51 yX3_become ∈ gk_T := gk_in (t3k (List.mem_of_getElem? (i := 121) rfl)) rfl
theorem cvX1_51 : gk_Cv RX1 51 mX3_become 3 1 := ⟨okX3_become, ⟨_, _, rfl⟩, kw_684, kw_635, kw_636, kw_87⟩
theorem kw_685 : Cond.methodLink "AtomTables$Filler" 55 yX6_spanAll ∈ gk_T := gk_in (t3k (List.mem_of_getElem? (i := 122) rfl)) rfl
theorem kw_686 : Cond.instanceMethod yX6_spanAll ∈ gk_T := gk_in (t3k (List.mem_of_getElem? (i := 123) rfl)) rfl
theorem kw_687 : Cond.selects "AtomTables$Rows" yX6_spanAll yX6_spanAll ∈ gk_T := gk_in (t3k (List.mem_of_getElem? (i := 124) rfl)) rfl
theorem cvX1_55 : gk_Cv RX1 55 mX6_spanAll 6 0 := ⟨okX6_spanAll, ⟨_, _, rfl⟩, kw_685, kw_686, kw_687, kw_91⟩
theorem kw_695 : Cond.methodLink "AtomTables$Filler" 58 ⟨"AtomTables$Rows", "hold", "(II)V"⟩ ∈ gk_T := gk_in (t3k (List.mem_of_getElem? (i := 132) rfl)) rfl
theorem kw_696 : Cond.sameMethod "AtomTables$Rows" "AtomTables$Wheels" "hold" "(II)V" ∈ gk_T := gk_in (t3k (List.mem_of_getElem? (i := 133) rfl)) rfl
theorem kw_698 : Cond.selects "AtomTables$Rows" ⟨"AtomTables$Rows", "hold", "(II)V"⟩ yX10_hold ∈ gk_T := gk_in (t3k (List.mem_of_getElem? (i := 135) rfl)) rfl
theorem kw_699 : Cond.instanceMethod yX10_hold ∈ gk_T := gk_in (t3k (List.mem_of_getElem? (i := 136) rfl)) rfl
theorem kw_88 : Cond.initialized "AtomTables$Wheels" ∈ gk_T := gk_in (t1k (List.mem_of_getElem? (i := 5) rfl)) rfl
theorem cuX1_58_6 : gk_Cu RX1 58 ⟨"AtomTables$Rows", "hold", "(II)V"⟩ RX10 mX10_hold 6 2 := ⟨okX10_hold, RX6, TX6, 6, rfl, Or.inl rfl, ⟨by decide +kernel, by decide +kernel, by decide +kernel⟩, kw_695, kw_696, kw_698, kw_699, kw_88⟩
theorem kw_701 : Cond.methodLink "AtomTables$Filler" 65 ⟨"AtomTables$Rows", "first", "()Z"⟩ ∈ gk_T := gk_in (t3k (List.mem_of_getElem? (i := 138) rfl)) rfl
theorem kw_702 : Cond.sameMethod "AtomTables$Rows" "AtomTables$Wheels" "first" "()Z" ∈ gk_T := gk_in (t3k (List.mem_of_getElem? (i := 139) rfl)) rfl
theorem kw_704 : Cond.selects "AtomTables$Rows" ⟨"AtomTables$Rows", "first", "()Z"⟩ yX10_first ∈ gk_T := gk_in (t3k (List.mem_of_getElem? (i := 141) rfl)) rfl
theorem kw_705 : Cond.instanceMethod yX10_first ∈ gk_T := gk_in (t3k (List.mem_of_getElem? (i := 142) rfl)) rfl
theorem cuX1_65_6 : gk_Cu RX1 65 ⟨"AtomTables$Rows", "first", "()Z"⟩ RX10 mX10_first 6 0 := ⟨okX10_first, RX6, TX6, 6, rfl, Or.inl rfl, ⟨by decide +kernel, by decide +kernel, by decide +kernel⟩, kw_701, kw_702, kw_704, kw_705, kw_88⟩
theorem kw_736 : Cond.methodLink "AtomTables$Filler" 73 yX1_isAllowed ∈ gk_T := gk_in (t3k (List.mem_of_getElem? (i := 173) rfl)) rfl
theorem kw_738 : Cond.instanceMethod yX1_isAllowed ∈ gk_T := gk_in (t3k (List.mem_of_getElem? (i := 175) rfl)) rfl
theorem kw_10 : Cond.selects "AtomTables$Filler" yX1_isAllowed yX1_isAllowed ∈ gk_T := gk_in (p1k (List.mem_of_getElem? (i := 10) rfl)) rfl
theorem cvX1_73 : gk_Cv RX1 73 mX1_isAllowed 1 1 := ⟨okX1_isAllowed, ⟨_, _, rfl⟩, kw_736, kw_738, kw_10, kw_90⟩
theorem kw_755 : Cond.methodLink "AtomTables$Filler" 77 ⟨"AtomTables$Rows", "digits", "(I)I"⟩ ∈ gk_T := gk_in (t3k (List.mem_of_getElem? (i := 192) rfl)) rfl
theorem kw_756 : Cond.sameMethod "AtomTables$Rows" "AtomTables$Wheels" "digits" "(I)I" ∈ gk_T := gk_in (t3k (List.mem_of_getElem? (i := 193) rfl)) rfl
theorem kw_758 : Cond.selects "AtomTables$Rows" ⟨"AtomTables$Rows", "digits", "(I)I"⟩ yX10_digits ∈ gk_T := gk_in (t3k (List.mem_of_getElem? (i := 195) rfl)) rfl
theorem kw_759 : Cond.instanceMethod yX10_digits ∈ gk_T := gk_in (t3k (List.mem_of_getElem? (i := 196) rfl)) rfl
theorem cuX1_77_6 : gk_Cu RX1 77 ⟨"AtomTables$Rows", "digits", "(I)I"⟩ RX10 mX10_digits 6 1 := ⟨okX10_digits, RX6, TX6, 6, rfl, Or.inl rfl, ⟨by decide +kernel, by decide +kernel, by decide +kernel⟩, kw_755, kw_756, kw_758, kw_759, kw_88⟩
theorem kw_761 : Cond.methodLink "AtomTables$Filler" 81 ⟨"AtomTables$Rows", "next", "()Z"⟩ ∈ gk_T := gk_in (t3k (List.mem_of_getElem? (i := 198) rfl)) rfl
theorem kw_762 : Cond.sameMethod "AtomTables$Rows" "AtomTables$Wheels" "next" "()Z" ∈ gk_T := gk_in (t3k (List.mem_of_getElem? (i := 199) rfl)) rfl
theorem kw_764 : Cond.selects "AtomTables$Rows" ⟨"AtomTables$Rows", "next", "()Z"⟩ yX10_next ∈ gk_T := gk_in (t3k (List.mem_of_getElem? (i := 201) rfl)) rfl
theorem kw_765 : Cond.instanceMethod yX10_next ∈ gk_T := gk_in (t3k (List.mem_of_getElem? (i := 202) rfl)) rfl
theorem cuX1_81_6 : gk_Cu RX1 81 ⟨"AtomTables$Rows", "next", "()Z"⟩ RX10 mX10_next 6 0 := ⟨okX10_next, RX6, TX6, 6, rfl, Or.inl rfl, ⟨by decide +kernel, by decide +kernel, by decide +kernel⟩, kw_761, kw_762, kw_764, kw_765, kw_88⟩
theorem kw_740 : Cond.methodLink "AtomTables$Filler" 84 yX3_grow ∈ gk_T := gk_in (t3k (List.mem_of_getElem? (i := 177) rfl)) rfl
theorem cvX1_84 : gk_Cv RX1 84 mX3_grow 3 2 := ⟨okX3_grow, ⟨_, _, rfl⟩, kw_740, kw_602, kw_603, kw_87⟩
theorem kw_741 : Cond.methodLink "AtomTables$Filler" 88 yX4_isBarred ∈ gk_T := gk_in (t3k (List.mem_of_getElem? (i := 178) rfl)) rfl
theorem cvX1_88 : gk_Cv RX1 88 mX4_isBarred 4 1 := ⟨okX4_isBarred, ⟨_, _, rfl⟩, kw_741, kw_742, kw_743, kw_89⟩
theorem kw_876 : Cond.methodLink "AtomTables$Filler" 95 yX3_lacks ∈ gk_T := gk_in (t4k (List.mem_of_getElem? (i := 73) rfl)) rfl
theorem cvX1_95 : gk_Cv RX1 95 mX3_lacks 3 2 := ⟨okX3_lacks, ⟨_, _, rfl⟩, kw_876, kw_677, kw_678, kw_87⟩
theorem kw_877 : Cond.methodLink "AtomTables$Filler" 99 yX1_spread ∈ gk_T := gk_in (t4k (List.mem_of_getElem? (i := 74) rfl)) rfl
theorem cvX1_99 : gk_Cv RX1 99 mX1_spread 1 2 := ⟨okX1_spread, ⟨_, _, rfl⟩, kw_877, kw_598, kw_599, kw_90⟩
theorem kw_878 : Cond.methodLink "AtomTables$Filler" 103 yX3_unsound ∈ gk_T := gk_in (t4k (List.mem_of_getElem? (i := 75) rfl)) rfl
theorem cvX1_103 : gk_Cv RX1 103 mX3_unsound 3 1 := ⟨okX3_unsound, ⟨_, _, rfl⟩, kw_878, kw_643, kw_644, kw_87⟩
theorem kw_293 : Cond.methodLink "AtomTables$Game" 3 objectInit ∈ gk_T := gk_in (t1k (List.mem_of_getElem? (i := 210) rfl)) rfl
theorem kw_295 : Cond.methodLink "AtomTables$Game" 11 yX3_init ∈ gk_T := gk_in (t1k (List.mem_of_getElem? (i := 212) rfl)) rfl
theorem ciX2_11 : gk_Ci RX2 11 mX3_init 0 := ⟨okX3_init, kw_295, kw_162, kw_87, rfl, rfl⟩
theorem kw_300 : Cond.methodLink "AtomTables$Game" 43 yX6_init ∈ gk_T := gk_in (t1k (List.mem_of_getElem? (i := 217) rfl)) rfl
theorem ciX2_43 : gk_Ci RX2 43 mX6_init 2 := ⟨okX6_init, kw_300, kw_257, kw_91, rfl, rfl⟩
theorem kw_803 : Cond.methodLink "AtomTables$Game" 46 yX3_become ∈ gk_T := gk_in (t4k (List.mem_of_getElem? (i := 0) rfl)) rfl
theorem cvX2_46 : gk_Cv RX2 46 mX3_become 3 1 := ⟨okX3_become, ⟨_, _, rfl⟩, kw_803, kw_635, kw_636, kw_87⟩
theorem kw_804 : Cond.methodLink "AtomTables$Game" 50 yX2_outlives ∈ gk_T := gk_in (t4k (List.mem_of_getElem? (i := 1) rfl)) rfl
theorem kw_806 : Cond.instanceMethod yX2_outlives ∈ gk_T := gk_in (t4k (List.mem_of_getElem? (i := 3) rfl)) rfl
theorem kw_14 : Cond.selects "AtomTables$Game" yX2_outlives yX2_outlives ∈ gk_T := gk_in (p1k (List.mem_of_getElem? (i := 14) rfl)) rfl
theorem cvX2_50 : gk_Cv RX2 50 mX2_outlives 2 1 := ⟨okX2_outlives, ⟨_, _, rfl⟩, kw_804, kw_806, kw_14, kw_92⟩
theorem kw_808 : Cond.methodLink "AtomTables$Game" 54 yX2_findGaps ∈ gk_T := gk_in (t4k (List.mem_of_getElem? (i := 5) rfl)) rfl
theorem kw_810 : Cond.instanceMethod yX2_findGaps ∈ gk_T := gk_in (t4k (List.mem_of_getElem? (i := 7) rfl)) rfl
theorem kw_15 : Cond.selects "AtomTables$Game" yX2_findGaps yX2_findGaps ∈ gk_T := gk_in (p1k (List.mem_of_getElem? (i := 15) rfl)) rfl
theorem cvX2_54 : gk_Cv RX2 54 mX2_findGaps 2 1 := ⟨okX2_findGaps, ⟨_, _, rfl⟩, kw_808, kw_810, kw_15, kw_92⟩
theorem kw_813 : Cond.methodLink "AtomTables$Game" 58 yX6_spanAll ∈ gk_T := gk_in (t4k (List.mem_of_getElem? (i := 10) rfl)) rfl
theorem cvX2_58 : gk_Cv RX2 58 mX6_spanAll 6 0 := ⟨okX6_spanAll, ⟨_, _, rfl⟩, kw_813, kw_686, kw_687, kw_91⟩
theorem kw_814 : Cond.methodLink "AtomTables$Game" 61 yX2_isOpen ∈ gk_T := gk_in (t4k (List.mem_of_getElem? (i := 11) rfl)) rfl
theorem kw_816 : Cond.instanceMethod yX2_isOpen ∈ gk_T := gk_in (t4k (List.mem_of_getElem? (i := 13) rfl)) rfl
theorem kw_16 : Cond.selects "AtomTables$Game" yX2_isOpen yX2_isOpen ∈ gk_T := gk_in (p2k (List.mem_of_getElem? (i := 0) rfl)) rfl
theorem cvX2_61 : gk_Cv RX2 61 mX2_isOpen 2 1 := ⟨okX2_isOpen, ⟨_, _, rfl⟩, kw_814, kw_816, kw_16, kw_92⟩
theorem kw_818 : Cond.methodLink "AtomTables$Game" 65 ⟨"AtomTables$Rows", "first", "()Z"⟩ ∈ gk_T := gk_in (t4k (List.mem_of_getElem? (i := 15) rfl)) rfl
theorem cuX2_65_6 : gk_Cu RX2 65 ⟨"AtomTables$Rows", "first", "()Z"⟩ RX10 mX10_first 6 0 := ⟨okX10_first, RX6, TX6, 6, rfl, Or.inl rfl, ⟨by decide +kernel, by decide +kernel, by decide +kernel⟩, kw_818, kw_702, kw_704, kw_705, kw_88⟩
theorem kw_820 : Cond.methodLink "AtomTables$Game" 74 yX2_answers ∈ gk_T := gk_in (t4k (List.mem_of_getElem? (i := 17) rfl)) rfl
theorem kw_822 : Cond.instanceMethod yX2_answers ∈ gk_T := gk_in (t4k (List.mem_of_getElem? (i := 19) rfl)) rfl
theorem kw_17 : Cond.selects "AtomTables$Game" yX2_answers yX2_answers ∈ gk_T := gk_in (p2k (List.mem_of_getElem? (i := 1) rfl)) rfl
theorem cvX2_74 : gk_Cv RX2 74 mX2_answers 2 2 := ⟨okX2_answers, ⟨_, _, rfl⟩, kw_820, kw_822, kw_17, kw_92⟩
theorem kw_824 : Cond.methodLink "AtomTables$Game" 78 yX2_stands ∈ gk_T := gk_in (t4k (List.mem_of_getElem? (i := 21) rfl)) rfl
theorem kw_826 : Cond.instanceMethod yX2_stands ∈ gk_T := gk_in (t4k (List.mem_of_getElem? (i := 23) rfl)) rfl
theorem kw_18 : Cond.selects "AtomTables$Game" yX2_stands yX2_stands ∈ gk_T := gk_in (p2k (List.mem_of_getElem? (i := 2) rfl)) rfl
theorem cvX2_78 : gk_Cv RX2 78 mX2_stands 2 2 := ⟨okX2_stands, ⟨_, _, rfl⟩, kw_824, kw_826, kw_18, kw_92⟩
theorem kw_830 : Cond.methodLink "AtomTables$Game" 82 yX2_strike ∈ gk_T := gk_in (t4k (List.mem_of_getElem? (i := 27) rfl)) rfl
theorem kw_832 : Cond.instanceMethod yX2_strike ∈ gk_T := gk_in (t4k (List.mem_of_getElem? (i := 29) rfl)) rfl
theorem kw_19 : Cond.selects "AtomTables$Game" yX2_strike yX2_strike ∈ gk_T := gk_in (p2k (List.mem_of_getElem? (i := 3) rfl)) rfl
theorem cvX2_82 : gk_Cv RX2 82 mX2_strike 2 2 := ⟨okX2_strike, ⟨_, _, rfl⟩, kw_830, kw_832, kw_19, kw_92⟩
theorem kw_834 : Cond.methodLink "AtomTables$Game" 86 ⟨"AtomTables$Rows", "next", "()Z"⟩ ∈ gk_T := gk_in (t4k (List.mem_of_getElem? (i := 31) rfl)) rfl
theorem cuX2_86_6 : gk_Cu RX2 86 ⟨"AtomTables$Rows", "next", "()Z"⟩ RX10 mX10_next 6 0 := ⟨okX10_next, RX6, TX6, 6, rfl, Or.inl rfl, ⟨by decide +kernel, by decide +kernel, by decide +kernel⟩, kw_834, kw_762, kw_764, kw_765, kw_88⟩
theorem kw_812 : Cond.methodLink "AtomTables$Game" 93 yX3_open ∈ gk_T := gk_in (t4k (List.mem_of_getElem? (i := 9) rfl)) rfl
theorem cvX2_93 : gk_Cv RX2 93 mX3_open 3 3 := ⟨okX3_open, ⟨_, _, rfl⟩, kw_812, kw_657, kw_658, kw_87⟩
theorem kw_828 : Cond.methodLink "AtomTables$Game" 102 yX3_grow ∈ gk_T := gk_in (t4k (List.mem_of_getElem? (i := 25) rfl)) rfl
theorem cvX2_102 : gk_Cv RX2 102 mX3_grow 3 2 := ⟨okX3_grow, ⟨_, _, rfl⟩, kw_828, kw_602, kw_603, kw_87⟩
theorem kw_829 : Cond.methodLink "AtomTables$Game" 106 yX4_isBarred ∈ gk_T := gk_in (t4k (List.mem_of_getElem? (i := 26) rfl)) rfl
theorem cvX2_106 : gk_Cv RX2 106 mX4_isBarred 4 1 := ⟨okX4_isBarred, ⟨_, _, rfl⟩, kw_829, kw_742, kw_743, kw_89⟩
theorem kw_843 : Cond.methodLink "AtomTables$Game" 112 yX3_placeOf ∈ gk_T := gk_in (t4k (List.mem_of_getElem? (i := 40) rfl)) rfl
theorem kw_667 : Cond.static yX3_placeOf ∈ gk_T := gk_in (t3k (List.mem_of_getElem? (i := 104) rfl)) rfl
theorem csX2_112 : gk_Cs RX2 112 mX3_placeOf 2 := ⟨okX3_placeOf, kw_843, kw_667, kw_87⟩
theorem kw_844 : Cond.methodLink "AtomTables$Game" 116 yX3_gapNumber ∈ gk_T := gk_in (t4k (List.mem_of_getElem? (i := 41) rfl)) rfl
theorem csX2_116 : gk_Cs RX2 116 mX3_gapNumber 3 := ⟨okX3_gapNumber, kw_844, kw_670, kw_87⟩
theorem kw_164 : Cond.methodLink "AtomTables$Net" 3 objectInit ∈ gk_T := gk_in (t1k (List.mem_of_getElem? (i := 81) rfl)) rfl
theorem kw_605 : Cond.methodLink "AtomTables$Net" 24 yX3_link ∈ gk_T := gk_in (t3k (List.mem_of_getElem? (i := 42) rfl)) rfl
theorem cvX3_24 : gk_Cv RX3 24 mX3_link 3 4 := ⟨okX3_link, ⟨_, _, rfl⟩, kw_605, kw_606, kw_607, kw_87⟩
theorem kw_646 : Cond.methodLink "AtomTables$Net" 28 yX3_at ∈ gk_T := gk_in (t3k (List.mem_of_getElem? (i := 83) rfl)) rfl
theorem cvX3_28 : gk_Cv RX3 28 mX3_at 3 2 := ⟨okX3_at, ⟨_, _, rfl⟩, kw_646, kw_622, kw_623, kw_87⟩
theorem kw_647 : Cond.methodLink "AtomTables$Net" 32 yX8_has ∈ gk_T := gk_in (t3k (List.mem_of_getElem? (i := 84) rfl)) rfl
theorem cvX3_32 : gk_Cv RX3 32 mX8_has 8 3 := ⟨okX8_has, ⟨_, _, rfl⟩, kw_647, kw_504, kw_505, kw_86⟩
theorem kw_656 : Cond.methodLink "AtomTables$Net" 37 yX3_open ∈ gk_T := gk_in (t3k (List.mem_of_getElem? (i := 93) rfl)) rfl
theorem cvX3_37 : gk_Cv RX3 37 mX3_open 3 3 := ⟨okX3_open, ⟨_, _, rfl⟩, kw_656, kw_657, kw_658, kw_87⟩
theorem kw_660 : Cond.methodLink "AtomTables$Net" 41 yJ6_bitCount_0f7a4 ∈ gk_T := gk_in (t3k (List.mem_of_getElem? (i := 97) rfl)) rfl
theorem kw_661 : Cond.static yJ6_bitCount_0f7a4 ∈ gk_T := gk_in (t3k (List.mem_of_getElem? (i := 98) rfl)) rfl
theorem kw_99 : Cond.initialized "java/lang/Integer" ∈ gk_T := gk_in (t1k (List.mem_of_getElem? (i := 16) rfl)) rfl
theorem csX3_41 : gk_Cs RX3 41 mJ6_bitCount_0f7a4 1 := ⟨okJ6_bitCount_0f7a4, kw_660, kw_661, kw_99⟩
theorem kw_666 : Cond.methodLink "AtomTables$Net" 47 yX3_placeOf ∈ gk_T := gk_in (t3k (List.mem_of_getElem? (i := 103) rfl)) rfl
theorem csX3_47 : gk_Cs RX3 47 mX3_placeOf 2 := ⟨okX3_placeOf, kw_666, kw_667, kw_87⟩
theorem kw_669 : Cond.methodLink "AtomTables$Net" 50 yX3_gapNumber ∈ gk_T := gk_in (t3k (List.mem_of_getElem? (i := 106) rfl)) rfl
theorem csX3_50 : gk_Cs RX3 50 mX3_gapNumber 3 := ⟨okX3_gapNumber, kw_669, kw_670, kw_87⟩
theorem kw_206 : Cond.methodLink "AtomTables$Patterns" 3 yX10_init ∈ gk_T := gk_in (t1k (List.mem_of_getElem? (i := 123) rfl)) rfl
theorem kw_207 : Cond.instanceMethod yX10_init ∈ gk_T := gk_in (t1k (List.mem_of_getElem? (i := 124) rfl)) rfl
theorem ciX4_3 : gk_Ci RX4 3 mX10_init 0 := ⟨okX10_init, kw_206, kw_207, kw_88, rfl, rfl⟩
theorem kw_745 : Cond.methodLink "AtomTables$Patterns" 27 yX4_look ∈ gk_T := gk_in (t3k (List.mem_of_getElem? (i := 182) rfl)) rfl
theorem kw_747 : Cond.instanceMethod yX4_look ∈ gk_T := gk_in (t3k (List.mem_of_getElem? (i := 184) rfl)) rfl
theorem kw_11 : Cond.selects "AtomTables$Patterns" yX4_look yX4_look ∈ gk_T := gk_in (p1k (List.mem_of_getElem? (i := 11) rfl)) rfl
theorem cvX4_27 : gk_Cv RX4 27 mX4_look 4 2 := ⟨okX4_look, ⟨_, _, rfl⟩, kw_745, kw_747, kw_11, kw_89⟩
theorem kw_752 : Cond.methodLink "AtomTables$Patterns" 31 ⟨"AtomTables$Patterns", "first", "()Z"⟩ ∈ gk_T := gk_in (t3k (List.mem_of_getElem? (i := 189) rfl)) rfl
theorem kw_753 : Cond.sameMethod "AtomTables$Patterns" "AtomTables$Wheels" "first" "()Z" ∈ gk_T := gk_in (t3k (List.mem_of_getElem? (i := 190) rfl)) rfl
theorem kw_754 : Cond.selects "AtomTables$Patterns" ⟨"AtomTables$Patterns", "first", "()Z"⟩ yX10_first ∈ gk_T := gk_in (t3k (List.mem_of_getElem? (i := 191) rfl)) rfl
theorem cuX4_31_4 : gk_Cu RX4 31 ⟨"AtomTables$Patterns", "first", "()Z"⟩ RX10 mX10_first 4 0 := ⟨okX10_first, RX4, TX4, 7, rfl, Or.inl rfl, ⟨by decide +kernel, by decide +kernel, by decide +kernel⟩, kw_752, kw_753, kw_754, kw_705, kw_88⟩
theorem kw_776 : Cond.methodLink "AtomTables$Patterns" 36 ⟨"AtomTables$Patterns", "digits", "(I)I"⟩ ∈ gk_T := gk_in (t3k (List.mem_of_getElem? (i := 213) rfl)) rfl
theorem kw_777 : Cond.sameMethod "AtomTables$Patterns" "AtomTables$Wheels" "digits" "(I)I" ∈ gk_T := gk_in (t3k (List.mem_of_getElem? (i := 214) rfl)) rfl
theorem kw_778 : Cond.selects "AtomTables$Patterns" ⟨"AtomTables$Patterns", "digits", "(I)I"⟩ yX10_digits ∈ gk_T := gk_in (t3k (List.mem_of_getElem? (i := 215) rfl)) rfl
theorem cuX4_36_4 : gk_Cu RX4 36 ⟨"AtomTables$Patterns", "digits", "(I)I"⟩ RX10 mX10_digits 4 1 := ⟨okX10_digits, RX4, TX4, 7, rfl, Or.inl rfl, ⟨by decide +kernel, by decide +kernel, by decide +kernel⟩, kw_776, kw_777, kw_778, kw_759, kw_88⟩
theorem kw_779 : Cond.methodLink "AtomTables$Patterns" 40 ⟨"AtomTables$Patterns", "next", "()Z"⟩ ∈ gk_T := gk_in (t3k (List.mem_of_getElem? (i := 216) rfl)) rfl
theorem kw_780 : Cond.sameMethod "AtomTables$Patterns" "AtomTables$Wheels" "next" "()Z" ∈ gk_T := gk_in (t3k (List.mem_of_getElem? (i := 217) rfl)) rfl
theorem kw_781 : Cond.selects "AtomTables$Patterns" ⟨"AtomTables$Patterns", "next", "()Z"⟩ yX10_next ∈ gk_T := gk_in (t3k (List.mem_of_getElem? (i := 218) rfl)) rfl
theorem cuX4_40_4 : gk_Cu RX4 40 ⟨"AtomTables$Patterns", "next", "()Z"⟩ RX10 mX10_next 4 0 := ⟨okX10_next, RX4, TX4, 7, rfl, Or.inl rfl, ⟨by decide +kernel, by decide +kernel, by decide +kernel⟩, kw_779, kw_780, kw_781, kw_765, kw_88⟩
theorem kw_749 : Cond.methodLink "AtomTables$Patterns" 53 ⟨"AtomTables$Patterns", "span", "(III)V"⟩ ∈ gk_T := gk_in (t3k (List.mem_of_getElem? (i := 186) rfl)) rfl
theorem kw_750 : Cond.sameMethod "AtomTables$Patterns" "AtomTables$Wheels" "span" "(III)V" ∈ gk_T := gk_in (t3k (List.mem_of_getElem? (i := 187) rfl)) rfl
theorem kw_751 : Cond.selects "AtomTables$Patterns" ⟨"AtomTables$Patterns", "span", "(III)V"⟩ yX10_span ∈ gk_T := gk_in (t3k (List.mem_of_getElem? (i := 188) rfl)) rfl
theorem kw_693 : Cond.instanceMethod yX10_span ∈ gk_T := gk_in (t3k (List.mem_of_getElem? (i := 130) rfl)) rfl
theorem cuX4_53_4 : gk_Cu RX4 53 ⟨"AtomTables$Patterns", "span", "(III)V"⟩ RX10 mX10_span 4 3 := ⟨okX10_span, RX4, TX4, 7, rfl, Or.inl rfl, ⟨by decide +kernel, by decide +kernel, by decide +kernel⟩, kw_749, kw_750, kw_751, kw_693, kw_88⟩
theorem kw_354 : Cond.methodLink "AtomTables$Pictures" 3 yX10_init ∈ gk_T := gk_in (t2k (List.mem_of_getElem? (i := 31) rfl)) rfl
theorem ciX5_3 : gk_Ci RX5 3 mX10_init 0 := ⟨okX10_init, kw_354, kw_207, kw_88, rfl, rfl⟩
theorem kw_916 : Cond.methodLink "AtomTables$Pictures" 34 yX5_isFull ∈ gk_T := gk_in (t4k (List.mem_of_getElem? (i := 113) rfl)) rfl
theorem kw_918 : Cond.instanceMethod yX5_isFull ∈ gk_T := gk_in (t4k (List.mem_of_getElem? (i := 115) rfl)) rfl
theorem kw_22 : Cond.selects "AtomTables$Pictures" yX5_isFull yX5_isFull ∈ gk_T := gk_in (p2k (List.mem_of_getElem? (i := 6) rfl)) rfl
theorem cvX5_34 : gk_Cv RX5 34 mX5_isFull 5 0 := ⟨okX5_isFull, ⟨_, _, rfl⟩, kw_916, kw_918, kw_22, kw_94⟩
theorem kw_921 : Cond.methodLink "AtomTables$Pictures" 38 yX5_readDue ∈ gk_T := gk_in (t4k (List.mem_of_getElem? (i := 118) rfl)) rfl
theorem kw_923 : Cond.instanceMethod yX5_readDue ∈ gk_T := gk_in (t4k (List.mem_of_getElem? (i := 120) rfl)) rfl
theorem kw_23 : Cond.selects "AtomTables$Pictures" yX5_readDue yX5_readDue ∈ gk_T := gk_in (p2k (List.mem_of_getElem? (i := 7) rfl)) rfl
theorem cvX5_38 : gk_Cv RX5 38 mX5_readDue 5 0 := ⟨okX5_readDue, ⟨_, _, rfl⟩, kw_921, kw_923, kw_23, kw_94⟩
theorem kw_929 : Cond.methodLink "AtomTables$Pictures" 41 yX5_misfit ∈ gk_T := gk_in (t4k (List.mem_of_getElem? (i := 126) rfl)) rfl
theorem kw_931 : Cond.instanceMethod yX5_misfit ∈ gk_T := gk_in (t4k (List.mem_of_getElem? (i := 128) rfl)) rfl
theorem kw_24 : Cond.selects "AtomTables$Pictures" yX5_misfit yX5_misfit ∈ gk_T := gk_in (p2k (List.mem_of_getElem? (i := 8) rfl)) rfl
theorem cvX5_41 : gk_Cv RX5 41 mX5_misfit 5 0 := ⟨okX5_misfit, ⟨_, _, rfl⟩, kw_929, kw_931, kw_24, kw_94⟩
theorem kw_920 : Cond.methodLink "AtomTables$Pictures" 45 yX8_relations ∈ gk_T := gk_in (t4k (List.mem_of_getElem? (i := 117) rfl)) rfl
theorem cvX5_45 : gk_Cv RX5 45 mX8_relations 8 0 := ⟨okX8_relations, ⟨_, _, rfl⟩, kw_920, kw_469, kw_470, kw_86⟩
theorem kw_925 : Cond.methodLink "AtomTables$Pictures" 48 yX8_pairsInto ∈ gk_T := gk_in (t4k (List.mem_of_getElem? (i := 122) rfl)) rfl
theorem kw_926 : Cond.instanceMethod yX8_pairsInto ∈ gk_T := gk_in (t4k (List.mem_of_getElem? (i := 123) rfl)) rfl
theorem kw_927 : Cond.selects "AtomTables$Table" yX8_pairsInto yX8_pairsInto ∈ gk_T := gk_in (t4k (List.mem_of_getElem? (i := 124) rfl)) rfl
theorem cvX5_48 : gk_Cv RX5 48 mX8_pairsInto 8 1 := ⟨okX8_pairsInto, ⟨_, _, rfl⟩, kw_925, kw_926, kw_927, kw_86⟩
theorem kw_941 : Cond.methodLink "AtomTables$Pictures" 52 yX8_unbalanced ∈ gk_T := gk_in (t4k (List.mem_of_getElem? (i := 138) rfl)) rfl
theorem cvX5_52 : gk_Cv RX5 52 mX8_unbalanced 8 1 := ⟨okX8_unbalanced, ⟨_, _, rfl⟩, kw_941, kw_562, kw_563, kw_86⟩
theorem kw_942 : Cond.methodLink "AtomTables$Pictures" 56 ⟨"AtomTables$Pictures", "span", "(III)V"⟩ ∈ gk_T := gk_in (t4k (List.mem_of_getElem? (i := 139) rfl)) rfl
theorem kw_943 : Cond.sameMethod "AtomTables$Pictures" "AtomTables$Wheels" "span" "(III)V" ∈ gk_T := gk_in (t4k (List.mem_of_getElem? (i := 140) rfl)) rfl
theorem kw_944 : Cond.selects "AtomTables$Pictures" ⟨"AtomTables$Pictures", "span", "(III)V"⟩ yX10_span ∈ gk_T := gk_in (t4k (List.mem_of_getElem? (i := 141) rfl)) rfl
theorem cuX5_56_5 : gk_Cu RX5 56 ⟨"AtomTables$Pictures", "span", "(III)V"⟩ RX10 mX10_span 5 3 := ⟨okX10_span, RX5, TX5, 8, rfl, Or.inl rfl, ⟨by decide +kernel, by decide +kernel, by decide +kernel⟩, kw_942, kw_943, kw_944, kw_693, kw_88⟩
theorem kw_945 : Cond.methodLink "AtomTables$Pictures" 60 ⟨"AtomTables$Pictures", "first", "()Z"⟩ ∈ gk_T := gk_in (t4k (List.mem_of_getElem? (i := 142) rfl)) rfl
theorem kw_946 : Cond.sameMethod "AtomTables$Pictures" "AtomTables$Wheels" "first" "()Z" ∈ gk_T := gk_in (t4k (List.mem_of_getElem? (i := 143) rfl)) rfl
theorem kw_947 : Cond.selects "AtomTables$Pictures" ⟨"AtomTables$Pictures", "first", "()Z"⟩ yX10_first ∈ gk_T := gk_in (t4k (List.mem_of_getElem? (i := 144) rfl)) rfl
theorem cuX5_60_5 : gk_Cu RX5 60 ⟨"AtomTables$Pictures", "first", "()Z"⟩ RX10 mX10_first 5 0 := ⟨okX10_first, RX5, TX5, 8, rfl, Or.inl rfl, ⟨by decide +kernel, by decide +kernel, by decide +kernel⟩, kw_945, kw_946, kw_947, kw_705, kw_88⟩
theorem kw_949 : Cond.methodLink "AtomTables$Pictures" 64 ⟨"AtomTables$Pictures", "next", "()Z"⟩ ∈ gk_T := gk_in (t4k (List.mem_of_getElem? (i := 146) rfl)) rfl
theorem kw_950 : Cond.sameMethod "AtomTables$Pictures" "AtomTables$Wheels" "next" "()Z" ∈ gk_T := gk_in (t4k (List.mem_of_getElem? (i := 147) rfl)) rfl
theorem kw_951 : Cond.selects "AtomTables$Pictures" ⟨"AtomTables$Pictures", "next", "()Z"⟩ yX10_next ∈ gk_T := gk_in (t4k (List.mem_of_getElem? (i := 148) rfl)) rfl
theorem cuX5_64_5 : gk_Cu RX5 64 ⟨"AtomTables$Pictures", "next", "()Z"⟩ RX10 mX10_next 5 0 := ⟨okX10_next, RX5, TX5, 8, rfl, Or.inl rfl, ⟨by decide +kernel, by decide +kernel, by decide +kernel⟩, kw_949, kw_950, kw_951, kw_765, kw_88⟩
theorem kw_721 : Cond.methodLink "AtomTables$Pictures" 71 yX5_goes ∈ gk_T := gk_in (t3k (List.mem_of_getElem? (i := 158) rfl)) rfl
theorem kw_723 : Cond.instanceMethod yX5_goes ∈ gk_T := gk_in (t3k (List.mem_of_getElem? (i := 160) rfl)) rfl
theorem kw_9 : Cond.selects "AtomTables$Pictures" yX5_goes yX5_goes ∈ gk_T := gk_in (p1k (List.mem_of_getElem? (i := 9) rfl)) rfl
theorem cvX5_71 : gk_Cv RX5 71 mX5_goes 5 1 := ⟨okX5_goes, ⟨_, _, rfl⟩, kw_721, kw_723, kw_9, kw_94⟩
theorem kw_725 : Cond.methodLink "AtomTables$Pictures" 75 yX8_has ∈ gk_T := gk_in (t3k (List.mem_of_getElem? (i := 162) rfl)) rfl
theorem cvX5_75 : gk_Cv RX5 75 mX8_has 8 3 := ⟨okX8_has, ⟨_, _, rfl⟩, kw_725, kw_504, kw_505, kw_86⟩
theorem kw_259 : Cond.methodLink "AtomTables$Rows" 1 yX10_init ∈ gk_T := gk_in (t1k (List.mem_of_getElem? (i := 176) rfl)) rfl
theorem ciX6_1 : gk_Ci RX6 1 mX10_init 0 := ⟨okX10_init, kw_259, kw_207, kw_88, rfl, rfl⟩
theorem kw_689 : Cond.methodLink "AtomTables$Rows" 26 ⟨"AtomTables$Rows", "span", "(III)V"⟩ ∈ gk_T := gk_in (t3k (List.mem_of_getElem? (i := 126) rfl)) rfl
theorem kw_690 : Cond.sameMethod "AtomTables$Rows" "AtomTables$Wheels" "span" "(III)V" ∈ gk_T := gk_in (t3k (List.mem_of_getElem? (i := 127) rfl)) rfl
theorem kw_692 : Cond.selects "AtomTables$Rows" ⟨"AtomTables$Rows", "span", "(III)V"⟩ yX10_span ∈ gk_T := gk_in (t3k (List.mem_of_getElem? (i := 129) rfl)) rfl
theorem cuX6_26_6 : gk_Cu RX6 26 ⟨"AtomTables$Rows", "span", "(III)V"⟩ RX10 mX10_span 6 3 := ⟨okX10_span, RX6, TX6, 6, rfl, Or.inl rfl, ⟨by decide +kernel, by decide +kernel, by decide +kernel⟩, kw_689, kw_690, kw_692, kw_693, kw_88⟩
theorem kw_729 : Cond.methodLink "AtomTables$Rows" 31 yX3_at ∈ gk_T := gk_in (t3k (List.mem_of_getElem? (i := 166) rfl)) rfl
theorem cvX6_31 : gk_Cv RX6 31 mX3_at 3 2 := ⟨okX3_at, ⟨_, _, rfl⟩, kw_729, kw_622, kw_623, kw_87⟩
theorem kw_730 : Cond.methodLink "AtomTables$Rows" 38 yX8_has ∈ gk_T := gk_in (t3k (List.mem_of_getElem? (i := 167) rfl)) rfl
theorem cvX6_38 : gk_Cv RX6 38 mX8_has 8 3 := ⟨okX8_has, ⟨_, _, rfl⟩, kw_730, kw_504, kw_505, kw_86⟩
theorem kw_117 : Cond.methodLink "AtomTables$Sheet" 3 objectInit ∈ gk_T := gk_in (t1k (List.mem_of_getElem? (i := 34) rfl)) rfl
theorem kw_120 : Cond.methodLink "AtomTables$Sheet" 11 yX8_init ∈ gk_T := gk_in (t1k (List.mem_of_getElem? (i := 37) rfl)) rfl
theorem kw_121 : Cond.instanceMethod yX8_init ∈ gk_T := gk_in (t1k (List.mem_of_getElem? (i := 38) rfl)) rfl
theorem ciX7_11 : gk_Ci RX7 11 mX8_init 0 := ⟨okX8_init, kw_120, kw_121, kw_86, rfl, rfl⟩
theorem kw_161 : Cond.methodLink "AtomTables$Sheet" 24 yX3_init ∈ gk_T := gk_in (t1k (List.mem_of_getElem? (i := 78) rfl)) rfl
theorem ciX7_24 : gk_Ci RX7 24 mX3_init 0 := ⟨okX3_init, kw_161, kw_162, kw_87, rfl, rfl⟩
theorem kw_1112 : Cond.methodLink "AtomTables$Sheet" 37 yX8_become ∈ gk_T := gk_in (t5k (List.mem_of_getElem? (i := 69) rfl)) rfl
theorem kw_1113 : Cond.instanceMethod yX8_become ∈ gk_T := gk_in (t5k (List.mem_of_getElem? (i := 70) rfl)) rfl
theorem kw_1114 : Cond.selects "AtomTables$Table" yX8_become yX8_become ∈ gk_T := gk_in (t5k (List.mem_of_getElem? (i := 71) rfl)) rfl
theorem cvX7_37 : gk_Cv RX7 37 mX8_become 8 1 := ⟨okX8_become, ⟨_, _, rfl⟩, kw_1112, kw_1113, kw_1114, kw_86⟩
theorem kw_1116 : Cond.methodLink "AtomTables$Sheet" 41 yX3_become ∈ gk_T := gk_in (t5k (List.mem_of_getElem? (i := 73) rfl)) rfl
theorem cvX7_41 : gk_Cv RX7 41 mX3_become 3 1 := ⟨okX3_become, ⟨_, _, rfl⟩, kw_1116, kw_635, kw_636, kw_87⟩
theorem kw_123 : Cond.methodLink "AtomTables$Table" 3 objectInit ∈ gk_T := gk_in (t1k (List.mem_of_getElem? (i := 40) rfl)) rfl
theorem kw_124 : Cond.methodLink "AtomTables$Table" 23 yX8_restart ∈ gk_T := gk_in (t1k (List.mem_of_getElem? (i := 41) rfl)) rfl
theorem cvX8_23 : gk_Cv RX8 23 mX8_restart 8 1 := ⟨okX8_restart, ⟨_, _, rfl⟩, kw_124, kw_125, kw_126, kw_86⟩
theorem kw_128 : Cond.methodLink "AtomTables$Table" 27 yX8_keepFixed ∈ gk_T := gk_in (t1k (List.mem_of_getElem? (i := 45) rfl)) rfl
theorem kw_130 : Cond.instanceMethod yX8_keepFixed ∈ gk_T := gk_in (t1k (List.mem_of_getElem? (i := 47) rfl)) rfl
theorem kw_0 : Cond.selects "AtomTables$Table" yX8_keepFixed yX8_keepFixed ∈ gk_T := gk_in (p1k (List.mem_of_getElem? (i := 0) rfl)) rfl
theorem cvX8_27 : gk_Cv RX8 27 mX8_keepFixed 8 0 := ⟨okX8_keepFixed, ⟨_, _, rfl⟩, kw_128, kw_130, kw_0, kw_86⟩
theorem kw_452 : Cond.methodLink "AtomTables$Table" 30 yX8_free ∈ gk_T := gk_in (t2k (List.mem_of_getElem? (i := 129) rfl)) rfl
theorem kw_454 : Cond.instanceMethod yX8_free ∈ gk_T := gk_in (t2k (List.mem_of_getElem? (i := 131) rfl)) rfl
theorem kw_3 : Cond.selects "AtomTables$Table" yX8_free yX8_free ∈ gk_T := gk_in (p1k (List.mem_of_getElem? (i := 3) rfl)) rfl
theorem cvX8_30 : gk_Cv RX8 30 mX8_free 8 1 := ⟨okX8_free, ⟨_, _, rfl⟩, kw_452, kw_454, kw_3, kw_86⟩
theorem kw_132 : Cond.methodLink "AtomTables$Table" 33 yX8_bit ∈ gk_T := gk_in (t1k (List.mem_of_getElem? (i := 49) rfl)) rfl
theorem kw_133 : Cond.static yX8_bit ∈ gk_T := gk_in (t1k (List.mem_of_getElem? (i := 50) rfl)) rfl
theorem csX8_33 : gk_Cs RX8 33 mX8_bit 3 := ⟨okX8_bit, kw_132, kw_133, kw_86⟩
theorem kw_488 : Cond.methodLink "AtomTables$Table" 37 yX8_turns ∈ gk_T := gk_in (t2k (List.mem_of_getElem? (i := 165) rfl)) rfl
theorem kw_489 : Cond.instanceMethod yX8_turns ∈ gk_T := gk_in (t2k (List.mem_of_getElem? (i := 166) rfl)) rfl
theorem kw_490 : Cond.selects "AtomTables$Table" yX8_turns yX8_turns ∈ gk_T := gk_in (t2k (List.mem_of_getElem? (i := 167) rfl)) rfl
theorem cvX8_37 : gk_Cv RX8 37 mX8_turns 8 3 := ⟨okX8_turns, ⟨_, _, rfl⟩, kw_488, kw_489, kw_490, kw_86⟩
theorem kw_493 : Cond.methodLink "AtomTables$Table" 42 yJ13_bitCount_95d88 ∈ gk_T := gk_in (t2k (List.mem_of_getElem? (i := 170) rfl)) rfl
theorem csX8_42 : gk_Cs RX8 42 mJ13_bitCount_95d88 1 := ⟨okJ13_bitCount_95d88, kw_493, kw_494, kw_97⟩
theorem kw_530 : Cond.methodLink "AtomTables$Table" 48 yX8_product ∈ gk_T := gk_in (t2k (List.mem_of_getElem? (i := 207) rfl)) rfl
theorem cvX8_48 : gk_Cv RX8 48 mX8_product 8 2 := ⟨okX8_product, ⟨_, _, rfl⟩, kw_530, kw_512, kw_513, kw_86⟩
theorem kw_526 : Cond.methodLink "AtomTables$Table" 52 yX8_sided ∈ gk_T := gk_in (t2k (List.mem_of_getElem? (i := 203) rfl)) rfl
theorem kw_528 : Cond.instanceMethod yX8_sided ∈ gk_T := gk_in (t2k (List.mem_of_getElem? (i := 205) rfl)) rfl
theorem kw_6 : Cond.selects "AtomTables$Table" yX8_sided yX8_sided ∈ gk_T := gk_in (p1k (List.mem_of_getElem? (i := 6) rfl)) rfl
theorem cvX8_52 : gk_Cv RX8 52 mX8_sided 8 3 := ⟨okX8_sided, ⟨_, _, rfl⟩, kw_526, kw_528, kw_6, kw_86⟩
theorem kw_539 : Cond.methodLink "AtomTables$Table" 56 yX8_relations ∈ gk_T := gk_in (t2k (List.mem_of_getElem? (i := 216) rfl)) rfl
theorem cvX8_56 : gk_Cv RX8 56 mX8_relations 8 0 := ⟨okX8_relations, ⟨_, _, rfl⟩, kw_539, kw_469, kw_470, kw_86⟩
theorem kw_548 : Cond.methodLink "AtomTables$Table" 60 yX8_mirrored ∈ gk_T := gk_in (t2k (List.mem_of_getElem? (i := 225) rfl)) rfl
theorem cvX8_60 : gk_Cv RX8 60 mX8_mirrored 8 1 := ⟨okX8_mirrored, ⟨_, _, rfl⟩, kw_548, kw_473, kw_474, kw_86⟩
theorem kw_565 : Cond.methodLink "AtomTables$Table" 64 yX8_isUnbalanced ∈ gk_T := gk_in (t3k (List.mem_of_getElem? (i := 2) rfl)) rfl
theorem kw_567 : Cond.instanceMethod yX8_isUnbalanced ∈ gk_T := gk_in (t3k (List.mem_of_getElem? (i := 4) rfl)) rfl
theorem kw_7 : Cond.selects "AtomTables$Table" yX8_isUnbalanced yX8_isUnbalanced ∈ gk_T := gk_in (p1k (List.mem_of_getElem? (i := 7) rfl)) rfl
theorem cvX8_64 : gk_Cv RX8 64 mX8_isUnbalanced 8 3 := ⟨okX8_isUnbalanced, ⟨_, _, rfl⟩, kw_565, kw_567, kw_7, kw_86⟩
theorem kw_582 : Cond.methodLink "AtomTables$Table" 68 yX8_isLeastTurn ∈ gk_T := gk_in (t3k (List.mem_of_getElem? (i := 19) rfl)) rfl
theorem kw_583 : Cond.instanceMethod yX8_isLeastTurn ∈ gk_T := gk_in (t3k (List.mem_of_getElem? (i := 20) rfl)) rfl
theorem kw_584 : Cond.selects "AtomTables$Table" yX8_isLeastTurn yX8_isLeastTurn ∈ gk_T := gk_in (t3k (List.mem_of_getElem? (i := 21) rfl)) rfl
theorem cvX8_68 : gk_Cv RX8 68 mX8_isLeastTurn 8 3 := ⟨okX8_isLeastTurn, ⟨_, _, rfl⟩, kw_582, kw_583, kw_584, kw_86⟩
theorem kw_586 : Cond.methodLink "AtomTables$Table" 71 yX8_has ∈ gk_T := gk_in (t3k (List.mem_of_getElem? (i := 23) rfl)) rfl
theorem cvX8_71 : gk_Cv RX8 71 mX8_has 8 3 := ⟨okX8_has, ⟨_, _, rfl⟩, kw_586, kw_504, kw_505, kw_86⟩
theorem kw_587 : Cond.methodLink "AtomTables$Table" 74 yJ9_max_7cf53 ∈ gk_T := gk_in (t3k (List.mem_of_getElem? (i := 24) rfl)) rfl
theorem kw_378 : Cond.methodLink "AtomTables$Tape" 3 objectInit ∈ gk_T := gk_in (t2k (List.mem_of_getElem? (i := 55) rfl)) rfl
theorem kw_985 : Cond.methodLink "AtomTables$Tape" 19 yX9_wordEnd ∈ gk_T := gk_in (t4k (List.mem_of_getElem? (i := 182) rfl)) rfl
theorem cvX9_19 : gk_Cv RX9 19 mX9_wordEnd 9 1 := ⟨okX9_wordEnd, ⟨_, _, rfl⟩, kw_985, kw_986, kw_987, kw_95⟩
theorem kw_989 : Cond.methodLink "AtomTables$Tape" 23 yX9_wordKind ∈ gk_T := gk_in (t4k (List.mem_of_getElem? (i := 186) rfl)) rfl
theorem cvX9_23 : gk_Cv RX9 23 mX9_wordKind 9 2 := ⟨okX9_wordKind, ⟨_, _, rfl⟩, kw_989, kw_990, kw_991, kw_95⟩
theorem kw_1049 : Cond.methodLink "AtomTables$Tape" 27 yX9_figuresOf ∈ gk_T := gk_in (t5k (List.mem_of_getElem? (i := 6) rfl)) rfl
theorem cvX9_27 : gk_Cv RX9 27 mX9_figuresOf 9 1 := ⟨okX9_figuresOf, ⟨_, _, rfl⟩, kw_1049, kw_1050, kw_1051, kw_95⟩
theorem kw_1053 : Cond.methodLink "AtomTables$Tape" 30 yX9_goodFigures ∈ gk_T := gk_in (t5k (List.mem_of_getElem? (i := 10) rfl)) rfl
theorem kw_1055 : Cond.instanceMethod yX9_goodFigures ∈ gk_T := gk_in (t5k (List.mem_of_getElem? (i := 12) rfl)) rfl
theorem kw_26 : Cond.selects "AtomTables$Tape" yX9_goodFigures yX9_goodFigures ∈ gk_T := gk_in (p2k (List.mem_of_getElem? (i := 10) rfl)) rfl
theorem cvX9_30 : gk_Cv RX9 30 mX9_goodFigures 9 2 := ⟨okX9_goodFigures, ⟨_, _, rfl⟩, kw_1053, kw_1055, kw_26, kw_95⟩
theorem kw_1057 : Cond.methodLink "AtomTables$Tape" 33 yX9_isDue ∈ gk_T := gk_in (t5k (List.mem_of_getElem? (i := 14) rfl)) rfl
theorem kw_1059 : Cond.instanceMethod yX9_isDue ∈ gk_T := gk_in (t5k (List.mem_of_getElem? (i := 16) rfl)) rfl
theorem kw_27 : Cond.selects "AtomTables$Tape" yX9_isDue yX9_isDue ∈ gk_T := gk_in (p2k (List.mem_of_getElem? (i := 11) rfl)) rfl
theorem cvX9_33 : gk_Cv RX9 33 mX9_isDue 9 2 := ⟨okX9_isDue, ⟨_, _, rfl⟩, kw_1057, kw_1059, kw_27, kw_95⟩
theorem kw_994 : Cond.methodLink "AtomTables$Tape" 39 yX9_isWord ∈ gk_T := gk_in (t4k (List.mem_of_getElem? (i := 191) rfl)) rfl
theorem kw_996 : Cond.instanceMethod yX9_isWord ∈ gk_T := gk_in (t4k (List.mem_of_getElem? (i := 193) rfl)) rfl
theorem kw_25 : Cond.selects "AtomTables$Tape" yX9_isWord yX9_isWord ∈ gk_T := gk_in (p2k (List.mem_of_getElem? (i := 9) rfl)) rfl
theorem cvX9_39 : gk_Cv RX9 39 mX9_isWord 9 3 := ⟨okX9_isWord, ⟨_, _, rfl⟩, kw_994, kw_996, kw_25, kw_95⟩
theorem kw_998 : Cond.methodLink "AtomTables$Tape" 49 yJ0_length_8abf5 ∈ gk_T := gk_in (t4k (List.mem_of_getElem? (i := 195) rfl)) rfl
theorem kw_1008 : Cond.methodLink "AtomTables$Tape" 55 yJ0_charAt_5068e ∈ gk_T := gk_in (t4k (List.mem_of_getElem? (i := 205) rfl)) rfl
theorem kw_1087 : Cond.methodLink "AtomTables$Tape" 59 yX9_writeWord ∈ gk_T := gk_in (t5k (List.mem_of_getElem? (i := 44) rfl)) rfl
theorem kw_1089 : Cond.instanceMethod yX9_writeWord ∈ gk_T := gk_in (t5k (List.mem_of_getElem? (i := 46) rfl)) rfl
theorem kw_30 : Cond.selects "AtomTables$Tape" yX9_writeWord yX9_writeWord ∈ gk_T := gk_in (p2k (List.mem_of_getElem? (i := 14) rfl)) rfl
theorem cvX9_59 : gk_Cv RX9 59 mX9_writeWord 9 1 := ⟨okX9_writeWord, ⟨_, _, rfl⟩, kw_1087, kw_1089, kw_30, kw_95⟩
theorem kw_1092 : Cond.methodLink "AtomTables$Tape" 66 yX9_writeFigure ∈ gk_T := gk_in (t5k (List.mem_of_getElem? (i := 49) rfl)) rfl
theorem kw_1094 : Cond.instanceMethod yX9_writeFigure ∈ gk_T := gk_in (t5k (List.mem_of_getElem? (i := 51) rfl)) rfl
theorem kw_31 : Cond.selects "AtomTables$Tape" yX9_writeFigure yX9_writeFigure ∈ gk_T := gk_in (p2k (List.mem_of_getElem? (i := 15) rfl)) rfl
theorem cvX9_66 : gk_Cv RX9 66 mX9_writeFigure 9 1 := ⟨okX9_writeFigure, ⟨_, _, rfl⟩, kw_1092, kw_1094, kw_31, kw_95⟩
theorem kw_1097 : Cond.methodLink "AtomTables$Tape" 76 yX8_has ∈ gk_T := gk_in (t5k (List.mem_of_getElem? (i := 54) rfl)) rfl
theorem cvX9_76 : gk_Cv RX9 76 mX8_has 8 3 := ⟨okX8_has, ⟨_, _, rfl⟩, kw_1097, kw_504, kw_505, kw_86⟩
theorem kw_1098 : Cond.methodLink "AtomTables$Tape" 80 yX8_isLeastTurn ∈ gk_T := gk_in (t5k (List.mem_of_getElem? (i := 55) rfl)) rfl
theorem cvX9_80 : gk_Cv RX9 80 mX8_isLeastTurn 8 3 := ⟨okX8_isLeastTurn, ⟨_, _, rfl⟩, kw_1098, kw_583, kw_584, kw_86⟩
theorem kw_1099 : Cond.methodLink "AtomTables$Tape" 83 yX9_writeThree ∈ gk_T := gk_in (t5k (List.mem_of_getElem? (i := 56) rfl)) rfl
theorem kw_1101 : Cond.instanceMethod yX9_writeThree ∈ gk_T := gk_in (t5k (List.mem_of_getElem? (i := 58) rfl)) rfl
theorem kw_32 : Cond.selects "AtomTables$Tape" yX9_writeThree yX9_writeThree ∈ gk_T := gk_in (p3k (List.mem_of_getElem? (i := 0) rfl)) rfl
theorem cvX9_83 : gk_Cv RX9 83 mX9_writeThree 9 3 := ⟨okX9_writeThree, ⟨_, _, rfl⟩, kw_1099, kw_1101, kw_32, kw_95⟩
theorem kw_1091 : Cond.methodLink "AtomTables$Tape" 89 yX9_append ∈ gk_T := gk_in (t5k (List.mem_of_getElem? (i := 48) rfl)) rfl
theorem cvX9_89 : gk_Cv RX9 89 mX9_append 9 1 := ⟨okX9_append, ⟨_, _, rfl⟩, kw_1091, kw_970, kw_971, kw_95⟩
theorem kw_209 : Cond.methodLink "AtomTables$Wheels" 3 objectInit ∈ gk_T := gk_in (t1k (List.mem_of_getElem? (i := 126) rfl)) rfl
theorem kw_707 : Cond.methodLink "AtomTables$Wheels" 25 yX10_settle ∈ gk_T := gk_in (t3k (List.mem_of_getElem? (i := 144) rfl)) rfl
theorem kw_1634 : Cond.sameMethod "AtomTables$Wheels" "AtomTables$Wheels" "settle" "(I)Z" ∈ gk_T := gk_in (t7k (List.mem_of_getElem? (i := 111) rfl)) rfl
theorem kw_709 : Cond.instanceMethod yX10_settle ∈ gk_T := gk_in (t3k (List.mem_of_getElem? (i := 146) rfl)) rfl
theorem cuX10_25_4 : gk_Cu RX10 25 yX10_settle RX10 mX10_settle 4 1 := ⟨okX10_settle, RX4, TX4, 7, rfl, Or.inl rfl, ⟨by decide +kernel, by decide +kernel, by decide +kernel⟩, kw_707, kw_1634, (gk_inx 0 (by decide +kernel) (by decide +kernel)), kw_709, kw_88⟩
theorem cuX10_25_5 : gk_Cu RX10 25 yX10_settle RX10 mX10_settle 5 1 := ⟨okX10_settle, RX5, TX5, 8, rfl, Or.inl rfl, ⟨by decide +kernel, by decide +kernel, by decide +kernel⟩, kw_707, kw_1634, (gk_inx 1 (by decide +kernel) (by decide +kernel)), kw_709, kw_88⟩
theorem cuX10_25_6 : gk_Cu RX10 25 yX10_settle RX10 mX10_settle 6 1 := ⟨okX10_settle, RX6, TX6, 6, rfl, Or.inl rfl, ⟨by decide +kernel, by decide +kernel, by decide +kernel⟩, kw_707, kw_1634, (gk_inx 2 (by decide +kernel) (by decide +kernel)), kw_709, kw_88⟩
theorem kw_731 : Cond.methodLink "AtomTables$Wheels" 29 yX10_turn ∈ gk_T := gk_in (t3k (List.mem_of_getElem? (i := 168) rfl)) rfl
theorem kw_1635 : Cond.sameMethod "AtomTables$Wheels" "AtomTables$Wheels" "turn" "(I)I" ∈ gk_T := gk_in (t7k (List.mem_of_getElem? (i := 112) rfl)) rfl
theorem kw_733 : Cond.instanceMethod yX10_turn ∈ gk_T := gk_in (t3k (List.mem_of_getElem? (i := 170) rfl)) rfl
theorem cuX10_29_4 : gk_Cu RX10 29 yX10_turn RX10 mX10_turn 4 1 := ⟨okX10_turn, RX4, TX4, 7, rfl, Or.inl rfl, ⟨by decide +kernel, by decide +kernel, by decide +kernel⟩, kw_731, kw_1635, (gk_inx 3 (by decide +kernel) (by decide +kernel)), kw_733, kw_88⟩
theorem cuX10_29_5 : gk_Cu RX10 29 yX10_turn RX10 mX10_turn 5 1 := ⟨okX10_turn, RX5, TX5, 8, rfl, Or.inl rfl, ⟨by decide +kernel, by decide +kernel, by decide +kernel⟩, kw_731, kw_1635, (gk_inx 4 (by decide +kernel) (by decide +kernel)), kw_733, kw_88⟩
theorem cuX10_29_6 : gk_Cu RX10 29 yX10_turn RX10 mX10_turn 6 1 := ⟨okX10_turn, RX6, TX6, 6, rfl, Or.inl rfl, ⟨by decide +kernel, by decide +kernel, by decide +kernel⟩, kw_731, kw_1635, (gk_inx 5 (by decide +kernel) (by decide +kernel)), kw_733, kw_88⟩
theorem kw_712 : Cond.methodLink "AtomTables$Wheels" 34 ⟨"AtomTables$Wheels", "clash", "(I)I"⟩ ∈ gk_T := gk_in (t3k (List.mem_of_getElem? (i := 149) rfl)) rfl
theorem kw_714 : Cond.sameMethod "AtomTables$Wheels" "AtomTables$Wheels" "clash" "(I)I" ∈ gk_T := gk_in (t3k (List.mem_of_getElem? (i := 151) rfl)) rfl
theorem kw_715 : Cond.selects "AtomTables$Patterns" ⟨"AtomTables$Wheels", "clash", "(I)I"⟩ yX4_clash ∈ gk_T := gk_in (t3k (List.mem_of_getElem? (i := 152) rfl)) rfl
theorem kw_716 : Cond.instanceMethod yX4_clash ∈ gk_T := gk_in (t3k (List.mem_of_getElem? (i := 153) rfl)) rfl
theorem cuX10_34_4 : gk_Cu RX10 34 ⟨"AtomTables$Wheels", "clash", "(I)I"⟩ RX10 mX4_clash 4 1 := ⟨okX4_clash, RX4, TX4, 7, rfl, Or.inr rfl, ⟨by decide +kernel, by decide +kernel, by decide +kernel⟩, kw_712, kw_714, kw_715, kw_716, kw_89⟩
theorem kw_718 : Cond.selects "AtomTables$Pictures" ⟨"AtomTables$Wheels", "clash", "(I)I"⟩ yX5_clash ∈ gk_T := gk_in (t3k (List.mem_of_getElem? (i := 155) rfl)) rfl
theorem kw_719 : Cond.instanceMethod yX5_clash ∈ gk_T := gk_in (t3k (List.mem_of_getElem? (i := 156) rfl)) rfl
theorem cuX10_34_5 : gk_Cu RX10 34 ⟨"AtomTables$Wheels", "clash", "(I)I"⟩ RX10 mX5_clash 5 1 := ⟨okX5_clash, RX5, TX5, 8, rfl, Or.inr rfl, ⟨by decide +kernel, by decide +kernel, by decide +kernel⟩, kw_712, kw_714, kw_718, kw_719, kw_94⟩
theorem kw_726 : Cond.selects "AtomTables$Rows" ⟨"AtomTables$Wheels", "clash", "(I)I"⟩ yX6_clash ∈ gk_T := gk_in (t3k (List.mem_of_getElem? (i := 163) rfl)) rfl
theorem kw_727 : Cond.instanceMethod yX6_clash ∈ gk_T := gk_in (t3k (List.mem_of_getElem? (i := 164) rfl)) rfl
theorem cuX10_34_6 : gk_Cu RX10 34 ⟨"AtomTables$Wheels", "clash", "(I)I"⟩ RX10 mX6_clash 6 1 := ⟨okX6_clash, RX6, TX6, 6, rfl, Or.inr rfl, ⟨by decide +kernel, by decide +kernel, by decide +kernel⟩, kw_712, kw_714, kw_726, kw_727, kw_91⟩
theorem kw_106 : Cond.methodLink "AtomTablesLaw" 9 yX11_init ∈ gk_T := gk_in (t1k (List.mem_of_getElem? (i := 23) rfl)) rfl
theorem kw_107 : Cond.instanceMethod yX11_init ∈ gk_T := gk_in (t1k (List.mem_of_getElem? (i := 24) rfl)) rfl
theorem ciL_9 : gk_Ci "AtomTablesLaw" 9 mX11_init 0 := ⟨okX11_init, kw_106, kw_107, kw_84, rfl, rfl⟩
theorem kw_1131 : Cond.methodLink "AtomTablesLaw" 12 yX12_init ∈ gk_T := gk_in (t5k (List.mem_of_getElem? (i := 88) rfl)) rfl
theorem kw_1132 : Cond.instanceMethod yX12_init ∈ gk_T := gk_in (t5k (List.mem_of_getElem? (i := 89) rfl)) rfl
theorem kw_96 : Cond.initialized "AtomTablesModel" ∈ gk_T := gk_in (t1k (List.mem_of_getElem? (i := 13) rfl)) rfl
theorem ciL_12 : gk_Ci "AtomTablesLaw" 12 mX12_init 0 := ⟨okX12_init, kw_1131, kw_1132, kw_96, rfl, rfl⟩
theorem kw_427 : Cond.methodLink "AtomTablesLaw" 13 yX11_atoms ∈ gk_T := gk_in (t2k (List.mem_of_getElem? (i := 104) rfl)) rfl
theorem cvL_13 : gk_Cv "AtomTablesLaw" 13 mX11_atoms 10 1 := ⟨okX11_atoms, ⟨_, _, rfl⟩, kw_427, kw_428, kw_429, kw_84⟩
theorem kw_1244 : Cond.methodLink "AtomTablesLaw" 17 yX12_atoms ∈ gk_T := gk_in (t5k (List.mem_of_getElem? (i := 201) rfl)) rfl
theorem kw_1245 : Cond.instanceMethod yX12_atoms ∈ gk_T := gk_in (t5k (List.mem_of_getElem? (i := 202) rfl)) rfl
theorem kw_1246 : Cond.selects "AtomTablesModel" yX12_atoms yX12_atoms ∈ gk_T := gk_in (t5k (List.mem_of_getElem? (i := 203) rfl)) rfl
theorem cvL_17 : gk_Cv "AtomTablesLaw" 17 mX12_atoms 11 1 := ⟨okX12_atoms, ⟨_, _, rfl⟩, kw_1244, kw_1245, kw_1246, kw_96⟩
theorem kw_440 : Cond.methodLink "AtomTablesLaw" 18 yX11_pair ∈ gk_T := gk_in (t2k (List.mem_of_getElem? (i := 117) rfl)) rfl
theorem cvL_18 : gk_Cv "AtomTablesLaw" 18 mX11_pair 10 2 := ⟨okX11_pair, ⟨_, _, rfl⟩, kw_440, kw_441, kw_442, kw_84⟩
theorem kw_1252 : Cond.methodLink "AtomTablesLaw" 22 yX12_pair ∈ gk_T := gk_in (t5k (List.mem_of_getElem? (i := 209) rfl)) rfl
theorem kw_1253 : Cond.instanceMethod yX12_pair ∈ gk_T := gk_in (t5k (List.mem_of_getElem? (i := 210) rfl)) rfl
theorem kw_1254 : Cond.selects "AtomTablesModel" yX12_pair yX12_pair ∈ gk_T := gk_in (t5k (List.mem_of_getElem? (i := 211) rfl)) rfl
theorem cvL_22 : gk_Cv "AtomTablesLaw" 22 mX12_pair 11 2 := ⟨okX12_pair, ⟨_, _, rfl⟩, kw_1252, kw_1253, kw_1254, kw_96⟩
theorem kw_460 : Cond.methodLink "AtomTablesLaw" 23 yX11_converse ∈ gk_T := gk_in (t2k (List.mem_of_getElem? (i := 137) rfl)) rfl
theorem kw_461 : Cond.instanceMethod yX11_converse ∈ gk_T := gk_in (t2k (List.mem_of_getElem? (i := 138) rfl)) rfl
theorem kw_462 : Cond.selects "AtomTables" yX11_converse yX11_converse ∈ gk_T := gk_in (t2k (List.mem_of_getElem? (i := 139) rfl)) rfl
theorem cvL_23 : gk_Cv "AtomTablesLaw" 23 mX11_converse 10 1 := ⟨okX11_converse, ⟨_, _, rfl⟩, kw_460, kw_461, kw_462, kw_84⟩
theorem kw_1260 : Cond.methodLink "AtomTablesLaw" 26 yX12_converse ∈ gk_T := gk_in (t5k (List.mem_of_getElem? (i := 217) rfl)) rfl
theorem kw_1261 : Cond.instanceMethod yX12_converse ∈ gk_T := gk_in (t5k (List.mem_of_getElem? (i := 218) rfl)) rfl
theorem kw_1262 : Cond.selects "AtomTablesModel" yX12_converse yX12_converse ∈ gk_T := gk_in (t5k (List.mem_of_getElem? (i := 219) rfl)) rfl
theorem cvL_26 : gk_Cv "AtomTablesLaw" 26 mX12_converse 11 1 := ⟨okX12_converse, ⟨_, _, rfl⟩, kw_1260, kw_1261, kw_1262, kw_96⟩
theorem kw_476 : Cond.methodLink "AtomTablesLaw" 27 yX11_triangle ∈ gk_T := gk_in (t2k (List.mem_of_getElem? (i := 153) rfl)) rfl
theorem cvL_27 : gk_Cv "AtomTablesLaw" 27 mX11_triangle 10 4 := ⟨okX11_triangle, ⟨_, _, rfl⟩, kw_476, kw_477, kw_478, kw_84⟩
theorem kw_1275 : Cond.methodLink "AtomTablesLaw" 31 yX12_triangle ∈ gk_T := gk_in (t5k (List.mem_of_getElem? (i := 232) rfl)) rfl
theorem kw_1276 : Cond.instanceMethod yX12_triangle ∈ gk_T := gk_in (t5k (List.mem_of_getElem? (i := 233) rfl)) rfl
theorem kw_1277 : Cond.selects "AtomTablesModel" yX12_triangle yX12_triangle ∈ gk_T := gk_in (t5k (List.mem_of_getElem? (i := 234) rfl)) rfl
theorem cvL_31 : gk_Cv "AtomTablesLaw" 31 mX12_triangle 11 4 := ⟨okX12_triangle, ⟨_, _, rfl⟩, kw_1275, kw_1276, kw_1277, kw_96⟩
theorem kw_499 : Cond.methodLink "AtomTablesLaw" 32 yX11_isIn ∈ gk_T := gk_in (t2k (List.mem_of_getElem? (i := 176) rfl)) rfl
theorem kw_500 : Cond.instanceMethod yX11_isIn ∈ gk_T := gk_in (t2k (List.mem_of_getElem? (i := 177) rfl)) rfl
theorem kw_501 : Cond.selects "AtomTables" yX11_isIn yX11_isIn ∈ gk_T := gk_in (t2k (List.mem_of_getElem? (i := 178) rfl)) rfl
theorem cvL_32 : gk_Cv "AtomTablesLaw" 32 mX11_isIn 10 3 := ⟨okX11_isIn, ⟨_, _, rfl⟩, kw_499, kw_500, kw_501, kw_84⟩
theorem kw_1287 : Cond.methodLink "AtomTablesLaw" 36 yX12_isIn ∈ gk_T := gk_in (t6k (List.mem_of_getElem? (i := 4) rfl)) rfl
theorem kw_1288 : Cond.instanceMethod yX12_isIn ∈ gk_T := gk_in (t6k (List.mem_of_getElem? (i := 5) rfl)) rfl
theorem kw_1289 : Cond.selects "AtomTablesModel" yX12_isIn yX12_isIn ∈ gk_T := gk_in (t6k (List.mem_of_getElem? (i := 6) rfl)) rfl
theorem cvL_36 : gk_Cv "AtomTablesLaw" 36 mX12_isIn 11 3 := ⟨okX12_isIn, ⟨_, _, rfl⟩, kw_1287, kw_1288, kw_1289, kw_96⟩
theorem kw_507 : Cond.methodLink "AtomTablesLaw" 37 yX11_compose ∈ gk_T := gk_in (t2k (List.mem_of_getElem? (i := 184) rfl)) rfl
theorem kw_508 : Cond.instanceMethod yX11_compose ∈ gk_T := gk_in (t2k (List.mem_of_getElem? (i := 185) rfl)) rfl
theorem kw_509 : Cond.selects "AtomTables" yX11_compose yX11_compose ∈ gk_T := gk_in (t2k (List.mem_of_getElem? (i := 186) rfl)) rfl
theorem cvL_37 : gk_Cv "AtomTablesLaw" 37 mX11_compose 10 2 := ⟨okX11_compose, ⟨_, _, rfl⟩, kw_507, kw_508, kw_509, kw_84⟩
theorem kw_1295 : Cond.methodLink "AtomTablesLaw" 40 yX12_compose ∈ gk_T := gk_in (t6k (List.mem_of_getElem? (i := 12) rfl)) rfl
theorem kw_1296 : Cond.instanceMethod yX12_compose ∈ gk_T := gk_in (t6k (List.mem_of_getElem? (i := 13) rfl)) rfl
theorem kw_1297 : Cond.selects "AtomTablesModel" yX12_compose yX12_compose ∈ gk_T := gk_in (t6k (List.mem_of_getElem? (i := 14) rfl)) rfl
theorem cvL_40 : gk_Cv "AtomTablesLaw" 40 mX12_compose 11 2 := ⟨okX12_compose, ⟨_, _, rfl⟩, kw_1295, kw_1296, kw_1297, kw_96⟩
theorem kw_515 : Cond.methodLink "AtomTablesLaw" 41 yX11_over ∈ gk_T := gk_in (t2k (List.mem_of_getElem? (i := 192) rfl)) rfl
theorem kw_516 : Cond.instanceMethod yX11_over ∈ gk_T := gk_in (t2k (List.mem_of_getElem? (i := 193) rfl)) rfl
theorem kw_517 : Cond.selects "AtomTables" yX11_over yX11_over ∈ gk_T := gk_in (t2k (List.mem_of_getElem? (i := 194) rfl)) rfl
theorem cvL_41 : gk_Cv "AtomTablesLaw" 41 mX11_over 10 3 := ⟨okX11_over, ⟨_, _, rfl⟩, kw_515, kw_516, kw_517, kw_84⟩
theorem kw_1303 : Cond.methodLink "AtomTablesLaw" 44 yX12_over ∈ gk_T := gk_in (t6k (List.mem_of_getElem? (i := 20) rfl)) rfl
theorem kw_1304 : Cond.instanceMethod yX12_over ∈ gk_T := gk_in (t6k (List.mem_of_getElem? (i := 21) rfl)) rfl
theorem kw_1305 : Cond.selects "AtomTablesModel" yX12_over yX12_over ∈ gk_T := gk_in (t6k (List.mem_of_getElem? (i := 22) rfl)) rfl
theorem cvL_44 : gk_Cv "AtomTablesLaw" 44 mX12_over 11 3 := ⟨okX12_over, ⟨_, _, rfl⟩, kw_1303, kw_1304, kw_1305, kw_96⟩
theorem kw_531 : Cond.methodLink "AtomTablesLaw" 45 yX11_power ∈ gk_T := gk_in (t2k (List.mem_of_getElem? (i := 208) rfl)) rfl
theorem kw_532 : Cond.instanceMethod yX11_power ∈ gk_T := gk_in (t2k (List.mem_of_getElem? (i := 209) rfl)) rfl
theorem kw_533 : Cond.selects "AtomTables" yX11_power yX11_power ∈ gk_T := gk_in (t2k (List.mem_of_getElem? (i := 210) rfl)) rfl
theorem cvL_45 : gk_Cv "AtomTablesLaw" 45 mX11_power 10 2 := ⟨okX11_power, ⟨_, _, rfl⟩, kw_531, kw_532, kw_533, kw_84⟩
theorem kw_1311 : Cond.methodLink "AtomTablesLaw" 48 yX12_power ∈ gk_T := gk_in (t6k (List.mem_of_getElem? (i := 28) rfl)) rfl
theorem kw_1312 : Cond.instanceMethod yX12_power ∈ gk_T := gk_in (t6k (List.mem_of_getElem? (i := 29) rfl)) rfl
theorem kw_1313 : Cond.selects "AtomTablesModel" yX12_power yX12_power ∈ gk_T := gk_in (t6k (List.mem_of_getElem? (i := 30) rfl)) rfl
theorem cvL_48 : gk_Cv "AtomTablesLaw" 48 mX12_power 11 2 := ⟨okX12_power, ⟨_, _, rfl⟩, kw_1311, kw_1312, kw_1313, kw_96⟩
theorem kw_540 : Cond.methodLink "AtomTablesLaw" 49 yX11_equivalence ∈ gk_T := gk_in (t2k (List.mem_of_getElem? (i := 217) rfl)) rfl
theorem kw_541 : Cond.instanceMethod yX11_equivalence ∈ gk_T := gk_in (t2k (List.mem_of_getElem? (i := 218) rfl)) rfl
theorem kw_542 : Cond.selects "AtomTables" yX11_equivalence yX11_equivalence ∈ gk_T := gk_in (t2k (List.mem_of_getElem? (i := 219) rfl)) rfl
theorem cvL_49 : gk_Cv "AtomTablesLaw" 49 mX11_equivalence 10 1 := ⟨okX11_equivalence, ⟨_, _, rfl⟩, kw_540, kw_541, kw_542, kw_84⟩
theorem kw_1319 : Cond.methodLink "AtomTablesLaw" 52 yX12_equivalence ∈ gk_T := gk_in (t6k (List.mem_of_getElem? (i := 36) rfl)) rfl
theorem kw_1320 : Cond.instanceMethod yX12_equivalence ∈ gk_T := gk_in (t6k (List.mem_of_getElem? (i := 37) rfl)) rfl
theorem kw_1321 : Cond.selects "AtomTablesModel" yX12_equivalence yX12_equivalence ∈ gk_T := gk_in (t6k (List.mem_of_getElem? (i := 38) rfl)) rfl
theorem cvL_52 : gk_Cv "AtomTablesLaw" 52 mX12_equivalence 11 1 := ⟨okX12_equivalence, ⟨_, _, rfl⟩, kw_1319, kw_1320, kw_1321, kw_96⟩
theorem kw_549 : Cond.methodLink "AtomTablesLaw" 53 yX11_solved ∈ gk_T := gk_in (t2k (List.mem_of_getElem? (i := 226) rfl)) rfl
theorem kw_550 : Cond.instanceMethod yX11_solved ∈ gk_T := gk_in (t2k (List.mem_of_getElem? (i := 227) rfl)) rfl
theorem kw_551 : Cond.selects "AtomTables" yX11_solved yX11_solved ∈ gk_T := gk_in (t2k (List.mem_of_getElem? (i := 228) rfl)) rfl
theorem cvL_53 : gk_Cv "AtomTablesLaw" 53 mX11_solved 10 4 := ⟨okX11_solved, ⟨_, _, rfl⟩, kw_549, kw_550, kw_551, kw_84⟩
theorem kw_1327 : Cond.methodLink "AtomTablesLaw" 56 yX12_solved ∈ gk_T := gk_in (t6k (List.mem_of_getElem? (i := 44) rfl)) rfl
theorem kw_1328 : Cond.instanceMethod yX12_solved ∈ gk_T := gk_in (t6k (List.mem_of_getElem? (i := 45) rfl)) rfl
theorem kw_1329 : Cond.selects "AtomTablesModel" yX12_solved yX12_solved ∈ gk_T := gk_in (t6k (List.mem_of_getElem? (i := 46) rfl)) rfl
theorem cvL_56 : gk_Cv "AtomTablesLaw" 56 mX12_solved 11 4 := ⟨okX12_solved, ⟨_, _, rfl⟩, kw_1327, kw_1328, kw_1329, kw_96⟩
theorem kw_557 : Cond.methodLink "AtomTablesLaw" 57 yX11_broken ∈ gk_T := gk_in (t2k (List.mem_of_getElem? (i := 234) rfl)) rfl
theorem kw_558 : Cond.instanceMethod yX11_broken ∈ gk_T := gk_in (t2k (List.mem_of_getElem? (i := 235) rfl)) rfl
theorem kw_559 : Cond.selects "AtomTables" yX11_broken yX11_broken ∈ gk_T := gk_in (t2k (List.mem_of_getElem? (i := 236) rfl)) rfl
theorem cvL_57 : gk_Cv "AtomTablesLaw" 57 mX11_broken 10 1 := ⟨okX11_broken, ⟨_, _, rfl⟩, kw_557, kw_558, kw_559, kw_84⟩
theorem kw_1332 : Cond.methodLink "AtomTablesLaw" 60 yX12_broken ∈ gk_T := gk_in (t6k (List.mem_of_getElem? (i := 49) rfl)) rfl
theorem kw_1333 : Cond.instanceMethod yX12_broken ∈ gk_T := gk_in (t6k (List.mem_of_getElem? (i := 50) rfl)) rfl
theorem kw_1334 : Cond.selects "AtomTablesModel" yX12_broken yX12_broken ∈ gk_T := gk_in (t6k (List.mem_of_getElem? (i := 51) rfl)) rfl
theorem cvL_60 : gk_Cv "AtomTablesLaw" 60 mX12_broken 11 1 := ⟨okX12_broken, ⟨_, _, rfl⟩, kw_1332, kw_1333, kw_1334, kw_96⟩
theorem kw_573 : Cond.methodLink "AtomTablesLaw" 61 yX11_cycles ∈ gk_T := gk_in (t3k (List.mem_of_getElem? (i := 10) rfl)) rfl
theorem kw_574 : Cond.instanceMethod yX11_cycles ∈ gk_T := gk_in (t3k (List.mem_of_getElem? (i := 11) rfl)) rfl
theorem kw_575 : Cond.selects "AtomTables" yX11_cycles yX11_cycles ∈ gk_T := gk_in (t3k (List.mem_of_getElem? (i := 12) rfl)) rfl
theorem cvL_61 : gk_Cv "AtomTablesLaw" 61 mX11_cycles 10 1 := ⟨okX11_cycles, ⟨_, _, rfl⟩, kw_573, kw_574, kw_575, kw_84⟩
theorem kw_1337 : Cond.methodLink "AtomTablesLaw" 64 yX12_cycles ∈ gk_T := gk_in (t6k (List.mem_of_getElem? (i := 54) rfl)) rfl
theorem kw_1338 : Cond.instanceMethod yX12_cycles ∈ gk_T := gk_in (t6k (List.mem_of_getElem? (i := 55) rfl)) rfl
theorem kw_1339 : Cond.selects "AtomTablesModel" yX12_cycles yX12_cycles ∈ gk_T := gk_in (t6k (List.mem_of_getElem? (i := 56) rfl)) rfl
theorem cvL_64 : gk_Cv "AtomTablesLaw" 64 mX12_cycles 11 1 := ⟨okX12_cycles, ⟨_, _, rfl⟩, kw_1337, kw_1338, kw_1339, kw_96⟩
theorem kw_590 : Cond.methodLink "AtomTablesLaw" 65 yX11_node ∈ gk_T := gk_in (t3k (List.mem_of_getElem? (i := 27) rfl)) rfl
theorem kw_591 : Cond.instanceMethod yX11_node ∈ gk_T := gk_in (t3k (List.mem_of_getElem? (i := 28) rfl)) rfl
theorem kw_592 : Cond.selects "AtomTables" yX11_node yX11_node ∈ gk_T := gk_in (t3k (List.mem_of_getElem? (i := 29) rfl)) rfl
theorem cvL_65 : gk_Cv "AtomTablesLaw" 65 mX11_node 10 2 := ⟨okX11_node, ⟨_, _, rfl⟩, kw_590, kw_591, kw_592, kw_84⟩
theorem kw_1350 : Cond.methodLink "AtomTablesLaw" 68 yX12_node ∈ gk_T := gk_in (t6k (List.mem_of_getElem? (i := 67) rfl)) rfl
theorem kw_1351 : Cond.instanceMethod yX12_node ∈ gk_T := gk_in (t6k (List.mem_of_getElem? (i := 68) rfl)) rfl
theorem kw_1352 : Cond.selects "AtomTablesModel" yX12_node yX12_node ∈ gk_T := gk_in (t6k (List.mem_of_getElem? (i := 69) rfl)) rfl
theorem cvL_68 : gk_Cv "AtomTablesLaw" 68 mX12_node 11 2 := ⟨okX12_node, ⟨_, _, rfl⟩, kw_1350, kw_1351, kw_1352, kw_96⟩
theorem kw_609 : Cond.methodLink "AtomTablesLaw" 69 yX11_drop ∈ gk_T := gk_in (t3k (List.mem_of_getElem? (i := 46) rfl)) rfl
theorem kw_610 : Cond.instanceMethod yX11_drop ∈ gk_T := gk_in (t3k (List.mem_of_getElem? (i := 47) rfl)) rfl
theorem kw_611 : Cond.selects "AtomTables" yX11_drop yX11_drop ∈ gk_T := gk_in (t3k (List.mem_of_getElem? (i := 48) rfl)) rfl
theorem cvL_69 : gk_Cv "AtomTablesLaw" 69 mX11_drop 10 1 := ⟨okX11_drop, ⟨_, _, rfl⟩, kw_609, kw_610, kw_611, kw_84⟩
theorem kw_1372 : Cond.methodLink "AtomTablesLaw" 72 yX12_drop ∈ gk_T := gk_in (t6k (List.mem_of_getElem? (i := 89) rfl)) rfl
theorem kw_1373 : Cond.instanceMethod yX12_drop ∈ gk_T := gk_in (t6k (List.mem_of_getElem? (i := 90) rfl)) rfl
theorem kw_1374 : Cond.selects "AtomTablesModel" yX12_drop yX12_drop ∈ gk_T := gk_in (t6k (List.mem_of_getElem? (i := 91) rfl)) rfl
theorem cvL_72 : gk_Cv "AtomTablesLaw" 72 mX12_drop 11 1 := ⟨okX12_drop, ⟨_, _, rfl⟩, kw_1372, kw_1373, kw_1374, kw_96⟩
theorem kw_613 : Cond.methodLink "AtomTablesLaw" 73 yX11_label ∈ gk_T := gk_in (t3k (List.mem_of_getElem? (i := 50) rfl)) rfl
theorem kw_614 : Cond.instanceMethod yX11_label ∈ gk_T := gk_in (t3k (List.mem_of_getElem? (i := 51) rfl)) rfl
theorem kw_615 : Cond.selects "AtomTables" yX11_label yX11_label ∈ gk_T := gk_in (t3k (List.mem_of_getElem? (i := 52) rfl)) rfl
theorem cvL_73 : gk_Cv "AtomTablesLaw" 73 mX11_label 10 3 := ⟨okX11_label, ⟨_, _, rfl⟩, kw_613, kw_614, kw_615, kw_84⟩
theorem kw_1376 : Cond.methodLink "AtomTablesLaw" 76 yX12_label ∈ gk_T := gk_in (t6k (List.mem_of_getElem? (i := 93) rfl)) rfl
theorem kw_1377 : Cond.instanceMethod yX12_label ∈ gk_T := gk_in (t6k (List.mem_of_getElem? (i := 94) rfl)) rfl
theorem kw_1378 : Cond.selects "AtomTablesModel" yX12_label yX12_label ∈ gk_T := gk_in (t6k (List.mem_of_getElem? (i := 95) rfl)) rfl
theorem cvL_76 : gk_Cv "AtomTablesLaw" 76 mX12_label 11 3 := ⟨okX12_label, ⟨_, _, rfl⟩, kw_1376, kw_1377, kw_1378, kw_96⟩
theorem kw_625 : Cond.methodLink "AtomTablesLaw" 77 yX11_relabel ∈ gk_T := gk_in (t3k (List.mem_of_getElem? (i := 62) rfl)) rfl
theorem kw_626 : Cond.instanceMethod yX11_relabel ∈ gk_T := gk_in (t3k (List.mem_of_getElem? (i := 63) rfl)) rfl
theorem kw_627 : Cond.selects "AtomTables" yX11_relabel yX11_relabel ∈ gk_T := gk_in (t3k (List.mem_of_getElem? (i := 64) rfl)) rfl
theorem cvL_77 : gk_Cv "AtomTablesLaw" 77 mX11_relabel 10 4 := ⟨okX11_relabel, ⟨_, _, rfl⟩, kw_625, kw_626, kw_627, kw_84⟩
theorem kw_1388 : Cond.methodLink "AtomTablesLaw" 80 yX12_relabel ∈ gk_T := gk_in (t6k (List.mem_of_getElem? (i := 105) rfl)) rfl
theorem kw_1389 : Cond.instanceMethod yX12_relabel ∈ gk_T := gk_in (t6k (List.mem_of_getElem? (i := 106) rfl)) rfl
theorem kw_1390 : Cond.selects "AtomTablesModel" yX12_relabel yX12_relabel ∈ gk_T := gk_in (t6k (List.mem_of_getElem? (i := 107) rfl)) rfl
theorem cvL_80 : gk_Cv "AtomTablesLaw" 80 mX12_relabel 11 4 := ⟨okX12_relabel, ⟨_, _, rfl⟩, kw_1388, kw_1389, kw_1390, kw_96⟩
theorem kw_630 : Cond.methodLink "AtomTablesLaw" 81 yX11_copy ∈ gk_T := gk_in (t3k (List.mem_of_getElem? (i := 67) rfl)) rfl
theorem kw_631 : Cond.instanceMethod yX11_copy ∈ gk_T := gk_in (t3k (List.mem_of_getElem? (i := 68) rfl)) rfl
theorem kw_632 : Cond.selects "AtomTables" yX11_copy yX11_copy ∈ gk_T := gk_in (t3k (List.mem_of_getElem? (i := 69) rfl)) rfl
theorem cvL_81 : gk_Cv "AtomTablesLaw" 81 mX11_copy 10 2 := ⟨okX11_copy, ⟨_, _, rfl⟩, kw_630, kw_631, kw_632, kw_84⟩
theorem kw_1392 : Cond.methodLink "AtomTablesLaw" 84 yX12_copy ∈ gk_T := gk_in (t6k (List.mem_of_getElem? (i := 109) rfl)) rfl
theorem kw_1393 : Cond.instanceMethod yX12_copy ∈ gk_T := gk_in (t6k (List.mem_of_getElem? (i := 110) rfl)) rfl
theorem kw_1394 : Cond.selects "AtomTablesModel" yX12_copy yX12_copy ∈ gk_T := gk_in (t6k (List.mem_of_getElem? (i := 111) rfl)) rfl
theorem cvL_84 : gk_Cv "AtomTablesLaw" 84 mX12_copy 11 2 := ⟨okX12_copy, ⟨_, _, rfl⟩, kw_1392, kw_1393, kw_1394, kw_96⟩
theorem kw_638 : Cond.methodLink "AtomTablesLaw" 85 yX11_sound ∈ gk_T := gk_in (t3k (List.mem_of_getElem? (i := 75) rfl)) rfl
theorem kw_639 : Cond.instanceMethod yX11_sound ∈ gk_T := gk_in (t3k (List.mem_of_getElem? (i := 76) rfl)) rfl
theorem kw_640 : Cond.selects "AtomTables" yX11_sound yX11_sound ∈ gk_T := gk_in (t3k (List.mem_of_getElem? (i := 77) rfl)) rfl
theorem cvL_85 : gk_Cv "AtomTablesLaw" 85 mX11_sound 10 1 := ⟨okX11_sound, ⟨_, _, rfl⟩, kw_638, kw_639, kw_640, kw_84⟩
theorem kw_1400 : Cond.methodLink "AtomTablesLaw" 88 yX12_sound ∈ gk_T := gk_in (t6k (List.mem_of_getElem? (i := 117) rfl)) rfl
theorem kw_1401 : Cond.instanceMethod yX12_sound ∈ gk_T := gk_in (t6k (List.mem_of_getElem? (i := 118) rfl)) rfl
theorem kw_1402 : Cond.selects "AtomTablesModel" yX12_sound yX12_sound ∈ gk_T := gk_in (t6k (List.mem_of_getElem? (i := 119) rfl)) rfl
theorem cvL_88 : gk_Cv "AtomTablesLaw" 88 mX12_sound 11 1 := ⟨okX12_sound, ⟨_, _, rfl⟩, kw_1400, kw_1401, kw_1402, kw_96⟩
theorem kw_648 : Cond.methodLink "AtomTablesLaw" 89 yX11_gap ∈ gk_T := gk_in (t3k (List.mem_of_getElem? (i := 85) rfl)) rfl
theorem kw_649 : Cond.instanceMethod yX11_gap ∈ gk_T := gk_in (t3k (List.mem_of_getElem? (i := 86) rfl)) rfl
theorem kw_650 : Cond.selects "AtomTables" yX11_gap yX11_gap ∈ gk_T := gk_in (t3k (List.mem_of_getElem? (i := 87) rfl)) rfl
theorem cvL_89 : gk_Cv "AtomTablesLaw" 89 mX11_gap 10 2 := ⟨okX11_gap, ⟨_, _, rfl⟩, kw_648, kw_649, kw_650, kw_84⟩
theorem kw_1408 : Cond.methodLink "AtomTablesLaw" 92 yX12_gap ∈ gk_T := gk_in (t6k (List.mem_of_getElem? (i := 125) rfl)) rfl
theorem kw_1409 : Cond.instanceMethod yX12_gap ∈ gk_T := gk_in (t6k (List.mem_of_getElem? (i := 126) rfl)) rfl
theorem kw_1410 : Cond.selects "AtomTablesModel" yX12_gap yX12_gap ∈ gk_T := gk_in (t6k (List.mem_of_getElem? (i := 127) rfl)) rfl
theorem cvL_92 : gk_Cv "AtomTablesLaw" 92 mX12_gap 11 2 := ⟨okX12_gap, ⟨_, _, rfl⟩, kw_1408, kw_1409, kw_1410, kw_96⟩
theorem kw_672 : Cond.methodLink "AtomTablesLaw" 93 yX11_fills ∈ gk_T := gk_in (t3k (List.mem_of_getElem? (i := 109) rfl)) rfl
theorem kw_673 : Cond.instanceMethod yX11_fills ∈ gk_T := gk_in (t3k (List.mem_of_getElem? (i := 110) rfl)) rfl
theorem kw_674 : Cond.selects "AtomTables" yX11_fills yX11_fills ∈ gk_T := gk_in (t3k (List.mem_of_getElem? (i := 111) rfl)) rfl
theorem cvL_93 : gk_Cv "AtomTablesLaw" 93 mX11_fills 10 3 := ⟨okX11_fills, ⟨_, _, rfl⟩, kw_672, kw_673, kw_674, kw_84⟩
theorem kw_1440 : Cond.methodLink "AtomTablesLaw" 96 yX12_fills ∈ gk_T := gk_in (t6k (List.mem_of_getElem? (i := 157) rfl)) rfl
theorem kw_1441 : Cond.instanceMethod yX12_fills ∈ gk_T := gk_in (t6k (List.mem_of_getElem? (i := 158) rfl)) rfl
theorem kw_1442 : Cond.selects "AtomTablesModel" yX12_fills yX12_fills ∈ gk_T := gk_in (t6k (List.mem_of_getElem? (i := 159) rfl)) rfl
theorem cvL_96 : gk_Cv "AtomTablesLaw" 96 mX12_fills 11 3 := ⟨okX12_fills, ⟨_, _, rfl⟩, kw_1440, kw_1441, kw_1442, kw_96⟩
theorem kw_767 : Cond.methodLink "AtomTablesLaw" 97 yX11_occurs ∈ gk_T := gk_in (t3k (List.mem_of_getElem? (i := 204) rfl)) rfl
theorem kw_768 : Cond.instanceMethod yX11_occurs ∈ gk_T := gk_in (t3k (List.mem_of_getElem? (i := 205) rfl)) rfl
theorem kw_769 : Cond.selects "AtomTables" yX11_occurs yX11_occurs ∈ gk_T := gk_in (t3k (List.mem_of_getElem? (i := 206) rfl)) rfl
theorem cvL_97 : gk_Cv "AtomTablesLaw" 97 mX11_occurs 10 3 := ⟨okX11_occurs, ⟨_, _, rfl⟩, kw_767, kw_768, kw_769, kw_84⟩
theorem kw_1420 : Cond.methodLink "AtomTablesLaw" 100 yX12_occurs ∈ gk_T := gk_in (t6k (List.mem_of_getElem? (i := 137) rfl)) rfl
theorem kw_1421 : Cond.instanceMethod yX12_occurs ∈ gk_T := gk_in (t6k (List.mem_of_getElem? (i := 138) rfl)) rfl
theorem kw_1422 : Cond.selects "AtomTablesModel" yX12_occurs yX12_occurs ∈ gk_T := gk_in (t6k (List.mem_of_getElem? (i := 139) rfl)) rfl
theorem cvL_100 : gk_Cv "AtomTablesLaw" 100 mX12_occurs 11 3 := ⟨okX12_occurs, ⟨_, _, rfl⟩, kw_1420, kw_1421, kw_1422, kw_96⟩
theorem kw_782 : Cond.methodLink "AtomTablesLaw" 101 yX11_forbid ∈ gk_T := gk_in (t3k (List.mem_of_getElem? (i := 219) rfl)) rfl
theorem kw_783 : Cond.instanceMethod yX11_forbid ∈ gk_T := gk_in (t3k (List.mem_of_getElem? (i := 220) rfl)) rfl
theorem kw_784 : Cond.selects "AtomTables" yX11_forbid yX11_forbid ∈ gk_T := gk_in (t3k (List.mem_of_getElem? (i := 221) rfl)) rfl
theorem cvL_101 : gk_Cv "AtomTablesLaw" 101 mX11_forbid 10 1 := ⟨okX11_forbid, ⟨_, _, rfl⟩, kw_782, kw_783, kw_784, kw_84⟩
theorem kw_1436 : Cond.methodLink "AtomTablesLaw" 104 yX12_forbid ∈ gk_T := gk_in (t6k (List.mem_of_getElem? (i := 153) rfl)) rfl
theorem kw_1437 : Cond.instanceMethod yX12_forbid ∈ gk_T := gk_in (t6k (List.mem_of_getElem? (i := 154) rfl)) rfl
theorem kw_1438 : Cond.selects "AtomTablesModel" yX12_forbid yX12_forbid ∈ gk_T := gk_in (t6k (List.mem_of_getElem? (i := 155) rfl)) rfl
theorem cvL_104 : gk_Cv "AtomTablesLaw" 104 mX12_forbid 11 1 := ⟨okX12_forbid, ⟨_, _, rfl⟩, kw_1436, kw_1437, kw_1438, kw_96⟩
theorem kw_786 : Cond.methodLink "AtomTablesLaw" 105 yX11_won ∈ gk_T := gk_in (t3k (List.mem_of_getElem? (i := 223) rfl)) rfl
theorem kw_787 : Cond.instanceMethod yX11_won ∈ gk_T := gk_in (t3k (List.mem_of_getElem? (i := 224) rfl)) rfl
theorem kw_788 : Cond.selects "AtomTables" yX11_won yX11_won ∈ gk_T := gk_in (t3k (List.mem_of_getElem? (i := 225) rfl)) rfl
theorem cvL_105 : gk_Cv "AtomTablesLaw" 105 mX11_won 10 2 := ⟨okX11_won, ⟨_, _, rfl⟩, kw_786, kw_787, kw_788, kw_84⟩
theorem kw_1480 : Cond.methodLink "AtomTablesLaw" 108 yX12_won ∈ gk_T := gk_in (t6k (List.mem_of_getElem? (i := 197) rfl)) rfl
theorem kw_1481 : Cond.instanceMethod yX12_won ∈ gk_T := gk_in (t6k (List.mem_of_getElem? (i := 198) rfl)) rfl
theorem kw_1482 : Cond.selects "AtomTablesModel" yX12_won yX12_won ∈ gk_T := gk_in (t6k (List.mem_of_getElem? (i := 199) rfl)) rfl
theorem cvL_108 : gk_Cv "AtomTablesLaw" 108 mX12_won 11 2 := ⟨okX12_won, ⟨_, _, rfl⟩, kw_1480, kw_1481, kw_1482, kw_96⟩
theorem kw_835 : Cond.methodLink "AtomTablesLaw" 109 yX11_killer ∈ gk_T := gk_in (t4k (List.mem_of_getElem? (i := 32) rfl)) rfl
theorem kw_836 : Cond.instanceMethod yX11_killer ∈ gk_T := gk_in (t4k (List.mem_of_getElem? (i := 33) rfl)) rfl
theorem kw_837 : Cond.selects "AtomTables" yX11_killer yX11_killer ∈ gk_T := gk_in (t4k (List.mem_of_getElem? (i := 34) rfl)) rfl
theorem cvL_109 : gk_Cv "AtomTablesLaw" 109 mX11_killer 10 2 := ⟨okX11_killer, ⟨_, _, rfl⟩, kw_835, kw_836, kw_837, kw_84⟩
theorem kw_1492 : Cond.methodLink "AtomTablesLaw" 112 yX12_killer ∈ gk_T := gk_in (t6k (List.mem_of_getElem? (i := 209) rfl)) rfl
theorem kw_1493 : Cond.instanceMethod yX12_killer ∈ gk_T := gk_in (t6k (List.mem_of_getElem? (i := 210) rfl)) rfl
theorem kw_1494 : Cond.selects "AtomTablesModel" yX12_killer yX12_killer ∈ gk_T := gk_in (t6k (List.mem_of_getElem? (i := 211) rfl)) rfl
theorem cvL_112 : gk_Cv "AtomTablesLaw" 112 mX12_killer 11 2 := ⟨okX12_killer, ⟨_, _, rfl⟩, kw_1492, kw_1493, kw_1494, kw_96⟩
theorem kw_845 : Cond.methodLink "AtomTablesLaw" 113 yX11_lasts ∈ gk_T := gk_in (t4k (List.mem_of_getElem? (i := 42) rfl)) rfl
theorem kw_846 : Cond.instanceMethod yX11_lasts ∈ gk_T := gk_in (t4k (List.mem_of_getElem? (i := 43) rfl)) rfl
theorem kw_847 : Cond.selects "AtomTables" yX11_lasts yX11_lasts ∈ gk_T := gk_in (t4k (List.mem_of_getElem? (i := 44) rfl)) rfl
theorem cvL_113 : gk_Cv "AtomTablesLaw" 113 mX11_lasts 10 1 := ⟨okX11_lasts, ⟨_, _, rfl⟩, kw_845, kw_846, kw_847, kw_84⟩
theorem kw_1496 : Cond.methodLink "AtomTablesLaw" 116 yX12_lasts ∈ gk_T := gk_in (t6k (List.mem_of_getElem? (i := 213) rfl)) rfl
theorem kw_1497 : Cond.instanceMethod yX12_lasts ∈ gk_T := gk_in (t6k (List.mem_of_getElem? (i := 214) rfl)) rfl
theorem kw_1498 : Cond.selects "AtomTablesModel" yX12_lasts yX12_lasts ∈ gk_T := gk_in (t6k (List.mem_of_getElem? (i := 215) rfl)) rfl
theorem cvL_116 : gk_Cv "AtomTablesLaw" 116 mX12_lasts 11 1 := ⟨okX12_lasts, ⟨_, _, rfl⟩, kw_1496, kw_1497, kw_1498, kw_96⟩
theorem kw_849 : Cond.methodLink "AtomTablesLaw" 117 yX11_begin ∈ gk_T := gk_in (t4k (List.mem_of_getElem? (i := 46) rfl)) rfl
theorem kw_850 : Cond.instanceMethod yX11_begin ∈ gk_T := gk_in (t4k (List.mem_of_getElem? (i := 47) rfl)) rfl
theorem kw_851 : Cond.selects "AtomTables" yX11_begin yX11_begin ∈ gk_T := gk_in (t4k (List.mem_of_getElem? (i := 48) rfl)) rfl
theorem cvL_117 : gk_Cv "AtomTablesLaw" 117 mX11_begin 10 1 := ⟨okX11_begin, ⟨_, _, rfl⟩, kw_849, kw_850, kw_851, kw_84⟩
theorem kw_1500 : Cond.methodLink "AtomTablesLaw" 120 yX12_begin ∈ gk_T := gk_in (t6k (List.mem_of_getElem? (i := 217) rfl)) rfl
theorem kw_1501 : Cond.instanceMethod yX12_begin ∈ gk_T := gk_in (t6k (List.mem_of_getElem? (i := 218) rfl)) rfl
theorem kw_1502 : Cond.selects "AtomTablesModel" yX12_begin yX12_begin ∈ gk_T := gk_in (t6k (List.mem_of_getElem? (i := 219) rfl)) rfl
theorem cvL_120 : gk_Cv "AtomTablesLaw" 120 mX12_begin 11 1 := ⟨okX12_begin, ⟨_, _, rfl⟩, kw_1500, kw_1501, kw_1502, kw_96⟩
theorem kw_864 : Cond.methodLink "AtomTablesLaw" 121 yX11_ask ∈ gk_T := gk_in (t4k (List.mem_of_getElem? (i := 61) rfl)) rfl
theorem kw_865 : Cond.instanceMethod yX11_ask ∈ gk_T := gk_in (t4k (List.mem_of_getElem? (i := 62) rfl)) rfl
theorem kw_866 : Cond.selects "AtomTables" yX11_ask yX11_ask ∈ gk_T := gk_in (t4k (List.mem_of_getElem? (i := 63) rfl)) rfl
theorem cvL_121 : gk_Cv "AtomTablesLaw" 121 mX11_ask 10 1 := ⟨okX11_ask, ⟨_, _, rfl⟩, kw_864, kw_865, kw_866, kw_84⟩
theorem kw_1504 : Cond.methodLink "AtomTablesLaw" 124 yX12_ask ∈ gk_T := gk_in (t6k (List.mem_of_getElem? (i := 221) rfl)) rfl
theorem kw_1505 : Cond.instanceMethod yX12_ask ∈ gk_T := gk_in (t6k (List.mem_of_getElem? (i := 222) rfl)) rfl
theorem kw_1506 : Cond.selects "AtomTablesModel" yX12_ask yX12_ask ∈ gk_T := gk_in (t6k (List.mem_of_getElem? (i := 223) rfl)) rfl
theorem cvL_124 : gk_Cv "AtomTablesLaw" 124 mX12_ask 11 1 := ⟨okX12_ask, ⟨_, _, rfl⟩, kw_1504, kw_1505, kw_1506, kw_96⟩
theorem kw_868 : Cond.methodLink "AtomTablesLaw" 125 yX11_answer ∈ gk_T := gk_in (t4k (List.mem_of_getElem? (i := 65) rfl)) rfl
theorem kw_869 : Cond.instanceMethod yX11_answer ∈ gk_T := gk_in (t4k (List.mem_of_getElem? (i := 66) rfl)) rfl
theorem kw_870 : Cond.selects "AtomTables" yX11_answer yX11_answer ∈ gk_T := gk_in (t4k (List.mem_of_getElem? (i := 67) rfl)) rfl
theorem cvL_125 : gk_Cv "AtomTablesLaw" 125 mX11_answer 10 1 := ⟨okX11_answer, ⟨_, _, rfl⟩, kw_868, kw_869, kw_870, kw_84⟩
theorem kw_1508 : Cond.methodLink "AtomTablesLaw" 128 yX12_answer ∈ gk_T := gk_in (t6k (List.mem_of_getElem? (i := 225) rfl)) rfl
theorem kw_1509 : Cond.instanceMethod yX12_answer ∈ gk_T := gk_in (t6k (List.mem_of_getElem? (i := 226) rfl)) rfl
theorem kw_1510 : Cond.selects "AtomTablesModel" yX12_answer yX12_answer ∈ gk_T := gk_in (t6k (List.mem_of_getElem? (i := 227) rfl)) rfl
theorem cvL_128 : gk_Cv "AtomTablesLaw" 128 mX12_answer 11 1 := ⟨okX12_answer, ⟨_, _, rfl⟩, kw_1508, kw_1509, kw_1510, kw_96⟩
theorem kw_889 : Cond.methodLink "AtomTablesLaw" 129 yX11_later ∈ gk_T := gk_in (t4k (List.mem_of_getElem? (i := 86) rfl)) rfl
theorem kw_890 : Cond.instanceMethod yX11_later ∈ gk_T := gk_in (t4k (List.mem_of_getElem? (i := 87) rfl)) rfl
theorem kw_891 : Cond.selects "AtomTables" yX11_later yX11_later ∈ gk_T := gk_in (t4k (List.mem_of_getElem? (i := 88) rfl)) rfl
theorem cvL_129 : gk_Cv "AtomTablesLaw" 129 mX11_later 10 0 := ⟨okX11_later, ⟨_, _, rfl⟩, kw_889, kw_890, kw_891, kw_84⟩
theorem kw_1516 : Cond.methodLink "AtomTablesLaw" 133 yX12_later ∈ gk_T := gk_in (t6k (List.mem_of_getElem? (i := 233) rfl)) rfl
theorem kw_1517 : Cond.instanceMethod yX12_later ∈ gk_T := gk_in (t6k (List.mem_of_getElem? (i := 234) rfl)) rfl
theorem kw_1518 : Cond.selects "AtomTablesModel" yX12_later yX12_later ∈ gk_T := gk_in (t6k (List.mem_of_getElem? (i := 235) rfl)) rfl
theorem cvL_133 : gk_Cv "AtomTablesLaw" 133 mX12_later 11 0 := ⟨okX12_later, ⟨_, _, rfl⟩, kw_1516, kw_1517, kw_1518, kw_96⟩
theorem kw_897 : Cond.methodLink "AtomTablesLaw" 134 yX11_board ∈ gk_T := gk_in (t4k (List.mem_of_getElem? (i := 94) rfl)) rfl
theorem kw_898 : Cond.instanceMethod yX11_board ∈ gk_T := gk_in (t4k (List.mem_of_getElem? (i := 95) rfl)) rfl
theorem kw_899 : Cond.selects "AtomTables" yX11_board yX11_board ∈ gk_T := gk_in (t4k (List.mem_of_getElem? (i := 96) rfl)) rfl
theorem cvL_134 : gk_Cv "AtomTablesLaw" 134 mX11_board 10 1 := ⟨okX11_board, ⟨_, _, rfl⟩, kw_897, kw_898, kw_899, kw_84⟩
theorem kw_1520 : Cond.methodLink "AtomTablesLaw" 137 yX12_board ∈ gk_T := gk_in (t6k (List.mem_of_getElem? (i := 237) rfl)) rfl
theorem kw_1521 : Cond.instanceMethod yX12_board ∈ gk_T := gk_in (t6k (List.mem_of_getElem? (i := 238) rfl)) rfl
theorem kw_1522 : Cond.selects "AtomTablesModel" yX12_board yX12_board ∈ gk_T := gk_in (t6k (List.mem_of_getElem? (i := 239) rfl)) rfl
theorem cvL_137 : gk_Cv "AtomTablesLaw" 137 mX12_board 11 1 := ⟨okX12_board, ⟨_, _, rfl⟩, kw_1520, kw_1521, kw_1522, kw_96⟩
theorem kw_901 : Cond.methodLink "AtomTablesLaw" 138 yX11_take ∈ gk_T := gk_in (t4k (List.mem_of_getElem? (i := 98) rfl)) rfl
theorem kw_902 : Cond.instanceMethod yX11_take ∈ gk_T := gk_in (t4k (List.mem_of_getElem? (i := 99) rfl)) rfl
theorem kw_903 : Cond.selects "AtomTables" yX11_take yX11_take ∈ gk_T := gk_in (t4k (List.mem_of_getElem? (i := 100) rfl)) rfl
theorem cvL_138 : gk_Cv "AtomTablesLaw" 138 mX11_take 10 1 := ⟨okX11_take, ⟨_, _, rfl⟩, kw_901, kw_902, kw_903, kw_84⟩
theorem kw_1524 : Cond.methodLink "AtomTablesLaw" 141 yX12_take ∈ gk_T := gk_in (t7k (List.mem_of_getElem? (i := 1) rfl)) rfl
theorem kw_1525 : Cond.instanceMethod yX12_take ∈ gk_T := gk_in (t7k (List.mem_of_getElem? (i := 2) rfl)) rfl
theorem kw_1526 : Cond.selects "AtomTablesModel" yX12_take yX12_take ∈ gk_T := gk_in (t7k (List.mem_of_getElem? (i := 3) rfl)) rfl
theorem cvL_141 : gk_Cv "AtomTablesLaw" 141 mX12_take 11 1 := ⟨okX12_take, ⟨_, _, rfl⟩, kw_1524, kw_1525, kw_1526, kw_96⟩
theorem kw_905 : Cond.methodLink "AtomTablesLaw" 142 yX11_judge ∈ gk_T := gk_in (t4k (List.mem_of_getElem? (i := 102) rfl)) rfl
theorem kw_906 : Cond.instanceMethod yX11_judge ∈ gk_T := gk_in (t4k (List.mem_of_getElem? (i := 103) rfl)) rfl
theorem kw_907 : Cond.selects "AtomTables" yX11_judge yX11_judge ∈ gk_T := gk_in (t4k (List.mem_of_getElem? (i := 104) rfl)) rfl
theorem cvL_142 : gk_Cv "AtomTablesLaw" 142 mX11_judge 10 1 := ⟨okX11_judge, ⟨_, _, rfl⟩, kw_905, kw_906, kw_907, kw_84⟩
theorem kw_1528 : Cond.methodLink "AtomTablesLaw" 145 yX12_judge ∈ gk_T := gk_in (t7k (List.mem_of_getElem? (i := 5) rfl)) rfl
theorem kw_1529 : Cond.instanceMethod yX12_judge ∈ gk_T := gk_in (t7k (List.mem_of_getElem? (i := 6) rfl)) rfl
theorem kw_1530 : Cond.selects "AtomTablesModel" yX12_judge yX12_judge ∈ gk_T := gk_in (t7k (List.mem_of_getElem? (i := 7) rfl)) rfl
theorem cvL_145 : gk_Cv "AtomTablesLaw" 145 mX12_judge 11 1 := ⟨okX12_judge, ⟨_, _, rfl⟩, kw_1528, kw_1529, kw_1530, kw_96⟩
theorem kw_933 : Cond.methodLink "AtomTablesLaw" 146 yX11_found ∈ gk_T := gk_in (t4k (List.mem_of_getElem? (i := 130) rfl)) rfl
theorem kw_934 : Cond.instanceMethod yX11_found ∈ gk_T := gk_in (t4k (List.mem_of_getElem? (i := 131) rfl)) rfl
theorem kw_935 : Cond.selects "AtomTables" yX11_found yX11_found ∈ gk_T := gk_in (t4k (List.mem_of_getElem? (i := 132) rfl)) rfl
theorem cvL_146 : gk_Cv "AtomTablesLaw" 146 mX11_found 10 1 := ⟨okX11_found, ⟨_, _, rfl⟩, kw_933, kw_934, kw_935, kw_84⟩
theorem kw_1547 : Cond.methodLink "AtomTablesLaw" 149 yX12_found ∈ gk_T := gk_in (t7k (List.mem_of_getElem? (i := 24) rfl)) rfl
theorem kw_1548 : Cond.instanceMethod yX12_found ∈ gk_T := gk_in (t7k (List.mem_of_getElem? (i := 25) rfl)) rfl
theorem kw_1549 : Cond.selects "AtomTablesModel" yX12_found yX12_found ∈ gk_T := gk_in (t7k (List.mem_of_getElem? (i := 26) rfl)) rfl
theorem cvL_149 : gk_Cv "AtomTablesLaw" 149 mX12_found 11 1 := ⟨okX12_found, ⟨_, _, rfl⟩, kw_1547, kw_1548, kw_1549, kw_96⟩
theorem kw_952 : Cond.methodLink "AtomTablesLaw" 150 yX11_list ∈ gk_T := gk_in (t4k (List.mem_of_getElem? (i := 149) rfl)) rfl
theorem kw_953 : Cond.instanceMethod yX11_list ∈ gk_T := gk_in (t4k (List.mem_of_getElem? (i := 150) rfl)) rfl
theorem kw_954 : Cond.selects "AtomTables" yX11_list yX11_list ∈ gk_T := gk_in (t4k (List.mem_of_getElem? (i := 151) rfl)) rfl
theorem cvL_150 : gk_Cv "AtomTablesLaw" 150 mX11_list 10 2 := ⟨okX11_list, ⟨_, _, rfl⟩, kw_952, kw_953, kw_954, kw_84⟩
theorem kw_1555 : Cond.methodLink "AtomTablesLaw" 153 yX12_list ∈ gk_T := gk_in (t7k (List.mem_of_getElem? (i := 32) rfl)) rfl
theorem kw_1556 : Cond.instanceMethod yX12_list ∈ gk_T := gk_in (t7k (List.mem_of_getElem? (i := 33) rfl)) rfl
theorem kw_1557 : Cond.selects "AtomTablesModel" yX12_list yX12_list ∈ gk_T := gk_in (t7k (List.mem_of_getElem? (i := 34) rfl)) rfl
theorem cvL_153 : gk_Cv "AtomTablesLaw" 153 mX12_list 11 2 := ⟨okX12_list, ⟨_, _, rfl⟩, kw_1555, kw_1556, kw_1557, kw_96⟩
theorem kw_956 : Cond.methodLink "AtomTablesLaw" 156 yX11_put ∈ gk_T := gk_in (t4k (List.mem_of_getElem? (i := 153) rfl)) rfl
theorem kw_957 : Cond.instanceMethod yX11_put ∈ gk_T := gk_in (t4k (List.mem_of_getElem? (i := 154) rfl)) rfl
theorem kw_958 : Cond.selects "AtomTables" yX11_put yX11_put ∈ gk_T := gk_in (t4k (List.mem_of_getElem? (i := 155) rfl)) rfl
theorem cvL_156 : gk_Cv "AtomTablesLaw" 156 mX11_put 10 3 := ⟨okX11_put, ⟨_, _, rfl⟩, kw_956, kw_957, kw_958, kw_84⟩
theorem kw_1559 : Cond.methodLink "AtomTablesLaw" 160 yX12_put ∈ gk_T := gk_in (t7k (List.mem_of_getElem? (i := 36) rfl)) rfl
theorem kw_1560 : Cond.instanceMethod yX12_put ∈ gk_T := gk_in (t7k (List.mem_of_getElem? (i := 37) rfl)) rfl
theorem kw_1561 : Cond.selects "AtomTablesModel" yX12_put yX12_put ∈ gk_T := gk_in (t7k (List.mem_of_getElem? (i := 38) rfl)) rfl
theorem cvL_160 : gk_Cv "AtomTablesLaw" 160 mX12_put 11 3 := ⟨okX12_put, ⟨_, _, rfl⟩, kw_1559, kw_1560, kw_1561, kw_96⟩
theorem kw_960 : Cond.methodLink "AtomTablesLaw" 161 yX11_get ∈ gk_T := gk_in (t4k (List.mem_of_getElem? (i := 157) rfl)) rfl
theorem kw_961 : Cond.instanceMethod yX11_get ∈ gk_T := gk_in (t4k (List.mem_of_getElem? (i := 158) rfl)) rfl
theorem kw_962 : Cond.selects "AtomTables" yX11_get yX11_get ∈ gk_T := gk_in (t4k (List.mem_of_getElem? (i := 159) rfl)) rfl
theorem cvL_161 : gk_Cv "AtomTablesLaw" 161 mX11_get 10 2 := ⟨okX11_get, ⟨_, _, rfl⟩, kw_960, kw_961, kw_962, kw_84⟩
theorem kw_1563 : Cond.methodLink "AtomTablesLaw" 165 yX12_get ∈ gk_T := gk_in (t7k (List.mem_of_getElem? (i := 40) rfl)) rfl
theorem kw_1564 : Cond.instanceMethod yX12_get ∈ gk_T := gk_in (t7k (List.mem_of_getElem? (i := 41) rfl)) rfl
theorem kw_1565 : Cond.selects "AtomTablesModel" yX12_get yX12_get ∈ gk_T := gk_in (t7k (List.mem_of_getElem? (i := 42) rfl)) rfl
theorem cvL_165 : gk_Cv "AtomTablesLaw" 165 mX12_get 11 2 := ⟨okX12_get, ⟨_, _, rfl⟩, kw_1563, kw_1564, kw_1565, kw_96⟩
theorem kw_965 : Cond.methodLink "AtomTablesLaw" 166 yX11_feed ∈ gk_T := gk_in (t4k (List.mem_of_getElem? (i := 162) rfl)) rfl
theorem kw_966 : Cond.instanceMethod yX11_feed ∈ gk_T := gk_in (t4k (List.mem_of_getElem? (i := 163) rfl)) rfl
theorem kw_967 : Cond.selects "AtomTables" yX11_feed yX11_feed ∈ gk_T := gk_in (t4k (List.mem_of_getElem? (i := 164) rfl)) rfl
theorem cvL_166 : gk_Cv "AtomTablesLaw" 166 mX11_feed 10 1 := ⟨okX11_feed, ⟨_, _, rfl⟩, kw_965, kw_966, kw_967, kw_84⟩
theorem kw_1568 : Cond.methodLink "AtomTablesLaw" 169 yX12_feed ∈ gk_T := gk_in (t7k (List.mem_of_getElem? (i := 45) rfl)) rfl
theorem kw_1569 : Cond.instanceMethod yX12_feed ∈ gk_T := gk_in (t7k (List.mem_of_getElem? (i := 46) rfl)) rfl
theorem kw_1570 : Cond.selects "AtomTablesModel" yX12_feed yX12_feed ∈ gk_T := gk_in (t7k (List.mem_of_getElem? (i := 47) rfl)) rfl
theorem cvL_169 : gk_Cv "AtomTablesLaw" 169 mX12_feed 11 1 := ⟨okX12_feed, ⟨_, _, rfl⟩, kw_1568, kw_1569, kw_1570, kw_96⟩
theorem kw_973 : Cond.methodLink "AtomTablesLaw" 170 yX11_wipe ∈ gk_T := gk_in (t4k (List.mem_of_getElem? (i := 170) rfl)) rfl
theorem kw_974 : Cond.instanceMethod yX11_wipe ∈ gk_T := gk_in (t4k (List.mem_of_getElem? (i := 171) rfl)) rfl
theorem kw_975 : Cond.selects "AtomTables" yX11_wipe yX11_wipe ∈ gk_T := gk_in (t4k (List.mem_of_getElem? (i := 172) rfl)) rfl
theorem cvL_170 : gk_Cv "AtomTablesLaw" 170 mX11_wipe 10 0 := ⟨okX11_wipe, ⟨_, _, rfl⟩, kw_973, kw_974, kw_975, kw_84⟩
theorem kw_1574 : Cond.methodLink "AtomTablesLaw" 173 yX12_wipe ∈ gk_T := gk_in (t7k (List.mem_of_getElem? (i := 51) rfl)) rfl
theorem kw_1575 : Cond.instanceMethod yX12_wipe ∈ gk_T := gk_in (t7k (List.mem_of_getElem? (i := 52) rfl)) rfl
theorem kw_1576 : Cond.selects "AtomTablesModel" yX12_wipe yX12_wipe ∈ gk_T := gk_in (t7k (List.mem_of_getElem? (i := 53) rfl)) rfl
theorem cvL_173 : gk_Cv "AtomTablesLaw" 173 mX12_wipe 11 0 := ⟨okX12_wipe, ⟨_, _, rfl⟩, kw_1574, kw_1575, kw_1576, kw_96⟩
theorem kw_977 : Cond.methodLink "AtomTablesLaw" 174 yX11_read ∈ gk_T := gk_in (t4k (List.mem_of_getElem? (i := 174) rfl)) rfl
theorem kw_978 : Cond.instanceMethod yX11_read ∈ gk_T := gk_in (t4k (List.mem_of_getElem? (i := 175) rfl)) rfl
theorem kw_979 : Cond.selects "AtomTables" yX11_read yX11_read ∈ gk_T := gk_in (t4k (List.mem_of_getElem? (i := 176) rfl)) rfl
theorem cvL_174 : gk_Cv "AtomTablesLaw" 174 mX11_read 10 0 := ⟨okX11_read, ⟨_, _, rfl⟩, kw_977, kw_978, kw_979, kw_84⟩
theorem kw_1578 : Cond.methodLink "AtomTablesLaw" 177 yX12_read ∈ gk_T := gk_in (t7k (List.mem_of_getElem? (i := 55) rfl)) rfl
theorem kw_1579 : Cond.instanceMethod yX12_read ∈ gk_T := gk_in (t7k (List.mem_of_getElem? (i := 56) rfl)) rfl
theorem kw_1580 : Cond.selects "AtomTablesModel" yX12_read yX12_read ∈ gk_T := gk_in (t7k (List.mem_of_getElem? (i := 57) rfl)) rfl
theorem cvL_177 : gk_Cv "AtomTablesLaw" 177 mX12_read 11 0 := ⟨okX12_read, ⟨_, _, rfl⟩, kw_1578, kw_1579, kw_1580, kw_96⟩
theorem kw_1079 : Cond.methodLink "AtomTablesLaw" 178 yX11_spelled ∈ gk_T := gk_in (t5k (List.mem_of_getElem? (i := 36) rfl)) rfl
theorem kw_1080 : Cond.instanceMethod yX11_spelled ∈ gk_T := gk_in (t5k (List.mem_of_getElem? (i := 37) rfl)) rfl
theorem kw_1081 : Cond.selects "AtomTables" yX11_spelled yX11_spelled ∈ gk_T := gk_in (t5k (List.mem_of_getElem? (i := 38) rfl)) rfl
theorem cvL_178 : gk_Cv "AtomTablesLaw" 178 mX11_spelled 10 1 := ⟨okX11_spelled, ⟨_, _, rfl⟩, kw_1079, kw_1080, kw_1081, kw_84⟩
theorem kw_1601 : Cond.methodLink "AtomTablesLaw" 181 yX12_spelled ∈ gk_T := gk_in (t7k (List.mem_of_getElem? (i := 78) rfl)) rfl
theorem kw_1602 : Cond.instanceMethod yX12_spelled ∈ gk_T := gk_in (t7k (List.mem_of_getElem? (i := 79) rfl)) rfl
theorem kw_1603 : Cond.selects "AtomTablesModel" yX12_spelled yX12_spelled ∈ gk_T := gk_in (t7k (List.mem_of_getElem? (i := 80) rfl)) rfl
theorem cvL_181 : gk_Cv "AtomTablesLaw" 181 mX12_spelled 11 1 := ⟨okX12_spelled, ⟨_, _, rfl⟩, kw_1601, kw_1602, kw_1603, kw_96⟩
theorem kw_1104 : Cond.methodLink "AtomTablesLaw" 182 yX11_image ∈ gk_T := gk_in (t5k (List.mem_of_getElem? (i := 61) rfl)) rfl
theorem kw_1105 : Cond.instanceMethod yX11_image ∈ gk_T := gk_in (t5k (List.mem_of_getElem? (i := 62) rfl)) rfl
theorem kw_1106 : Cond.selects "AtomTables" yX11_image yX11_image ∈ gk_T := gk_in (t5k (List.mem_of_getElem? (i := 63) rfl)) rfl
theorem cvL_182 : gk_Cv "AtomTablesLaw" 182 mX11_image 10 0 := ⟨okX11_image, ⟨_, _, rfl⟩, kw_1104, kw_1105, kw_1106, kw_84⟩
theorem kw_1621 : Cond.methodLink "AtomTablesLaw" 185 yX12_image ∈ gk_T := gk_in (t7k (List.mem_of_getElem? (i := 98) rfl)) rfl
theorem kw_1622 : Cond.instanceMethod yX12_image ∈ gk_T := gk_in (t7k (List.mem_of_getElem? (i := 99) rfl)) rfl
theorem kw_1623 : Cond.selects "AtomTablesModel" yX12_image yX12_image ∈ gk_T := gk_in (t7k (List.mem_of_getElem? (i := 100) rfl)) rfl
theorem cvL_185 : gk_Cv "AtomTablesLaw" 185 mX12_image 11 0 := ⟨okX12_image, ⟨_, _, rfl⟩, kw_1621, kw_1622, kw_1623, kw_96⟩
theorem kw_1117 : Cond.methodLink "AtomTablesLaw" 186 yX11_undo ∈ gk_T := gk_in (t5k (List.mem_of_getElem? (i := 74) rfl)) rfl
theorem kw_1118 : Cond.instanceMethod yX11_undo ∈ gk_T := gk_in (t5k (List.mem_of_getElem? (i := 75) rfl)) rfl
theorem kw_1119 : Cond.selects "AtomTables" yX11_undo yX11_undo ∈ gk_T := gk_in (t5k (List.mem_of_getElem? (i := 76) rfl)) rfl
theorem cvL_186 : gk_Cv "AtomTablesLaw" 186 mX11_undo 10 0 := ⟨okX11_undo, ⟨_, _, rfl⟩, kw_1117, kw_1118, kw_1119, kw_84⟩
theorem kw_1625 : Cond.methodLink "AtomTablesLaw" 189 yX12_undo ∈ gk_T := gk_in (t7k (List.mem_of_getElem? (i := 102) rfl)) rfl
theorem kw_1626 : Cond.instanceMethod yX12_undo ∈ gk_T := gk_in (t7k (List.mem_of_getElem? (i := 103) rfl)) rfl
theorem kw_1627 : Cond.selects "AtomTablesModel" yX12_undo yX12_undo ∈ gk_T := gk_in (t7k (List.mem_of_getElem? (i := 104) rfl)) rfl
theorem cvL_189 : gk_Cv "AtomTablesLaw" 189 mX12_undo 11 0 := ⟨okX12_undo, ⟨_, _, rfl⟩, kw_1625, kw_1626, kw_1627, kw_96⟩
theorem kw_1121 : Cond.methodLink "AtomTablesLaw" 190 yX11_count ∈ gk_T := gk_in (t5k (List.mem_of_getElem? (i := 78) rfl)) rfl
theorem kw_1122 : Cond.instanceMethod yX11_count ∈ gk_T := gk_in (t5k (List.mem_of_getElem? (i := 79) rfl)) rfl
theorem kw_1123 : Cond.selects "AtomTables" yX11_count yX11_count ∈ gk_T := gk_in (t5k (List.mem_of_getElem? (i := 80) rfl)) rfl
theorem cvL_190 : gk_Cv "AtomTablesLaw" 190 mX11_count 10 1 := ⟨okX11_count, ⟨_, _, rfl⟩, kw_1121, kw_1122, kw_1123, kw_84⟩
theorem kw_1629 : Cond.methodLink "AtomTablesLaw" 193 yX12_count ∈ gk_T := gk_in (t7k (List.mem_of_getElem? (i := 106) rfl)) rfl
theorem kw_1630 : Cond.instanceMethod yX12_count ∈ gk_T := gk_in (t7k (List.mem_of_getElem? (i := 107) rfl)) rfl
theorem kw_1631 : Cond.selects "AtomTablesModel" yX12_count yX12_count ∈ gk_T := gk_in (t7k (List.mem_of_getElem? (i := 108) rfl)) rfl
theorem cvL_193 : gk_Cv "AtomTablesLaw" 193 mX12_count 11 1 := ⟨okX12_count, ⟨_, _, rfl⟩, kw_1629, kw_1630, kw_1631, kw_96⟩
theorem kw_1134 : Cond.methodLink "AtomTablesModel" 3 objectInit ∈ gk_T := gk_in (t5k (List.mem_of_getElem? (i := 91) rfl)) rfl
theorem kw_1135 : Cond.methodLink "AtomTablesModel" 67 yX12_fixes ∈ gk_T := gk_in (t5k (List.mem_of_getElem? (i := 92) rfl)) rfl
theorem kw_1137 : Cond.instanceMethod yX12_fixes ∈ gk_T := gk_in (t5k (List.mem_of_getElem? (i := 94) rfl)) rfl
theorem kw_34 : Cond.selects "AtomTablesModel" yX12_fixes yX12_fixes ∈ gk_T := gk_in (p3k (List.mem_of_getElem? (i := 2) rfl)) rfl
theorem cvX12_67 : gk_Cv RX12 67 mX12_fixes 11 0 := ⟨okX12_fixes, ⟨_, _, rfl⟩, kw_1135, kw_1137, kw_34, kw_96⟩
theorem kw_1249 : Cond.methodLink "AtomTablesModel" 70 yX12_isFrom ∈ gk_T := gk_in (t5k (List.mem_of_getElem? (i := 206) rfl)) rfl
theorem kw_1250 : Cond.static yX12_isFrom ∈ gk_T := gk_in (t5k (List.mem_of_getElem? (i := 207) rfl)) rfl
theorem csX12_70 : gk_Cs RX12 70 mX12_isFrom 3 := ⟨okX12_isFrom, kw_1249, kw_1250, kw_96⟩
theorem kw_1256 : Cond.methodLink "AtomTablesModel" 83 yX12_isOther ∈ gk_T := gk_in (t5k (List.mem_of_getElem? (i := 213) rfl)) rfl
theorem kw_1258 : Cond.instanceMethod yX12_isOther ∈ gk_T := gk_in (t5k (List.mem_of_getElem? (i := 215) rfl)) rfl
theorem kw_35 : Cond.selects "AtomTablesModel" yX12_isOther yX12_isOther ∈ gk_T := gk_in (p3k (List.mem_of_getElem? (i := 3) rfl)) rfl
theorem cvX12_83 : gk_Cv RX12 83 mX12_isOther 11 1 := ⟨okX12_isOther, ⟨_, _, rfl⟩, kw_1256, kw_1258, kw_35, kw_96⟩
theorem kw_1272 : Cond.methodLink "AtomTablesModel" 87 yX12_has ∈ gk_T := gk_in (t5k (List.mem_of_getElem? (i := 229) rfl)) rfl
theorem kw_1273 : Cond.static yX12_has ∈ gk_T := gk_in (t5k (List.mem_of_getElem? (i := 230) rfl)) rfl
theorem csX12_87 : gk_Cs RX12 87 mX12_has 2 := ⟨okX12_has, kw_1272, kw_1273, kw_96⟩
theorem kw_1264 : Cond.methodLink "AtomTablesModel" 91 yX12_isRelation ∈ gk_T := gk_in (t5k (List.mem_of_getElem? (i := 221) rfl)) rfl
theorem kw_1266 : Cond.instanceMethod yX12_isRelation ∈ gk_T := gk_in (t5k (List.mem_of_getElem? (i := 223) rfl)) rfl
theorem kw_36 : Cond.selects "AtomTablesModel" yX12_isRelation yX12_isRelation ∈ gk_T := gk_in (p3k (List.mem_of_getElem? (i := 4) rfl)) rfl
theorem cvX12_91 : gk_Cv RX12 91 mX12_isRelation 11 1 := ⟨okX12_isRelation, ⟨_, _, rfl⟩, kw_1264, kw_1266, kw_36, kw_96⟩
theorem kw_1268 : Cond.methodLink "AtomTablesModel" 94 yX12_turned ∈ gk_T := gk_in (t5k (List.mem_of_getElem? (i := 225) rfl)) rfl
theorem kw_1270 : Cond.instanceMethod yX12_turned ∈ gk_T := gk_in (t5k (List.mem_of_getElem? (i := 227) rfl)) rfl
theorem kw_37 : Cond.selects "AtomTablesModel" yX12_turned yX12_turned ∈ gk_T := gk_in (p3k (List.mem_of_getElem? (i := 5) rfl)) rfl
theorem cvX12_94 : gk_Cv RX12 94 mX12_turned 11 1 := ⟨okX12_turned, ⟨_, _, rfl⟩, kw_1268, kw_1270, kw_37, kw_96⟩
theorem kw_1279 : Cond.methodLink "AtomTablesModel" 98 yX12_isAtom ∈ gk_T := gk_in (t5k (List.mem_of_getElem? (i := 236) rfl)) rfl
theorem kw_1281 : Cond.instanceMethod yX12_isAtom ∈ gk_T := gk_in (t5k (List.mem_of_getElem? (i := 238) rfl)) rfl
theorem kw_38 : Cond.selects "AtomTablesModel" yX12_isAtom yX12_isAtom ∈ gk_T := gk_in (p3k (List.mem_of_getElem? (i := 6) rfl)) rfl
theorem cvX12_98 : gk_Cv RX12 98 mX12_isAtom 11 1 := ⟨okX12_isAtom, ⟨_, _, rfl⟩, kw_1279, kw_1281, kw_38, kw_96⟩
theorem kw_1283 : Cond.methodLink "AtomTablesModel" 101 yX12_turn ∈ gk_T := gk_in (t6k (List.mem_of_getElem? (i := 0) rfl)) rfl
theorem kw_1285 : Cond.instanceMethod yX12_turn ∈ gk_T := gk_in (t6k (List.mem_of_getElem? (i := 2) rfl)) rfl
theorem kw_39 : Cond.selects "AtomTablesModel" yX12_turn yX12_turn ∈ gk_T := gk_in (p3k (List.mem_of_getElem? (i := 7) rfl)) rfl
theorem cvX12_101 : gk_Cv RX12 101 mX12_turn 11 4 := ⟨okX12_turn, ⟨_, _, rfl⟩, kw_1283, kw_1285, kw_39, kw_96⟩
theorem kw_1291 : Cond.methodLink "AtomTablesModel" 105 yX12_is ∈ gk_T := gk_in (t6k (List.mem_of_getElem? (i := 8) rfl)) rfl
theorem kw_1293 : Cond.instanceMethod yX12_is ∈ gk_T := gk_in (t6k (List.mem_of_getElem? (i := 10) rfl)) rfl
theorem kw_40 : Cond.selects "AtomTablesModel" yX12_is yX12_is ∈ gk_T := gk_in (p3k (List.mem_of_getElem? (i := 8) rfl)) rfl
theorem cvX12_105 : gk_Cv RX12 105 mX12_is 11 3 := ⟨okX12_is, ⟨_, _, rfl⟩, kw_1291, kw_1293, kw_40, kw_96⟩
theorem kw_1299 : Cond.methodLink "AtomTablesModel" 109 yX12_composed ∈ gk_T := gk_in (t6k (List.mem_of_getElem? (i := 16) rfl)) rfl
theorem kw_1301 : Cond.instanceMethod yX12_composed ∈ gk_T := gk_in (t6k (List.mem_of_getElem? (i := 18) rfl)) rfl
theorem kw_41 : Cond.selects "AtomTablesModel" yX12_composed yX12_composed ∈ gk_T := gk_in (p3k (List.mem_of_getElem? (i := 9) rfl)) rfl
theorem cvX12_109 : gk_Cv RX12 109 mX12_composed 11 2 := ⟨okX12_composed, ⟨_, _, rfl⟩, kw_1299, kw_1301, kw_41, kw_96⟩
theorem kw_1307 : Cond.methodLink "AtomTablesModel" 113 yX12_composedBy ∈ gk_T := gk_in (t6k (List.mem_of_getElem? (i := 24) rfl)) rfl
theorem kw_1309 : Cond.instanceMethod yX12_composedBy ∈ gk_T := gk_in (t6k (List.mem_of_getElem? (i := 26) rfl)) rfl
theorem kw_42 : Cond.selects "AtomTablesModel" yX12_composedBy yX12_composedBy ∈ gk_T := gk_in (p3k (List.mem_of_getElem? (i := 10) rfl)) rfl
theorem cvX12_113 : gk_Cv RX12 113 mX12_composedBy 11 3 := ⟨okX12_composedBy, ⟨_, _, rfl⟩, kw_1307, kw_1309, kw_42, kw_96⟩
theorem kw_1315 : Cond.methodLink "AtomTablesModel" 117 yX12_powerOf ∈ gk_T := gk_in (t6k (List.mem_of_getElem? (i := 32) rfl)) rfl
theorem kw_1317 : Cond.instanceMethod yX12_powerOf ∈ gk_T := gk_in (t6k (List.mem_of_getElem? (i := 34) rfl)) rfl
theorem kw_43 : Cond.selects "AtomTablesModel" yX12_powerOf yX12_powerOf ∈ gk_T := gk_in (p3k (List.mem_of_getElem? (i := 11) rfl)) rfl
theorem cvX12_117 : gk_Cv RX12 117 mX12_powerOf 11 2 := ⟨okX12_powerOf, ⟨_, _, rfl⟩, kw_1315, kw_1317, kw_43, kw_96⟩
theorem kw_1323 : Cond.methodLink "AtomTablesModel" 120 yX12_isEquivalence ∈ gk_T := gk_in (t6k (List.mem_of_getElem? (i := 40) rfl)) rfl
theorem kw_1325 : Cond.instanceMethod yX12_isEquivalence ∈ gk_T := gk_in (t6k (List.mem_of_getElem? (i := 42) rfl)) rfl
theorem kw_44 : Cond.selects "AtomTablesModel" yX12_isEquivalence yX12_isEquivalence ∈ gk_T := gk_in (p3k (List.mem_of_getElem? (i := 12) rfl)) rfl
theorem cvX12_120 : gk_Cv RX12 120 mX12_isEquivalence 11 1 := ⟨okX12_isEquivalence, ⟨_, _, rfl⟩, kw_1323, kw_1325, kw_44, kw_96⟩
theorem kw_1341 : Cond.methodLink "AtomTablesModel" 127 yX12_isLeast ∈ gk_T := gk_in (t6k (List.mem_of_getElem? (i := 58) rfl)) rfl
theorem kw_1343 : Cond.instanceMethod yX12_isLeast ∈ gk_T := gk_in (t6k (List.mem_of_getElem? (i := 60) rfl)) rfl
theorem kw_45 : Cond.selects "AtomTablesModel" yX12_isLeast yX12_isLeast ∈ gk_T := gk_in (p3k (List.mem_of_getElem? (i := 13) rfl)) rfl
theorem cvX12_127 : gk_Cv RX12 127 mX12_isLeast 11 3 := ⟨okX12_isLeast, ⟨_, _, rfl⟩, kw_1341, kw_1343, kw_45, kw_96⟩
theorem kw_1345 : Cond.methodLink "AtomTablesModel" 130 yX12_cycleOf ∈ gk_T := gk_in (t6k (List.mem_of_getElem? (i := 62) rfl)) rfl
theorem kw_1347 : Cond.instanceMethod yX12_cycleOf ∈ gk_T := gk_in (t6k (List.mem_of_getElem? (i := 64) rfl)) rfl
theorem kw_46 : Cond.selects "AtomTablesModel" yX12_cycleOf yX12_cycleOf ∈ gk_T := gk_in (p3k (List.mem_of_getElem? (i := 14) rfl)) rfl
theorem cvX12_130 : gk_Cv RX12 130 mX12_cycleOf 11 3 := ⟨okX12_cycleOf, ⟨_, _, rfl⟩, kw_1345, kw_1347, kw_46, kw_96⟩
theorem kw_1349 : Cond.methodLink "AtomTablesModel" 133 yJ9_max_7cf53 ∈ gk_T := gk_in (t6k (List.mem_of_getElem? (i := 66) rfl)) rfl
theorem kw_1365 : Cond.methodLink "AtomTablesModel" 138 yX12_digit ∈ gk_T := gk_in (t6k (List.mem_of_getElem? (i := 82) rfl)) rfl
theorem kw_1366 : Cond.static yX12_digit ∈ gk_T := gk_in (t6k (List.mem_of_getElem? (i := 83) rfl)) rfl
theorem csX12_138 : gk_Cs RX12 138 mX12_digit 2 := ⟨okX12_digit, kw_1365, kw_1366, kw_96⟩
theorem kw_1368 : Cond.methodLink "AtomTablesModel" 141 yX12_lays ∈ gk_T := gk_in (t6k (List.mem_of_getElem? (i := 85) rfl)) rfl
theorem kw_1370 : Cond.instanceMethod yX12_lays ∈ gk_T := gk_in (t6k (List.mem_of_getElem? (i := 87) rfl)) rfl
theorem kw_49 : Cond.selects "AtomTablesModel" yX12_lays yX12_lays ∈ gk_T := gk_in (p4k (List.mem_of_getElem? (i := 1) rfl)) rfl
theorem cvX12_141 : gk_Cv RX12 141 mX12_lays 11 4 := ⟨okX12_lays, ⟨_, _, rfl⟩, kw_1368, kw_1370, kw_49, kw_96⟩
theorem kw_1354 : Cond.methodLink "AtomTablesModel" 145 yX12_isNet ∈ gk_T := gk_in (t6k (List.mem_of_getElem? (i := 71) rfl)) rfl
theorem kw_1355 : Cond.static yX12_isNet ∈ gk_T := gk_in (t6k (List.mem_of_getElem? (i := 72) rfl)) rfl
theorem csX12_145 : gk_Cs RX12 145 mX12_isNet 1 := ⟨okX12_isNet, kw_1354, kw_1355, kw_96⟩
theorem kw_1357 : Cond.methodLink "AtomTablesModel" 148 yX12_areAtoms ∈ gk_T := gk_in (t6k (List.mem_of_getElem? (i := 74) rfl)) rfl
theorem kw_1359 : Cond.instanceMethod yX12_areAtoms ∈ gk_T := gk_in (t6k (List.mem_of_getElem? (i := 76) rfl)) rfl
theorem kw_47 : Cond.selects "AtomTablesModel" yX12_areAtoms yX12_areAtoms ∈ gk_T := gk_in (p3k (List.mem_of_getElem? (i := 15) rfl)) rfl
theorem cvX12_148 : gk_Cv RX12 148 mX12_areAtoms 11 2 := ⟨okX12_areAtoms, ⟨_, _, rfl⟩, kw_1357, kw_1359, kw_47, kw_96⟩
theorem kw_1361 : Cond.methodLink "AtomTablesModel" 151 yX12_comes ∈ gk_T := gk_in (t6k (List.mem_of_getElem? (i := 78) rfl)) rfl
theorem kw_1363 : Cond.instanceMethod yX12_comes ∈ gk_T := gk_in (t6k (List.mem_of_getElem? (i := 80) rfl)) rfl
theorem kw_48 : Cond.selects "AtomTablesModel" yX12_comes yX12_comes ∈ gk_T := gk_in (p4k (List.mem_of_getElem? (i := 0) rfl)) rfl
theorem cvX12_151 : gk_Cv RX12 151 mX12_comes 11 2 := ⟨okX12_comes, ⟨_, _, rfl⟩, kw_1361, kw_1363, kw_48, kw_96⟩
theorem kw_1380 : Cond.methodLink "AtomTablesModel" 155 yX12_isNode ∈ gk_T := gk_in (t6k (List.mem_of_getElem? (i := 97) rfl)) rfl
theorem kw_1382 : Cond.instanceMethod yX12_isNode ∈ gk_T := gk_in (t6k (List.mem_of_getElem? (i := 99) rfl)) rfl
theorem kw_50 : Cond.selects "AtomTablesModel" yX12_isNode yX12_isNode ∈ gk_T := gk_in (p4k (List.mem_of_getElem? (i := 2) rfl)) rfl
theorem cvX12_155 : gk_Cv RX12 155 mX12_isNode 11 2 := ⟨okX12_isNode, ⟨_, _, rfl⟩, kw_1380, kw_1382, kw_50, kw_96⟩
theorem kw_1384 : Cond.methodLink "AtomTablesModel" 158 yX12_labelOf ∈ gk_T := gk_in (t6k (List.mem_of_getElem? (i := 101) rfl)) rfl
theorem kw_1386 : Cond.instanceMethod yX12_labelOf ∈ gk_T := gk_in (t6k (List.mem_of_getElem? (i := 103) rfl)) rfl
theorem kw_51 : Cond.selects "AtomTablesModel" yX12_labelOf yX12_labelOf ∈ gk_T := gk_in (p4k (List.mem_of_getElem? (i := 3) rfl)) rfl
theorem cvX12_158 : gk_Cv RX12 158 mX12_labelOf 11 3 := ⟨okX12_labelOf, ⟨_, _, rfl⟩, kw_1384, kw_1386, kw_51, kw_96⟩
theorem kw_1396 : Cond.methodLink "AtomTablesModel" 161 yX12_likens ∈ gk_T := gk_in (t6k (List.mem_of_getElem? (i := 113) rfl)) rfl
theorem kw_1398 : Cond.instanceMethod yX12_likens ∈ gk_T := gk_in (t6k (List.mem_of_getElem? (i := 115) rfl)) rfl
theorem kw_52 : Cond.selects "AtomTablesModel" yX12_likens yX12_likens ∈ gk_T := gk_in (p4k (List.mem_of_getElem? (i := 4) rfl)) rfl
theorem cvX12_161 : gk_Cv RX12 161 mX12_likens 11 2 := ⟨okX12_likens, ⟨_, _, rfl⟩, kw_1396, kw_1398, kw_52, kw_96⟩
theorem kw_1404 : Cond.methodLink "AtomTablesModel" 164 yX12_unsound ∈ gk_T := gk_in (t6k (List.mem_of_getElem? (i := 121) rfl)) rfl
theorem kw_1406 : Cond.instanceMethod yX12_unsound ∈ gk_T := gk_in (t6k (List.mem_of_getElem? (i := 123) rfl)) rfl
theorem kw_53 : Cond.selects "AtomTablesModel" yX12_unsound yX12_unsound ∈ gk_T := gk_in (p4k (List.mem_of_getElem? (i := 5) rfl)) rfl
theorem cvX12_164 : gk_Cv RX12 164 mX12_unsound 11 1 := ⟨okX12_unsound, ⟨_, _, rfl⟩, kw_1404, kw_1406, kw_53, kw_96⟩
theorem kw_1416 : Cond.methodLink "AtomTablesModel" 167 yX12_isGap ∈ gk_T := gk_in (t6k (List.mem_of_getElem? (i := 133) rfl)) rfl
theorem kw_1418 : Cond.instanceMethod yX12_isGap ∈ gk_T := gk_in (t6k (List.mem_of_getElem? (i := 135) rfl)) rfl
theorem kw_55 : Cond.selects "AtomTablesModel" yX12_isGap yX12_isGap ∈ gk_T := gk_in (p4k (List.mem_of_getElem? (i := 7) rfl)) rfl
theorem cvX12_167 : gk_Cv RX12 167 mX12_isGap 11 5 := ⟨okX12_isGap, ⟨_, _, rfl⟩, kw_1416, kw_1418, kw_55, kw_96⟩
theorem kw_1412 : Cond.methodLink "AtomTablesModel" 171 yX12_gapBehind ∈ gk_T := gk_in (t6k (List.mem_of_getElem? (i := 129) rfl)) rfl
theorem kw_1414 : Cond.instanceMethod yX12_gapBehind ∈ gk_T := gk_in (t6k (List.mem_of_getElem? (i := 131) rfl)) rfl
theorem kw_54 : Cond.selects "AtomTablesModel" yX12_gapBehind yX12_gapBehind ∈ gk_T := gk_in (p4k (List.mem_of_getElem? (i := 6) rfl)) rfl
theorem cvX12_171 : gk_Cv RX12 171 mX12_gapBehind 11 2 := ⟨okX12_gapBehind, ⟨_, _, rfl⟩, kw_1412, kw_1414, kw_54, kw_96⟩
theorem kw_1432 : Cond.methodLink "AtomTablesModel" 183 yX12_isLike ∈ gk_T := gk_in (t6k (List.mem_of_getElem? (i := 149) rfl)) rfl
theorem kw_1434 : Cond.instanceMethod yX12_isLike ∈ gk_T := gk_in (t6k (List.mem_of_getElem? (i := 151) rfl)) rfl
theorem kw_58 : Cond.selects "AtomTablesModel" yX12_isLike yX12_isLike ∈ gk_T := gk_in (p4k (List.mem_of_getElem? (i := 10) rfl)) rfl
theorem cvX12_183 : gk_Cv RX12 183 mX12_isLike 11 5 := ⟨okX12_isLike, ⟨_, _, rfl⟩, kw_1432, kw_1434, kw_58, kw_96⟩
theorem kw_1428 : Cond.methodLink "AtomTablesModel" 186 yX12_seeks ∈ gk_T := gk_in (t6k (List.mem_of_getElem? (i := 145) rfl)) rfl
theorem kw_1430 : Cond.instanceMethod yX12_seeks ∈ gk_T := gk_in (t6k (List.mem_of_getElem? (i := 147) rfl)) rfl
theorem kw_57 : Cond.selects "AtomTablesModel" yX12_seeks yX12_seeks ∈ gk_T := gk_in (p4k (List.mem_of_getElem? (i := 9) rfl)) rfl
theorem cvX12_186 : gk_Cv RX12 186 mX12_seeks 11 5 := ⟨okX12_seeks, ⟨_, _, rfl⟩, kw_1428, kw_1430, kw_57, kw_96⟩
theorem kw_1424 : Cond.methodLink "AtomTablesModel" 189 yX12_looks ∈ gk_T := gk_in (t6k (List.mem_of_getElem? (i := 141) rfl)) rfl
theorem kw_1426 : Cond.instanceMethod yX12_looks ∈ gk_T := gk_in (t6k (List.mem_of_getElem? (i := 143) rfl)) rfl
theorem kw_56 : Cond.selects "AtomTablesModel" yX12_looks yX12_looks ∈ gk_T := gk_in (p4k (List.mem_of_getElem? (i := 8) rfl)) rfl
theorem cvX12_189 : gk_Cv RX12 189 mX12_looks 11 3 := ⟨okX12_looks, ⟨_, _, rfl⟩, kw_1424, kw_1426, kw_56, kw_96⟩
theorem kw_1460 : Cond.methodLink "AtomTablesModel" 193 yX12_isFilled ∈ gk_T := gk_in (t6k (List.mem_of_getElem? (i := 177) rfl)) rfl
theorem kw_1462 : Cond.instanceMethod yX12_isFilled ∈ gk_T := gk_in (t6k (List.mem_of_getElem? (i := 179) rfl)) rfl
theorem kw_63 : Cond.selects "AtomTablesModel" yX12_isFilled yX12_isFilled ∈ gk_T := gk_in (p4k (List.mem_of_getElem? (i := 15) rfl)) rfl
theorem cvX12_193 : gk_Cv RX12 193 mX12_isFilled 11 2 := ⟨okX12_isFilled, ⟨_, _, rfl⟩, kw_1460, kw_1462, kw_63, kw_96⟩
theorem kw_1476 : Cond.methodLink "AtomTablesModel" 196 yX12_mayStand ∈ gk_T := gk_in (t6k (List.mem_of_getElem? (i := 193) rfl)) rfl
theorem kw_1478 : Cond.instanceMethod yX12_mayStand ∈ gk_T := gk_in (t6k (List.mem_of_getElem? (i := 195) rfl)) rfl
theorem kw_67 : Cond.selects "AtomTablesModel" yX12_mayStand yX12_mayStand ∈ gk_T := gk_in (p5k (List.mem_of_getElem? (i := 3) rfl)) rfl
theorem cvX12_196 : gk_Cv RX12 196 mX12_mayStand 11 2 := ⟨okX12_mayStand, ⟨_, _, rfl⟩, kw_1476, kw_1478, kw_67, kw_96⟩
theorem kw_1456 : Cond.methodLink "AtomTablesModel" 199 yX12_fillsFrom ∈ gk_T := gk_in (t6k (List.mem_of_getElem? (i := 173) rfl)) rfl
theorem kw_1458 : Cond.instanceMethod yX12_fillsFrom ∈ gk_T := gk_in (t6k (List.mem_of_getElem? (i := 175) rfl)) rfl
theorem kw_62 : Cond.selects "AtomTablesModel" yX12_fillsFrom yX12_fillsFrom ∈ gk_T := gk_in (p4k (List.mem_of_getElem? (i := 14) rfl)) rfl
theorem cvX12_199 : gk_Cv RX12 199 mX12_fillsFrom 11 5 := ⟨okX12_fillsFrom, ⟨_, _, rfl⟩, kw_1456, kw_1458, kw_62, kw_96⟩
theorem kw_1464 : Cond.methodLink "AtomTablesModel" 202 yX12_isBarred ∈ gk_T := gk_in (t6k (List.mem_of_getElem? (i := 181) rfl)) rfl
theorem kw_1466 : Cond.instanceMethod yX12_isBarred ∈ gk_T := gk_in (t6k (List.mem_of_getElem? (i := 183) rfl)) rfl
theorem kw_64 : Cond.selects "AtomTablesModel" yX12_isBarred yX12_isBarred ∈ gk_T := gk_in (p5k (List.mem_of_getElem? (i := 0) rfl)) rfl
theorem cvX12_202 : gk_Cv RX12 202 mX12_isBarred 11 1 := ⟨okX12_isBarred, ⟨_, _, rfl⟩, kw_1464, kw_1466, kw_64, kw_96⟩
theorem kw_1468 : Cond.methodLink "AtomTablesModel" 205 yX12_isWon ∈ gk_T := gk_in (t6k (List.mem_of_getElem? (i := 185) rfl)) rfl
theorem kw_1470 : Cond.instanceMethod yX12_isWon ∈ gk_T := gk_in (t6k (List.mem_of_getElem? (i := 187) rfl)) rfl
theorem kw_65 : Cond.selects "AtomTablesModel" yX12_isWon yX12_isWon ∈ gk_T := gk_in (p5k (List.mem_of_getElem? (i := 1) rfl)) rfl
theorem cvX12_205 : gk_Cv RX12 205 mX12_isWon 11 1 := ⟨okX12_isWon, ⟨_, _, rfl⟩, kw_1468, kw_1470, kw_65, kw_96⟩
theorem kw_1452 : Cond.methodLink "AtomTablesModel" 208 yX12_isFillable ∈ gk_T := gk_in (t6k (List.mem_of_getElem? (i := 169) rfl)) rfl
theorem kw_1454 : Cond.instanceMethod yX12_isFillable ∈ gk_T := gk_in (t6k (List.mem_of_getElem? (i := 171) rfl)) rfl
theorem kw_61 : Cond.selects "AtomTablesModel" yX12_isFillable yX12_isFillable ∈ gk_T := gk_in (p4k (List.mem_of_getElem? (i := 13) rfl)) rfl
theorem cvX12_208 : gk_Cv RX12 208 mX12_isFillable 11 2 := ⟨okX12_isFillable, ⟨_, _, rfl⟩, kw_1452, kw_1454, kw_61, kw_96⟩
theorem kw_1444 : Cond.methodLink "AtomTablesModel" 211 yX12_isGapOf ∈ gk_T := gk_in (t6k (List.mem_of_getElem? (i := 161) rfl)) rfl
theorem kw_1446 : Cond.instanceMethod yX12_isGapOf ∈ gk_T := gk_in (t6k (List.mem_of_getElem? (i := 163) rfl)) rfl
theorem kw_59 : Cond.selects "AtomTablesModel" yX12_isGapOf yX12_isGapOf ∈ gk_T := gk_in (p4k (List.mem_of_getElem? (i := 11) rfl)) rfl
theorem cvX12_211 : gk_Cv RX12 211 mX12_isGapOf 11 2 := ⟨okX12_isGapOf, ⟨_, _, rfl⟩, kw_1444, kw_1446, kw_59, kw_96⟩
theorem kw_1448 : Cond.methodLink "AtomTablesModel" 214 yX12_looksToFill ∈ gk_T := gk_in (t6k (List.mem_of_getElem? (i := 165) rfl)) rfl
theorem kw_1450 : Cond.instanceMethod yX12_looksToFill ∈ gk_T := gk_in (t6k (List.mem_of_getElem? (i := 167) rfl)) rfl
theorem kw_60 : Cond.selects "AtomTablesModel" yX12_looksToFill yX12_looksToFill ∈ gk_T := gk_in (p4k (List.mem_of_getElem? (i := 12) rfl)) rfl
theorem cvX12_214 : gk_Cv RX12 214 mX12_looksToFill 11 3 := ⟨okX12_looksToFill, ⟨_, _, rfl⟩, kw_1448, kw_1450, kw_60, kw_96⟩
theorem kw_1472 : Cond.methodLink "AtomTablesModel" 217 yX12_killerOf ∈ gk_T := gk_in (t6k (List.mem_of_getElem? (i := 189) rfl)) rfl
theorem kw_1474 : Cond.instanceMethod yX12_killerOf ∈ gk_T := gk_in (t6k (List.mem_of_getElem? (i := 191) rfl)) rfl
theorem kw_66 : Cond.selects "AtomTablesModel" yX12_killerOf yX12_killerOf ∈ gk_T := gk_in (p5k (List.mem_of_getElem? (i := 2) rfl)) rfl
theorem cvX12_217 : gk_Cv RX12 217 mX12_killerOf 11 1 := ⟨okX12_killerOf, ⟨_, _, rfl⟩, kw_1472, kw_1474, kw_66, kw_96⟩
theorem kw_1488 : Cond.methodLink "AtomTablesModel" 220 yX12_isPlayed ∈ gk_T := gk_in (t6k (List.mem_of_getElem? (i := 205) rfl)) rfl
theorem kw_1490 : Cond.instanceMethod yX12_isPlayed ∈ gk_T := gk_in (t6k (List.mem_of_getElem? (i := 207) rfl)) rfl
theorem kw_69 : Cond.selects "AtomTablesModel" yX12_isPlayed yX12_isPlayed ∈ gk_T := gk_in (p5k (List.mem_of_getElem? (i := 5) rfl)) rfl
theorem cvX12_220 : gk_Cv RX12 220 mX12_isPlayed 11 1 := ⟨okX12_isPlayed, ⟨_, _, rfl⟩, kw_1488, kw_1490, kw_69, kw_96⟩
theorem kw_1484 : Cond.methodLink "AtomTablesModel" 223 yX12_whyNot ∈ gk_T := gk_in (t6k (List.mem_of_getElem? (i := 201) rfl)) rfl
theorem kw_1486 : Cond.instanceMethod yX12_whyNot ∈ gk_T := gk_in (t6k (List.mem_of_getElem? (i := 203) rfl)) rfl
theorem kw_68 : Cond.selects "AtomTablesModel" yX12_whyNot yX12_whyNot ∈ gk_T := gk_in (p5k (List.mem_of_getElem? (i := 4) rfl)) rfl
theorem cvX12_223 : gk_Cv RX12 223 mX12_whyNot 11 2 := ⟨okX12_whyNot, ⟨_, _, rfl⟩, kw_1484, kw_1486, kw_68, kw_96⟩
theorem kw_1512 : Cond.methodLink "AtomTablesModel" 232 yX12_isFillOf ∈ gk_T := gk_in (t6k (List.mem_of_getElem? (i := 229) rfl)) rfl
theorem kw_1514 : Cond.instanceMethod yX12_isFillOf ∈ gk_T := gk_in (t6k (List.mem_of_getElem? (i := 231) rfl)) rfl
theorem kw_70 : Cond.selects "AtomTablesModel" yX12_isFillOf yX12_isFillOf ∈ gk_T := gk_in (p5k (List.mem_of_getElem? (i := 6) rfl)) rfl
theorem cvX12_232 : gk_Cv RX12 232 mX12_isFillOf 11 2 := ⟨okX12_isFillOf, ⟨_, _, rfl⟩, kw_1512, kw_1514, kw_70, kw_96⟩
theorem kw_1543 : Cond.methodLink "AtomTablesModel" 238 yX12_isMet ∈ gk_T := gk_in (t7k (List.mem_of_getElem? (i := 20) rfl)) rfl
theorem kw_1545 : Cond.instanceMethod yX12_isMet ∈ gk_T := gk_in (t7k (List.mem_of_getElem? (i := 22) rfl)) rfl
theorem kw_73 : Cond.selects "AtomTablesModel" yX12_isMet yX12_isMet ∈ gk_T := gk_in (p5k (List.mem_of_getElem? (i := 9) rfl)) rfl
theorem cvX12_238 : gk_Cv RX12 238 mX12_isMet 11 3 := ⟨okX12_isMet, ⟨_, _, rfl⟩, kw_1543, kw_1545, kw_73, kw_96⟩
theorem kw_1532 : Cond.methodLink "AtomTablesModel" 241 yX12_isList ∈ gk_T := gk_in (t7k (List.mem_of_getElem? (i := 9) rfl)) rfl
theorem kw_1533 : Cond.static yX12_isList ∈ gk_T := gk_in (t7k (List.mem_of_getElem? (i := 10) rfl)) rfl
theorem csX12_241 : gk_Cs RX12 241 mX12_isList 1 := ⟨okX12_isList, kw_1532, kw_1533, kw_96⟩
theorem kw_1535 : Cond.methodLink "AtomTablesModel" 244 yX12_isAllHad ∈ gk_T := gk_in (t7k (List.mem_of_getElem? (i := 12) rfl)) rfl
theorem kw_1537 : Cond.instanceMethod yX12_isAllHad ∈ gk_T := gk_in (t7k (List.mem_of_getElem? (i := 14) rfl)) rfl
theorem kw_71 : Cond.selects "AtomTablesModel" yX12_isAllHad yX12_isAllHad ∈ gk_T := gk_in (p5k (List.mem_of_getElem? (i := 7) rfl)) rfl
theorem cvX12_244 : gk_Cv RX12 244 mX12_isAllHad 11 0 := ⟨okX12_isAllHad, ⟨_, _, rfl⟩, kw_1535, kw_1537, kw_71, kw_96⟩
theorem kw_1539 : Cond.methodLink "AtomTablesModel" 248 yX12_falseStep ∈ gk_T := gk_in (t7k (List.mem_of_getElem? (i := 16) rfl)) rfl
theorem kw_1541 : Cond.instanceMethod yX12_falseStep ∈ gk_T := gk_in (t7k (List.mem_of_getElem? (i := 18) rfl)) rfl
theorem kw_72 : Cond.selects "AtomTablesModel" yX12_falseStep yX12_falseStep ∈ gk_T := gk_in (p5k (List.mem_of_getElem? (i := 8) rfl)) rfl
theorem cvX12_248 : gk_Cv RX12 248 mX12_falseStep 11 0 := ⟨okX12_falseStep, ⟨_, _, rfl⟩, kw_1539, kw_1541, kw_72, kw_96⟩
theorem kw_1551 : Cond.methodLink "AtomTablesModel" 252 yX12_isPictured ∈ gk_T := gk_in (t7k (List.mem_of_getElem? (i := 28) rfl)) rfl
theorem kw_1553 : Cond.instanceMethod yX12_isPictured ∈ gk_T := gk_in (t7k (List.mem_of_getElem? (i := 30) rfl)) rfl
theorem kw_74 : Cond.selects "AtomTablesModel" yX12_isPictured yX12_isPictured ∈ gk_T := gk_in (p5k (List.mem_of_getElem? (i := 10) rfl)) rfl
theorem cvX12_252 : gk_Cv RX12 252 mX12_isPictured 11 1 := ⟨okX12_isPictured, ⟨_, _, rfl⟩, kw_1551, kw_1553, kw_74, kw_96⟩
theorem kw_1590 : Cond.methodLink "AtomTablesModel" 270 yX12_isAt ∈ gk_T := gk_in (t7k (List.mem_of_getElem? (i := 67) rfl)) rfl
theorem kw_1592 : Cond.instanceMethod yX12_isAt ∈ gk_T := gk_in (t7k (List.mem_of_getElem? (i := 69) rfl)) rfl
theorem kw_77 : Cond.selects "AtomTablesModel" yX12_isAt yX12_isAt ∈ gk_T := gk_in (p5k (List.mem_of_getElem? (i := 13) rfl)) rfl
theorem cvX12_270 : gk_Cv RX12 270 mX12_isAt 11 2 := ⟨okX12_isAt, ⟨_, _, rfl⟩, kw_1590, kw_1592, kw_77, kw_96⟩
theorem kw_1586 : Cond.methodLink "AtomTablesModel" 273 yX12_word ∈ gk_T := gk_in (t7k (List.mem_of_getElem? (i := 63) rfl)) rfl
theorem kw_1588 : Cond.instanceMethod yX12_word ∈ gk_T := gk_in (t7k (List.mem_of_getElem? (i := 65) rfl)) rfl
theorem kw_76 : Cond.selects "AtomTablesModel" yX12_word yX12_word ∈ gk_T := gk_in (p5k (List.mem_of_getElem? (i := 12) rfl)) rfl
theorem cvX12_273 : gk_Cv RX12 273 mX12_word 11 0 := ⟨okX12_word, ⟨_, _, rfl⟩, kw_1586, kw_1588, kw_76, kw_96⟩
theorem kw_1598 : Cond.methodLink "AtomTablesModel" 276 yX12_atoms ∈ gk_T := gk_in (t7k (List.mem_of_getElem? (i := 75) rfl)) rfl
theorem cvX12_276 : gk_Cv RX12 276 mX12_atoms 11 1 := ⟨okX12_atoms, ⟨_, _, rfl⟩, kw_1598, kw_1245, kw_1246, kw_96⟩
theorem kw_1599 : Cond.methodLink "AtomTablesModel" 278 yX12_pair ∈ gk_T := gk_in (t7k (List.mem_of_getElem? (i := 76) rfl)) rfl
theorem cvX12_278 : gk_Cv RX12 278 mX12_pair 11 2 := ⟨okX12_pair, ⟨_, _, rfl⟩, kw_1599, kw_1253, kw_1254, kw_96⟩
theorem kw_1600 : Cond.methodLink "AtomTablesModel" 281 yX12_triangle ∈ gk_T := gk_in (t7k (List.mem_of_getElem? (i := 77) rfl)) rfl
theorem cvX12_281 : gk_Cv RX12 281 mX12_triangle 11 4 := ⟨okX12_triangle, ⟨_, _, rfl⟩, kw_1600, kw_1276, kw_1277, kw_96⟩
theorem kw_1582 : Cond.methodLink "AtomTablesModel" 284 yX12_statement ∈ gk_T := gk_in (t7k (List.mem_of_getElem? (i := 59) rfl)) rfl
theorem kw_1584 : Cond.instanceMethod yX12_statement ∈ gk_T := gk_in (t7k (List.mem_of_getElem? (i := 61) rfl)) rfl
theorem kw_75 : Cond.selects "AtomTablesModel" yX12_statement yX12_statement ∈ gk_T := gk_in (p5k (List.mem_of_getElem? (i := 11) rfl)) rfl
theorem cvX12_284 : gk_Cv RX12 284 mX12_statement 11 0 := ⟨okX12_statement, ⟨_, _, rfl⟩, kw_1582, kw_1584, kw_75, kw_96⟩
theorem kw_1594 : Cond.methodLink "AtomTablesModel" 287 yX12_isDone ∈ gk_T := gk_in (t7k (List.mem_of_getElem? (i := 71) rfl)) rfl
theorem kw_1596 : Cond.instanceMethod yX12_isDone ∈ gk_T := gk_in (t7k (List.mem_of_getElem? (i := 73) rfl)) rfl
theorem kw_78 : Cond.selects "AtomTablesModel" yX12_isDone yX12_isDone ∈ gk_T := gk_in (p5k (List.mem_of_getElem? (i := 14) rfl)) rfl
theorem cvX12_287 : gk_Cv RX12 287 mX12_isDone 11 1 := ⟨okX12_isDone, ⟨_, _, rfl⟩, kw_1594, kw_1596, kw_78, kw_96⟩
theorem kw_1613 : Cond.methodLink "AtomTablesModel" 299 yX12_writes ∈ gk_T := gk_in (t7k (List.mem_of_getElem? (i := 90) rfl)) rfl
theorem kw_1615 : Cond.instanceMethod yX12_writes ∈ gk_T := gk_in (t7k (List.mem_of_getElem? (i := 92) rfl)) rfl
theorem kw_81 : Cond.selects "AtomTablesModel" yX12_writes yX12_writes ∈ gk_T := gk_in (p6k (List.mem_of_getElem? (i := 1) rfl)) rfl
theorem cvX12_299 : gk_Cv RX12 299 mX12_writes 11 1 := ⟨okX12_writes, ⟨_, _, rfl⟩, kw_1613, kw_1615, kw_81, kw_96⟩
theorem kw_1609 : Cond.methodLink "AtomTablesModel" 303 yX12_writesWord ∈ gk_T := gk_in (t7k (List.mem_of_getElem? (i := 86) rfl)) rfl
theorem kw_1611 : Cond.instanceMethod yX12_writesWord ∈ gk_T := gk_in (t7k (List.mem_of_getElem? (i := 88) rfl)) rfl
theorem kw_80 : Cond.selects "AtomTablesModel" yX12_writesWord yX12_writesWord ∈ gk_T := gk_in (p6k (List.mem_of_getElem? (i := 0) rfl)) rfl
theorem cvX12_303 : gk_Cv RX12 303 mX12_writesWord 11 1 := ⟨okX12_writesWord, ⟨_, _, rfl⟩, kw_1609, kw_1611, kw_80, kw_96⟩
theorem kw_1617 : Cond.methodLink "AtomTablesModel" 306 yX12_writesFigure ∈ gk_T := gk_in (t7k (List.mem_of_getElem? (i := 94) rfl)) rfl
theorem kw_1619 : Cond.instanceMethod yX12_writesFigure ∈ gk_T := gk_in (t7k (List.mem_of_getElem? (i := 96) rfl)) rfl
theorem kw_82 : Cond.selects "AtomTablesModel" yX12_writesFigure yX12_writesFigure ∈ gk_T := gk_in (p6k (List.mem_of_getElem? (i := 2) rfl)) rfl
theorem cvX12_306 : gk_Cv RX12 306 mX12_writesFigure 11 1 := ⟨okX12_writesFigure, ⟨_, _, rfl⟩, kw_1617, kw_1619, kw_82, kw_96⟩
theorem kw_1605 : Cond.methodLink "AtomTablesModel" 309 yX12_spells ∈ gk_T := gk_in (t7k (List.mem_of_getElem? (i := 82) rfl)) rfl
theorem kw_1607 : Cond.instanceMethod yX12_spells ∈ gk_T := gk_in (t7k (List.mem_of_getElem? (i := 84) rfl)) rfl
theorem kw_79 : Cond.selects "AtomTablesModel" yX12_spells yX12_spells ∈ gk_T := gk_in (p5k (List.mem_of_getElem? (i := 15) rfl)) rfl
theorem cvX12_309 : gk_Cv RX12 309 mX12_spells 11 0 := ⟨okX12_spells, ⟨_, _, rfl⟩, kw_1605, kw_1607, kw_79, kw_96⟩
theorem kw_735 : Cond.constant "AtomTables$Filler" 69 1000000 ∈ gk_T := gk_in (t3k (List.mem_of_getElem? (i := 172) rfl)) rfl
theorem kcX1_69 : Cond.constant RX1 69 (nI 1000000) ∈ gk_T := kw_735
theorem kw_819 : Cond.constant "AtomTables$Game" 69 1000000 ∈ gk_T := gk_in (t4k (List.mem_of_getElem? (i := 16) rfl)) rfl
theorem kcX2_69 : Cond.constant RX2 69 (nI 1000000) ∈ gk_T := kw_819
theorem kw_775 : Cond.constant "AtomTables$Patterns" 35 1000000 ∈ gk_T := gk_in (t3k (List.mem_of_getElem? (i := 212) rfl)) rfl
theorem kcX4_35 : Cond.constant RX4 35 (nI 1000000) ∈ gk_T := kw_775
theorem kw_948 : Cond.constant "AtomTables$Pictures" 63 1000000 ∈ gk_T := gk_in (t4k (List.mem_of_getElem? (i := 145) rfl)) rfl
theorem kcX5_63 : Cond.constant RX5 63 (nI 1000000) ∈ gk_T := kw_948
theorem kw_711 : Cond.constant "AtomTables$Wheels" 33 1000000 ∈ gk_T := gk_in (t3k (List.mem_of_getElem? (i := 148) rfl)) rfl
theorem kcX10_33 : Cond.constant RX10 33 (nI 1000000) ∈ gk_T := kw_711
theorem kw_663 : Cond.constant "java/lang/Integer" 265 1431655765 ∈ gk_T := gk_in (t3k (List.mem_of_getElem? (i := 100) rfl)) rfl
theorem kcJ6_265 : Cond.constant RJ6 265 (nI 1431655765) ∈ gk_T := kw_663
theorem kw_664 : Cond.constant "java/lang/Integer" 266 858993459 ∈ gk_T := gk_in (t3k (List.mem_of_getElem? (i := 101) rfl)) rfl
theorem kcJ6_266 : Cond.constant RJ6 266 (nI 858993459) ∈ gk_T := kw_664
theorem kw_665 : Cond.constant "java/lang/Integer" 267 252645135 ∈ gk_T := gk_in (t3k (List.mem_of_getElem? (i := 102) rfl)) rfl
theorem kcJ6_267 : Cond.constant RJ6 267 (nI 252645135) ∈ gk_T := kw_665
theorem kw_964 : Cond.constantLong "AtomTables" 291 (-9223372036854775808) ∈ gk_T := gk_in (t4k (List.mem_of_getElem? (i := 161) rfl)) rfl
theorem klX11_291 : Cond.constantLong RX11 291 (-9223372036854775808) ∈ gk_T := kw_964
theorem kw_492 : Cond.constantLong "AtomTables$Table" 40 (-1) ∈ gk_T := gk_in (t2k (List.mem_of_getElem? (i := 169) rfl)) rfl
theorem klX8_40 : Cond.constantLong RX8 40 (-1) ∈ gk_T := kw_492
theorem kw_1633 : Cond.constantLong "AtomTablesLaw" 154 4294967295 ∈ gk_T := gk_in (t7k (List.mem_of_getElem? (i := 110) rfl)) rfl
theorem klL_154 : Cond.constantLong "AtomTablesLaw" 154 (lN 4294967295) ∈ gk_T := kw_1633
theorem kw_1248 : Cond.constantLong "AtomTablesModel" 81 4 ∈ gk_T := gk_in (t5k (List.mem_of_getElem? (i := 205) rfl)) rfl
theorem klX12_81 : Cond.constantLong RX12 81 (lN 4) ∈ gk_T := kw_1248
theorem kw_1331 : Cond.constantLong "AtomTablesModel" 123 2 ∈ gk_T := gk_in (t6k (List.mem_of_getElem? (i := 48) rfl)) rfl
theorem klX12_123 : Cond.constantLong RX12 123 (lN 2) ∈ gk_T := kw_1331
theorem kw_1336 : Cond.constantLong "AtomTablesModel" 125 3 ∈ gk_T := gk_in (t6k (List.mem_of_getElem? (i := 53) rfl)) rfl
theorem klX12_125 : Cond.constantLong RX12 125 (lN 3) ∈ gk_T := kw_1336
theorem kw_1567 : Cond.constantLong "AtomTablesModel" 255 (-9223372036854775808) ∈ gk_T := gk_in (t7k (List.mem_of_getElem? (i := 44) rfl)) rfl
theorem klX12_255 : Cond.constantLong RX12 255 (-9223372036854775808) ∈ gk_T := kw_1567
theorem kw_1572 : Cond.constantLong "AtomTablesModel" 257 32 ∈ gk_T := gk_in (t7k (List.mem_of_getElem? (i := 49) rfl)) rfl
theorem klX12_257 : Cond.constantLong RX12 257 (lN 32) ∈ gk_T := kw_1572
theorem kw_1573 : Cond.constantLong "AtomTablesModel" 259 126 ∈ gk_T := gk_in (t7k (List.mem_of_getElem? (i := 50) rfl)) rfl
theorem klX12_259 : Cond.constantLong RX12 259 (lN 126) ∈ gk_T := kw_1573
theorem kw_496 : Cond.constantLong "java/lang/Long" 314 6148914691236517205 ∈ gk_T := gk_in (t2k (List.mem_of_getElem? (i := 173) rfl)) rfl
theorem klJ13_314 : Cond.constantLong RJ13 314 (lN 6148914691236517205) ∈ gk_T := kw_496
theorem kw_497 : Cond.constantLong "java/lang/Long" 316 3689348814741910323 ∈ gk_T := gk_in (t2k (List.mem_of_getElem? (i := 174) rfl)) rfl
theorem klJ13_316 : Cond.constantLong RJ13 316 (lN 3689348814741910323) ∈ gk_T := kw_497
theorem kw_498 : Cond.constantLong "java/lang/Long" 318 1085102592571150095 ∈ gk_T := gk_in (t2k (List.mem_of_getElem? (i := 175) rfl)) rfl
theorem klJ13_318 : Cond.constantLong RJ13 318 (lN 1085102592571150095) ∈ gk_T := kw_498
theorem kw_588 : Cond.static yJ9_max_7cf53 ∈ gk_T := gk_in (t3k (List.mem_of_getElem? (i := 25) rfl)) rfl
theorem kw_98 : Cond.initialized "java/lang/Math" ∈ gk_T := gk_in (t1k (List.mem_of_getElem? (i := 15) rfl)) rfl
theorem kw_589 : Cond.code yJ9_max_7cf53 prog_17_method_65_code 2 (some .int) ∈ gk_T := gk_in (t3k (List.mem_of_getElem? (i := 26) rfl)) rfl
end
section
def decs (c : ByteArray) (l : List (Nat × Instr × Nat)) : Prop := ∀ q ∈ l, decode c q.1 = .ok (q.2.1, q.2.2)
theorem decs_of {c : ByteArray} {l : List (Nat × Instr × Nat)} (h : l.all (fun q => decide (decode c q.1 = .ok (q.2.1, q.2.2))) = true) : decs c l := fun q hq => of_decide_eq_true (List.all_eq_true.mp h q hq)
theorem decs.at {c : ByteArray} {l : List (Nat × Instr × Nat)} (h : decs c l) (k : Nat) {pc n : Nat} {i : Instr} (hk : l[k]? = some (pc, i, n)) : decode c pc = .ok (i, n) := h _ (List.mem_of_getElem? hk)
theorem DJ0_charAt_5068e_0 : decs cJ0_charAt_5068e [(0, .aload_n 0, 1), (1, .invokevirtual 492, 3), (4, .ifCond .eq 12, 3), (7, .aload_n 0, 1), (8, .getfield 9, 3), (11, .iload_n 1, 1), (12, .invokestatic 495, 3), (15, .ireturn, 1), (16, .aload_n 0, 1), (17, .getfield 9, 3), (20, .iload_n 1, 1), (21, .invokestatic 498, 3), (24, .ireturn, 1)] := decs_of (by decide +kernel)
theorem DJ0_checkIndex_df160_0 : decs cJ0_checkIndex_df160 [(0, .iload_n 0, 1), (1, .iload_n 1, 1), (2, .getstatic 1053, 3), (5, .invokestatic 1059, 3), (8, .pop, 1), (9, .return_, 1)] := decs_of (by decide +kernel)
theorem DJ0_coder_7d493_0 : decs cJ0_coder_7d493 [(0, .getstatic 38, 3), (3, .ifCond .eq 10, 3), (6, .aload_n 0, 1), (7, .getfield 15, 3), (10, .goto 4, 3), (13, .iconst 1, 1), (14, .ireturn, 1)] := decs_of (by decide +kernel)
theorem DJ0_isLatin1_aae02_0 : decs cJ0_isLatin1_aae02 [(0, .getstatic 38, 3), (3, .ifCond .eq 14, 3), (6, .aload_n 0, 1), (7, .getfield 15, 3), (10, .ifCond .ne 7, 3), (13, .iconst 1, 1), (14, .goto 4, 3), (17, .iconst 0, 1), (18, .ireturn, 1)] := decs_of (by decide +kernel)
theorem DJ0_length_8abf5_0 : decs cJ0_length_8abf5 [(0, .aload_n 0, 1), (1, .getfield 9, 3), (4, .arraylength, 1), (5, .aload_n 0, 1), (6, .invokevirtual 335, 3), (9, .ishr, 1), (10, .ireturn, 1)] := decs_of (by decide +kernel)
theorem DJ1_charAt_3b067_0 : decs cJ1_charAt_3b067 [(0, .iload_n 1, 1), (1, .aload_n 0, 1), (2, .arraylength, 1), (3, .invokestatic 9, 3), (6, .aload_n 0, 1), (7, .iload_n 1, 1), (8, .baload, 1), (9, .sipush 255, 3), (12, .iand, 1), (13, .i2c, 1), (14, .ireturn, 1)] := decs_of (by decide +kernel)
theorem DJ13_bitCount_95d88_0 : decs cJ13_bitCount_95d88 [(0, .lload_n 0, 1), (1, .lload_n 0, 1), (2, .iconst 1, 1), (3, .lushr, 1), (4, .ldc2_w 314, 3), (7, .land, 1), (8, .lsub, 1), (9, .lstore_n 0, 1), (10, .lload_n 0, 1), (11, .ldc2_w 316, 3), (14, .land, 1), (15, .lload_n 0, 1), (16, .iconst 2, 1), (17, .lushr, 1), (18, .ldc2_w 316, 3), (21, .land, 1), (22, .ladd, 1), (23, .lstore_n 0, 1), (24, .lload_n 0, 1), (25, .lload_n 0, 1), (26, .iconst 4, 1), (27, .lushr, 1), (28, .ladd, 1), (29, .ldc2_w 318, 3), (32, .land, 1), (33, .lstore_n 0, 1), (34, .lload_n 0, 1), (35, .lload_n 0, 1), (36, .bipush 8, 2), (38, .lushr, 1), (39, .ladd, 1), (40, .lstore_n 0, 1), (41, .lload_n 0, 1), (42, .lload_n 0, 1), (43, .bipush 16, 2), (45, .lushr, 1), (46, .ladd, 1), (47, .lstore_n 0, 1), (48, .lload_n 0, 1), (49, .lload_n 0, 1), (50, .bipush 32, 2), (52, .lushr, 1), (53, .ladd, 1), (54, .lstore_n 0, 1), (55, .lload_n 0, 1), (56, .l2i, 1), (57, .bipush 127, 2), (59, .iand, 1), (60, .ireturn, 1)] := decs_of (by decide +kernel)
theorem DJ2_charAt_3b067_0 : decs cJ2_charAt_3b067 [(0, .iload_n 1, 1), (1, .aload_n 0, 1), (2, .invokestatic 67, 3), (5, .aload_n 0, 1), (6, .iload_n 1, 1), (7, .invokestatic 71, 3), (10, .ireturn, 1)] := decs_of (by decide +kernel)
theorem DJ2_checkIndex_2214a_0 : decs cJ2_checkIndex_2214a [(0, .iload_n 0, 1), (1, .aload_n 1, 1), (2, .invokestatic 48, 3), (5, .invokestatic 414, 3), (8, .return_, 1)] := decs_of (by decide +kernel)
theorem DJ2_getChar_3b067_0 : decs cJ2_getChar_3b067 [(0, .getstatic 44, 3), (3, .ifCond .ne 25, 3), (6, .iload_n 1, 1), (7, .ifCond .lt 11, 3), (10, .iload_n 1, 1), (11, .aload_n 0, 1), (12, .invokestatic 48, 3), (15, .if_icmp .lt 13, 3), (18, .new 52, 3), (21, .dup, 1), (22, .ldc 54, 2), (24, .invokespecial 56, 3), (27, .athrow, 1), (28, .iload_n 1, 1), (29, .iconst 1, 1), (30, .ishl, 1), (31, .istore_n 1, 1), (32, .aload_n 0, 1), (33, .iload_n 1, 1), (34, .iinc 1 1, 3), (37, .baload, 1), (38, .sipush 255, 3), (41, .iand, 1), (42, .getstatic 59, 3), (45, .ishl, 1), (46, .aload_n 0, 1), (47, .iload_n 1, 1), (48, .baload, 1), (49, .sipush 255, 3), (52, .iand, 1), (53, .getstatic 63, 3), (56, .ishl, 1), (57, .ior, 1), (58, .i2c, 1), (59, .ireturn, 1)] := decs_of (by decide +kernel)
theorem DJ2_length_9d52b_0 : decs cJ2_length_9d52b [(0, .aload_n 0, 1), (1, .arraylength, 1), (2, .iconst 1, 1), (3, .ishr, 1), (4, .ireturn, 1)] := decs_of (by decide +kernel)
theorem DJ3_checkIndex_8e157_0 : decs cJ3_checkIndex_8e157 [(0, .iload_n 0, 1), (1, .ifCond .lt 8, 3), (4, .iload_n 0, 1), (5, .iload_n 1, 1), (6, .if_icmp .lt 10, 3), (9, .aload_n 2, 1), (10, .iload_n 0, 1), (11, .iload_n 1, 1), (12, .invokestatic 95, 3), (15, .athrow, 1), (16, .iload_n 0, 1), (17, .ireturn, 1)] := decs_of (by decide +kernel)
theorem DJ6_bitCount_0f7a4_0 : decs cJ6_bitCount_0f7a4 [(0, .iload_n 0, 1), (1, .iload_n 0, 1), (2, .iconst 1, 1), (3, .iushr, 1), (4, .ldc_w 265, 3), (7, .iand, 1), (8, .isub, 1), (9, .istore_n 0, 1), (10, .iload_n 0, 1), (11, .ldc_w 266, 3), (14, .iand, 1), (15, .iload_n 0, 1), (16, .iconst 2, 1), (17, .iushr, 1), (18, .ldc_w 266, 3), (21, .iand, 1), (22, .iadd, 1), (23, .istore_n 0, 1), (24, .iload_n 0, 1), (25, .iload_n 0, 1), (26, .iconst 4, 1), (27, .iushr, 1), (28, .iadd, 1), (29, .ldc_w 267, 3), (32, .iand, 1), (33, .istore_n 0, 1), (34, .iload_n 0, 1), (35, .iload_n 0, 1), (36, .bipush 8, 2), (38, .iushr, 1), (39, .iadd, 1), (40, .istore_n 0, 1), (41, .iload_n 0, 1), (42, .iload_n 0, 1), (43, .bipush 16, 2), (45, .iushr, 1), (46, .iadd, 1), (47, .istore_n 0, 1), (48, .iload_n 0, 1), (49, .bipush 63, 2), (51, .iand, 1), (52, .ireturn, 1)] := decs_of (by decide +kernel)
theorem DJ9_max_7cf53_0 : decs cJ9_max_7cf53 [(0, .iload_n 0, 1), (1, .iload_n 1, 1), (2, .if_icmp .lt 7, 3), (5, .iload_n 0, 1), (6, .goto 4, 3), (9, .iload_n 1, 1), (10, .ireturn, 1)] := decs_of (by decide +kernel)
theorem DL_law_0 : decs code [(0, .new 7, 3), (3, .dup, 1), (4, .invokespecial 9, 3), (7, .astore_n 1, 1), (8, .new 10, 3), (11, .dup, 1), (12, .invokespecial 12, 3), (15, .astore_n 2, 1), (16, .iconst 0, 1), (17, .istore_n 3, 1), (18, .iload_n 3, 1), (19, .aload_n 0, 1), (20, .arraylength, 1), (21, .iconst 5, 1), (22, .isub, 1), (23, .if_icmp .gt 1483, 3), (26, .aload_n 0, 1), (27, .iload_n 3, 1), (28, .iaload, 1), (29, .bipush 63, 2), (31, .iand, 1), (32, .tableswitch 1468 0 42 #[188, 211, 244, 267, 320, 363, 396, 439, 472, 495, 548, 571, 594, 627, 650, 693, 746, 779, 802, 835, 878, 921, 944, 977, 1010, 1033, 1056, 1079, 1102, 1115, 1138, 1161, 1184, 1207, 1240, 1313, 1347, 1370, 1383, 1396, 1419, 1432, 1445], 188), (220, .aload_n 1, 1), (221, .aload_n 0, 1), (222, .iload_n 3, 1), (223, .iconst 1, 1), (224, .iadd, 1), (225, .iaload, 1), (226, .invokevirtual 13, 3), (229, .aload_n 2, 1), (230, .aload_n 0, 1), (231, .iload_n 3, 1), (232, .iconst 1, 1), (233, .iadd, 1), (234, .iaload, 1), (235, .invokevirtual 17, 3), (238, .if_icmp .eq 1262, 3), (241, .iconst 0, 1), (242, .ireturn, 1), (243, .aload_n 1, 1), (244, .aload_n 0, 1), (245, .iload_n 3, 1), (246, .iconst 1, 1), (247, .iadd, 1), (248, .iaload, 1), (249, .aload_n 0, 1), (250, .iload_n 3, 1), (251, .iconst 2, 1), (252, .iadd, 1), (253, .iaload, 1), (254, .invokevirtual 18, 3), (257, .aload_n 2, 1), (258, .aload_n 0, 1), (259, .iload_n 3, 1), (260, .iconst 1, 1), (261, .iadd, 1), (262, .iaload, 1), (263, .aload_n 0, 1), (264, .iload_n 3, 1), (265, .iconst 2, 1)] := decs_of (by decide +kernel)
theorem DL_law_1 : decs code [(266, .iadd, 1), (267, .iaload, 1), (268, .invokevirtual 22, 3), (271, .if_icmp .eq 1229, 3), (274, .iconst 0, 1), (275, .ireturn, 1), (276, .aload_n 1, 1), (277, .aload_n 0, 1), (278, .iload_n 3, 1), (279, .iconst 1, 1), (280, .iadd, 1), (281, .iaload, 1), (282, .invokevirtual 23, 3), (285, .aload_n 2, 1), (286, .aload_n 0, 1), (287, .iload_n 3, 1), (288, .iconst 1, 1), (289, .iadd, 1), (290, .iaload, 1), (291, .invokevirtual 26, 3), (294, .if_icmp .eq 1206, 3), (297, .iconst 0, 1), (298, .ireturn, 1), (299, .aload_n 1, 1), (300, .aload_n 0, 1), (301, .iload_n 3, 1), (302, .iconst 1, 1), (303, .iadd, 1), (304, .iaload, 1), (305, .aload_n 0, 1), (306, .iload_n 3, 1), (307, .iconst 2, 1), (308, .iadd, 1), (309, .iaload, 1), (310, .aload_n 0, 1), (311, .iload_n 3, 1), (312, .iconst 3, 1), (313, .iadd, 1), (314, .iaload, 1), (315, .aload_n 0, 1), (316, .iload_n 3, 1), (317, .iconst 4, 1), (318, .iadd, 1), (319, .iaload, 1), (320, .invokevirtual 27, 3), (323, .aload_n 2, 1), (324, .aload_n 0, 1), (325, .iload_n 3, 1), (326, .iconst 1, 1), (327, .iadd, 1), (328, .iaload, 1), (329, .aload_n 0, 1), (330, .iload_n 3, 1), (331, .iconst 2, 1), (332, .iadd, 1), (333, .iaload, 1), (334, .aload_n 0, 1), (335, .iload_n 3, 1), (336, .iconst 3, 1), (337, .iadd, 1)] := decs_of (by decide +kernel)
theorem DL_law_2 : decs code [(338, .iaload, 1), (339, .aload_n 0, 1), (340, .iload_n 3, 1), (341, .iconst 4, 1), (342, .iadd, 1), (343, .iaload, 1), (344, .invokevirtual 31, 3), (347, .if_icmp .eq 1153, 3), (350, .iconst 0, 1), (351, .ireturn, 1), (352, .aload_n 1, 1), (353, .aload_n 0, 1), (354, .iload_n 3, 1), (355, .iconst 1, 1), (356, .iadd, 1), (357, .iaload, 1), (358, .aload_n 0, 1), (359, .iload_n 3, 1), (360, .iconst 2, 1), (361, .iadd, 1), (362, .iaload, 1), (363, .aload_n 0, 1), (364, .iload_n 3, 1), (365, .iconst 3, 1), (366, .iadd, 1), (367, .iaload, 1), (368, .invokevirtual 32, 3), (371, .aload_n 2, 1), (372, .aload_n 0, 1), (373, .iload_n 3, 1), (374, .iconst 1, 1), (375, .iadd, 1), (376, .iaload, 1), (377, .aload_n 0, 1), (378, .iload_n 3, 1), (379, .iconst 2, 1), (380, .iadd, 1), (381, .iaload, 1), (382, .aload_n 0, 1), (383, .iload_n 3, 1), (384, .iconst 3, 1), (385, .iadd, 1), (386, .iaload, 1), (387, .invokevirtual 36, 3), (390, .if_icmp .eq 1110, 3), (393, .iconst 0, 1), (394, .ireturn, 1), (395, .aload_n 1, 1), (396, .aload_n 0, 1), (397, .iload_n 3, 1), (398, .iconst 1, 1), (399, .iadd, 1), (400, .iaload, 1), (401, .aload_n 0, 1), (402, .iload_n 3, 1), (403, .iconst 2, 1), (404, .iadd, 1), (405, .iaload, 1), (406, .invokevirtual 37, 3), (409, .aload_n 2, 1)] := decs_of (by decide +kernel)
theorem DL_law_3 : decs code [(410, .aload_n 0, 1), (411, .iload_n 3, 1), (412, .iconst 1, 1), (413, .iadd, 1), (414, .iaload, 1), (415, .aload_n 0, 1), (416, .iload_n 3, 1), (417, .iconst 2, 1), (418, .iadd, 1), (419, .iaload, 1), (420, .invokevirtual 40, 3), (423, .if_icmp .eq 1077, 3), (426, .iconst 0, 1), (427, .ireturn, 1), (428, .aload_n 1, 1), (429, .aload_n 0, 1), (430, .iload_n 3, 1), (431, .iconst 1, 1), (432, .iadd, 1), (433, .iaload, 1), (434, .aload_n 0, 1), (435, .iload_n 3, 1), (436, .iconst 2, 1), (437, .iadd, 1), (438, .iaload, 1), (439, .aload_n 0, 1), (440, .iload_n 3, 1), (441, .iconst 3, 1), (442, .iadd, 1), (443, .iaload, 1), (444, .invokevirtual 41, 3), (447, .aload_n 2, 1), (448, .aload_n 0, 1), (449, .iload_n 3, 1), (450, .iconst 1, 1), (451, .iadd, 1), (452, .iaload, 1), (453, .aload_n 0, 1), (454, .iload_n 3, 1), (455, .iconst 2, 1), (456, .iadd, 1), (457, .iaload, 1), (458, .aload_n 0, 1), (459, .iload_n 3, 1), (460, .iconst 3, 1), (461, .iadd, 1), (462, .iaload, 1), (463, .invokevirtual 44, 3), (466, .if_icmp .eq 1034, 3), (469, .iconst 0, 1), (470, .ireturn, 1), (471, .aload_n 1, 1), (472, .aload_n 0, 1), (473, .iload_n 3, 1), (474, .iconst 1, 1), (475, .iadd, 1), (476, .iaload, 1), (477, .aload_n 0, 1), (478, .iload_n 3, 1), (479, .iconst 2, 1)] := decs_of (by decide +kernel)
theorem DL_law_4 : decs code [(480, .iadd, 1), (481, .iaload, 1), (482, .invokevirtual 45, 3), (485, .aload_n 2, 1), (486, .aload_n 0, 1), (487, .iload_n 3, 1), (488, .iconst 1, 1), (489, .iadd, 1), (490, .iaload, 1), (491, .aload_n 0, 1), (492, .iload_n 3, 1), (493, .iconst 2, 1), (494, .iadd, 1), (495, .iaload, 1), (496, .invokevirtual 48, 3), (499, .if_icmp .eq 1001, 3), (502, .iconst 0, 1), (503, .ireturn, 1), (504, .aload_n 1, 1), (505, .aload_n 0, 1), (506, .iload_n 3, 1), (507, .iconst 1, 1), (508, .iadd, 1), (509, .iaload, 1), (510, .invokevirtual 49, 3), (513, .aload_n 2, 1), (514, .aload_n 0, 1), (515, .iload_n 3, 1), (516, .iconst 1, 1), (517, .iadd, 1), (518, .iaload, 1), (519, .invokevirtual 52, 3), (522, .if_icmp .eq 978, 3), (525, .iconst 0, 1), (526, .ireturn, 1), (527, .aload_n 1, 1), (528, .aload_n 0, 1), (529, .iload_n 3, 1), (530, .iconst 1, 1), (531, .iadd, 1), (532, .iaload, 1), (533, .aload_n 0, 1), (534, .iload_n 3, 1), (535, .iconst 2, 1), (536, .iadd, 1), (537, .iaload, 1), (538, .aload_n 0, 1), (539, .iload_n 3, 1), (540, .iconst 3, 1), (541, .iadd, 1), (542, .iaload, 1), (543, .aload_n 0, 1), (544, .iload_n 3, 1), (545, .iconst 4, 1), (546, .iadd, 1), (547, .iaload, 1), (548, .invokevirtual 53, 3), (551, .aload_n 2, 1), (552, .aload_n 0, 1), (553, .iload_n 3, 1)] := decs_of (by decide +kernel)
theorem DL_law_5 : decs code [(554, .iconst 1, 1), (555, .iadd, 1), (556, .iaload, 1), (557, .aload_n 0, 1), (558, .iload_n 3, 1), (559, .iconst 2, 1), (560, .iadd, 1), (561, .iaload, 1), (562, .aload_n 0, 1), (563, .iload_n 3, 1), (564, .iconst 3, 1), (565, .iadd, 1), (566, .iaload, 1), (567, .aload_n 0, 1), (568, .iload_n 3, 1), (569, .iconst 4, 1), (570, .iadd, 1), (571, .iaload, 1), (572, .invokevirtual 56, 3), (575, .if_icmp .eq 925, 3), (578, .iconst 0, 1), (579, .ireturn, 1), (580, .aload_n 1, 1), (581, .aload_n 0, 1), (582, .iload_n 3, 1), (583, .iconst 1, 1), (584, .iadd, 1), (585, .iaload, 1), (586, .invokevirtual 57, 3), (589, .aload_n 2, 1), (590, .aload_n 0, 1), (591, .iload_n 3, 1), (592, .iconst 1, 1), (593, .iadd, 1), (594, .iaload, 1), (595, .invokevirtual 60, 3), (598, .if_icmp .eq 902, 3), (601, .iconst 0, 1), (602, .ireturn, 1), (603, .aload_n 1, 1), (604, .aload_n 0, 1), (605, .iload_n 3, 1), (606, .iconst 1, 1), (607, .iadd, 1), (608, .iaload, 1), (609, .invokevirtual 61, 3), (612, .aload_n 2, 1), (613, .aload_n 0, 1), (614, .iload_n 3, 1), (615, .iconst 1, 1), (616, .iadd, 1), (617, .iaload, 1), (618, .invokevirtual 64, 3), (621, .if_icmp .eq 879, 3), (624, .iconst 0, 1), (625, .ireturn, 1), (626, .aload_n 1, 1), (627, .aload_n 0, 1), (628, .iload_n 3, 1), (629, .iconst 1, 1)] := decs_of (by decide +kernel)
theorem DL_law_6 : decs code [(630, .iadd, 1), (631, .iaload, 1), (632, .aload_n 0, 1), (633, .iload_n 3, 1), (634, .iconst 2, 1), (635, .iadd, 1), (636, .iaload, 1), (637, .invokevirtual 65, 3), (640, .aload_n 2, 1), (641, .aload_n 0, 1), (642, .iload_n 3, 1), (643, .iconst 1, 1), (644, .iadd, 1), (645, .iaload, 1), (646, .aload_n 0, 1), (647, .iload_n 3, 1), (648, .iconst 2, 1), (649, .iadd, 1), (650, .iaload, 1), (651, .invokevirtual 68, 3), (654, .if_icmp .eq 846, 3), (657, .iconst 0, 1), (658, .ireturn, 1), (659, .aload_n 1, 1), (660, .aload_n 0, 1), (661, .iload_n 3, 1), (662, .iconst 1, 1), (663, .iadd, 1), (664, .iaload, 1), (665, .invokevirtual 69, 3), (668, .aload_n 2, 1), (669, .aload_n 0, 1), (670, .iload_n 3, 1), (671, .iconst 1, 1), (672, .iadd, 1), (673, .iaload, 1), (674, .invokevirtual 72, 3), (677, .if_icmp .eq 823, 3), (680, .iconst 0, 1), (681, .ireturn, 1), (682, .aload_n 1, 1), (683, .aload_n 0, 1), (684, .iload_n 3, 1), (685, .iconst 1, 1), (686, .iadd, 1), (687, .iaload, 1), (688, .aload_n 0, 1), (689, .iload_n 3, 1), (690, .iconst 2, 1), (691, .iadd, 1), (692, .iaload, 1), (693, .aload_n 0, 1), (694, .iload_n 3, 1), (695, .iconst 3, 1), (696, .iadd, 1), (697, .iaload, 1), (698, .invokevirtual 73, 3), (701, .aload_n 2, 1), (702, .aload_n 0, 1), (703, .iload_n 3, 1)] := decs_of (by decide +kernel)
theorem DL_law_7 : decs code [(704, .iconst 1, 1), (705, .iadd, 1), (706, .iaload, 1), (707, .aload_n 0, 1), (708, .iload_n 3, 1), (709, .iconst 2, 1), (710, .iadd, 1), (711, .iaload, 1), (712, .aload_n 0, 1), (713, .iload_n 3, 1), (714, .iconst 3, 1), (715, .iadd, 1), (716, .iaload, 1), (717, .invokevirtual 76, 3), (720, .if_icmp .eq 780, 3), (723, .iconst 0, 1), (724, .ireturn, 1), (725, .aload_n 1, 1), (726, .aload_n 0, 1), (727, .iload_n 3, 1), (728, .iconst 1, 1), (729, .iadd, 1), (730, .iaload, 1), (731, .aload_n 0, 1), (732, .iload_n 3, 1), (733, .iconst 2, 1), (734, .iadd, 1), (735, .iaload, 1), (736, .aload_n 0, 1), (737, .iload_n 3, 1), (738, .iconst 3, 1), (739, .iadd, 1), (740, .iaload, 1), (741, .aload_n 0, 1), (742, .iload_n 3, 1), (743, .iconst 4, 1), (744, .iadd, 1), (745, .iaload, 1), (746, .invokevirtual 77, 3), (749, .aload_n 2, 1), (750, .aload_n 0, 1), (751, .iload_n 3, 1), (752, .iconst 1, 1), (753, .iadd, 1), (754, .iaload, 1), (755, .aload_n 0, 1), (756, .iload_n 3, 1), (757, .iconst 2, 1), (758, .iadd, 1), (759, .iaload, 1), (760, .aload_n 0, 1), (761, .iload_n 3, 1), (762, .iconst 3, 1), (763, .iadd, 1), (764, .iaload, 1), (765, .aload_n 0, 1), (766, .iload_n 3, 1), (767, .iconst 4, 1), (768, .iadd, 1), (769, .iaload, 1)] := decs_of (by decide +kernel)
theorem DL_law_8 : decs code [(770, .invokevirtual 80, 3), (773, .if_icmp .eq 727, 3), (776, .iconst 0, 1), (777, .ireturn, 1), (778, .aload_n 1, 1), (779, .aload_n 0, 1), (780, .iload_n 3, 1), (781, .iconst 1, 1), (782, .iadd, 1), (783, .iaload, 1), (784, .aload_n 0, 1), (785, .iload_n 3, 1), (786, .iconst 2, 1), (787, .iadd, 1), (788, .iaload, 1), (789, .invokevirtual 81, 3), (792, .aload_n 2, 1), (793, .aload_n 0, 1), (794, .iload_n 3, 1), (795, .iconst 1, 1), (796, .iadd, 1), (797, .iaload, 1), (798, .aload_n 0, 1), (799, .iload_n 3, 1), (800, .iconst 2, 1), (801, .iadd, 1), (802, .iaload, 1), (803, .invokevirtual 84, 3), (806, .if_icmp .eq 694, 3), (809, .iconst 0, 1), (810, .ireturn, 1), (811, .aload_n 1, 1), (812, .aload_n 0, 1), (813, .iload_n 3, 1), (814, .iconst 1, 1), (815, .iadd, 1), (816, .iaload, 1), (817, .invokevirtual 85, 3), (820, .aload_n 2, 1), (821, .aload_n 0, 1), (822, .iload_n 3, 1), (823, .iconst 1, 1), (824, .iadd, 1), (825, .iaload, 1), (826, .invokevirtual 88, 3), (829, .if_icmp .eq 671, 3), (832, .iconst 0, 1), (833, .ireturn, 1), (834, .aload_n 1, 1), (835, .aload_n 0, 1), (836, .iload_n 3, 1), (837, .iconst 1, 1), (838, .iadd, 1), (839, .iaload, 1), (840, .aload_n 0, 1), (841, .iload_n 3, 1), (842, .iconst 2, 1), (843, .iadd, 1), (844, .iaload, 1), (845, .invokevirtual 89, 3)] := decs_of (by decide +kernel)
theorem DL_law_9 : decs code [(848, .aload_n 2, 1), (849, .aload_n 0, 1), (850, .iload_n 3, 1), (851, .iconst 1, 1), (852, .iadd, 1), (853, .iaload, 1), (854, .aload_n 0, 1), (855, .iload_n 3, 1), (856, .iconst 2, 1), (857, .iadd, 1), (858, .iaload, 1), (859, .invokevirtual 92, 3), (862, .if_icmp .eq 638, 3), (865, .iconst 0, 1), (866, .ireturn, 1), (867, .aload_n 1, 1), (868, .aload_n 0, 1), (869, .iload_n 3, 1), (870, .iconst 1, 1), (871, .iadd, 1), (872, .iaload, 1), (873, .aload_n 0, 1), (874, .iload_n 3, 1), (875, .iconst 2, 1), (876, .iadd, 1), (877, .iaload, 1), (878, .aload_n 0, 1), (879, .iload_n 3, 1), (880, .iconst 3, 1), (881, .iadd, 1), (882, .iaload, 1), (883, .invokevirtual 93, 3), (886, .aload_n 2, 1), (887, .aload_n 0, 1), (888, .iload_n 3, 1), (889, .iconst 1, 1), (890, .iadd, 1), (891, .iaload, 1), (892, .aload_n 0, 1), (893, .iload_n 3, 1), (894, .iconst 2, 1), (895, .iadd, 1), (896, .iaload, 1), (897, .aload_n 0, 1), (898, .iload_n 3, 1), (899, .iconst 3, 1), (900, .iadd, 1), (901, .iaload, 1), (902, .invokevirtual 96, 3), (905, .if_icmp .eq 595, 3), (908, .iconst 0, 1), (909, .ireturn, 1), (910, .aload_n 1, 1), (911, .aload_n 0, 1), (912, .iload_n 3, 1), (913, .iconst 1, 1), (914, .iadd, 1), (915, .iaload, 1), (916, .aload_n 0, 1), (917, .iload_n 3, 1)] := decs_of (by decide +kernel)
theorem DL_law_10 : decs code [(918, .iconst 2, 1), (919, .iadd, 1), (920, .iaload, 1), (921, .aload_n 0, 1), (922, .iload_n 3, 1), (923, .iconst 3, 1), (924, .iadd, 1), (925, .iaload, 1), (926, .invokevirtual 97, 3), (929, .aload_n 2, 1), (930, .aload_n 0, 1), (931, .iload_n 3, 1), (932, .iconst 1, 1), (933, .iadd, 1), (934, .iaload, 1), (935, .aload_n 0, 1), (936, .iload_n 3, 1), (937, .iconst 2, 1), (938, .iadd, 1), (939, .iaload, 1), (940, .aload_n 0, 1), (941, .iload_n 3, 1), (942, .iconst 3, 1), (943, .iadd, 1), (944, .iaload, 1), (945, .invokevirtual 100, 3), (948, .if_icmp .eq 552, 3), (951, .iconst 0, 1), (952, .ireturn, 1), (953, .aload_n 1, 1), (954, .aload_n 0, 1), (955, .iload_n 3, 1), (956, .iconst 1, 1), (957, .iadd, 1), (958, .iaload, 1), (959, .invokevirtual 101, 3), (962, .aload_n 2, 1), (963, .aload_n 0, 1), (964, .iload_n 3, 1), (965, .iconst 1, 1), (966, .iadd, 1), (967, .iaload, 1), (968, .invokevirtual 104, 3), (971, .if_icmp .eq 529, 3), (974, .iconst 0, 1), (975, .ireturn, 1), (976, .aload_n 1, 1), (977, .aload_n 0, 1), (978, .iload_n 3, 1), (979, .iconst 1, 1), (980, .iadd, 1), (981, .iaload, 1), (982, .aload_n 0, 1), (983, .iload_n 3, 1), (984, .iconst 2, 1), (985, .iadd, 1), (986, .iaload, 1), (987, .invokevirtual 105, 3), (990, .aload_n 2, 1), (991, .aload_n 0, 1)] := decs_of (by decide +kernel)
theorem DL_law_11 : decs code [(992, .iload_n 3, 1), (993, .iconst 1, 1), (994, .iadd, 1), (995, .iaload, 1), (996, .aload_n 0, 1), (997, .iload_n 3, 1), (998, .iconst 2, 1), (999, .iadd, 1), (1000, .iaload, 1), (1001, .invokevirtual 108, 3), (1004, .if_icmp .eq 496, 3), (1007, .iconst 0, 1), (1008, .ireturn, 1), (1009, .aload_n 1, 1), (1010, .aload_n 0, 1), (1011, .iload_n 3, 1), (1012, .iconst 1, 1), (1013, .iadd, 1), (1014, .iaload, 1), (1015, .aload_n 0, 1), (1016, .iload_n 3, 1), (1017, .iconst 2, 1), (1018, .iadd, 1), (1019, .iaload, 1), (1020, .invokevirtual 109, 3), (1023, .aload_n 2, 1), (1024, .aload_n 0, 1), (1025, .iload_n 3, 1), (1026, .iconst 1, 1), (1027, .iadd, 1), (1028, .iaload, 1), (1029, .aload_n 0, 1), (1030, .iload_n 3, 1), (1031, .iconst 2, 1), (1032, .iadd, 1), (1033, .iaload, 1), (1034, .invokevirtual 112, 3), (1037, .if_icmp .eq 463, 3), (1040, .iconst 0, 1), (1041, .ireturn, 1), (1042, .aload_n 1, 1), (1043, .aload_n 0, 1), (1044, .iload_n 3, 1), (1045, .iconst 1, 1), (1046, .iadd, 1), (1047, .iaload, 1), (1048, .invokevirtual 113, 3), (1051, .aload_n 2, 1), (1052, .aload_n 0, 1), (1053, .iload_n 3, 1), (1054, .iconst 1, 1), (1055, .iadd, 1), (1056, .iaload, 1), (1057, .invokevirtual 116, 3), (1060, .if_icmp .eq 440, 3), (1063, .iconst 0, 1), (1064, .ireturn, 1), (1065, .aload_n 1, 1), (1066, .aload_n 0, 1), (1067, .iload_n 3, 1)] := decs_of (by decide +kernel)
theorem DL_law_12 : decs code [(1068, .iconst 1, 1), (1069, .iadd, 1), (1070, .iaload, 1), (1071, .invokevirtual 117, 3), (1074, .aload_n 2, 1), (1075, .aload_n 0, 1), (1076, .iload_n 3, 1), (1077, .iconst 1, 1), (1078, .iadd, 1), (1079, .iaload, 1), (1080, .invokevirtual 120, 3), (1083, .if_icmp .eq 417, 3), (1086, .iconst 0, 1), (1087, .ireturn, 1), (1088, .aload_n 1, 1), (1089, .aload_n 0, 1), (1090, .iload_n 3, 1), (1091, .iconst 1, 1), (1092, .iadd, 1), (1093, .iaload, 1), (1094, .invokevirtual 121, 3), (1097, .aload_n 2, 1), (1098, .aload_n 0, 1), (1099, .iload_n 3, 1), (1100, .iconst 1, 1), (1101, .iadd, 1), (1102, .iaload, 1), (1103, .invokevirtual 124, 3), (1106, .if_icmp .eq 394, 3), (1109, .iconst 0, 1), (1110, .ireturn, 1), (1111, .aload_n 1, 1), (1112, .aload_n 0, 1), (1113, .iload_n 3, 1), (1114, .iconst 1, 1), (1115, .iadd, 1), (1116, .iaload, 1), (1117, .invokevirtual 125, 3), (1120, .aload_n 2, 1), (1121, .aload_n 0, 1), (1122, .iload_n 3, 1), (1123, .iconst 1, 1), (1124, .iadd, 1), (1125, .iaload, 1), (1126, .invokevirtual 128, 3), (1129, .if_icmp .eq 371, 3), (1132, .iconst 0, 1), (1133, .ireturn, 1), (1134, .aload_n 1, 1), (1135, .invokevirtual 129, 3), (1138, .aload_n 2, 1), (1139, .invokevirtual 133, 3), (1142, .if_icmp .eq 358, 3), (1145, .iconst 0, 1), (1146, .ireturn, 1), (1147, .aload_n 1, 1), (1148, .aload_n 0, 1), (1149, .iload_n 3, 1), (1150, .iconst 1, 1), (1151, .iadd, 1)] := decs_of (by decide +kernel)
theorem DL_law_13 : decs code [(1152, .iaload, 1), (1153, .invokevirtual 134, 3), (1156, .aload_n 2, 1), (1157, .aload_n 0, 1), (1158, .iload_n 3, 1), (1159, .iconst 1, 1), (1160, .iadd, 1), (1161, .iaload, 1), (1162, .invokevirtual 137, 3), (1165, .if_icmp .eq 335, 3), (1168, .iconst 0, 1), (1169, .ireturn, 1), (1170, .aload_n 1, 1), (1171, .aload_n 0, 1), (1172, .iload_n 3, 1), (1173, .iconst 1, 1), (1174, .iadd, 1), (1175, .iaload, 1), (1176, .invokevirtual 138, 3), (1179, .aload_n 2, 1), (1180, .aload_n 0, 1), (1181, .iload_n 3, 1), (1182, .iconst 1, 1), (1183, .iadd, 1), (1184, .iaload, 1), (1185, .invokevirtual 141, 3), (1188, .if_icmp .eq 312, 3), (1191, .iconst 0, 1), (1192, .ireturn, 1), (1193, .aload_n 1, 1), (1194, .aload_n 0, 1), (1195, .iload_n 3, 1), (1196, .iconst 1, 1), (1197, .iadd, 1), (1198, .iaload, 1), (1199, .invokevirtual 142, 3), (1202, .aload_n 2, 1), (1203, .aload_n 0, 1), (1204, .iload_n 3, 1), (1205, .iconst 1, 1), (1206, .iadd, 1), (1207, .iaload, 1), (1208, .invokevirtual 145, 3), (1211, .if_icmp .eq 289, 3), (1214, .iconst 0, 1), (1215, .ireturn, 1), (1216, .aload_n 1, 1), (1217, .aload_n 0, 1), (1218, .iload_n 3, 1), (1219, .iconst 1, 1), (1220, .iadd, 1), (1221, .iaload, 1), (1222, .invokevirtual 146, 3), (1225, .aload_n 2, 1), (1226, .aload_n 0, 1), (1227, .iload_n 3, 1), (1228, .iconst 1, 1), (1229, .iadd, 1), (1230, .iaload, 1), (1231, .invokevirtual 149, 3)] := decs_of (by decide +kernel)
theorem DL_law_14 : decs code [(1234, .if_icmp .eq 266, 3), (1237, .iconst 0, 1), (1238, .ireturn, 1), (1239, .aload_n 1, 1), (1240, .aload_n 0, 1), (1241, .iload_n 3, 1), (1242, .iconst 1, 1), (1243, .iadd, 1), (1244, .iaload, 1), (1245, .aload_n 0, 1), (1246, .iload_n 3, 1), (1247, .iconst 2, 1), (1248, .iadd, 1), (1249, .iaload, 1), (1250, .invokevirtual 150, 3), (1253, .aload_n 2, 1), (1254, .aload_n 0, 1), (1255, .iload_n 3, 1), (1256, .iconst 1, 1), (1257, .iadd, 1), (1258, .iaload, 1), (1259, .aload_n 0, 1), (1260, .iload_n 3, 1), (1261, .iconst 2, 1), (1262, .iadd, 1), (1263, .iaload, 1), (1264, .invokevirtual 153, 3), (1267, .if_icmp .eq 233, 3), (1270, .iconst 0, 1), (1271, .ireturn, 1), (1272, .aload_n 1, 1), (1273, .aload_n 0, 1), (1274, .iload_n 3, 1), (1275, .iconst 1, 1), (1276, .iadd, 1), (1277, .iaload, 1), (1278, .aload_n 0, 1), (1279, .iload_n 3, 1), (1280, .iconst 2, 1), (1281, .iadd, 1), (1282, .iaload, 1), (1283, .aload_n 0, 1), (1284, .iload_n 3, 1), (1285, .iconst 3, 1), (1286, .iadd, 1), (1287, .iaload, 1), (1288, .i2l, 1), (1289, .bipush 32, 2), (1291, .lshl, 1), (1292, .aload_n 0, 1), (1293, .iload_n 3, 1), (1294, .iconst 4, 1), (1295, .iadd, 1), (1296, .iaload, 1), (1297, .i2l, 1), (1298, .ldc2_w 154, 3), (1301, .land, 1), (1302, .lor, 1), (1303, .invokevirtual 156, 3), (1306, .aload_n 2, 1)] := decs_of (by decide +kernel)
theorem DL_law_15 : decs code [(1307, .aload_n 0, 1), (1308, .iload_n 3, 1), (1309, .iconst 1, 1), (1310, .iadd, 1), (1311, .iaload, 1), (1312, .aload_n 0, 1), (1313, .iload_n 3, 1), (1314, .iconst 2, 1), (1315, .iadd, 1), (1316, .iaload, 1), (1317, .aload_n 0, 1), (1318, .iload_n 3, 1), (1319, .iconst 3, 1), (1320, .iadd, 1), (1321, .iaload, 1), (1322, .i2l, 1), (1323, .bipush 32, 2), (1325, .lshl, 1), (1326, .aload_n 0, 1), (1327, .iload_n 3, 1), (1328, .iconst 4, 1), (1329, .iadd, 1), (1330, .iaload, 1), (1331, .i2l, 1), (1332, .ldc2_w 154, 3), (1335, .land, 1), (1336, .lor, 1), (1337, .invokevirtual 160, 3), (1340, .if_icmp .eq 160, 3), (1343, .iconst 0, 1), (1344, .ireturn, 1), (1345, .aload_n 1, 1), (1346, .aload_n 0, 1), (1347, .iload_n 3, 1), (1348, .iconst 1, 1), (1349, .iadd, 1), (1350, .iaload, 1), (1351, .aload_n 0, 1), (1352, .iload_n 3, 1), (1353, .iconst 2, 1), (1354, .iadd, 1), (1355, .iaload, 1), (1356, .invokevirtual 161, 3), (1359, .aload_n 2, 1), (1360, .aload_n 0, 1), (1361, .iload_n 3, 1), (1362, .iconst 1, 1), (1363, .iadd, 1), (1364, .iaload, 1), (1365, .aload_n 0, 1), (1366, .iload_n 3, 1), (1367, .iconst 2, 1), (1368, .iadd, 1), (1369, .iaload, 1), (1370, .invokevirtual 165, 3), (1373, .lcmp, 1), (1374, .ifCond .eq 126, 3), (1377, .iconst 0, 1), (1378, .ireturn, 1), (1379, .aload_n 1, 1)] := decs_of (by decide +kernel)
theorem DL_law_16 : decs code [(1380, .aload_n 0, 1), (1381, .iload_n 3, 1), (1382, .iconst 1, 1), (1383, .iadd, 1), (1384, .iaload, 1), (1385, .invokevirtual 166, 3), (1388, .aload_n 2, 1), (1389, .aload_n 0, 1), (1390, .iload_n 3, 1), (1391, .iconst 1, 1), (1392, .iadd, 1), (1393, .iaload, 1), (1394, .invokevirtual 169, 3), (1397, .if_icmp .eq 103, 3), (1400, .iconst 0, 1), (1401, .ireturn, 1), (1402, .aload_n 1, 1), (1403, .invokevirtual 170, 3), (1406, .aload_n 2, 1), (1407, .invokevirtual 173, 3), (1410, .if_icmp .eq 90, 3), (1413, .iconst 0, 1), (1414, .ireturn, 1), (1415, .aload_n 1, 1), (1416, .invokevirtual 174, 3), (1419, .aload_n 2, 1), (1420, .invokevirtual 177, 3), (1423, .if_icmp .eq 77, 3), (1426, .iconst 0, 1), (1427, .ireturn, 1), (1428, .aload_n 1, 1), (1429, .aload_n 0, 1), (1430, .iload_n 3, 1), (1431, .iconst 1, 1), (1432, .iadd, 1), (1433, .iaload, 1), (1434, .invokevirtual 178, 3), (1437, .aload_n 2, 1), (1438, .aload_n 0, 1), (1439, .iload_n 3, 1), (1440, .iconst 1, 1), (1441, .iadd, 1), (1442, .iaload, 1), (1443, .invokevirtual 181, 3), (1446, .if_icmp .eq 54, 3), (1449, .iconst 0, 1), (1450, .ireturn, 1), (1451, .aload_n 1, 1), (1452, .invokevirtual 182, 3), (1455, .aload_n 2, 1), (1456, .invokevirtual 185, 3), (1459, .if_icmp .eq 41, 3), (1462, .iconst 0, 1), (1463, .ireturn, 1), (1464, .aload_n 1, 1), (1465, .invokevirtual 186, 3), (1468, .aload_n 2, 1), (1469, .invokevirtual 189, 3), (1472, .if_icmp .eq 28, 3), (1475, .iconst 0, 1)] := decs_of (by decide +kernel)
theorem DL_law_17 : decs code [(1476, .ireturn, 1), (1477, .aload_n 1, 1), (1478, .aload_n 0, 1), (1479, .iload_n 3, 1), (1480, .iconst 1, 1), (1481, .iadd, 1), (1482, .iaload, 1), (1483, .invokevirtual 190, 3), (1486, .aload_n 2, 1), (1487, .aload_n 0, 1), (1488, .iload_n 3, 1), (1489, .iconst 1, 1), (1490, .iadd, 1), (1491, .iaload, 1), (1492, .invokevirtual 193, 3), (1495, .if_icmp .eq 5, 3), (1498, .iconst 0, 1), (1499, .ireturn, 1), (1500, .iinc 3 5, 3), (1503, .goto (-1485), 3), (1506, .iconst 1, 1), (1507, .ireturn, 1)] := decs_of (by decide +kernel)
theorem DX0_append_0 : decs cX0_append [(0, .aload_n 0, 1), (1, .getfield 18, 3), (4, .aload_n 0, 1), (5, .getfield 33, 3), (8, .iload_n 1, 1), (9, .iload_n 2, 1), (10, .invokevirtual 48, 3), (13, .istore_n 3, 1), (14, .iconst 0, 1), (15, .istore 4, 2), (17, .iload 4, 2), (19, .bipush 16, 2), (21, .if_icmp .ge 55, 3), (24, .aload_n 0, 1), (25, .getfield 26, 3), (28, .sipush 153, 3), (31, .if_icmp .ge 45, 3), (34, .iload_n 3, 1), (35, .iload 4, 2), (37, .ishr, 1), (38, .iconst 1, 1), (39, .iand, 1), (40, .iconst 1, 1), (41, .if_icmp .ne 29, 3), (44, .aload_n 0, 1), (45, .getfield 22, 3), (48, .aload_n 0, 1), (49, .getfield 26, 3), (52, .iload_n 1, 1), (53, .iload_n 2, 1), (54, .iload 4, 2), (56, .invokestatic 52, 3), (59, .iastore, 1), (60, .aload_n 0, 1), (61, .dup, 1), (62, .getfield 26, 3), (65, .iconst 1, 1), (66, .iadd, 1), (67, .putfield 26, 3), (70, .iinc 4 1, 3), (73, .goto (-56), 3), (76, .return_, 1)] := decs_of (by decide +kernel)
theorem DX0_dropClosed_0 : decs cX0_dropClosed [(0, .iconst 0, 1), (1, .istore_n 1, 1), (2, .iconst 0, 1), (3, .istore_n 2, 1), (4, .iload_n 2, 1), (5, .aload_n 0, 1), (6, .getfield 26, 3), (9, .if_icmp .ge 44, 3), (12, .aload_n 0, 1), (13, .getfield 18, 3), (16, .aload_n 0, 1), (17, .getfield 33, 3), (20, .aload_n 0, 1), (21, .getfield 22, 3), (24, .iload_n 2, 1), (25, .iaload, 1), (26, .invokevirtual 63, 3), (29, .ifCond .eq 18, 3), (32, .aload_n 0, 1), (33, .getfield 22, 3), (36, .iload_n 1, 1), (37, .aload_n 0, 1), (38, .getfield 22, 3), (41, .iload_n 2, 1), (42, .iaload, 1), (43, .iastore, 1), (44, .iinc 1 1, 3), (47, .iinc 2 1, 3), (50, .goto (-46), 3), (53, .aload_n 0, 1), (54, .iload_n 1, 1), (55, .putfield 26, 3), (58, .return_, 1)] := decs_of (by decide +kernel)
theorem DX0_extend_0 : decs cX0_extend [(0, .aload_n 0, 1), (1, .getfield 18, 3), (4, .aload_n 1, 1), (5, .aload_n 0, 1), (6, .getfield 33, 3), (9, .invokevirtual 56, 3), (12, .aload_n 0, 1), (13, .dup, 1), (14, .getfield 30, 3), (17, .iconst 1, 1), (18, .iadd, 1), (19, .putfield 30, 3), (22, .aload_n 0, 1), (23, .invokevirtual 60, 3), (26, .aload_n 0, 1), (27, .getfield 18, 3), (30, .getfield 41, 3), (33, .iconst 1, 1), (34, .isub, 1), (35, .istore_n 2, 1), (36, .iconst 0, 1), (37, .istore_n 3, 1), (38, .iload_n 3, 1), (39, .iload_n 2, 1), (40, .if_icmp .gt 15, 3), (43, .aload_n 0, 1), (44, .iload_n 3, 1), (45, .iload_n 2, 1), (46, .invokevirtual 44, 3), (49, .iinc 3 1, 3), (52, .goto (-14), 3), (55, .return_, 1)] := decs_of (by decide +kernel)
theorem DX0_init_0 : decs cX0_init [(0, .aload_n 0, 1), (1, .invokespecial 3, 3), (4, .aload_n 0, 1), (5, .iconst 0, 1), (6, .putfield 9, 3), (9, .aload_n 0, 1), (10, .new 15, 3), (13, .dup, 1), (14, .invokespecial 17, 3), (17, .putfield 18, 3), (20, .aload_n 0, 1), (21, .sipush 153, 3), (24, .newarray .int, 2), (26, .putfield 22, 3), (29, .aload_n 0, 1), (30, .iconst 0, 1), (31, .putfield 26, 3), (34, .aload_n 0, 1), (35, .iconst 0, 1), (36, .putfield 30, 3), (39, .aload_n 0, 1), (40, .aload_n 1, 1), (41, .putfield 33, 3), (44, .return_, 1)] := decs_of (by decide +kernel)
theorem DX0_lay_0 : decs cX0_lay [(0, .aload_n 0, 1), (1, .getfield 18, 3), (4, .aload_n 1, 1), (5, .invokevirtual 37, 3), (8, .aload_n 0, 1), (9, .iconst 1, 1), (10, .putfield 9, 3), (13, .aload_n 0, 1), (14, .iconst 0, 1), (15, .putfield 26, 3), (18, .aload_n 0, 1), (19, .iconst 0, 1), (20, .putfield 30, 3), (23, .iconst 0, 1), (24, .istore_n 2, 1), (25, .iload_n 2, 1), (26, .aload_n 0, 1), (27, .getfield 18, 3), (30, .getfield 41, 3), (33, .if_icmp .ge 34, 3), (36, .iload_n 2, 1), (37, .istore_n 3, 1), (38, .iload_n 3, 1), (39, .aload_n 0, 1), (40, .getfield 18, 3), (43, .getfield 41, 3), (46, .if_icmp .ge 15, 3), (49, .aload_n 0, 1), (50, .iload_n 2, 1), (51, .iload_n 3, 1), (52, .invokevirtual 44, 3), (55, .iinc 3 1, 3), (58, .goto (-20), 3), (61, .iinc 2 1, 3), (64, .goto (-39), 3), (67, .return_, 1)] := decs_of (by decide +kernel)
theorem DX0_rotate_0 : decs cX0_rotate [(0, .aload_n 0, 1), (1, .getfield 22, 3), (4, .iconst 0, 1), (5, .iaload, 1), (6, .istore_n 1, 1), (7, .iconst 1, 1), (8, .istore_n 2, 1), (9, .iload_n 2, 1), (10, .aload_n 0, 1), (11, .getfield 26, 3), (14, .if_icmp .ge 23, 3), (17, .aload_n 0, 1), (18, .getfield 22, 3), (21, .iload_n 2, 1), (22, .iconst 1, 1), (23, .isub, 1), (24, .aload_n 0, 1), (25, .getfield 22, 3), (28, .iload_n 2, 1), (29, .iaload, 1), (30, .iastore, 1), (31, .iinc 2 1, 3), (34, .goto (-25), 3), (37, .aload_n 0, 1), (38, .getfield 22, 3), (41, .aload_n 0, 1), (42, .getfield 26, 3), (45, .iconst 1, 1), (46, .isub, 1), (47, .iload_n 1, 1), (48, .iastore, 1), (49, .return_, 1)] := decs_of (by decide +kernel)
theorem DX1_init_0 : decs cX1_init [(0, .aload_n 0, 1), (1, .invokespecial 3, 3), (4, .aload_n 0, 1), (5, .new 9, 3), (8, .dup, 1), (9, .invokespecial 11, 3), (12, .putfield 12, 3), (15, .aload_n 0, 1), (16, .bipush 6, 2), (18, .newarray .int, 2), (20, .putfield 18, 3), (23, .aload_n 0, 1), (24, .aload_n 1, 1), (25, .putfield 22, 3), (28, .aload_n 0, 1), (29, .aload_n 2, 1), (30, .putfield 26, 3), (33, .aload_n 0, 1), (34, .new 30, 3), (37, .dup, 1), (38, .aload_n 1, 1), (39, .getfield 32, 3), (42, .aload_n 0, 1), (43, .getfield 12, 3), (46, .invokespecial 38, 3), (49, .putfield 41, 3), (52, .return_, 1)] := decs_of (by decide +kernel)
theorem DX1_isAllowed_0 : decs cX1_isAllowed [(0, .aload_n 0, 1), (1, .getfield 12, 3), (4, .aload_n 1, 1), (5, .aload_n 0, 1), (6, .getfield 22, 3), (9, .getfield 32, 3), (12, .invokevirtual 84, 3), (15, .aload_n 0, 1), (16, .getfield 26, 3), (19, .aload_n 0, 1), (20, .getfield 12, 3), (23, .invokevirtual 88, 3), (26, .ifCond .ne 7, 3), (29, .iconst 1, 1), (30, .goto 4, 3), (33, .iconst 0, 1), (34, .istore_n 2, 1), (35, .aload_n 0, 1), (36, .getfield 12, 3), (39, .dup, 1), (40, .getfield 94, 3), (43, .iconst 1, 1), (44, .isub, 1), (45, .putfield 94, 3), (48, .iload_n 2, 1), (49, .ireturn, 1)] := decs_of (by decide +kernel)
theorem DX1_isFilledBy_0 : decs cX1_isFilledBy [(0, .aload_n 1, 1), (1, .aload_n 0, 1), (2, .getfield 22, 3), (5, .getfield 32, 3), (8, .iload_n 2, 1), (9, .invokevirtual 95, 3), (12, .ifCond .eq 15, 3), (15, .aload_n 0, 1), (16, .iload_n 3, 1), (17, .aload_n 1, 1), (18, .getfield 94, 3), (21, .invokevirtual 99, 3), (24, .ifCond .ne 5, 3), (27, .iconst 0, 1), (28, .ireturn, 1), (29, .aload_n 0, 1), (30, .getfield 18, 3), (33, .iload_n 2, 1), (34, .sipush 1000, 3), (37, .idiv, 1), (38, .iaload, 1), (39, .iload_n 2, 1), (40, .bipush 10, 2), (42, .idiv, 1), (43, .bipush 10, 2), (45, .irem, 1), (46, .if_icmp .ne 7, 3), (49, .iconst 1, 1), (50, .goto 4, 3), (53, .iconst 0, 1), (54, .istore 4, 2), (56, .iload 4, 2), (58, .ifCond .eq 37, 3), (61, .aload_n 0, 1), (62, .getfield 18, 3), (65, .iload_n 2, 1), (66, .bipush 100, 2), (68, .idiv, 1), (69, .bipush 10, 2), (71, .irem, 1), (72, .iaload, 1), (73, .aload_n 0, 1), (74, .getfield 22, 3), (77, .getfield 32, 3), (80, .getfield 62, 3), (83, .iload_n 2, 1), (84, .bipush 10, 2), (86, .irem, 1), (87, .iaload, 1), (88, .if_icmp .ne 7, 3), (91, .iconst 1, 1), (92, .goto 4, 3), (95, .iconst 0, 1), (96, .istore 4, 2), (98, .aload_n 0, 1), (99, .getfield 12, 3), (102, .aload_n 1, 1), (103, .invokevirtual 51, 3), (106, .aload_n 0, 1), (107, .getfield 12, 3)] := decs_of (by decide +kernel)
theorem DX1_isFilledBy_1 : decs cX1_isFilledBy [(110, .aload_n 0, 1), (111, .getfield 18, 3), (114, .aload_n 0, 1), (115, .getfield 22, 3), (118, .getfield 32, 3), (121, .invokevirtual 84, 3), (124, .iload 4, 2), (126, .ifCond .eq 40, 3), (129, .aload_n 0, 1), (130, .getfield 12, 3), (133, .aload_n 0, 1), (134, .getfield 22, 3), (137, .getfield 32, 3), (140, .invokevirtual 103, 3), (143, .bipush (-5), 2), (145, .if_icmp .ne 21, 3), (148, .aload_n 0, 1), (149, .getfield 26, 3), (152, .aload_n 0, 1), (153, .getfield 12, 3), (156, .invokevirtual 88, 3), (159, .ifCond .ne 7, 3), (162, .iconst 1, 1), (163, .goto 4, 3), (166, .iconst 0, 1), (167, .ireturn, 1)] := decs_of (by decide +kernel)
theorem DX1_spread_0 : decs cX1_spread [(0, .iload_n 1, 1), (1, .istore_n 3, 1), (2, .iconst 0, 1), (3, .istore 4, 2), (5, .iload 4, 2), (7, .iload_n 2, 1), (8, .if_icmp .ge 58, 3), (11, .aload_n 0, 1), (12, .getfield 18, 3), (15, .iload 4, 2), (17, .iload_n 3, 1), (18, .bipush 10, 2), (20, .irem, 1), (21, .iastore, 1), (22, .aload_n 0, 1), (23, .getfield 18, 3), (26, .iload 4, 2), (28, .iaload, 1), (29, .iconst 1, 1), (30, .if_icmp .lt 23, 3), (33, .aload_n 0, 1), (34, .getfield 18, 3), (37, .iload 4, 2), (39, .iaload, 1), (40, .aload_n 0, 1), (41, .getfield 22, 3), (44, .getfield 32, 3), (47, .getfield 45, 3), (50, .if_icmp .lt 5, 3), (53, .iconst 0, 1), (54, .ireturn, 1), (55, .iload_n 3, 1), (56, .bipush 10, 2), (58, .idiv, 1), (59, .istore_n 3, 1), (60, .iinc 4 1, 3), (63, .goto (-58), 3), (66, .iload_n 3, 1), (67, .ifCond .ne 7, 3), (70, .iconst 1, 1), (71, .goto 4, 3), (74, .iconst 0, 1), (75, .ireturn, 1)] := decs_of (by decide +kernel)
theorem DX1_way_0 : decs cX1_way [(0, .aload_n 0, 1), (1, .getfield 12, 3), (4, .aload_n 1, 1), (5, .invokevirtual 51, 3), (8, .aload_n 0, 1), (9, .getfield 41, 3), (12, .invokevirtual 55, 3), (15, .aload_n 0, 1), (16, .getfield 41, 3), (19, .iload_n 2, 1), (20, .sipush 1000, 3), (23, .idiv, 1), (24, .iload_n 2, 1), (25, .bipush 10, 2), (27, .idiv, 1), (28, .bipush 10, 2), (30, .irem, 1), (31, .invokevirtual 58, 3), (34, .aload_n 0, 1), (35, .getfield 41, 3), (38, .iload_n 2, 1), (39, .bipush 100, 2), (41, .idiv, 1), (42, .bipush 10, 2), (44, .irem, 1), (45, .aload_n 0, 1), (46, .getfield 22, 3), (49, .getfield 32, 3), (52, .getfield 62, 3), (55, .iload_n 2, 1), (56, .bipush 10, 2), (58, .irem, 1), (59, .iaload, 1), (60, .invokevirtual 58, 3), (63, .iconst 0, 1), (64, .istore 4, 2), (66, .aload_n 0, 1), (67, .getfield 41, 3), (70, .invokevirtual 65, 3), (73, .istore 5, 2), (75, .iconst 0, 1), (76, .istore 6, 2), (78, .iload 6, 2), (80, .ldc 69, 2), (82, .if_icmp .ge 55, 3), (85, .iload 5, 2), (87, .ifCond .eq 50, 3), (90, .aload_n 0, 1), (91, .aload_n 0, 1), (92, .getfield 41, 3), (95, .getfield 70, 3), (98, .invokevirtual 73, 3), (101, .ifCond .eq 21, 3), (104, .iload 4, 2), (106, .iload_n 3, 1), (107, .if_icmp .ne 12, 3), (110, .aload_n 0, 1), (111, .getfield 41, 3), (114, .iconst 0, 1), (115, .invokevirtual 77, 3)] := decs_of (by decide +kernel)
theorem DX1_way_1 : decs cX1_way [(118, .ireturn, 1), (119, .iinc 4 1, 3), (122, .aload_n 0, 1), (123, .getfield 41, 3), (126, .invokevirtual 81, 3), (129, .istore 5, 2), (131, .iinc 6 1, 3), (134, .goto (-56), 3), (137, .iload_n 3, 1), (138, .iconst (-1), 1), (139, .if_icmp .ne 8, 3), (142, .iload 4, 2), (144, .goto 4, 3), (147, .iconst (-1), 1), (148, .ireturn, 1)] := decs_of (by decide +kernel)
theorem DX10_digits_0 : decs cX10_digits [(0, .iconst 0, 1), (1, .istore_n 2, 1), (2, .aload_n 0, 1), (3, .getfield 9, 3), (6, .iconst 1, 1), (7, .isub, 1), (8, .istore_n 3, 1), (9, .iload_n 3, 1), (10, .ifCond .lt 23, 3), (13, .bipush 10, 2), (15, .iload_n 2, 1), (16, .imul, 1), (17, .aload_n 0, 1), (18, .getfield 15, 3), (21, .iload_n 3, 1), (22, .iaload, 1), (23, .iadd, 1), (24, .iload_n 1, 1), (25, .iadd, 1), (26, .istore_n 2, 1), (27, .iinc 3 (-1), 3), (30, .goto (-21), 3), (33, .iload_n 2, 1), (34, .ireturn, 1)] := decs_of (by decide +kernel)
theorem DX10_first_0 : decs cX10_first [(0, .iconst 1, 1), (1, .istore_n 1, 1), (2, .iconst 0, 1), (3, .istore_n 2, 1), (4, .iload_n 2, 1), (5, .aload_n 0, 1), (6, .getfield 9, 3), (9, .if_icmp .ge 46, 3), (12, .aload_n 0, 1), (13, .getfield 15, 3), (16, .iload_n 2, 1), (17, .aload_n 0, 1), (18, .getfield 19, 3), (21, .iload_n 2, 1), (22, .iaload, 1), (23, .iastore, 1), (24, .iload_n 1, 1), (25, .ifCond .eq 22, 3), (28, .aload_n 0, 1), (29, .getfield 19, 3), (32, .iload_n 2, 1), (33, .iaload, 1), (34, .aload_n 0, 1), (35, .getfield 22, 3), (38, .iload_n 2, 1), (39, .iaload, 1), (40, .if_icmp .gt 7, 3), (43, .iconst 1, 1), (44, .goto 4, 3), (47, .iconst 0, 1), (48, .istore_n 1, 1), (49, .iinc 2 1, 3), (52, .goto (-48), 3), (55, .iload_n 1, 1), (56, .ifCond .eq 20, 3), (59, .aload_n 0, 1), (60, .aload_n 0, 1), (61, .getfield 9, 3), (64, .iconst 1, 1), (65, .isub, 1), (66, .invokevirtual 25, 3), (69, .ifCond .eq 7, 3), (72, .iconst 1, 1), (73, .goto 4, 3), (76, .iconst 0, 1), (77, .ireturn, 1)] := decs_of (by decide +kernel)
theorem DX10_hold_0 : decs cX10_hold [(0, .aload_n 0, 1), (1, .getfield 19, 3), (4, .iload_n 1, 1), (5, .iload_n 2, 1), (6, .iastore, 1), (7, .aload_n 0, 1), (8, .getfield 22, 3), (11, .iload_n 1, 1), (12, .iload_n 2, 1), (13, .iastore, 1), (14, .return_, 1)] := decs_of (by decide +kernel)
theorem DX10_init_0 : decs cX10_init [(0, .aload_n 0, 1), (1, .invokespecial 3, 3), (4, .aload_n 0, 1), (5, .iconst 0, 1), (6, .putfield 9, 3), (9, .aload_n 0, 1), (10, .bipush 6, 2), (12, .newarray .int, 2), (14, .putfield 15, 3), (17, .aload_n 0, 1), (18, .bipush 6, 2), (20, .newarray .int, 2), (22, .putfield 19, 3), (25, .aload_n 0, 1), (26, .bipush 6, 2), (28, .newarray .int, 2), (30, .putfield 22, 3), (33, .return_, 1)] := decs_of (by decide +kernel)
theorem DX10_next_0 : decs cX10_next [(0, .aload_n 0, 1), (1, .iconst 0, 1), (2, .invokevirtual 29, 3), (5, .istore_n 1, 1), (6, .iload_n 1, 1), (7, .aload_n 0, 1), (8, .getfield 9, 3), (11, .if_icmp .ge 15, 3), (14, .aload_n 0, 1), (15, .iload_n 1, 1), (16, .invokevirtual 25, 3), (19, .ifCond .eq 7, 3), (22, .iconst 1, 1), (23, .goto 4, 3), (26, .iconst 0, 1), (27, .ireturn, 1)] := decs_of (by decide +kernel)
theorem DX10_settle_0 : decs cX10_settle [(0, .iload_n 1, 1), (1, .istore_n 2, 1), (2, .iconst 0, 1), (3, .istore_n 3, 1), (4, .iload_n 3, 1), (5, .ldc 33, 2), (7, .if_icmp .ge 38, 3), (10, .iload_n 2, 1), (11, .aload_n 0, 1), (12, .getfield 9, 3), (15, .if_icmp .ge 30, 3), (18, .aload_n 0, 1), (19, .iload_n 2, 1), (20, .invokevirtual 34, 3), (23, .istore 4, 2), (25, .iload 4, 2), (27, .ifCond .ge 5, 3), (30, .iconst 1, 1), (31, .ireturn, 1), (32, .aload_n 0, 1), (33, .iload 4, 2), (35, .invokevirtual 29, 3), (38, .istore_n 2, 1), (39, .iinc 3 1, 3), (42, .goto (-38), 3), (45, .iconst 0, 1), (46, .ireturn, 1)] := decs_of (by decide +kernel)
theorem DX10_span_0 : decs cX10_span [(0, .aload_n 0, 1), (1, .iload_n 1, 1), (2, .putfield 9, 3), (5, .iconst 0, 1), (6, .istore 4, 2), (8, .iload 4, 2), (10, .aload_n 0, 1), (11, .getfield 9, 3), (14, .if_icmp .ge 25, 3), (17, .aload_n 0, 1), (18, .getfield 19, 3), (21, .iload 4, 2), (23, .iload_n 2, 1), (24, .iastore, 1), (25, .aload_n 0, 1), (26, .getfield 22, 3), (29, .iload 4, 2), (31, .iload_n 3, 1), (32, .iastore, 1), (33, .iinc 4 1, 3), (36, .goto (-28), 3), (39, .return_, 1)] := decs_of (by decide +kernel)
theorem DX10_turn_0 : decs cX10_turn [(0, .iload_n 1, 1), (1, .istore_n 2, 1), (2, .iload_n 2, 1), (3, .aload_n 0, 1), (4, .getfield 9, 3), (7, .if_icmp .ge 24, 3), (10, .aload_n 0, 1), (11, .getfield 15, 3), (14, .iload_n 2, 1), (15, .iaload, 1), (16, .aload_n 0, 1), (17, .getfield 22, 3), (20, .iload_n 2, 1), (21, .iaload, 1), (22, .if_icmp .lt 9, 3), (25, .iinc 2 1, 3), (28, .goto (-26), 3), (31, .iload_n 2, 1), (32, .aload_n 0, 1), (33, .getfield 9, 3), (36, .if_icmp .ge 38, 3), (39, .aload_n 0, 1), (40, .getfield 15, 3), (43, .iload_n 2, 1), (44, .dup2, 1), (45, .iaload, 1), (46, .iconst 1, 1), (47, .iadd, 1), (48, .iastore, 1), (49, .iconst 0, 1), (50, .istore_n 3, 1), (51, .iload_n 3, 1), (52, .iload_n 2, 1), (53, .if_icmp .ge 21, 3), (56, .aload_n 0, 1), (57, .getfield 15, 3), (60, .iload_n 3, 1), (61, .aload_n 0, 1), (62, .getfield 19, 3), (65, .iload_n 3, 1), (66, .iaload, 1), (67, .iastore, 1), (68, .iinc 3 1, 3), (71, .goto (-20), 3), (74, .iload_n 2, 1), (75, .ireturn, 1)] := decs_of (by decide +kernel)
theorem DX11_answer_0 : decs cX11_answer [(0, .aload_n 0, 1), (1, .getfield 59, 3), (4, .getfield 255, 3), (7, .ifCond .eq 13, 3), (10, .aload_n 0, 1), (11, .getfield 59, 3), (14, .getfield 252, 3), (17, .ifCond .ne 6, 3), (20, .bipush (-3), 2), (22, .ireturn, 1), (23, .aload_n 0, 1), (24, .getfield 59, 3), (27, .getfield 261, 3), (30, .getfield 181, 3), (33, .bipush 6, 2), (35, .if_icmp .lt 6, 3), (38, .bipush (-4), 2), (40, .ireturn, 1), (41, .aload_n 0, 1), (42, .getfield 39, 3), (45, .aload_n 0, 1), (46, .getfield 59, 3), (49, .getfield 261, 3), (52, .aload_n 0, 1), (53, .getfield 59, 3), (56, .getfield 258, 3), (59, .iconst 0, 1), (60, .iaload, 1), (61, .iload_n 1, 1), (62, .invokevirtual 264, 3), (65, .ifCond .ne 6, 3), (68, .bipush (-5), 2), (70, .ireturn, 1), (71, .aload_n 0, 1), (72, .getfield 59, 3), (75, .aload_n 0, 1), (76, .getfield 39, 3), (79, .getfield 188, 3), (82, .invokevirtual 268, 3), (85, .aload_n 0, 1), (86, .getfield 59, 3), (89, .getfield 252, 3), (92, .ireturn, 1)] := decs_of (by decide +kernel)
theorem DX11_ask_0 : decs cX11_ask [(0, .aload_n 0, 1), (1, .getfield 59, 3), (4, .getfield 255, 3), (7, .ifCond .ne 6, 3), (10, .bipush (-3), 2), (12, .ireturn, 1), (13, .iload_n 1, 1), (14, .ifCond .lt 14, 3), (17, .iload_n 1, 1), (18, .aload_n 0, 1), (19, .getfield 59, 3), (22, .getfield 252, 3), (25, .if_icmp .lt 7, 3), (28, .iconst (-1), 1), (29, .goto 12, 3), (32, .aload_n 0, 1), (33, .getfield 59, 3), (36, .getfield 258, 3), (39, .iload_n 1, 1), (40, .iaload, 1), (41, .ireturn, 1)] := decs_of (by decide +kernel)
theorem DX11_atoms_0 : decs cX11_atoms [(0, .iload_n 1, 1), (1, .iconst 1, 1), (2, .if_icmp .lt 8, 3), (5, .iload_n 1, 1), (6, .iconst 4, 1), (7, .if_icmp .le 6, 3), (10, .bipush (-2), 2), (12, .ireturn, 1), (13, .aload_n 0, 1), (14, .getfield 12, 3), (17, .getfield 52, 3), (20, .getfield 88, 3), (23, .istore_n 2, 1), (24, .aload_n 0, 1), (25, .getfield 12, 3), (28, .getfield 52, 3), (31, .iload_n 1, 1), (32, .invokevirtual 94, 3), (35, .aload_n 0, 1), (36, .invokevirtual 98, 3), (39, .iload_n 2, 1), (40, .ireturn, 1)] := decs_of (by decide +kernel)
theorem DX11_begin_0 : decs cX11_begin [(0, .iload_n 1, 1), (1, .invokestatic 174, 3), (4, .ifCond .ne 5, 3), (7, .iconst (-1), 1), (8, .ireturn, 1), (9, .aload_n 0, 1), (10, .aload_n 0, 1), (11, .getfield 12, 3), (14, .getfield 177, 3), (17, .iload_n 1, 1), (18, .aaload, 1), (19, .invokevirtual 245, 3), (22, .ifCond .ne 6, 3), (25, .bipush (-3), 2), (27, .ireturn, 1), (28, .aload_n 0, 1), (29, .getfield 59, 3), (32, .aload_n 0, 1), (33, .getfield 12, 3), (36, .getfield 177, 3), (39, .iload_n 1, 1), (40, .aaload, 1), (41, .invokevirtual 249, 3), (44, .aload_n 0, 1), (45, .getfield 59, 3), (48, .getfield 252, 3), (51, .ireturn, 1)] := decs_of (by decide +kernel)
theorem DX11_board_0 : decs cX11_board [(0, .aload_n 0, 1), (1, .getfield 59, 3), (4, .getfield 255, 3), (7, .ifCond .ne 6, 3), (10, .bipush (-3), 2), (12, .ireturn, 1), (13, .iload_n 1, 1), (14, .tableswitch 53 0 2 #[26, 37, 45], 26), (40, .aload_n 0, 1), (41, .getfield 59, 3), (44, .getfield 261, 3), (47, .getfield 181, 3), (50, .ireturn, 1), (51, .aload_n 0, 1), (52, .getfield 59, 3), (55, .getfield 252, 3), (58, .ireturn, 1), (59, .aload_n 0, 1), (60, .getfield 59, 3), (63, .getfield 275, 3), (66, .ireturn, 1), (67, .iconst (-1), 1), (68, .ireturn, 1)] := decs_of (by decide +kernel)
theorem DX11_broken_0 : decs cX11_broken [(0, .iload_n 1, 1), (1, .ifCond .lt 8, 3), (4, .iload_n 1, 1), (5, .iconst 3, 1), (6, .if_icmp .le 5, 3), (9, .iconst (-1), 1), (10, .ireturn, 1), (11, .iload_n 1, 1), (12, .iconst 2, 1), (13, .if_icmp .ge 25, 3), (16, .aload_n 0, 1), (17, .getfield 12, 3), (20, .getfield 52, 3), (23, .iload_n 1, 1), (24, .ifCond .ne 7, 3), (27, .iconst 1, 1), (28, .goto 4, 3), (31, .iconst 0, 1), (32, .invokevirtual 156, 3), (35, .goto 23, 3), (38, .aload_n 0, 1), (39, .getfield 12, 3), (42, .getfield 52, 3), (45, .iload_n 1, 1), (46, .iconst 2, 1), (47, .if_icmp .ne 7, 3), (50, .iconst 1, 1), (51, .goto 4, 3), (54, .iconst 0, 1), (55, .invokevirtual 160, 3), (58, .ireturn, 1)] := decs_of (by decide +kernel)
theorem DX11_compose_0 : decs cX11_compose [(0, .aload_n 0, 1), (1, .iload_n 1, 1), (2, .invokevirtual 113, 3), (5, .ifCond .eq 11, 3), (8, .aload_n 0, 1), (9, .iload_n 2, 1), (10, .invokevirtual 113, 3), (13, .ifCond .ne 6, 3), (16, .bipush (-2), 2), (18, .ireturn, 1), (19, .aload_n 0, 1), (20, .getfield 12, 3), (23, .getfield 52, 3), (26, .iload_n 1, 1), (27, .iload_n 2, 1), (28, .invokevirtual 131, 3), (31, .ireturn, 1)] := decs_of (by decide +kernel)
theorem DX11_converse_0 : decs cX11_converse [(0, .aload_n 0, 1), (1, .iload_n 1, 1), (2, .invokevirtual 113, 3), (5, .ifCond .eq 17, 3), (8, .aload_n 0, 1), (9, .getfield 12, 3), (12, .getfield 52, 3), (15, .iload_n 1, 1), (16, .invokevirtual 116, 3), (19, .goto 5, 3), (22, .bipush (-2), 2), (24, .ireturn, 1)] := decs_of (by decide +kernel)
theorem DX11_copy_0 : decs cX11_copy [(0, .iload_n 1, 1), (1, .invokestatic 174, 3), (4, .ifCond .eq 10, 3), (7, .iload_n 2, 1), (8, .invokestatic 174, 3), (11, .ifCond .ne 5, 3), (14, .iconst (-1), 1), (15, .ireturn, 1), (16, .aload_n 0, 1), (17, .getfield 12, 3), (20, .getfield 177, 3), (23, .iload_n 2, 1), (24, .aaload, 1), (25, .aload_n 0, 1), (26, .getfield 12, 3), (29, .getfield 177, 3), (32, .iload_n 1, 1), (33, .aaload, 1), (34, .invokevirtual 205, 3), (37, .aload_n 0, 1), (38, .getfield 12, 3), (41, .getfield 177, 3), (44, .iload_n 2, 1), (45, .aaload, 1), (46, .getfield 181, 3), (49, .ireturn, 1)] := decs_of (by decide +kernel)
theorem DX11_count_0 : decs cX11_count [(0, .iload_n 1, 1), (1, .tableswitch 123 0 4 #[35, 46, 85, 93, 98], 35), (36, .aload_n 0, 1), (37, .getfield 12, 3), (40, .getfield 52, 3), (43, .getfield 88, 3), (46, .ireturn, 1), (47, .aload_n 0, 1), (48, .getfield 12, 3), (51, .getfield 177, 3), (54, .iconst 0, 1), (55, .aaload, 1), (56, .getfield 181, 3), (59, .aload_n 0, 1), (60, .getfield 12, 3), (63, .getfield 177, 3), (66, .iconst 1, 1), (67, .aaload, 1), (68, .getfield 181, 3), (71, .iadd, 1), (72, .aload_n 0, 1), (73, .getfield 12, 3), (76, .getfield 177, 3), (79, .iconst 2, 1), (80, .aaload, 1), (81, .getfield 181, 3), (84, .iadd, 1), (85, .ireturn, 1), (86, .aload_n 0, 1), (87, .getfield 81, 3), (90, .getfield 293, 3), (93, .ireturn, 1), (94, .aload_n 0, 1), (95, .invokevirtual 312, 3), (98, .ireturn, 1), (99, .aload_n 0, 1), (100, .getfield 12, 3), (103, .getfield 228, 3), (106, .ifCond .eq 16, 3), (109, .aload_n 0, 1), (110, .getfield 12, 3), (113, .getfield 231, 3), (116, .getfield 181, 3), (119, .goto 4, 3), (122, .iconst 0, 1), (123, .ireturn, 1), (124, .iconst (-1), 1), (125, .ireturn, 1)] := decs_of (by decide +kernel)
theorem DX11_cycles_0 : decs cX11_cycles [(0, .iload_n 1, 1), (1, .ifCond .lt 8, 3), (4, .iload_n 1, 1), (5, .iconst 3, 1), (6, .if_icmp .le 5, 3), (9, .iconst (-1), 1), (10, .ireturn, 1), (11, .iload_n 1, 1), (12, .iconst 2, 1), (13, .if_icmp .ne 19, 3), (16, .aload_n 0, 1), (17, .getfield 12, 3), (20, .getfield 52, 3), (23, .getfield 163, 3), (26, .invokestatic 167, 3), (29, .goto 14, 3), (32, .aload_n 0, 1), (33, .getfield 12, 3), (36, .getfield 52, 3), (39, .iload_n 1, 1), (40, .invokevirtual 171, 3), (43, .ireturn, 1)] := decs_of (by decide +kernel)
theorem DX11_drop_0 : decs cX11_drop [(0, .iload_n 1, 1), (1, .invokestatic 174, 3), (4, .ifCond .ne 5, 3), (7, .iconst (-1), 1), (8, .ireturn, 1), (9, .aload_n 0, 1), (10, .getfield 12, 3), (13, .getfield 177, 3), (16, .iload_n 1, 1), (17, .aaload, 1), (18, .astore_n 2, 1), (19, .aload_n 2, 1), (20, .getfield 181, 3), (23, .ifCond .ne 6, 3), (26, .bipush (-3), 2), (28, .ireturn, 1), (29, .aload_n 2, 1), (30, .dup, 1), (31, .getfield 181, 3), (34, .iconst 1, 1), (35, .isub, 1), (36, .putfield 181, 3), (39, .aload_n 2, 1), (40, .getfield 181, 3), (43, .ireturn, 1)] := decs_of (by decide +kernel)
theorem DX11_equivalence_0 : decs cX11_equivalence [(0, .iload_n 1, 1), (1, .iconst (-1), 1), (2, .if_icmp .ge 5, 3), (5, .iconst (-1), 1), (6, .ireturn, 1), (7, .iconst 0, 1), (8, .istore_n 2, 1), (9, .iconst 0, 1), (10, .istore_n 3, 1), (11, .iload_n 3, 1), (12, .aload_n 0, 1), (13, .getfield 12, 3), (16, .getfield 52, 3), (19, .invokevirtual 146, 3), (22, .if_icmp .ge 33, 3), (25, .aload_n 0, 1), (26, .getfield 12, 3), (29, .getfield 52, 3), (32, .iload_n 3, 1), (33, .invokevirtual 149, 3), (36, .ifCond .eq 13, 3), (39, .iload_n 2, 1), (40, .iload_n 1, 1), (41, .if_icmp .ne 5, 3), (44, .iload_n 3, 1), (45, .ireturn, 1), (46, .iinc 2 1, 3), (49, .iinc 3 1, 3), (52, .goto (-41), 3), (55, .iload_n 1, 1), (56, .iconst (-1), 1), (57, .if_icmp .ne 7, 3), (60, .iload_n 2, 1), (61, .goto 4, 3), (64, .iconst (-1), 1), (65, .ireturn, 1)] := decs_of (by decide +kernel)
theorem DX11_feed_0 : decs cX11_feed [(0, .iload_n 1, 1), (1, .bipush 32, 2), (3, .if_icmp .lt 9, 3), (6, .iload_n 1, 1), (7, .bipush 126, 2), (9, .if_icmp .le 6, 3), (12, .bipush (-2), 2), (14, .ireturn, 1), (15, .aload_n 0, 1), (16, .getfield 81, 3), (19, .getfield 293, 3), (22, .bipush 100, 2), (24, .if_icmp .lt 6, 3), (27, .bipush (-4), 2), (29, .ireturn, 1), (30, .aload_n 0, 1), (31, .getfield 81, 3), (34, .iload_n 1, 1), (35, .invokevirtual 294, 3), (38, .aload_n 0, 1), (39, .getfield 81, 3), (42, .getfield 293, 3), (45, .ireturn, 1)] := decs_of (by decide +kernel)
theorem DX11_fills_0 : decs cX11_fills [(0, .iload_n 1, 1), (1, .invokestatic 174, 3), (4, .ifCond .eq 8, 3), (7, .iload_n 3, 1), (8, .iconst (-1), 1), (9, .if_icmp .ge 5, 3), (12, .iconst (-1), 1), (13, .ireturn, 1), (14, .aload_n 0, 1), (15, .getfield 12, 3), (18, .getfield 177, 3), (21, .iload_n 1, 1), (22, .aaload, 1), (23, .astore 4, 2), (25, .aload 4, 2), (27, .aload_n 0, 1), (28, .getfield 12, 3), (31, .getfield 52, 3), (34, .iload_n 2, 1), (35, .invokevirtual 217, 3), (38, .ifCond .ne 6, 3), (41, .bipush (-2), 2), (43, .ireturn, 1), (44, .aload 4, 2), (46, .aload_n 0, 1), (47, .getfield 12, 3), (50, .getfield 52, 3), (53, .invokevirtual 209, 3), (56, .bipush (-5), 2), (58, .if_icmp .eq 6, 3), (61, .bipush (-3), 2), (63, .ireturn, 1), (64, .aload 4, 2), (66, .getfield 181, 3), (69, .bipush 6, 2), (71, .if_icmp .lt 6, 3), (74, .bipush (-4), 2), (76, .ireturn, 1), (77, .aload_n 0, 1), (78, .getfield 39, 3), (81, .aload 4, 2), (83, .iload_n 2, 1), (84, .iload_n 3, 1), (85, .invokevirtual 221, 3), (88, .ireturn, 1)] := decs_of (by decide +kernel)
theorem DX11_forbid_0 : decs cX11_forbid [(0, .iload_n 1, 1), (1, .iconst (-1), 1), (2, .if_icmp .eq 12, 3), (5, .iload_n 1, 1), (6, .invokestatic 174, 3), (9, .ifCond .ne 5, 3), (12, .iconst (-1), 1), (13, .ireturn, 1), (14, .aload_n 0, 1), (15, .getfield 12, 3), (18, .getfield 228, 3), (21, .ifCond .eq 16, 3), (24, .aload_n 0, 1), (25, .getfield 12, 3), (28, .getfield 231, 3), (31, .getfield 181, 3), (34, .goto 5, 3), (37, .bipush (-5), 2), (39, .istore_n 2, 1), (40, .aload_n 0, 1), (41, .getfield 12, 3), (44, .iload_n 1, 1), (45, .iconst (-1), 1), (46, .if_icmp .eq 7, 3), (49, .iconst 1, 1), (50, .goto 4, 3), (53, .iconst 0, 1), (54, .putfield 228, 3), (57, .aload_n 0, 1), (58, .getfield 12, 3), (61, .getfield 228, 3), (64, .ifCond .eq 22, 3), (67, .aload_n 0, 1), (68, .getfield 12, 3), (71, .getfield 231, 3), (74, .aload_n 0, 1), (75, .getfield 12, 3), (78, .getfield 177, 3), (81, .iload_n 1, 1), (82, .aaload, 1), (83, .invokevirtual 205, 3), (86, .iload_n 2, 1), (87, .ireturn, 1)] := decs_of (by decide +kernel)
theorem DX11_forgetNetworks_0 : decs cX11_forgetNetworks [(0, .aload_n 0, 1), (1, .getfield 12, 3), (4, .invokevirtual 315, 3), (7, .aload_n 0, 1), (8, .getfield 59, 3), (11, .iconst 0, 1), (12, .putfield 255, 3), (15, .return_, 1)] := decs_of (by decide +kernel)
theorem DX11_found_0 : decs cX11_found [(0, .iload_n 1, 1), (1, .invokestatic 278, 3), (4, .ifCond .ne 5, 3), (7, .iconst (-1), 1), (8, .ireturn, 1), (9, .aload_n 0, 1), (10, .getfield 66, 3), (13, .invokevirtual 285, 3), (16, .istore_n 2, 1), (17, .iload_n 2, 1), (18, .bipush (-5), 2), (20, .if_icmp .ne 6, 3), (23, .bipush (-5), 2), (25, .ireturn, 1), (26, .aload_n 0, 1), (27, .getfield 70, 3), (30, .iload_n 1, 1), (31, .iload_n 2, 1), (32, .iconst 1, 1), (33, .isub, 1), (34, .iastore, 1), (35, .iconst 1, 1), (36, .istore_n 3, 1), (37, .iload_n 3, 1), (38, .iload_n 2, 1), (39, .if_icmp .ge 32, 3), (42, .aload_n 0, 1), (43, .getfield 74, 3), (46, .bipush 12, 2), (48, .iload_n 1, 1), (49, .imul, 1), (50, .iload_n 3, 1), (51, .iadd, 1), (52, .iconst 1, 1), (53, .isub, 1), (54, .aload_n 0, 1), (55, .getfield 66, 3), (58, .getfield 288, 3), (61, .iload_n 3, 1), (62, .iaload, 1), (63, .i2l, 1), (64, .lastore, 1), (65, .iinc 3 1, 3), (68, .goto (-31), 3), (71, .iload_n 2, 1), (72, .ireturn, 1)] := decs_of (by decide +kernel)
theorem DX11_gameRefusal_0 : decs cX11_gameRefusal [(0, .iload_n 1, 1), (1, .invokestatic 174, 3), (4, .ifCond .ne 5, 3), (7, .iconst (-1), 1), (8, .ireturn, 1), (9, .iload_n 2, 1), (10, .ifCond .lt 8, 3), (13, .iload_n 2, 1), (14, .iconst 2, 1), (15, .if_icmp .le 6, 3), (18, .bipush (-2), 2), (20, .ireturn, 1), (21, .aload_n 0, 1), (22, .getfield 12, 3), (25, .getfield 177, 3), (28, .iload_n 1, 1), (29, .aaload, 1), (30, .getfield 181, 3), (33, .iconst 3, 1), (34, .if_icmp .gt 19, 3), (37, .aload_n 0, 1), (38, .aload_n 0, 1), (39, .getfield 12, 3), (42, .getfield 177, 3), (45, .iload_n 1, 1), (46, .aaload, 1), (47, .invokevirtual 245, 3), (50, .ifCond .ne 6, 3), (53, .bipush (-3), 2), (55, .ireturn, 1), (56, .iconst 0, 1), (57, .ireturn, 1)] := decs_of (by decide +kernel)
theorem DX11_gap_0 : decs cX11_gap [(0, .iload_n 1, 1), (1, .invokestatic 174, 3), (4, .ifCond .eq 8, 3), (7, .iload_n 2, 1), (8, .iconst (-1), 1), (9, .if_icmp .ge 5, 3), (12, .iconst (-1), 1), (13, .ireturn, 1), (14, .aload_n 0, 1), (15, .getfield 12, 3), (18, .getfield 177, 3), (21, .iload_n 1, 1), (22, .aaload, 1), (23, .aload_n 0, 1), (24, .getfield 12, 3), (27, .getfield 52, 3), (30, .iload_n 2, 1), (31, .invokevirtual 213, 3), (34, .ireturn, 1)] := decs_of (by decide +kernel)
theorem DX11_get_0 : decs cX11_get [(0, .iload_n 1, 1), (1, .invokestatic 278, 3), (4, .ifCond .eq 17, 3), (7, .iload_n 2, 1), (8, .ifCond .lt 13, 3), (11, .iload_n 2, 1), (12, .aload_n 0, 1), (13, .getfield 70, 3), (16, .iload_n 1, 1), (17, .iaload, 1), (18, .if_icmp .lt 7, 3), (21, .ldc2_w 291, 3), (24, .lreturn, 1), (25, .aload_n 0, 1), (26, .getfield 74, 3), (29, .bipush 12, 2), (31, .iload_n 1, 1), (32, .imul, 1), (33, .iload_n 2, 1), (34, .iadd, 1), (35, .laload, 1), (36, .lreturn, 1)] := decs_of (by decide +kernel)
theorem DX11_image_0 : decs cX11_image [(0, .aload_n 0, 1), (1, .getfield 18, 3), (4, .aload_n 0, 1), (5, .getfield 12, 3), (8, .invokevirtual 310, 3), (11, .aload_n 0, 1), (12, .iconst 1, 1), (13, .putfield 21, 3), (16, .aload_n 0, 1), (17, .getfield 12, 3), (20, .getfield 52, 3), (23, .getfield 88, 3), (26, .ireturn, 1)] := decs_of (by decide +kernel)
theorem DX11_init_0 : decs cX11_init [(0, .aload_n 0, 1), (1, .invokespecial 3, 3), (4, .aload_n 0, 1), (5, .new 9, 3), (8, .dup, 1), (9, .invokespecial 11, 3), (12, .putfield 12, 3), (15, .aload_n 0, 1), (16, .new 9, 3), (19, .dup, 1), (20, .invokespecial 11, 3), (23, .putfield 18, 3), (26, .aload_n 0, 1), (27, .iconst 0, 1), (28, .putfield 21, 3), (31, .aload_n 0, 1), (32, .new 25, 3), (35, .dup, 1), (36, .aload_n 0, 1), (37, .getfield 12, 3), (40, .invokespecial 27, 3), (43, .putfield 30, 3), (46, .aload_n 0, 1), (47, .new 34, 3), (50, .dup, 1), (51, .aload_n 0, 1), (52, .getfield 12, 3), (55, .aload_n 0, 1), (56, .getfield 30, 3), (59, .invokespecial 36, 3), (62, .putfield 39, 3), (65, .aload_n 0, 1), (66, .new 43, 3), (69, .dup, 1), (70, .aload_n 0, 1), (71, .getfield 12, 3), (74, .aload_n 0, 1), (75, .getfield 30, 3), (78, .invokespecial 45, 3), (81, .putfield 46, 3), (84, .aload_n 0, 1), (85, .new 50, 3), (88, .dup, 1), (89, .aload_n 0, 1), (90, .getfield 12, 3), (93, .getfield 52, 3), (96, .invokespecial 56, 3), (99, .putfield 59, 3), (102, .aload_n 0, 1), (103, .new 63, 3), (106, .dup, 1), (107, .aload_n 0, 1), (108, .getfield 12, 3), (111, .getfield 52, 3), (114, .invokespecial 65, 3), (117, .putfield 66, 3), (120, .aload_n 0, 1), (121, .iconst 3, 1), (122, .newarray .int, 2), (124, .putfield 70, 3)] := decs_of (by decide +kernel)
theorem DX11_init_1 : decs cX11_init [(127, .aload_n 0, 1), (128, .bipush 36, 2), (130, .newarray .long, 2), (132, .putfield 74, 3), (135, .aload_n 0, 1), (136, .new 78, 3), (139, .dup, 1), (140, .invokespecial 80, 3), (143, .putfield 81, 3), (146, .aload_n 0, 1), (147, .new 78, 3), (150, .dup, 1), (151, .invokespecial 80, 3), (154, .putfield 85, 3), (157, .iconst 0, 1), (158, .istore_n 1, 1), (159, .iload_n 1, 1), (160, .iconst 3, 1), (161, .if_icmp .ge 16, 3), (164, .aload_n 0, 1), (165, .getfield 70, 3), (168, .iload_n 1, 1), (169, .iconst (-1), 1), (170, .iastore, 1), (171, .iinc 1 1, 3), (174, .goto (-15), 3), (177, .return_, 1)] := decs_of (by decide +kernel)
theorem DX11_isAtom_0 : decs cX11_isAtom [(0, .iload_n 1, 1), (1, .ifCond .lt 21, 3), (4, .iload_n 1, 1), (5, .aload_n 0, 1), (6, .getfield 12, 3), (9, .getfield 52, 3), (12, .getfield 88, 3), (15, .if_icmp .ge 7, 3), (18, .iconst 1, 1), (19, .goto 4, 3), (22, .iconst 0, 1), (23, .ireturn, 1)] := decs_of (by decide +kernel)
theorem DX11_isAtomButZero_0 : decs cX11_isAtomButZero [(0, .iload_n 1, 1), (1, .iconst 1, 1), (2, .if_icmp .lt 21, 3), (5, .iload_n 1, 1), (6, .aload_n 0, 1), (7, .getfield 12, 3), (10, .getfield 52, 3), (13, .getfield 88, 3), (16, .if_icmp .ge 7, 3), (19, .iconst 1, 1), (20, .goto 4, 3), (23, .iconst 0, 1), (24, .ireturn, 1)] := decs_of (by decide +kernel)
theorem DX11_isIn_0 : decs cX11_isIn [(0, .aload_n 0, 1), (1, .iload_n 1, 1), (2, .invokevirtual 120, 3), (5, .ifCond .eq 19, 3), (8, .aload_n 0, 1), (9, .iload_n 2, 1), (10, .invokevirtual 120, 3), (13, .ifCond .eq 11, 3), (16, .aload_n 0, 1), (17, .iload_n 3, 1), (18, .invokevirtual 120, 3), (21, .ifCond .ne 5, 3), (24, .iconst (-1), 1), (25, .ireturn, 1), (26, .aload_n 0, 1), (27, .getfield 12, 3), (30, .getfield 52, 3), (33, .iload_n 1, 1), (34, .iload_n 2, 1), (35, .iload_n 3, 1), (36, .invokevirtual 127, 3), (39, .ifCond .eq 7, 3), (42, .iconst 1, 1), (43, .goto 4, 3), (46, .iconst 0, 1), (47, .ireturn, 1)] := decs_of (by decide +kernel)
theorem DX11_isList_0 : decs cX11_isList [(0, .iload_n 0, 1), (1, .ifCond .lt 12, 3), (4, .iload_n 0, 1), (5, .iconst 3, 1), (6, .if_icmp .ge 7, 3), (9, .iconst 1, 1), (10, .goto 4, 3), (13, .iconst 0, 1), (14, .ireturn, 1)] := decs_of (by decide +kernel)
theorem DX11_isNet_0 : decs cX11_isNet [(0, .iload_n 0, 1), (1, .ifCond .lt 12, 3), (4, .iload_n 0, 1), (5, .iconst 3, 1), (6, .if_icmp .ge 7, 3), (9, .iconst 1, 1), (10, .goto 4, 3), (13, .iconst 0, 1), (14, .ireturn, 1)] := decs_of (by decide +kernel)
theorem DX11_isNode_0 : decs cX11_isNode [(0, .iload_n 1, 1), (1, .invokestatic 174, 3), (4, .ifCond .eq 27, 3), (7, .iload_n 2, 1), (8, .ifCond .lt 23, 3), (11, .iload_n 2, 1), (12, .aload_n 0, 1), (13, .getfield 12, 3), (16, .getfield 177, 3), (19, .iload_n 1, 1), (20, .aaload, 1), (21, .getfield 181, 3), (24, .if_icmp .ge 7, 3), (27, .iconst 1, 1), (28, .goto 4, 3), (31, .iconst 0, 1), (32, .ireturn, 1)] := decs_of (by decide +kernel)
theorem DX11_isPlayable_0 : decs cX11_isPlayable [(0, .aload_n 1, 1), (1, .aload_n 0, 1), (2, .getfield 12, 3), (5, .getfield 52, 3), (8, .invokevirtual 209, 3), (11, .bipush (-5), 2), (13, .if_icmp .ne 18, 3), (16, .aload_n 0, 1), (17, .getfield 30, 3), (20, .aload_n 1, 1), (21, .invokevirtual 318, 3), (24, .ifCond .ne 7, 3), (27, .iconst 1, 1), (28, .goto 4, 3), (31, .iconst 0, 1), (32, .ireturn, 1)] := decs_of (by decide +kernel)
theorem DX11_isRelation_0 : decs cX11_isRelation [(0, .iload_n 1, 1), (1, .ifCond .lt 21, 3), (4, .iload_n 1, 1), (5, .aload_n 0, 1), (6, .getfield 12, 3), (9, .getfield 52, 3), (12, .invokevirtual 146, 3), (15, .if_icmp .ge 7, 3), (18, .iconst 1, 1), (19, .goto 4, 3), (22, .iconst 0, 1), (23, .ireturn, 1)] := decs_of (by decide +kernel)
theorem DX11_isSide_0 : decs cX11_isSide [(0, .iload_n 0, 1), (1, .ifCond .eq 8, 3), (4, .iload_n 0, 1), (5, .iconst 1, 1), (6, .if_icmp .ne 7, 3), (9, .iconst 1, 1), (10, .goto 4, 3), (13, .iconst 0, 1), (14, .ireturn, 1)] := decs_of (by decide +kernel)
theorem DX11_judge_0 : decs cX11_judge [(0, .iload_n 1, 1), (1, .invokestatic 278, 3), (4, .ifCond .ne 5, 3), (7, .iconst (-1), 1), (8, .ireturn, 1), (9, .aload_n 0, 1), (10, .getfield 70, 3), (13, .iload_n 1, 1), (14, .iaload, 1), (15, .ifCond .ge 6, 3), (18, .bipush (-11), 2), (20, .ireturn, 1), (21, .aload_n 0, 1), (22, .getfield 70, 3), (25, .iload_n 1, 1), (26, .iaload, 1), (27, .ifCond .ne 8, 3), (30, .bipush (-2), 2), (32, .goto 24, 3), (35, .aload_n 0, 1), (36, .getfield 66, 3), (39, .aload_n 0, 1), (40, .getfield 74, 3), (43, .bipush 12, 2), (45, .iload_n 1, 1), (46, .imul, 1), (47, .aload_n 0, 1), (48, .getfield 70, 3), (51, .iload_n 1, 1), (52, .iaload, 1), (53, .invokevirtual 281, 3), (56, .ireturn, 1)] := decs_of (by decide +kernel)
theorem DX11_killer_0 : decs cX11_killer [(0, .aload_n 0, 1), (1, .iload_n 1, 1), (2, .iload_n 2, 1), (3, .invokevirtual 235, 3), (6, .istore_n 3, 1), (7, .iload_n 3, 1), (8, .ifCond .eq 5, 3), (11, .iload_n 3, 1), (12, .ireturn, 1), (13, .aload_n 0, 1), (14, .getfield 46, 3), (17, .aload_n 0, 1), (18, .getfield 12, 3), (21, .getfield 177, 3), (24, .iload_n 1, 1), (25, .aaload, 1), (26, .iload_n 2, 1), (27, .invokevirtual 238, 3), (30, .ifCond .eq 8, 3), (33, .bipush (-5), 2), (35, .goto 11, 3), (38, .aload_n 0, 1), (39, .getfield 46, 3), (42, .iload_n 2, 1), (43, .invokevirtual 242, 3), (46, .ireturn, 1)] := decs_of (by decide +kernel)
theorem DX11_label_0 : decs cX11_label [(0, .aload_n 0, 1), (1, .iload_n 1, 1), (2, .iload_n 2, 1), (3, .invokevirtual 195, 3), (6, .ifCond .eq 12, 3), (9, .aload_n 0, 1), (10, .iload_n 1, 1), (11, .iload_n 3, 1), (12, .invokevirtual 195, 3), (15, .ifCond .ne 5, 3), (18, .iconst (-1), 1), (19, .ireturn, 1), (20, .aload_n 0, 1), (21, .getfield 12, 3), (24, .getfield 177, 3), (27, .iload_n 1, 1), (28, .aaload, 1), (29, .iload_n 2, 1), (30, .iload_n 3, 1), (31, .invokevirtual 198, 3), (34, .ireturn, 1)] := decs_of (by decide +kernel)
theorem DX11_lasts_0 : decs cX11_lasts [(0, .aload_n 0, 1), (1, .iload_n 1, 1), (2, .iconst 0, 1), (3, .invokevirtual 235, 3), (6, .istore_n 2, 1), (7, .iload_n 2, 1), (8, .ifCond .eq 5, 3), (11, .iload_n 2, 1), (12, .ireturn, 1), (13, .iconst 0, 1), (14, .istore_n 3, 1), (15, .iload_n 3, 1), (16, .iconst 2, 1), (17, .if_icmp .ge 31, 3), (20, .aload_n 0, 1), (21, .getfield 46, 3), (24, .aload_n 0, 1), (25, .getfield 12, 3), (28, .getfield 177, 3), (31, .iload_n 1, 1), (32, .aaload, 1), (33, .iload_n 3, 1), (34, .iconst 1, 1), (35, .iadd, 1), (36, .invokevirtual 238, 3), (39, .ifCond .eq 9, 3), (42, .iinc 3 1, 3), (45, .goto (-30), 3), (48, .iload_n 3, 1), (49, .ireturn, 1)] := decs_of (by decide +kernel)
theorem DX11_later_0 : decs cX11_later [(0, .aload_n 0, 1), (1, .getfield 59, 3), (4, .getfield 255, 3), (7, .ifCond .eq 13, 3), (10, .aload_n 0, 1), (11, .getfield 59, 3), (14, .getfield 252, 3), (17, .ifCond .ne 6, 3), (20, .bipush (-3), 2), (22, .ireturn, 1), (23, .aload_n 0, 1), (24, .getfield 59, 3), (27, .invokevirtual 272, 3), (30, .aload_n 0, 1), (31, .getfield 59, 3), (34, .getfield 252, 3), (37, .ireturn, 1)] := decs_of (by decide +kernel)
theorem DX11_list_0 : decs cX11_list [(0, .iload_n 1, 1), (1, .invokestatic 278, 3), (4, .ifCond .ne 5, 3), (7, .iconst (-1), 1), (8, .ireturn, 1), (9, .iload_n 2, 1), (10, .bipush 12, 2), (12, .if_icmp .le 6, 3), (15, .bipush (-2), 2), (17, .ireturn, 1), (18, .iload_n 2, 1), (19, .iconst (-1), 1), (20, .if_icmp .ge 6, 3), (23, .bipush (-14), 2), (25, .ireturn, 1), (26, .aload_n 0, 1), (27, .getfield 70, 3), (30, .iload_n 1, 1), (31, .iload_n 2, 1), (32, .iastore, 1), (33, .iconst 0, 1), (34, .istore_n 3, 1), (35, .iload_n 3, 1), (36, .iload_n 2, 1), (37, .if_icmp .ge 21, 3), (40, .aload_n 0, 1), (41, .getfield 74, 3), (44, .bipush 12, 2), (46, .iload_n 1, 1), (47, .imul, 1), (48, .iload_n 3, 1), (49, .iadd, 1), (50, .lconst 0, 1), (51, .lastore, 1), (52, .iinc 3 1, 3), (55, .goto (-20), 3), (58, .iconst 1, 1), (59, .ireturn, 1)] := decs_of (by decide +kernel)
theorem DX11_listsPresent_0 : decs cX11_listsPresent [(0, .iconst 0, 1), (1, .istore_n 1, 1), (2, .iconst 0, 1), (3, .istore_n 2, 1), (4, .iload_n 2, 1), (5, .iconst 3, 1), (6, .if_icmp .ge 21, 3), (9, .aload_n 0, 1), (10, .getfield 70, 3), (13, .iload_n 2, 1), (14, .iaload, 1), (15, .ifCond .lt 6, 3), (18, .iinc 1 1, 3), (21, .iinc 2 1, 3), (24, .goto (-20), 3), (27, .iload_n 1, 1), (28, .ireturn, 1)] := decs_of (by decide +kernel)
theorem DX11_node_0 : decs cX11_node [(0, .iload_n 1, 1), (1, .invokestatic 174, 3), (4, .ifCond .ne 5, 3), (7, .iconst (-1), 1), (8, .ireturn, 1), (9, .aload_n 0, 1), (10, .getfield 12, 3), (13, .getfield 177, 3), (16, .iload_n 1, 1), (17, .aaload, 1), (18, .astore_n 3, 1), (19, .aload_n 3, 1), (20, .getfield 181, 3), (23, .bipush 6, 2), (25, .if_icmp .lt 6, 3), (28, .bipush (-4), 2), (30, .ireturn, 1), (31, .aload_n 0, 1), (32, .getfield 39, 3), (35, .iload_n 2, 1), (36, .aload_n 3, 1), (37, .getfield 181, 3), (40, .invokevirtual 184, 3), (43, .ifCond .ne 6, 3), (46, .bipush (-2), 2), (48, .ireturn, 1), (49, .aload_n 3, 1), (50, .aload_n 0, 1), (51, .getfield 39, 3), (54, .getfield 188, 3), (57, .aload_n 0, 1), (58, .getfield 12, 3), (61, .getfield 52, 3), (64, .invokevirtual 191, 3), (67, .aload_n 3, 1), (68, .getfield 181, 3), (71, .iconst 1, 1), (72, .isub, 1), (73, .ireturn, 1)] := decs_of (by decide +kernel)
theorem DX11_occurs_0 : decs cX11_occurs [(0, .iload_n 1, 1), (1, .invokestatic 174, 3), (4, .ifCond .eq 15, 3), (7, .iload_n 2, 1), (8, .invokestatic 174, 3), (11, .ifCond .eq 8, 3), (14, .iload_n 3, 1), (15, .iconst (-1), 1), (16, .if_icmp .ge 5, 3), (19, .iconst (-1), 1), (20, .ireturn, 1), (21, .aload_n 0, 1), (22, .getfield 30, 3), (25, .aload_n 0, 1), (26, .getfield 12, 3), (29, .getfield 177, 3), (32, .iload_n 1, 1), (33, .aaload, 1), (34, .aload_n 0, 1), (35, .getfield 12, 3), (38, .getfield 177, 3), (41, .iload_n 2, 1), (42, .aaload, 1), (43, .iload_n 3, 1), (44, .invokevirtual 225, 3), (47, .ireturn, 1)] := decs_of (by decide +kernel)
theorem DX11_over_0 : decs cX11_over [(0, .aload_n 0, 1), (1, .iload_n 1, 1), (2, .invokevirtual 113, 3), (5, .ifCond .eq 18, 3), (8, .aload_n 0, 1), (9, .iload_n 2, 1), (10, .invokevirtual 113, 3), (13, .ifCond .eq 10, 3), (16, .iload_n 3, 1), (17, .invokestatic 135, 3), (20, .ifCond .ne 6, 3), (23, .bipush (-2), 2), (25, .ireturn, 1), (26, .aload_n 0, 1), (27, .getfield 12, 3), (30, .getfield 52, 3), (33, .iload_n 1, 1), (34, .iload_n 2, 1), (35, .iload_n 3, 1), (36, .invokevirtual 138, 3), (39, .ireturn, 1)] := decs_of (by decide +kernel)
theorem DX11_pair_0 : decs cX11_pair [(0, .aload_n 0, 1), (1, .iload_n 1, 1), (2, .invokevirtual 101, 3), (5, .ifCond .eq 11, 3), (8, .aload_n 0, 1), (9, .iload_n 2, 1), (10, .invokevirtual 101, 3), (13, .ifCond .ne 5, 3), (16, .iconst (-1), 1), (17, .ireturn, 1), (18, .aload_n 0, 1), (19, .getfield 12, 3), (22, .getfield 52, 3), (25, .iload_n 1, 1), (26, .iload_n 2, 1), (27, .invokevirtual 105, 3), (30, .aload_n 0, 1), (31, .invokevirtual 98, 3), (34, .aload_n 0, 1), (35, .getfield 12, 3), (38, .getfield 52, 3), (41, .invokevirtual 109, 3), (44, .ireturn, 1)] := decs_of (by decide +kernel)
theorem DX11_perform_0 : decs cX11_perform [(0, .iconst 0, 1), (1, .istore_n 1, 1), (2, .iconst 0, 1), (3, .istore_n 2, 1), (4, .iconst 0, 1), (5, .istore_n 3, 1), (6, .iload_n 3, 1), (7, .bipush 100, 2), (9, .if_icmp .ge 79, 3), (12, .iload_n 1, 1), (13, .aload_n 0, 1), (14, .getfield 81, 3), (17, .getfield 293, 3), (20, .if_icmp .ge 68, 3), (23, .aload_n 0, 1), (24, .getfield 81, 3), (27, .iload_n 1, 1), (28, .invokevirtual 321, 3), (31, .istore 4, 2), (33, .aload_n 0, 1), (34, .getfield 81, 3), (37, .iload_n 1, 1), (38, .iload 4, 2), (40, .invokevirtual 324, 3), (43, .istore 5, 2), (45, .aload_n 0, 1), (46, .iload 5, 2), (48, .iload 4, 2), (50, .invokevirtual 327, 3), (53, .ifCond .ge 9, 3), (56, .sipush (-300), 3), (59, .iload_n 2, 1), (60, .isub, 1), (61, .ireturn, 1), (62, .iinc 2 1, 3), (65, .iload 4, 2), (67, .iconst 2, 1), (68, .aload_n 0, 1), (69, .getfield 81, 3), (72, .iload 5, 2), (74, .invokevirtual 330, 3), (77, .imul, 1), (78, .iadd, 1), (79, .iconst 1, 1), (80, .iadd, 1), (81, .istore_n 1, 1), (82, .iinc 3 1, 3), (85, .goto (-79), 3), (88, .iload_n 2, 1), (89, .ireturn, 1)] := decs_of (by decide +kernel)
theorem DX11_power_0 : decs cX11_power [(0, .aload_n 0, 1), (1, .iload_n 1, 1), (2, .invokevirtual 113, 3), (5, .ifCond .ne 6, 3), (8, .bipush (-2), 2), (10, .ireturn, 1), (11, .iload_n 2, 1), (12, .ifCond .eq 10, 3), (15, .iload_n 2, 1), (16, .iconst 1, 1), (17, .if_icmp .eq 5, 3), (20, .iconst (-1), 1), (21, .ireturn, 1), (22, .aload_n 0, 1), (23, .getfield 12, 3), (26, .getfield 52, 3), (29, .iload_n 1, 1), (30, .iload_n 2, 1), (31, .ifCond .ne 7, 3), (34, .iconst 1, 1), (35, .goto 4, 3), (38, .iconst 0, 1), (39, .invokevirtual 142, 3), (42, .ireturn, 1)] := decs_of (by decide +kernel)
theorem DX11_put_0 : decs cX11_put [(0, .iload_n 1, 1), (1, .invokestatic 278, 3), (4, .ifCond .ne 5, 3), (7, .iconst (-1), 1), (8, .ireturn, 1), (9, .aload_n 0, 1), (10, .getfield 70, 3), (13, .iload_n 1, 1), (14, .iaload, 1), (15, .ifCond .ge 6, 3), (18, .bipush (-11), 2), (20, .ireturn, 1), (21, .iload_n 2, 1), (22, .ifCond .lt 13, 3), (25, .iload_n 2, 1), (26, .aload_n 0, 1), (27, .getfield 70, 3), (30, .iload_n 1, 1), (31, .iaload, 1), (32, .if_icmp .lt 6, 3), (35, .bipush (-13), 2), (37, .ireturn, 1), (38, .aload_n 0, 1), (39, .getfield 74, 3), (42, .bipush 12, 2), (44, .iload_n 1, 1), (45, .imul, 1), (46, .iload_n 2, 1), (47, .iadd, 1), (48, .lload_n 3, 1), (49, .lastore, 1), (50, .iconst 1, 1), (51, .ireturn, 1)] := decs_of (by decide +kernel)
theorem DX11_read_0 : decs cX11_read [(0, .aload_n 0, 1), (1, .getfield 81, 3), (4, .invokevirtual 297, 3), (7, .istore_n 1, 1), (8, .iload_n 1, 1), (9, .bipush (-5), 2), (11, .if_icmp .ne 10, 3), (14, .aload_n 0, 1), (15, .invokevirtual 300, 3), (18, .goto 7, 3), (21, .bipush (-100), 2), (23, .iload_n 1, 1), (24, .isub, 1), (25, .istore_n 2, 1), (26, .aload_n 0, 1), (27, .getfield 81, 3), (30, .iconst 0, 1), (31, .putfield 293, 3), (34, .iload_n 2, 1), (35, .ireturn, 1)] := decs_of (by decide +kernel)
theorem DX11_relabel_0 : decs cX11_relabel [(0, .aload_n 0, 1), (1, .iload_n 1, 1), (2, .iload_n 2, 1), (3, .invokevirtual 195, 3), (6, .ifCond .eq 26, 3), (9, .aload_n 0, 1), (10, .iload_n 1, 1), (11, .iload_n 3, 1), (12, .invokevirtual 195, 3), (15, .ifCond .eq 17, 3), (18, .iload_n 2, 1), (19, .iload_n 3, 1), (20, .if_icmp .eq 12, 3), (23, .aload_n 0, 1), (24, .iload 4, 2), (26, .invokevirtual 101, 3), (29, .ifCond .ne 5, 3), (32, .iconst (-1), 1), (33, .ireturn, 1), (34, .aload_n 0, 1), (35, .getfield 12, 3), (38, .getfield 177, 3), (41, .iload_n 1, 1), (42, .aaload, 1), (43, .iload_n 2, 1), (44, .iload_n 3, 1), (45, .invokevirtual 198, 3), (48, .istore 5, 2), (50, .aload_n 0, 1), (51, .getfield 12, 3), (54, .getfield 177, 3), (57, .iload_n 1, 1), (58, .aaload, 1), (59, .iload_n 2, 1), (60, .iload_n 3, 1), (61, .iload 4, 2), (63, .aload_n 0, 1), (64, .getfield 12, 3), (67, .getfield 52, 3), (70, .invokevirtual 201, 3), (73, .iload 5, 2), (75, .ireturn, 1)] := decs_of (by decide +kernel)
theorem DX11_solved_0 : decs cX11_solved [(0, .aload_n 0, 1), (1, .iload_n 1, 1), (2, .invokevirtual 113, 3), (5, .ifCond .eq 18, 3), (8, .aload_n 0, 1), (9, .iload_n 2, 1), (10, .invokevirtual 113, 3), (13, .ifCond .eq 10, 3), (16, .iload_n 3, 1), (17, .invokestatic 135, 3), (20, .ifCond .ne 6, 3), (23, .bipush (-2), 2), (25, .ireturn, 1), (26, .iload 4, 2), (28, .ifCond .lt 9, 3), (31, .iload 4, 2), (33, .iconst 2, 1), (34, .if_icmp .le 5, 3), (37, .iconst (-1), 1), (38, .ireturn, 1), (39, .aload_n 0, 1), (40, .getfield 12, 3), (43, .getfield 52, 3), (46, .iload_n 1, 1), (47, .iload_n 2, 1), (48, .iload_n 3, 1), (49, .iload 4, 2), (51, .invokevirtual 152, 3), (54, .ireturn, 1)] := decs_of (by decide +kernel)
theorem DX11_sound_0 : decs cX11_sound [(0, .iload_n 1, 1), (1, .invokestatic 174, 3), (4, .ifCond .eq 25, 3), (7, .aload_n 0, 1), (8, .getfield 12, 3), (11, .getfield 177, 3), (14, .iload_n 1, 1), (15, .aaload, 1), (16, .aload_n 0, 1), (17, .getfield 12, 3), (20, .getfield 52, 3), (23, .invokevirtual 209, 3), (26, .goto 4, 3), (29, .iconst (-1), 1), (30, .ireturn, 1)] := decs_of (by decide +kernel)
theorem DX11_spelled_0 : decs cX11_spelled [(0, .iload_n 1, 1), (1, .iconst (-1), 1), (2, .if_icmp .ge 5, 3), (5, .iconst (-1), 1), (6, .ireturn, 1), (7, .aload_n 0, 1), (8, .getfield 85, 3), (11, .aload_n 0, 1), (12, .getfield 12, 3), (15, .getfield 52, 3), (18, .invokevirtual 303, 3), (21, .iload_n 1, 1), (22, .iconst (-1), 1), (23, .if_icmp .ne 11, 3), (26, .aload_n 0, 1), (27, .getfield 85, 3), (30, .getfield 293, 3), (33, .ireturn, 1), (34, .iload_n 1, 1), (35, .aload_n 0, 1), (36, .getfield 85, 3), (39, .getfield 293, 3), (42, .if_icmp .ge 15, 3), (45, .aload_n 0, 1), (46, .getfield 85, 3), (49, .getfield 306, 3), (52, .iload_n 1, 1), (53, .baload, 1), (54, .goto 4, 3), (57, .iconst (-1), 1), (58, .ireturn, 1)] := decs_of (by decide +kernel)
theorem DX11_statement_0 : decs cX11_statement [(0, .aload_n 0, 1), (1, .getfield 81, 3), (4, .iload_n 2, 1), (5, .iconst 1, 1), (6, .iadd, 1), (7, .invokevirtual 333, 3), (10, .istore_n 3, 1), (11, .aload_n 0, 1), (12, .getfield 81, 3), (15, .iload_n 2, 1), (16, .iconst 3, 1), (17, .iadd, 1), (18, .invokevirtual 333, 3), (21, .istore 4, 2), (23, .aload_n 0, 1), (24, .getfield 81, 3), (27, .iload_n 2, 1), (28, .iconst 5, 1), (29, .iadd, 1), (30, .invokevirtual 333, 3), (33, .istore 5, 2), (35, .iload_n 1, 1), (36, .tableswitch 68 0 3 #[32, 38, 46, 57], 32), (68, .aload_n 0, 1), (69, .iload_n 3, 1), (70, .invokevirtual 336, 3), (73, .ireturn, 1), (74, .aload_n 0, 1), (75, .iload_n 3, 1), (76, .iload 4, 2), (78, .invokevirtual 339, 3), (81, .ireturn, 1), (82, .aload_n 0, 1), (83, .iload_n 3, 1), (84, .iload 4, 2), (86, .iload 5, 2), (88, .iconst 1, 1), (89, .invokevirtual 342, 3), (92, .ireturn, 1), (93, .aload_n 0, 1), (94, .iload_n 3, 1), (95, .iload 4, 2), (97, .iload 5, 2), (99, .iconst 0, 1), (100, .invokevirtual 342, 3), (103, .ireturn, 1), (104, .bipush (-2), 2), (106, .ireturn, 1)] := decs_of (by decide +kernel)
theorem DX11_take_0 : decs cX11_take [(0, .iload_n 1, 1), (1, .invokestatic 174, 3), (4, .ifCond .ne 5, 3), (7, .iconst (-1), 1), (8, .ireturn, 1), (9, .aload_n 0, 1), (10, .getfield 59, 3), (13, .getfield 255, 3), (16, .ifCond .ne 6, 3), (19, .bipush (-3), 2), (21, .ireturn, 1), (22, .aload_n 0, 1), (23, .getfield 12, 3), (26, .getfield 177, 3), (29, .iload_n 1, 1), (30, .aaload, 1), (31, .aload_n 0, 1), (32, .getfield 59, 3), (35, .getfield 261, 3), (38, .invokevirtual 205, 3), (41, .aload_n 0, 1), (42, .getfield 59, 3), (45, .getfield 261, 3), (48, .getfield 181, 3), (51, .ireturn, 1)] := decs_of (by decide +kernel)
theorem DX11_triangle_0 : decs cX11_triangle [(0, .aload_n 0, 1), (1, .iload_n 1, 1), (2, .invokevirtual 120, 3), (5, .ifCond .eq 19, 3), (8, .aload_n 0, 1), (9, .iload_n 2, 1), (10, .invokevirtual 120, 3), (13, .ifCond .eq 11, 3), (16, .aload_n 0, 1), (17, .iload_n 3, 1), (18, .invokevirtual 120, 3), (21, .ifCond .ne 5, 3), (24, .iconst (-1), 1), (25, .ireturn, 1), (26, .iload 4, 2), (28, .ifCond .eq 12, 3), (31, .iload 4, 2), (33, .iconst 1, 1), (34, .if_icmp .eq 6, 3), (37, .bipush (-2), 2), (39, .ireturn, 1), (40, .iload_n 1, 1), (41, .ifCond .eq 11, 3), (44, .iload_n 2, 1), (45, .ifCond .eq 7, 3), (48, .iload_n 3, 1), (49, .ifCond .ne 6, 3), (52, .bipush (-3), 2), (54, .ireturn, 1), (55, .aload_n 0, 1), (56, .getfield 12, 3), (59, .getfield 52, 3), (62, .iload_n 1, 1), (63, .iload_n 2, 1), (64, .iload_n 3, 1), (65, .iload 4, 2), (67, .iconst 1, 1), (68, .if_icmp .ne 7, 3), (71, .iconst 1, 1), (72, .goto 4, 3), (75, .iconst 0, 1), (76, .invokevirtual 123, 3), (79, .ireturn, 1)] := decs_of (by decide +kernel)
theorem DX11_undo_0 : decs cX11_undo [(0, .aload_n 0, 1), (1, .getfield 21, 3), (4, .ifCond .ne 6, 3), (7, .bipush (-3), 2), (9, .ireturn, 1), (10, .aload_n 0, 1), (11, .getfield 12, 3), (14, .aload_n 0, 1), (15, .getfield 18, 3), (18, .invokevirtual 310, 3), (21, .aload_n 0, 1), (22, .getfield 59, 3), (25, .iconst 0, 1), (26, .putfield 255, 3), (29, .aload_n 0, 1), (30, .getfield 12, 3), (33, .getfield 52, 3), (36, .getfield 88, 3), (39, .ireturn, 1)] := decs_of (by decide +kernel)
theorem DX11_wipe_0 : decs cX11_wipe [(0, .aload_n 0, 1), (1, .getfield 81, 3), (4, .getfield 293, 3), (7, .istore_n 1, 1), (8, .aload_n 0, 1), (9, .getfield 81, 3), (12, .iconst 0, 1), (13, .putfield 293, 3), (16, .iload_n 1, 1), (17, .ireturn, 1)] := decs_of (by decide +kernel)
theorem DX11_won_0 : decs cX11_won [(0, .aload_n 0, 1), (1, .iload_n 1, 1), (2, .iload_n 2, 1), (3, .invokevirtual 235, 3), (6, .istore_n 3, 1), (7, .iload_n 3, 1), (8, .ifCond .eq 5, 3), (11, .iload_n 3, 1), (12, .ireturn, 1), (13, .aload_n 0, 1), (14, .getfield 46, 3), (17, .aload_n 0, 1), (18, .getfield 12, 3), (21, .getfield 177, 3), (24, .iload_n 1, 1), (25, .aaload, 1), (26, .iload_n 2, 1), (27, .invokevirtual 238, 3), (30, .ifCond .eq 7, 3), (33, .iconst 1, 1), (34, .goto 4, 3), (37, .iconst 0, 1), (38, .ireturn, 1)] := decs_of (by decide +kernel)
theorem DX12_answer_0 : decs cX12_answer [(0, .aload_n 0, 1), (1, .getfield 78, 3), (4, .ifCond .eq 10, 3), (7, .aload_n 0, 1), (8, .getfield 226, 3), (11, .ifCond .ne 6, 3), (14, .bipush (-3), 2), (16, .ireturn, 1), (17, .aload_n 0, 1), (18, .getfield 23, 3), (21, .iconst 4, 1), (22, .iaload, 1), (23, .bipush 6, 2), (25, .if_icmp .ne 6, 3), (28, .bipush (-4), 2), (30, .ireturn, 1), (31, .aload_n 0, 1), (32, .aload_n 0, 1), (33, .getfield 29, 3), (36, .iconst 0, 1), (37, .iaload, 1), (38, .iload_n 1, 1), (39, .invokevirtual 232, 3), (42, .ifCond .ne 6, 3), (45, .bipush (-5), 2), (47, .ireturn, 1), (48, .aload_n 0, 1), (49, .iconst 4, 1), (50, .iload_n 1, 1), (51, .invokevirtual 151, 3), (54, .iconst 0, 1), (55, .istore_n 2, 1), (56, .iconst 0, 1), (57, .istore_n 3, 1), (58, .iload_n 3, 1), (59, .aload_n 0, 1), (60, .getfield 226, 3), (63, .if_icmp .ge 38, 3), (66, .aload_n 0, 1), (67, .iconst 4, 1), (68, .aload_n 0, 1), (69, .getfield 29, 3), (72, .iload_n 3, 1), (73, .iaload, 1), (74, .invokevirtual 211, 3), (77, .ifCond .eq 18, 3), (80, .aload_n 0, 1), (81, .getfield 29, 3), (84, .iload_n 2, 1), (85, .aload_n 0, 1), (86, .getfield 29, 3), (89, .iload_n 3, 1), (90, .iaload, 1), (91, .iastore, 1), (92, .iinc 2 1, 3), (95, .iinc 3 1, 3), (98, .goto (-40), 3), (101, .aload_n 0, 1), (102, .iload_n 2, 1), (103, .putfield 226, 3)] := decs_of (by decide +kernel)
theorem DX12_answer_1 : decs cX12_answer [(106, .aload_n 0, 1), (107, .getfield 23, 3), (110, .iconst 4, 1), (111, .iaload, 1), (112, .iconst 1, 1), (113, .isub, 1), (114, .istore_n 3, 1), (115, .aload_n 0, 1), (116, .iconst 4, 1), (117, .iconst (-1), 1), (118, .invokevirtual 171, 3), (121, .istore 4, 2), (123, .iload 4, 2), (125, .iconst (-1), 1), (126, .if_icmp .eq 48, 3), (129, .iload 4, 2), (131, .bipush 100, 2), (133, .idiv, 1), (134, .bipush 10, 2), (136, .irem, 1), (137, .iload_n 3, 1), (138, .if_icmp .ne 24, 3), (141, .aload_n 0, 1), (142, .getfield 29, 3), (145, .aload_n 0, 1), (146, .getfield 226, 3), (149, .iload 4, 2), (151, .iastore, 1), (152, .aload_n 0, 1), (153, .dup, 1), (154, .getfield 226, 3), (157, .iconst 1, 1), (158, .iadd, 1), (159, .putfield 226, 3), (162, .aload_n 0, 1), (163, .iconst 4, 1), (164, .iload 4, 2), (166, .invokevirtual 171, 3), (169, .istore 4, 2), (171, .goto (-48), 3), (174, .aload_n 0, 1), (175, .dup, 1), (176, .getfield 229, 3), (179, .iconst 1, 1), (180, .iadd, 1), (181, .putfield 229, 3), (184, .aload_n 0, 1), (185, .getfield 226, 3), (188, .ireturn, 1)] := decs_of (by decide +kernel)
theorem DX12_areAtoms_0 : decs cX12_areAtoms [(0, .iload_n 2, 1), (1, .istore_n 3, 1), (2, .iconst 0, 1), (3, .istore 4, 2), (5, .iload 4, 2), (7, .aload_n 0, 1), (8, .getfield 23, 3), (11, .iload_n 1, 1), (12, .iaload, 1), (13, .if_icmp .ge 27, 3), (16, .aload_n 0, 1), (17, .iload_n 3, 1), (18, .bipush 10, 2), (20, .irem, 1), (21, .invokevirtual 83, 3), (24, .ifCond .ne 5, 3), (27, .iconst 0, 1), (28, .ireturn, 1), (29, .iload_n 3, 1), (30, .bipush 10, 2), (32, .idiv, 1), (33, .istore_n 3, 1), (34, .iinc 4 1, 3), (37, .goto (-32), 3), (40, .iload_n 3, 1), (41, .ifCond .ne 7, 3), (44, .iconst 1, 1), (45, .goto 4, 3), (48, .iconst 0, 1), (49, .ireturn, 1)] := decs_of (by decide +kernel)
theorem DX12_ask_0 : decs cX12_ask [(0, .aload_n 0, 1), (1, .getfield 78, 3), (4, .ifCond .ne 6, 3), (7, .bipush (-3), 2), (9, .ireturn, 1), (10, .iload_n 1, 1), (11, .i2l, 1), (12, .lconst 0, 1), (13, .aload_n 0, 1), (14, .getfield 226, 3), (17, .iconst 1, 1), (18, .isub, 1), (19, .i2l, 1), (20, .invokestatic 70, 3), (23, .ifCond .eq 12, 3), (26, .aload_n 0, 1), (27, .getfield 29, 3), (30, .iload_n 1, 1), (31, .iaload, 1), (32, .goto 4, 3), (35, .iconst (-1), 1), (36, .ireturn, 1)] := decs_of (by decide +kernel)
theorem DX12_atoms_0 : decs cX12_atoms [(0, .iload_n 1, 1), (1, .i2l, 1), (2, .lconst 1, 1), (3, .ldc2_w 81, 3), (6, .invokestatic 70, 3), (9, .ifCond .ne 6, 3), (12, .bipush (-2), 2), (14, .ireturn, 1), (15, .aload_n 0, 1), (16, .getfield 9, 3), (19, .istore_n 2, 1), (20, .aload_n 0, 1), (21, .iload_n 1, 1), (22, .putfield 9, 3), (25, .iconst 0, 1), (26, .istore_n 3, 1), (27, .iload_n 3, 1), (28, .iconst 4, 1), (29, .if_icmp .ge 16, 3), (32, .aload_n 0, 1), (33, .getfield 15, 3), (36, .iload_n 3, 1), (37, .iload_n 3, 1), (38, .iastore, 1), (39, .iinc 3 1, 3), (42, .goto (-15), 3), (45, .aload_n 0, 1), (46, .invokevirtual 67, 3), (49, .iload_n 2, 1), (50, .ireturn, 1)] := decs_of (by decide +kernel)
theorem DX12_begin_0 : decs cX12_begin [(0, .iload_n 1, 1), (1, .invokestatic 145, 3), (4, .ifCond .ne 5, 3), (7, .iconst (-1), 1), (8, .ireturn, 1), (9, .aload_n 0, 1), (10, .iload_n 1, 1), (11, .invokevirtual 220, 3), (14, .ifCond .ne 6, 3), (17, .bipush (-3), 2), (19, .ireturn, 1), (20, .aload_n 0, 1), (21, .iload_n 1, 1), (22, .iconst 4, 1), (23, .invokevirtual 161, 3), (26, .aload_n 0, 1), (27, .iconst 1, 1), (28, .putfield 78, 3), (31, .aload_n 0, 1), (32, .iconst 0, 1), (33, .putfield 226, 3), (36, .aload_n 0, 1), (37, .iconst 0, 1), (38, .putfield 229, 3), (41, .aload_n 0, 1), (42, .iconst 4, 1), (43, .iconst (-1), 1), (44, .invokevirtual 171, 3), (47, .istore_n 2, 1), (48, .iload_n 2, 1), (49, .iconst (-1), 1), (50, .if_icmp .eq 33, 3), (53, .aload_n 0, 1), (54, .getfield 29, 3), (57, .aload_n 0, 1), (58, .getfield 226, 3), (61, .iload_n 2, 1), (62, .iastore, 1), (63, .aload_n 0, 1), (64, .dup, 1), (65, .getfield 226, 3), (68, .iconst 1, 1), (69, .iadd, 1), (70, .putfield 226, 3), (73, .aload_n 0, 1), (74, .iconst 4, 1), (75, .iload_n 2, 1), (76, .invokevirtual 171, 3), (79, .istore_n 2, 1), (80, .goto (-32), 3), (83, .aload_n 0, 1), (84, .getfield 226, 3), (87, .ireturn, 1)] := decs_of (by decide +kernel)
theorem DX12_board_0 : decs cX12_board [(0, .aload_n 0, 1), (1, .getfield 78, 3), (4, .ifCond .ne 6, 3), (7, .bipush (-3), 2), (9, .ireturn, 1), (10, .iload_n 1, 1), (11, .ifCond .ne 12, 3), (14, .aload_n 0, 1), (15, .getfield 23, 3), (18, .iconst 4, 1), (19, .iaload, 1), (20, .goto 28, 3), (23, .iload_n 1, 1), (24, .iconst 1, 1), (25, .if_icmp .ne 10, 3), (28, .aload_n 0, 1), (29, .getfield 226, 3), (32, .goto 16, 3), (35, .iload_n 1, 1), (36, .iconst 2, 1), (37, .if_icmp .ne 10, 3), (40, .aload_n 0, 1), (41, .getfield 229, 3), (44, .goto 4, 3), (47, .iconst (-1), 1), (48, .ireturn, 1)] := decs_of (by decide +kernel)
theorem DX12_broken_0 : decs cX12_broken [(0, .iload_n 1, 1), (1, .i2l, 1), (2, .lconst 0, 1), (3, .ldc2_w 125, 3), (6, .invokestatic 70, 3), (9, .ifCond .ne 5, 3), (12, .iconst (-1), 1), (13, .ireturn, 1), (14, .iconst 0, 1), (15, .istore_n 2, 1), (16, .bipush (-5), 2), (18, .istore_n 3, 1), (19, .iconst 0, 1), (20, .istore 4, 2), (22, .bipush (-5), 2), (24, .istore 5, 2), (26, .iconst 0, 1), (27, .istore 6, 2), (29, .iload 6, 2), (31, .aload_n 0, 1), (32, .getfield 9, 3), (35, .if_icmp .ge 146, 3), (38, .iconst 0, 1), (39, .istore 7, 2), (41, .iload 7, 2), (43, .aload_n 0, 1), (44, .getfield 9, 3), (47, .if_icmp .ge 128, 3), (50, .aload_n 0, 1), (51, .iconst 1, 1), (52, .iload 6, 2), (54, .ishl, 1), (55, .iconst 1, 1), (56, .iload 7, 2), (58, .ishl, 1), (59, .invokevirtual 109, 3), (62, .istore 8, 2), (64, .iload 8, 2), (66, .ifCond .ne 26, 3), (69, .iload 4, 2), (71, .ifCond .ne 14, 3), (74, .bipush 10, 2), (76, .iload 6, 2), (78, .imul, 1), (79, .iload 7, 2), (81, .iadd, 1), (82, .goto 5, 3), (85, .iload 5, 2), (87, .istore 5, 2), (89, .iinc 4 1, 3), (92, .iconst 0, 1), (93, .istore 9, 2), (95, .iload 9, 2), (97, .aload_n 0, 1), (98, .getfield 9, 3), (101, .if_icmp .ge 68, 3), (104, .aload_n 0, 1), (105, .iload 8, 2), (107, .iconst 1, 1), (108, .iload 9, 2)] := decs_of (by decide +kernel)
theorem DX12_broken_1 : decs cX12_broken [(110, .ishl, 1), (111, .invokevirtual 109, 3), (114, .aload_n 0, 1), (115, .iconst 1, 1), (116, .iload 6, 2), (118, .ishl, 1), (119, .aload_n 0, 1), (120, .iconst 1, 1), (121, .iload 7, 2), (123, .ishl, 1), (124, .iconst 1, 1), (125, .iload 9, 2), (127, .ishl, 1), (128, .invokevirtual 109, 3), (131, .invokevirtual 109, 3), (134, .if_icmp .eq 29, 3), (137, .iload_n 2, 1), (138, .ifCond .ne 20, 3), (141, .bipush 100, 2), (143, .iload 6, 2), (145, .imul, 1), (146, .bipush 10, 2), (148, .iload 7, 2), (150, .imul, 1), (151, .iadd, 1), (152, .iload 9, 2), (154, .iadd, 1), (155, .goto 4, 3), (158, .iload_n 3, 1), (159, .istore_n 3, 1), (160, .iinc 2 1, 3), (163, .iinc 9 1, 3), (166, .goto (-71), 3), (169, .iinc 7 1, 3), (172, .goto (-131), 3), (175, .iinc 6 1, 3), (178, .goto (-149), 3), (181, .iload_n 1, 1), (182, .ifCond .ne 7, 3), (185, .iload_n 2, 1), (186, .goto 24, 3), (189, .iload_n 1, 1), (190, .iconst 1, 1), (191, .if_icmp .ne 7, 3), (194, .iload_n 3, 1), (195, .goto 15, 3), (198, .iload_n 1, 1), (199, .iconst 2, 1), (200, .if_icmp .ne 8, 3), (203, .iload 4, 2), (205, .goto 5, 3), (208, .iload 5, 2), (210, .ireturn, 1)] := decs_of (by decide +kernel)
theorem DX12_comes_0 : decs cX12_comes [(0, .aload_n 0, 1), (1, .getfield 23, 3), (4, .iload_n 1, 1), (5, .iaload, 1), (6, .istore_n 3, 1), (7, .iconst 0, 1), (8, .istore 4, 2), (10, .iload 4, 2), (12, .iload_n 3, 1), (13, .if_icmp .ge 23, 3), (16, .aload_n 0, 1), (17, .iload_n 1, 1), (18, .iload 4, 2), (20, .iload_n 3, 1), (21, .iload_n 2, 1), (22, .iload 4, 2), (24, .invokestatic 138, 3), (27, .invokevirtual 141, 3), (30, .iinc 4 1, 3), (33, .goto (-23), 3), (36, .aload_n 0, 1), (37, .getfield 23, 3), (40, .iload_n 1, 1), (41, .dup2, 1), (42, .iaload, 1), (43, .iconst 1, 1), (44, .iadd, 1), (45, .iastore, 1), (46, .return_, 1)] := decs_of (by decide +kernel)
theorem DX12_compose_0 : decs cX12_compose [(0, .aload_n 0, 1), (1, .iload_n 1, 1), (2, .invokevirtual 91, 3), (5, .ifCond .eq 20, 3), (8, .aload_n 0, 1), (9, .iload_n 2, 1), (10, .invokevirtual 91, 3), (13, .ifCond .eq 12, 3), (16, .aload_n 0, 1), (17, .iload_n 1, 1), (18, .iload_n 2, 1), (19, .invokevirtual 109, 3), (22, .goto 5, 3), (25, .bipush (-2), 2), (27, .ireturn, 1)] := decs_of (by decide +kernel)
theorem DX12_composed_0 : decs cX12_composed [(0, .iconst 0, 1), (1, .istore_n 3, 1), (2, .iconst 0, 1), (3, .istore 4, 2), (5, .iload 4, 2), (7, .aload_n 0, 1), (8, .getfield 9, 3), (11, .if_icmp .ge 87, 3), (14, .iconst 0, 1), (15, .istore 5, 2), (17, .iload 5, 2), (19, .aload_n 0, 1), (20, .getfield 9, 3), (23, .if_icmp .ge 69, 3), (26, .iconst 0, 1), (27, .istore 6, 2), (29, .iload 6, 2), (31, .aload_n 0, 1), (32, .getfield 9, 3), (35, .if_icmp .ge 51, 3), (38, .iload_n 3, 1), (39, .iload_n 1, 1), (40, .iload 4, 2), (42, .invokestatic 87, 3), (45, .ifCond .eq 32, 3), (48, .iload_n 2, 1), (49, .iload 5, 2), (51, .invokestatic 87, 3), (54, .ifCond .eq 23, 3), (57, .aload_n 0, 1), (58, .iload 4, 2), (60, .iload 5, 2), (62, .iload 6, 2), (64, .invokevirtual 105, 3), (67, .ifCond .eq 10, 3), (70, .iconst 1, 1), (71, .iload 6, 2), (73, .ishl, 1), (74, .goto 4, 3), (77, .iconst 0, 1), (78, .ior, 1), (79, .istore_n 3, 1), (80, .iinc 6 1, 3), (83, .goto (-54), 3), (86, .iinc 5 1, 3), (89, .goto (-72), 3), (92, .iinc 4 1, 3), (95, .goto (-90), 3), (98, .iload_n 3, 1), (99, .ireturn, 1)] := decs_of (by decide +kernel)
theorem DX12_composedBy_0 : decs cX12_composedBy [(0, .iload_n 3, 1), (1, .ifCond .ne 12, 3), (4, .aload_n 0, 1), (5, .iload_n 1, 1), (6, .iload_n 2, 1), (7, .invokevirtual 109, 3), (10, .goto 9, 3), (13, .aload_n 0, 1), (14, .iload_n 2, 1), (15, .iload_n 1, 1), (16, .invokevirtual 109, 3), (19, .ireturn, 1)] := decs_of (by decide +kernel)
theorem DX12_converse_0 : decs cX12_converse [(0, .aload_n 0, 1), (1, .iload_n 1, 1), (2, .invokevirtual 91, 3), (5, .ifCond .eq 11, 3), (8, .aload_n 0, 1), (9, .iload_n 1, 1), (10, .invokevirtual 94, 3), (13, .goto 5, 3), (16, .bipush (-2), 2), (18, .ireturn, 1)] := decs_of (by decide +kernel)
theorem DX12_copy_0 : decs cX12_copy [(0, .iload_n 1, 1), (1, .invokestatic 145, 3), (4, .ifCond .eq 10, 3), (7, .iload_n 2, 1), (8, .invokestatic 145, 3), (11, .ifCond .ne 5, 3), (14, .iconst (-1), 1), (15, .ireturn, 1), (16, .aload_n 0, 1), (17, .iload_n 1, 1), (18, .iload_n 2, 1), (19, .invokevirtual 161, 3), (22, .aload_n 0, 1), (23, .getfield 23, 3), (26, .iload_n 2, 1), (27, .iaload, 1), (28, .ireturn, 1)] := decs_of (by decide +kernel)
theorem DX12_count_0 : decs cX12_count [(0, .iload_n 1, 1), (1, .tableswitch 119 0 4 #[35, 40, 61, 66, 101], 35), (36, .aload_n 0, 1), (37, .getfield 9, 3), (40, .ireturn, 1), (41, .aload_n 0, 1), (42, .getfield 23, 3), (45, .iconst 0, 1), (46, .iaload, 1), (47, .aload_n 0, 1), (48, .getfield 23, 3), (51, .iconst 1, 1), (52, .iaload, 1), (53, .iadd, 1), (54, .aload_n 0, 1), (55, .getfield 23, 3), (58, .iconst 2, 1), (59, .iaload, 1), (60, .iadd, 1), (61, .ireturn, 1), (62, .aload_n 0, 1), (63, .getfield 261, 3), (66, .ireturn, 1), (67, .iconst 0, 1), (68, .istore_n 2, 1), (69, .iconst 0, 1), (70, .istore_n 3, 1), (71, .iload_n 3, 1), (72, .iconst 3, 1), (73, .if_icmp .ge 27, 3), (76, .iload_n 2, 1), (77, .aload_n 0, 1), (78, .getfield 35, 3), (81, .iload_n 3, 1), (82, .iaload, 1), (83, .iconst (-1), 1), (84, .if_icmp .ne 7, 3), (87, .iconst 0, 1), (88, .goto 4, 3), (91, .iconst 1, 1), (92, .iadd, 1), (93, .istore_n 2, 1), (94, .iinc 3 1, 3), (97, .goto (-26), 3), (100, .iload_n 2, 1), (101, .ireturn, 1), (102, .aload_n 0, 1), (103, .getfield 74, 3), (106, .ifCond .eq 12, 3), (109, .aload_n 0, 1), (110, .getfield 23, 3), (113, .iconst 3, 1), (114, .iaload, 1), (115, .goto 4, 3), (118, .iconst 0, 1), (119, .ireturn, 1), (120, .iconst (-1), 1), (121, .ireturn, 1)] := decs_of (by decide +kernel)
theorem DX12_cycleOf_0 : decs cX12_cycleOf [(0, .iconst 0, 1), (1, .istore 4, 2), (3, .iconst 0, 1), (4, .istore 5, 2), (6, .iload 5, 2), (8, .bipush 6, 2), (10, .if_icmp .ge 76, 3), (13, .iconst 1, 1), (14, .istore 6, 2), (16, .iconst 0, 1), (17, .istore 7, 2), (19, .iload 7, 2), (21, .iload 5, 2), (23, .if_icmp .ge 42, 3), (26, .iload 6, 2), (28, .ifCond .eq 28, 3), (31, .aload_n 0, 1), (32, .iload_n 1, 1), (33, .iload_n 2, 1), (34, .iload_n 3, 1), (35, .iload 7, 2), (37, .invokevirtual 101, 3), (40, .aload_n 0, 1), (41, .iload_n 1, 1), (42, .iload_n 2, 1), (43, .iload_n 3, 1), (44, .iload 5, 2), (46, .invokevirtual 101, 3), (49, .if_icmp .eq 7, 3), (52, .iconst 1, 1), (53, .goto 4, 3), (56, .iconst 0, 1), (57, .istore 6, 2), (59, .iinc 7 1, 3), (62, .goto (-43), 3), (65, .iload 4, 2), (67, .iload 6, 2), (69, .ifCond .eq 7, 3), (72, .iconst 1, 1), (73, .goto 4, 3), (76, .iconst 0, 1), (77, .iadd, 1), (78, .istore 4, 2), (80, .iinc 5 1, 3), (83, .goto (-77), 3), (86, .iload 4, 2), (88, .ireturn, 1)] := decs_of (by decide +kernel)
theorem DX12_cycles_0 : decs cX12_cycles [(0, .iload_n 1, 1), (1, .i2l, 1), (2, .lconst 0, 1), (3, .ldc2_w 125, 3), (6, .invokestatic 70, 3), (9, .ifCond .ne 5, 3), (12, .iconst (-1), 1), (13, .ireturn, 1), (14, .iconst 0, 1), (15, .istore_n 2, 1), (16, .iconst 0, 1), (17, .istore_n 3, 1), (18, .iconst 0, 1), (19, .istore 4, 2), (21, .iconst 0, 1), (22, .istore 5, 2), (24, .iconst 0, 1), (25, .istore 6, 2), (27, .iload 6, 2), (29, .aload_n 0, 1), (30, .getfield 9, 3), (33, .if_icmp .ge 155, 3), (36, .iconst 0, 1), (37, .istore 7, 2), (39, .iload 7, 2), (41, .aload_n 0, 1), (42, .getfield 9, 3), (45, .if_icmp .ge 137, 3), (48, .iconst 0, 1), (49, .istore 8, 2), (51, .iload 8, 2), (53, .aload_n 0, 1), (54, .getfield 9, 3), (57, .if_icmp .ge 119, 3), (60, .iload 5, 2), (62, .aload_n 0, 1), (63, .iload 6, 2), (65, .iload 7, 2), (67, .iload 8, 2), (69, .invokevirtual 105, 3), (72, .ifCond .eq 7, 3), (75, .iconst 1, 1), (76, .goto 4, 3), (79, .iconst 0, 1), (80, .iadd, 1), (81, .istore 5, 2), (83, .iload 6, 2), (85, .ifCond .le 85, 3), (88, .iload 7, 2), (90, .ifCond .le 80, 3), (93, .iload 8, 2), (95, .ifCond .le 75, 3), (98, .aload_n 0, 1), (99, .iload 6, 2), (101, .iload 7, 2), (103, .iload 8, 2), (105, .invokevirtual 127, 3), (108, .ifCond .eq 62, 3), (111, .iinc 3 1, 3), (114, .iload_n 2, 1)] := decs_of (by decide +kernel)
theorem DX12_cycles_1 : decs cX12_cycles [(115, .aload_n 0, 1), (116, .iload 6, 2), (118, .iload 7, 2), (120, .iload 8, 2), (122, .invokevirtual 105, 3), (125, .ifCond .eq 7, 3), (128, .iconst 1, 1), (129, .goto 4, 3), (132, .iconst 0, 1), (133, .iadd, 1), (134, .istore_n 2, 1), (135, .aload_n 0, 1), (136, .iload 6, 2), (138, .iload 7, 2), (140, .iload 8, 2), (142, .invokevirtual 105, 3), (145, .ifCond .eq 21, 3), (148, .iload 4, 2), (150, .aload_n 0, 1), (151, .iload 6, 2), (153, .iload 7, 2), (155, .iload 8, 2), (157, .invokevirtual 130, 3), (160, .invokestatic 133, 3), (163, .goto 5, 3), (166, .iload 4, 2), (168, .istore 4, 2), (170, .iinc 8 1, 3), (173, .goto (-122), 3), (176, .iinc 7 1, 3), (179, .goto (-140), 3), (182, .iinc 6 1, 3), (185, .goto (-158), 3), (188, .iload_n 1, 1), (189, .ifCond .ne 7, 3), (192, .iload_n 2, 1), (193, .goto 24, 3), (196, .iload_n 1, 1), (197, .iconst 1, 1), (198, .if_icmp .ne 7, 3), (201, .iload_n 3, 1), (202, .goto 15, 3), (205, .iload_n 1, 1), (206, .iconst 2, 1), (207, .if_icmp .ne 8, 3), (210, .iload 5, 2), (212, .goto 5, 3), (215, .iload 4, 2), (217, .ireturn, 1)] := decs_of (by decide +kernel)
theorem DX12_digit_0 : decs cX12_digit [(0, .iload_n 0, 1), (1, .istore_n 2, 1), (2, .iconst 0, 1), (3, .istore_n 3, 1), (4, .iload_n 3, 1), (5, .iload_n 1, 1), (6, .if_icmp .ge 14, 3), (9, .iload_n 2, 1), (10, .bipush 10, 2), (12, .idiv, 1), (13, .istore_n 2, 1), (14, .iinc 3 1, 3), (17, .goto (-13), 3), (20, .iload_n 2, 1), (21, .bipush 10, 2), (23, .irem, 1), (24, .ireturn, 1)] := decs_of (by decide +kernel)
theorem DX12_drop_0 : decs cX12_drop [(0, .iload_n 1, 1), (1, .invokestatic 145, 3), (4, .ifCond .ne 5, 3), (7, .iconst (-1), 1), (8, .ireturn, 1), (9, .aload_n 0, 1), (10, .getfield 23, 3), (13, .iload_n 1, 1), (14, .iaload, 1), (15, .ifCond .ne 6, 3), (18, .bipush (-3), 2), (20, .ireturn, 1), (21, .aload_n 0, 1), (22, .getfield 23, 3), (25, .iload_n 1, 1), (26, .dup2, 1), (27, .iaload, 1), (28, .iconst 1, 1), (29, .isub, 1), (30, .iastore, 1), (31, .aload_n 0, 1), (32, .getfield 23, 3), (35, .iload_n 1, 1), (36, .iaload, 1), (37, .ireturn, 1)] := decs_of (by decide +kernel)
theorem DX12_equivalence_0 : decs cX12_equivalence [(0, .iload_n 1, 1), (1, .iconst (-1), 1), (2, .if_icmp .ge 5, 3), (5, .iconst (-1), 1), (6, .ireturn, 1), (7, .iconst 0, 1), (8, .istore_n 2, 1), (9, .iconst 0, 1), (10, .istore_n 3, 1), (11, .iload_n 3, 1), (12, .iconst 1, 1), (13, .aload_n 0, 1), (14, .getfield 9, 3), (17, .ishl, 1), (18, .if_icmp .ge 27, 3), (21, .aload_n 0, 1), (22, .iload_n 3, 1), (23, .invokevirtual 120, 3), (26, .ifCond .eq 13, 3), (29, .iload_n 2, 1), (30, .iload_n 1, 1), (31, .if_icmp .ne 5, 3), (34, .iload_n 3, 1), (35, .ireturn, 1), (36, .iinc 2 1, 3), (39, .iinc 3 1, 3), (42, .goto (-31), 3), (45, .iload_n 1, 1), (46, .iconst (-1), 1), (47, .if_icmp .ne 7, 3), (50, .iload_n 2, 1), (51, .goto 4, 3), (54, .iconst (-1), 1), (55, .ireturn, 1)] := decs_of (by decide +kernel)
theorem DX12_falseStep_0 : decs cX12_falseStep [(0, .iconst 0, 1), (1, .istore_n 1, 1), (2, .iload_n 1, 1), (3, .aload_n 0, 1), (4, .getfield 235, 3), (7, .if_icmp .ge 65, 3), (10, .iconst 0, 1), (11, .istore_n 2, 1), (12, .iload_n 2, 1), (13, .aload_n 0, 1), (14, .getfield 9, 3), (17, .if_icmp .ge 49, 3), (20, .iconst 0, 1), (21, .istore_n 3, 1), (22, .iload_n 3, 1), (23, .aload_n 0, 1), (24, .getfield 9, 3), (27, .if_icmp .ge 33, 3), (30, .aload_n 0, 1), (31, .iload_n 1, 1), (32, .iload_n 2, 1), (33, .iload_n 3, 1), (34, .invokevirtual 238, 3), (37, .aload_n 0, 1), (38, .iload_n 2, 1), (39, .iload_n 3, 1), (40, .aload_n 0, 1), (41, .getfield 32, 3), (44, .iload_n 1, 1), (45, .iaload, 1), (46, .invokevirtual 105, 3), (49, .if_icmp .eq 5, 3), (52, .iload_n 1, 1), (53, .ireturn, 1), (54, .iinc 3 1, 3), (57, .goto (-35), 3), (60, .iinc 2 1, 3), (63, .goto (-51), 3), (66, .iinc 1 1, 3), (69, .goto (-67), 3), (72, .bipush (-5), 2), (74, .ireturn, 1)] := decs_of (by decide +kernel)
theorem DX12_feed_0 : decs cX12_feed [(0, .iload_n 1, 1), (1, .i2l, 1), (2, .ldc2_w 257, 3), (5, .ldc2_w 259, 3), (8, .invokestatic 70, 3), (11, .ifCond .ne 6, 3), (14, .bipush (-2), 2), (16, .ireturn, 1), (17, .aload_n 0, 1), (18, .getfield 261, 3), (21, .bipush 100, 2), (23, .if_icmp .ne 6, 3), (26, .bipush (-4), 2), (28, .ireturn, 1), (29, .aload_n 0, 1), (30, .getfield 49, 3), (33, .aload_n 0, 1), (34, .getfield 261, 3), (37, .iload_n 1, 1), (38, .iastore, 1), (39, .aload_n 0, 1), (40, .dup, 1), (41, .getfield 261, 3), (44, .iconst 1, 1), (45, .iadd, 1), (46, .putfield 261, 3), (49, .aload_n 0, 1), (50, .getfield 261, 3), (53, .ireturn, 1)] := decs_of (by decide +kernel)
theorem DX12_fills_0 : decs cX12_fills [(0, .iload_n 1, 1), (1, .invokestatic 145, 3), (4, .ifCond .eq 8, 3), (7, .iload_n 3, 1), (8, .iconst (-1), 1), (9, .if_icmp .ge 5, 3), (12, .iconst (-1), 1), (13, .ireturn, 1), (14, .aload_n 0, 1), (15, .iload_n 1, 1), (16, .iload_n 2, 1), (17, .invokevirtual 211, 3), (20, .ifCond .ne 6, 3), (23, .bipush (-2), 2), (25, .ireturn, 1), (26, .aload_n 0, 1), (27, .iload_n 1, 1), (28, .invokevirtual 164, 3), (31, .bipush (-5), 2), (33, .if_icmp .eq 6, 3), (36, .bipush (-3), 2), (38, .ireturn, 1), (39, .aload_n 0, 1), (40, .getfield 23, 3), (43, .iload_n 1, 1), (44, .iaload, 1), (45, .bipush 6, 2), (47, .if_icmp .ne 6, 3), (50, .bipush (-4), 2), (52, .ireturn, 1), (53, .aload_n 0, 1), (54, .iload_n 1, 1), (55, .iload_n 2, 1), (56, .iload_n 3, 1), (57, .invokevirtual 214, 3), (60, .iload_n 3, 1), (61, .iconst (-1), 1), (62, .if_icmp .ne 10, 3), (65, .aload_n 0, 1), (66, .getfield 174, 3), (69, .goto 20, 3), (72, .aload_n 0, 1), (73, .getfield 180, 3), (76, .bipush (-5), 2), (78, .if_icmp .ne 7, 3), (81, .iconst (-1), 1), (82, .goto 7, 3), (85, .aload_n 0, 1), (86, .getfield 180, 3), (89, .ireturn, 1)] := decs_of (by decide +kernel)
theorem DX12_fillsFrom_0 : decs cX12_fillsFrom [(0, .aload_n 0, 1), (1, .getfield 23, 3), (4, .iconst 5, 1), (5, .iaload, 1), (6, .istore 6, 2), (8, .iload_n 1, 1), (9, .ifCond .ge 12, 3), (12, .aload_n 0, 1), (13, .iload 4, 2), (15, .iload 5, 2), (17, .invokevirtual 193, 3), (20, .ireturn, 1), (21, .iload_n 2, 1), (22, .sipush 1000, 3), (25, .idiv, 1), (26, .istore 7, 2), (28, .iload_n 2, 1), (29, .bipush 100, 2), (31, .idiv, 1), (32, .bipush 10, 2), (34, .irem, 1), (35, .istore 8, 2), (37, .iload_n 2, 1), (38, .bipush 10, 2), (40, .idiv, 1), (41, .bipush 10, 2), (43, .irem, 1), (44, .istore 9, 2), (46, .aload_n 0, 1), (47, .getfield 15, 3), (50, .iload_n 2, 1), (51, .bipush 10, 2), (53, .irem, 1), (54, .iaload, 1), (55, .istore 10, 2), (57, .iconst 1, 1), (58, .istore 11, 2), (60, .iload 11, 2), (62, .aload_n 0, 1), (63, .getfield 9, 3), (66, .if_icmp .ge 93, 3), (69, .iload_n 1, 1), (70, .iload 7, 2), (72, .if_icmp .ne 10, 3), (75, .iload 11, 2), (77, .iload 9, 2), (79, .if_icmp .ne 20, 3), (82, .iload_n 1, 1), (83, .iload 8, 2), (85, .if_icmp .ne 10, 3), (88, .iload 11, 2), (90, .iload 10, 2), (92, .if_icmp .ne 7, 3), (95, .iconst 1, 1), (96, .goto 4, 3), (99, .iconst 0, 1), (100, .istore 12, 2), (102, .iload 12, 2), (104, .ifCond .eq 49, 3), (107, .aload_n 0, 1)] := decs_of (by decide +kernel)
theorem DX12_fillsFrom_1 : decs cX12_fillsFrom [(108, .iload_n 1, 1), (109, .iload 11, 2), (111, .invokevirtual 196, 3), (114, .ifCond .eq 39, 3), (117, .aload_n 0, 1), (118, .iconst 5, 1), (119, .iload_n 1, 1), (120, .iload 6, 2), (122, .iload 11, 2), (124, .invokevirtual 141, 3), (127, .aload_n 0, 1), (128, .iload_n 1, 1), (129, .iconst 1, 1), (130, .isub, 1), (131, .iload_n 2, 1), (132, .iload_n 3, 1), (133, .bipush 10, 2), (135, .idiv, 1), (136, .iload 4, 2), (138, .iload_n 3, 1), (139, .iload 11, 2), (141, .imul, 1), (142, .iadd, 1), (143, .iload 5, 2), (145, .invokevirtual 199, 3), (148, .ifCond .eq 5, 3), (151, .iconst 1, 1), (152, .ireturn, 1), (153, .iinc 11 1, 3), (156, .goto (-96), 3), (159, .iconst 0, 1), (160, .ireturn, 1)] := decs_of (by decide +kernel)
theorem DX12_fixes_0 : decs cX12_fixes [(0, .iconst 0, 1), (1, .istore_n 1, 1), (2, .iload_n 1, 1), (3, .iconst 4, 1), (4, .if_icmp .ge 107, 3), (7, .iconst 0, 1), (8, .istore_n 2, 1), (9, .iload_n 2, 1), (10, .iconst 4, 1), (11, .if_icmp .ge 94, 3), (14, .iconst 0, 1), (15, .istore_n 3, 1), (16, .iload_n 3, 1), (17, .iconst 4, 1), (18, .if_icmp .ge 81, 3), (21, .iload_n 1, 1), (22, .ifCond .ne 16, 3), (25, .iload_n 2, 1), (26, .iload_n 3, 1), (27, .if_icmp .ne 7, 3), (30, .iconst 1, 1), (31, .goto 43, 3), (34, .iconst 0, 1), (35, .goto 39, 3), (38, .iload_n 2, 1), (39, .ifCond .ne 16, 3), (42, .iload_n 1, 1), (43, .iload_n 3, 1), (44, .if_icmp .ne 7, 3), (47, .iconst 1, 1), (48, .goto 26, 3), (51, .iconst 0, 1), (52, .goto 22, 3), (55, .iload_n 3, 1), (56, .ifCond .ne 17, 3), (59, .iload_n 2, 1), (60, .aload_n 0, 1), (61, .getfield 15, 3), (64, .iload_n 1, 1), (65, .iaload, 1), (66, .if_icmp .ne 7, 3), (69, .iconst 1, 1), (70, .goto 4, 3), (73, .iconst 0, 1), (74, .istore 4, 2), (76, .aload_n 0, 1), (77, .getfield 19, 3), (80, .bipush 16, 2), (82, .iload_n 1, 1), (83, .imul, 1), (84, .iconst 4, 1), (85, .iload_n 2, 1), (86, .imul, 1), (87, .iadd, 1), (88, .iload_n 3, 1), (89, .iadd, 1), (90, .iload 4, 2), (92, .bastore, 1), (93, .iinc 3 1, 3), (96, .goto (-80), 3)] := decs_of (by decide +kernel)
theorem DX12_fixes_1 : decs cX12_fixes [(99, .iinc 2 1, 3), (102, .goto (-93), 3), (105, .iinc 1 1, 3), (108, .goto (-106), 3), (111, .iconst 0, 1), (112, .istore_n 1, 1), (113, .iload_n 1, 1), (114, .bipush 6, 2), (116, .if_icmp .ge 16, 3), (119, .aload_n 0, 1), (120, .getfield 23, 3), (123, .iload_n 1, 1), (124, .iconst 0, 1), (125, .iastore, 1), (126, .iinc 1 1, 3), (129, .goto (-16), 3), (132, .aload_n 0, 1), (133, .iconst 0, 1), (134, .putfield 74, 3), (137, .aload_n 0, 1), (138, .iconst 0, 1), (139, .putfield 78, 3), (142, .return_, 1)] := decs_of (by decide +kernel)
theorem DX12_forbid_0 : decs cX12_forbid [(0, .iload_n 1, 1), (1, .iconst (-1), 1), (2, .if_icmp .eq 12, 3), (5, .iload_n 1, 1), (6, .invokestatic 145, 3), (9, .ifCond .ne 5, 3), (12, .iconst (-1), 1), (13, .ireturn, 1), (14, .aload_n 0, 1), (15, .getfield 74, 3), (18, .ifCond .eq 12, 3), (21, .aload_n 0, 1), (22, .getfield 23, 3), (25, .iconst 3, 1), (26, .iaload, 1), (27, .goto 5, 3), (30, .bipush (-5), 2), (32, .istore_n 2, 1), (33, .aload_n 0, 1), (34, .iload_n 1, 1), (35, .iconst (-1), 1), (36, .if_icmp .eq 7, 3), (39, .iconst 1, 1), (40, .goto 4, 3), (43, .iconst 0, 1), (44, .putfield 74, 3), (47, .aload_n 0, 1), (48, .getfield 23, 3), (51, .iconst 3, 1), (52, .iconst 0, 1), (53, .iastore, 1), (54, .aload_n 0, 1), (55, .getfield 74, 3), (58, .ifCond .eq 9, 3), (61, .aload_n 0, 1), (62, .iload_n 1, 1), (63, .iconst 3, 1), (64, .invokevirtual 161, 3), (67, .iload_n 2, 1), (68, .ireturn, 1)] := decs_of (by decide +kernel)
theorem DX12_found_0 : decs cX12_found [(0, .iload_n 1, 1), (1, .invokestatic 241, 3), (4, .ifCond .ne 5, 3), (7, .iconst (-1), 1), (8, .ireturn, 1), (9, .aload_n 0, 1), (10, .getfield 32, 3), (13, .iconst 0, 1), (14, .iconst 0, 1), (15, .iastore, 1), (16, .aload_n 0, 1), (17, .iconst 2, 1), (18, .putfield 235, 3), (21, .aload_n 0, 1), (22, .getfield 235, 3), (25, .bipush 13, 2), (27, .if_icmp .gt 77, 3), (30, .aload_n 0, 1), (31, .iconst 1, 1), (32, .invokevirtual 252, 3), (35, .ifCond .eq 56, 3), (38, .aload_n 0, 1), (39, .getfield 35, 3), (42, .iload_n 1, 1), (43, .aload_n 0, 1), (44, .getfield 235, 3), (47, .iconst 1, 1), (48, .isub, 1), (49, .iastore, 1), (50, .iconst 1, 1), (51, .istore_n 2, 1), (52, .iload_n 2, 1), (53, .aload_n 0, 1), (54, .getfield 235, 3), (57, .if_icmp .ge 29, 3), (60, .aload_n 0, 1), (61, .getfield 38, 3), (64, .bipush 12, 2), (66, .iload_n 1, 1), (67, .imul, 1), (68, .iload_n 2, 1), (69, .iadd, 1), (70, .iconst 1, 1), (71, .isub, 1), (72, .aload_n 0, 1), (73, .getfield 32, 3), (76, .iload_n 2, 1), (77, .iaload, 1), (78, .i2l, 1), (79, .lastore, 1), (80, .iinc 2 1, 3), (83, .goto (-31), 3), (86, .aload_n 0, 1), (87, .getfield 235, 3), (90, .ireturn, 1), (91, .aload_n 0, 1), (92, .dup, 1), (93, .getfield 235, 3), (96, .iconst 1, 1), (97, .iadd, 1)] := decs_of (by decide +kernel)
theorem DX12_found_1 : decs cX12_found [(98, .putfield 235, 3), (101, .goto (-80), 3), (104, .bipush (-5), 2), (106, .ireturn, 1)] := decs_of (by decide +kernel)
theorem DX12_gap_0 : decs cX12_gap [(0, .iload_n 1, 1), (1, .invokestatic 145, 3), (4, .ifCond .eq 8, 3), (7, .iload_n 2, 1), (8, .iconst (-1), 1), (9, .if_icmp .ge 5, 3), (12, .iconst (-1), 1), (13, .ireturn, 1), (14, .iconst 0, 1), (15, .istore_n 3, 1), (16, .aload_n 0, 1), (17, .iload_n 1, 1), (18, .iconst (-1), 1), (19, .invokevirtual 171, 3), (22, .istore 4, 2), (24, .iload 4, 2), (26, .iconst (-1), 1), (27, .if_icmp .eq 23, 3), (30, .iload_n 3, 1), (31, .iload_n 2, 1), (32, .if_icmp .eq 18, 3), (35, .iinc 3 1, 3), (38, .aload_n 0, 1), (39, .iload_n 1, 1), (40, .iload 4, 2), (42, .invokevirtual 171, 3), (45, .istore 4, 2), (47, .goto (-23), 3), (50, .iload_n 2, 1), (51, .iconst (-1), 1), (52, .if_icmp .ne 7, 3), (55, .iload_n 3, 1), (56, .goto 5, 3), (59, .iload 4, 2), (61, .ireturn, 1)] := decs_of (by decide +kernel)
theorem DX12_gapBehind_0 : decs cX12_gapBehind [(0, .iload_n 2, 1), (1, .iconst (-1), 1), (2, .if_icmp .ne 7, 3), (5, .iconst 0, 1), (6, .goto 8, 3), (9, .iload_n 2, 1), (10, .sipush 1000, 3), (13, .idiv, 1), (14, .istore_n 3, 1), (15, .iload_n 3, 1), (16, .istore 4, 2), (18, .iload 4, 2), (20, .aload_n 0, 1), (21, .getfield 23, 3), (24, .iload_n 1, 1), (25, .iaload, 1), (26, .if_icmp .ge 135, 3), (29, .iload_n 2, 1), (30, .iconst (-1), 1), (31, .if_icmp .eq 19, 3), (34, .iload 4, 2), (36, .iload_n 3, 1), (37, .if_icmp .ne 13, 3), (40, .iload_n 2, 1), (41, .bipush 100, 2), (43, .idiv, 1), (44, .bipush 10, 2), (46, .irem, 1), (47, .goto 5, 3), (50, .iload 4, 2), (52, .istore 5, 2), (54, .iload 5, 2), (56, .aload_n 0, 1), (57, .getfield 23, 3), (60, .iload_n 1, 1), (61, .iaload, 1), (62, .if_icmp .ge 93, 3), (65, .iconst 1, 1), (66, .istore 6, 2), (68, .iload 6, 2), (70, .aload_n 0, 1), (71, .getfield 9, 3), (74, .if_icmp .ge 75, 3), (77, .iconst 1, 1), (78, .istore 7, 2), (80, .iload 7, 2), (82, .aload_n 0, 1), (83, .getfield 9, 3), (86, .if_icmp .ge 57, 3), (89, .sipush 1000, 3), (92, .iload 4, 2), (94, .imul, 1), (95, .bipush 100, 2), (97, .iload 5, 2), (99, .imul, 1), (100, .iadd, 1), (101, .bipush 10, 2), (103, .iload 6, 2), (105, .imul, 1), (106, .iadd, 1)] := decs_of (by decide +kernel)
theorem DX12_gapBehind_1 : decs cX12_gapBehind [(107, .iload 7, 2), (109, .iadd, 1), (110, .istore 8, 2), (112, .iload 8, 2), (114, .iload_n 2, 1), (115, .if_icmp .le 22, 3), (118, .aload_n 0, 1), (119, .iload_n 1, 1), (120, .iload 4, 2), (122, .iload 5, 2), (124, .iload 6, 2), (126, .iload 7, 2), (128, .invokevirtual 167, 3), (131, .ifCond .eq 6, 3), (134, .iload 8, 2), (136, .ireturn, 1), (137, .iinc 7 1, 3), (140, .goto (-60), 3), (143, .iinc 6 1, 3), (146, .goto (-78), 3), (149, .iinc 5 1, 3), (152, .goto (-98), 3), (155, .iinc 4 1, 3), (158, .goto (-140), 3), (161, .iconst (-1), 1), (162, .ireturn, 1)] := decs_of (by decide +kernel)
theorem DX12_get_0 : decs cX12_get [(0, .iload_n 1, 1), (1, .invokestatic 241, 3), (4, .ifCond .eq 35, 3), (7, .iload_n 2, 1), (8, .i2l, 1), (9, .lconst 0, 1), (10, .aload_n 0, 1), (11, .getfield 35, 3), (14, .iload_n 1, 1), (15, .iaload, 1), (16, .iconst 1, 1), (17, .isub, 1), (18, .i2l, 1), (19, .invokestatic 70, 3), (22, .ifCond .eq 17, 3), (25, .aload_n 0, 1), (26, .getfield 38, 3), (29, .bipush 12, 2), (31, .iload_n 1, 1), (32, .imul, 1), (33, .iload_n 2, 1), (34, .iadd, 1), (35, .laload, 1), (36, .goto 6, 3), (39, .ldc2_w 255, 3), (42, .lreturn, 1)] := decs_of (by decide +kernel)
theorem DX12_has_0 : decs cX12_has [(0, .iload_n 0, 1), (1, .iload_n 1, 1), (2, .ishr, 1), (3, .iconst 1, 1), (4, .iand, 1), (5, .iconst 1, 1), (6, .if_icmp .ne 7, 3), (9, .iconst 1, 1), (10, .goto 4, 3), (13, .iconst 0, 1), (14, .ireturn, 1)] := decs_of (by decide +kernel)
theorem DX12_image_0 : decs cX12_image [(0, .aload_n 0, 1), (1, .iconst 1, 1), (2, .putfield 312, 3), (5, .aload_n 0, 1), (6, .aload_n 0, 1), (7, .getfield 9, 3), (10, .putfield 315, 3), (13, .iconst 0, 1), (14, .istore_n 1, 1), (15, .iload_n 1, 1), (16, .iconst 4, 1), (17, .if_icmp .ge 21, 3), (20, .aload_n 0, 1), (21, .getfield 55, 3), (24, .iload_n 1, 1), (25, .aload_n 0, 1), (26, .getfield 15, 3), (29, .iload_n 1, 1), (30, .iaload, 1), (31, .iastore, 1), (32, .iinc 1 1, 3), (35, .goto (-20), 3), (38, .iconst 0, 1), (39, .istore_n 1, 1), (40, .iload_n 1, 1), (41, .bipush 64, 2), (43, .if_icmp .ge 21, 3), (46, .aload_n 0, 1), (47, .getfield 58, 3), (50, .iload_n 1, 1), (51, .aload_n 0, 1), (52, .getfield 19, 3), (55, .iload_n 1, 1), (56, .baload, 1), (57, .bastore, 1), (58, .iinc 1 1, 3), (61, .goto (-21), 3), (64, .iconst 0, 1), (65, .istore_n 1, 1), (66, .iload_n 1, 1), (67, .iconst 3, 1), (68, .if_icmp .gt 21, 3), (71, .aload_n 0, 1), (72, .getfield 61, 3), (75, .iload_n 1, 1), (76, .aload_n 0, 1), (77, .getfield 23, 3), (80, .iload_n 1, 1), (81, .iaload, 1), (82, .iastore, 1), (83, .iinc 1 1, 3), (86, .goto (-20), 3), (89, .iconst 0, 1), (90, .istore_n 1, 1), (91, .iload_n 1, 1), (92, .sipush 144, 3), (95, .if_icmp .ge 21, 3), (98, .aload_n 0, 1), (99, .getfield 64, 3), (102, .iload_n 1, 1)] := decs_of (by decide +kernel)
theorem DX12_image_1 : decs cX12_image [(103, .aload_n 0, 1), (104, .getfield 26, 3), (107, .iload_n 1, 1), (108, .iaload, 1), (109, .iastore, 1), (110, .iinc 1 1, 3), (113, .goto (-22), 3), (116, .aload_n 0, 1), (117, .aload_n 0, 1), (118, .getfield 74, 3), (121, .putfield 318, 3), (124, .aload_n 0, 1), (125, .getfield 9, 3), (128, .ireturn, 1)] := decs_of (by decide +kernel)
theorem DX12_init_0 : decs cX12_init [(0, .aload_n 0, 1), (1, .invokespecial 3, 3), (4, .aload_n 0, 1), (5, .iconst 1, 1), (6, .putfield 9, 3), (9, .aload_n 0, 1), (10, .iconst 4, 1), (11, .newarray .int, 2), (13, .dup, 1), (14, .iconst 0, 1), (15, .iconst 0, 1), (16, .iastore, 1), (17, .dup, 1), (18, .iconst 1, 1), (19, .iconst 1, 1), (20, .iastore, 1), (21, .dup, 1), (22, .iconst 2, 1), (23, .iconst 2, 1), (24, .iastore, 1), (25, .dup, 1), (26, .iconst 3, 1), (27, .iconst 3, 1), (28, .iastore, 1), (29, .putfield 15, 3), (32, .aload_n 0, 1), (33, .bipush 64, 2), (35, .newarray .boolean, 2), (37, .putfield 19, 3), (40, .aload_n 0, 1), (41, .bipush 6, 2), (43, .newarray .int, 2), (45, .putfield 23, 3), (48, .aload_n 0, 1), (49, .sipush 216, 3), (52, .newarray .int, 2), (54, .putfield 26, 3), (57, .aload_n 0, 1), (58, .sipush 256, 3), (61, .newarray .int, 2), (63, .putfield 29, 3), (66, .aload_n 0, 1), (67, .bipush 13, 2), (69, .newarray .int, 2), (71, .putfield 32, 3), (74, .aload_n 0, 1), (75, .iconst 3, 1), (76, .newarray .int, 2), (78, .dup, 1), (79, .iconst 0, 1), (80, .iconst (-1), 1), (81, .iastore, 1), (82, .dup, 1), (83, .iconst 1, 1), (84, .iconst (-1), 1), (85, .iastore, 1), (86, .dup, 1), (87, .iconst 2, 1), (88, .iconst (-1), 1), (89, .iastore, 1)] := decs_of (by decide +kernel)
theorem DX12_init_1 : decs cX12_init [(90, .putfield 35, 3), (93, .aload_n 0, 1), (94, .bipush 36, 2), (96, .newarray .long, 2), (98, .putfield 38, 3), (101, .aload_n 0, 1), (102, .bipush 18, 2), (104, .newarray .char, 2), (106, .dup, 1), (107, .iconst 0, 1), (108, .bipush 97, 2), (110, .castore, 1), (111, .dup, 1), (112, .iconst 1, 1), (113, .bipush 116, 2), (115, .castore, 1), (116, .dup, 1), (117, .iconst 2, 1), (118, .bipush 111, 2), (120, .castore, 1), (121, .dup, 1), (122, .iconst 3, 1), (123, .bipush 109, 2), (125, .castore, 1), (126, .dup, 1), (127, .iconst 4, 1), (128, .bipush 115, 2), (130, .castore, 1), (131, .dup, 1), (132, .iconst 5, 1), (133, .bipush 32, 2), (135, .castore, 1), (136, .dup, 1), (137, .bipush 6, 2), (139, .bipush 112, 2), (141, .castore, 1), (142, .dup, 1), (143, .bipush 7, 2), (145, .bipush 97, 2), (147, .castore, 1), (148, .dup, 1), (149, .bipush 8, 2), (151, .bipush 105, 2), (153, .castore, 1), (154, .dup, 1), (155, .bipush 9, 2), (157, .bipush 114, 2), (159, .castore, 1), (160, .dup, 1), (161, .bipush 10, 2), (163, .bipush 32, 2), (165, .castore, 1), (166, .dup, 1), (167, .bipush 11, 2), (169, .bipush 105, 2), (171, .castore, 1), (172, .dup, 1), (173, .bipush 12, 2), (175, .bipush 110, 2), (177, .castore, 1)] := decs_of (by decide +kernel)
theorem DX12_init_2 : decs cX12_init [(178, .dup, 1), (179, .bipush 13, 2), (181, .bipush 32, 2), (183, .castore, 1), (184, .dup, 1), (185, .bipush 14, 2), (187, .bipush 111, 2), (189, .castore, 1), (190, .dup, 1), (191, .bipush 15, 2), (193, .bipush 117, 2), (195, .castore, 1), (196, .dup, 1), (197, .bipush 16, 2), (199, .bipush 116, 2), (201, .castore, 1), (202, .dup, 1), (203, .bipush 17, 2), (205, .bipush 32, 2), (207, .castore, 1), (208, .putfield 42, 3), (211, .aload_n 0, 1), (212, .iconst 4, 1), (213, .newarray .int, 2), (215, .dup, 1), (216, .iconst 0, 1), (217, .iconst 1, 1), (218, .iastore, 1), (219, .dup, 1), (220, .iconst 1, 1), (221, .iconst 2, 1), (222, .iastore, 1), (223, .dup, 1), (224, .iconst 2, 1), (225, .iconst 3, 1), (226, .iastore, 1), (227, .dup, 1), (228, .iconst 3, 1), (229, .iconst 3, 1), (230, .iastore, 1), (231, .putfield 46, 3), (234, .aload_n 0, 1), (235, .bipush 100, 2), (237, .newarray .int, 2), (239, .putfield 49, 3), (242, .aload_n 0, 1), (243, .iconst 3, 1), (244, .newarray .int, 2), (246, .putfield 52, 3), (249, .aload_n 0, 1), (250, .iconst 4, 1), (251, .newarray .int, 2), (253, .putfield 55, 3), (256, .aload_n 0, 1), (257, .bipush 64, 2), (259, .newarray .boolean, 2), (261, .putfield 58, 3), (264, .aload_n 0, 1), (265, .bipush 6, 2), (267, .newarray .int, 2)] := decs_of (by decide +kernel)
theorem DX12_init_3 : decs cX12_init [(269, .putfield 61, 3), (272, .aload_n 0, 1), (273, .sipush 216, 3), (276, .newarray .int, 2), (278, .putfield 64, 3), (281, .aload_n 0, 1), (282, .invokevirtual 67, 3), (285, .return_, 1)] := decs_of (by decide +kernel)
theorem DX12_is_0 : decs cX12_is [(0, .aload_n 0, 1), (1, .getfield 19, 3), (4, .bipush 16, 2), (6, .iload_n 1, 1), (7, .imul, 1), (8, .iconst 4, 1), (9, .iload_n 2, 1), (10, .imul, 1), (11, .iadd, 1), (12, .iload_n 3, 1), (13, .iadd, 1), (14, .baload, 1), (15, .ireturn, 1)] := decs_of (by decide +kernel)
theorem DX12_isAllHad_0 : decs cX12_isAllHad [(0, .iconst 0, 1), (1, .istore_n 1, 1), (2, .iconst 0, 1), (3, .istore_n 2, 1), (4, .iload_n 2, 1), (5, .aload_n 0, 1), (6, .getfield 235, 3), (9, .if_icmp .ge 20, 3), (12, .iload_n 1, 1), (13, .iconst 1, 1), (14, .aload_n 0, 1), (15, .getfield 32, 3), (18, .iload_n 2, 1), (19, .iaload, 1), (20, .ishl, 1), (21, .ior, 1), (22, .istore_n 1, 1), (23, .iinc 2 1, 3), (26, .goto (-22), 3), (29, .iload_n 1, 1), (30, .iconst 1, 1), (31, .aload_n 0, 1), (32, .getfield 9, 3), (35, .ishl, 1), (36, .iconst 1, 1), (37, .isub, 1), (38, .if_icmp .ne 7, 3), (41, .iconst 1, 1), (42, .goto 4, 3), (45, .iconst 0, 1), (46, .ireturn, 1)] := decs_of (by decide +kernel)
theorem DX12_isAt_0 : decs cX12_isAt [(0, .aload_n 0, 1), (1, .getfield 264, 3), (4, .aload_n 0, 1), (5, .getfield 267, 3), (8, .if_icmp .ge 27, 3), (11, .aload_n 0, 1), (12, .getfield 49, 3), (15, .aload_n 0, 1), (16, .getfield 264, 3), (19, .iaload, 1), (20, .i2l, 1), (21, .iload_n 1, 1), (22, .i2l, 1), (23, .iload_n 2, 1), (24, .i2l, 1), (25, .invokestatic 70, 3), (28, .ifCond .eq 7, 3), (31, .iconst 1, 1), (32, .goto 4, 3), (35, .iconst 0, 1), (36, .ireturn, 1)] := decs_of (by decide +kernel)
theorem DX12_isAtom_0 : decs cX12_isAtom [(0, .iload_n 1, 1), (1, .i2l, 1), (2, .lconst 0, 1), (3, .aload_n 0, 1), (4, .getfield 9, 3), (7, .iconst 1, 1), (8, .isub, 1), (9, .i2l, 1), (10, .invokestatic 70, 3), (13, .ireturn, 1)] := decs_of (by decide +kernel)
theorem DX12_isBarred_0 : decs cX12_isBarred [(0, .aload_n 0, 1), (1, .getfield 74, 3), (4, .ifCond .eq 12, 3), (7, .aload_n 0, 1), (8, .getfield 23, 3), (11, .iconst 3, 1), (12, .iaload, 1), (13, .ifCond .ne 5, 3), (16, .iconst 0, 1), (17, .ireturn, 1), (18, .aload_n 0, 1), (19, .iconst 3, 1), (20, .iload_n 1, 1), (21, .iconst 0, 1), (22, .invokevirtual 189, 3), (25, .aload_n 0, 1), (26, .getfield 180, 3), (29, .bipush (-5), 2), (31, .if_icmp .eq 7, 3), (34, .iconst 1, 1), (35, .goto 4, 3), (38, .iconst 0, 1), (39, .ireturn, 1)] := decs_of (by decide +kernel)
theorem DX12_isDone_0 : decs cX12_isDone [(0, .iload_n 1, 1), (1, .lookupswitch 71 #[(0, 27), (1, 46)], 27), (28, .aload_n 0, 1), (29, .aload_n 0, 1), (30, .getfield 52, 3), (33, .iconst 0, 1), (34, .iaload, 1), (35, .invokevirtual 276, 3), (38, .ifCond .lt 7, 3), (41, .iconst 1, 1), (42, .goto 4, 3), (45, .iconst 0, 1), (46, .ireturn, 1), (47, .aload_n 0, 1), (48, .aload_n 0, 1), (49, .getfield 52, 3), (52, .iconst 0, 1), (53, .iaload, 1), (54, .aload_n 0, 1), (55, .getfield 52, 3), (58, .iconst 1, 1), (59, .iaload, 1), (60, .invokevirtual 278, 3), (63, .ifCond .lt 7, 3), (66, .iconst 1, 1), (67, .goto 4, 3), (70, .iconst 0, 1), (71, .ireturn, 1), (72, .aload_n 0, 1), (73, .aload_n 0, 1), (74, .getfield 52, 3), (77, .iconst 0, 1), (78, .iaload, 1), (79, .aload_n 0, 1), (80, .getfield 52, 3), (83, .iconst 1, 1), (84, .iaload, 1), (85, .aload_n 0, 1), (86, .getfield 52, 3), (89, .iconst 2, 1), (90, .iaload, 1), (91, .iload_n 1, 1), (92, .iconst 2, 1), (93, .if_icmp .ne 7, 3), (96, .iconst 1, 1), (97, .goto 4, 3), (100, .iconst 0, 1), (101, .invokevirtual 281, 3), (104, .ifCond .lt 7, 3), (107, .iconst 1, 1), (108, .goto 4, 3), (111, .iconst 0, 1), (112, .ireturn, 1)] := decs_of (by decide +kernel)
theorem DX12_isEquivalence_0 : decs cX12_isEquivalence [(0, .iload_n 1, 1), (1, .iconst 0, 1), (2, .invokestatic 87, 3), (5, .ifCond .eq 29, 3), (8, .aload_n 0, 1), (9, .iload_n 1, 1), (10, .invokevirtual 94, 3), (13, .iload_n 1, 1), (14, .if_icmp .ne 20, 3), (17, .aload_n 0, 1), (18, .iload_n 1, 1), (19, .iload_n 1, 1), (20, .invokevirtual 109, 3), (23, .iload_n 1, 1), (24, .iconst (-1), 1), (25, .ixor, 1), (26, .iand, 1), (27, .ifCond .ne 7, 3), (30, .iconst 1, 1), (31, .goto 4, 3), (34, .iconst 0, 1), (35, .ireturn, 1)] := decs_of (by decide +kernel)
theorem DX12_isFillOf_0 : decs cX12_isFillOf [(0, .aload_n 0, 1), (1, .iconst 4, 1), (2, .iload_n 1, 1), (3, .invokevirtual 211, 3), (6, .ifCond .eq 54, 3), (9, .aload_n 0, 1), (10, .iconst 4, 1), (11, .iload_n 2, 1), (12, .invokevirtual 148, 3), (15, .ifCond .eq 45, 3), (18, .iload_n 2, 1), (19, .iload_n 1, 1), (20, .sipush 1000, 3), (23, .idiv, 1), (24, .invokestatic 138, 3), (27, .iload_n 1, 1), (28, .bipush 10, 2), (30, .idiv, 1), (31, .bipush 10, 2), (33, .irem, 1), (34, .if_icmp .ne 26, 3), (37, .iload_n 2, 1), (38, .iload_n 1, 1), (39, .bipush 100, 2), (41, .idiv, 1), (42, .bipush 10, 2), (44, .irem, 1), (45, .invokestatic 138, 3), (48, .aload_n 0, 1), (49, .getfield 15, 3), (52, .iload_n 1, 1), (53, .bipush 10, 2), (55, .irem, 1), (56, .iaload, 1), (57, .if_icmp .eq 5, 3), (60, .iconst 0, 1), (61, .ireturn, 1), (62, .aload_n 0, 1), (63, .iconst 4, 1), (64, .iconst 5, 1), (65, .invokevirtual 161, 3), (68, .aload_n 0, 1), (69, .iconst 5, 1), (70, .iload_n 2, 1), (71, .invokevirtual 151, 3), (74, .aload_n 0, 1), (75, .iconst 5, 1), (76, .invokevirtual 164, 3), (79, .bipush (-5), 2), (81, .if_icmp .ne 15, 3), (84, .aload_n 0, 1), (85, .iconst 5, 1), (86, .invokevirtual 202, 3), (89, .ifCond .ne 7, 3), (92, .iconst 1, 1), (93, .goto 4, 3), (96, .iconst 0, 1), (97, .ireturn, 1)] := decs_of (by decide +kernel)
theorem DX12_isFillable_0 : decs cX12_isFillable [(0, .iconst 1, 1), (1, .istore_n 3, 1), (2, .iconst 1, 1), (3, .istore 4, 2), (5, .iload 4, 2), (7, .aload_n 0, 1), (8, .getfield 23, 3), (11, .iconst 5, 1), (12, .iaload, 1), (13, .if_icmp .ge 14, 3), (16, .iload_n 3, 1), (17, .bipush 10, 2), (19, .imul, 1), (20, .istore_n 3, 1), (21, .iinc 4 1, 3), (24, .goto (-19), 3), (27, .aload_n 0, 1), (28, .aload_n 0, 1), (29, .getfield 23, 3), (32, .iconst 5, 1), (33, .iaload, 1), (34, .iconst 1, 1), (35, .isub, 1), (36, .iload_n 1, 1), (37, .iload_n 3, 1), (38, .iconst 0, 1), (39, .iload_n 2, 1), (40, .invokevirtual 199, 3), (43, .ireturn, 1)] := decs_of (by decide +kernel)
theorem DX12_isFilled_0 : decs cX12_isFilled [(0, .aload_n 0, 1), (1, .getfield 174, 3), (4, .istore_n 3, 1), (5, .aload_n 0, 1), (6, .getfield 177, 3), (9, .istore 4, 2), (11, .aload_n 0, 1), (12, .getfield 180, 3), (15, .istore 5, 2), (17, .aload_n 0, 1), (18, .getfield 23, 3), (21, .iconst 5, 1), (22, .dup2, 1), (23, .iaload, 1), (24, .iconst 1, 1), (25, .iadd, 1), (26, .iastore, 1), (27, .aload_n 0, 1), (28, .iconst 5, 1), (29, .invokevirtual 202, 3), (32, .ifCond .ne 7, 3), (35, .iconst 1, 1), (36, .goto 4, 3), (39, .iconst 0, 1), (40, .istore 6, 2), (42, .aload_n 0, 1), (43, .iload_n 3, 1), (44, .putfield 174, 3), (47, .aload_n 0, 1), (48, .iload 4, 2), (50, .putfield 177, 3), (53, .aload_n 0, 1), (54, .iload 5, 2), (56, .putfield 180, 3), (59, .iconst 0, 1), (60, .istore 7, 2), (62, .iload 6, 2), (64, .ifCond .eq 60, 3), (67, .iload_n 2, 1), (68, .iconst (-1), 1), (69, .if_icmp .ne 55, 3), (72, .aload_n 0, 1), (73, .aload_n 0, 1), (74, .getfield 174, 3), (77, .aload_n 0, 1), (78, .getfield 177, 3), (81, .if_icmp .ne 7, 3), (84, .iload_n 1, 1), (85, .goto 7, 3), (88, .aload_n 0, 1), (89, .getfield 180, 3), (92, .putfield 180, 3), (95, .aload_n 0, 1), (96, .dup, 1), (97, .getfield 174, 3), (100, .iconst 1, 1), (101, .iadd, 1), (102, .putfield 174, 3), (105, .aload_n 0, 1), (106, .getfield 180, 3)] := decs_of (by decide +kernel)
theorem DX12_isFilled_1 : decs cX12_isFilled [(109, .bipush (-5), 2), (111, .if_icmp .eq 7, 3), (114, .iconst 1, 1), (115, .goto 4, 3), (118, .iconst 0, 1), (119, .istore 7, 2), (121, .goto 15, 3), (124, .iload 6, 2), (126, .ifCond .eq 10, 3), (129, .aload_n 0, 1), (130, .iload_n 2, 1), (131, .invokevirtual 205, 3), (134, .istore 7, 2), (136, .aload_n 0, 1), (137, .getfield 23, 3), (140, .iconst 5, 1), (141, .dup2, 1), (142, .iaload, 1), (143, .iconst 1, 1), (144, .isub, 1), (145, .iastore, 1), (146, .iload 7, 2), (148, .ireturn, 1)] := decs_of (by decide +kernel)
theorem DX12_isFrom_0 : decs cX12_isFrom [(0, .lload_n 0, 1), (1, .lload_n 2, 1), (2, .lcmp, 1), (3, .ifCond .lt 14, 3), (6, .lload_n 0, 1), (7, .lload 4, 2), (9, .lcmp, 1), (10, .ifCond .gt 7, 3), (13, .iconst 1, 1), (14, .goto 4, 3), (17, .iconst 0, 1), (18, .ireturn, 1)] := decs_of (by decide +kernel)
theorem DX12_isGap_0 : decs cX12_isGap [(0, .aload_n 0, 1), (1, .iload 4, 2), (3, .iload 5, 2), (5, .aload_n 0, 1), (6, .iload_n 1, 1), (7, .iload_n 2, 1), (8, .iload_n 3, 1), (9, .invokevirtual 158, 3), (12, .invokevirtual 105, 3), (15, .ifCond .ne 5, 3), (18, .iconst 0, 1), (19, .ireturn, 1), (20, .iconst 0, 1), (21, .istore 6, 2), (23, .iload 6, 2), (25, .aload_n 0, 1), (26, .getfield 23, 3), (29, .iload_n 1, 1), (30, .iaload, 1), (31, .if_icmp .ge 37, 3), (34, .aload_n 0, 1), (35, .iload_n 1, 1), (36, .iload_n 2, 1), (37, .iload 6, 2), (39, .invokevirtual 158, 3), (42, .iload 4, 2), (44, .if_icmp .ne 18, 3), (47, .aload_n 0, 1), (48, .iload_n 1, 1), (49, .iload 6, 2), (51, .iload_n 3, 1), (52, .invokevirtual 158, 3), (55, .iload 5, 2), (57, .if_icmp .ne 5, 3), (60, .iconst 0, 1), (61, .ireturn, 1), (62, .iinc 6 1, 3), (65, .goto (-42), 3), (68, .iconst 1, 1), (69, .ireturn, 1)] := decs_of (by decide +kernel)
theorem DX12_isGapOf_0 : decs cX12_isGapOf [(0, .iload_n 2, 1), (1, .sipush 1000, 3), (4, .idiv, 1), (5, .istore_n 3, 1), (6, .iload_n 2, 1), (7, .bipush 100, 2), (9, .idiv, 1), (10, .bipush 10, 2), (12, .irem, 1), (13, .istore 4, 2), (15, .iload_n 2, 1), (16, .bipush 10, 2), (18, .idiv, 1), (19, .bipush 10, 2), (21, .irem, 1), (22, .istore 5, 2), (24, .iload_n 2, 1), (25, .bipush 10, 2), (27, .irem, 1), (28, .istore 6, 2), (30, .iload_n 2, 1), (31, .ifCond .lt 65, 3), (34, .aload_n 0, 1), (35, .iload_n 1, 1), (36, .iload_n 3, 1), (37, .invokevirtual 155, 3), (40, .ifCond .eq 56, 3), (43, .aload_n 0, 1), (44, .iload_n 1, 1), (45, .iload 4, 2), (47, .invokevirtual 155, 3), (50, .ifCond .eq 46, 3), (53, .iload_n 3, 1), (54, .iload 4, 2), (56, .if_icmp .gt 40, 3), (59, .aload_n 0, 1), (60, .iload 5, 2), (62, .invokevirtual 83, 3), (65, .ifCond .eq 31, 3), (68, .aload_n 0, 1), (69, .iload 6, 2), (71, .invokevirtual 83, 3), (74, .ifCond .eq 22, 3), (77, .aload_n 0, 1), (78, .iload_n 1, 1), (79, .iload_n 3, 1), (80, .iload 4, 2), (82, .iload 5, 2), (84, .iload 6, 2), (86, .invokevirtual 167, 3), (89, .ifCond .eq 7, 3), (92, .iconst 1, 1), (93, .goto 4, 3), (96, .iconst 0, 1), (97, .ireturn, 1)] := decs_of (by decide +kernel)
theorem DX12_isIn_0 : decs cX12_isIn [(0, .aload_n 0, 1), (1, .iload_n 1, 1), (2, .invokevirtual 98, 3), (5, .ifCond .eq 19, 3), (8, .aload_n 0, 1), (9, .iload_n 2, 1), (10, .invokevirtual 98, 3), (13, .ifCond .eq 11, 3), (16, .aload_n 0, 1), (17, .iload_n 3, 1), (18, .invokevirtual 98, 3), (21, .ifCond .ne 5, 3), (24, .iconst (-1), 1), (25, .ireturn, 1), (26, .aload_n 0, 1), (27, .iload_n 1, 1), (28, .iload_n 2, 1), (29, .iload_n 3, 1), (30, .invokevirtual 105, 3), (33, .ifCond .eq 7, 3), (36, .iconst 1, 1), (37, .goto 4, 3), (40, .iconst 0, 1), (41, .ireturn, 1)] := decs_of (by decide +kernel)
theorem DX12_isLeast_0 : decs cX12_isLeast [(0, .iconst 1, 1), (1, .istore 4, 2), (3, .iconst 1, 1), (4, .istore 5, 2), (6, .iload 5, 2), (8, .bipush 6, 2), (10, .if_icmp .ge 41, 3), (13, .iload 4, 2), (15, .ifCond .eq 27, 3), (18, .aload_n 0, 1), (19, .iload_n 1, 1), (20, .iload_n 2, 1), (21, .iload_n 3, 1), (22, .iload 5, 2), (24, .invokevirtual 101, 3), (27, .aload_n 0, 1), (28, .iload_n 1, 1), (29, .iload_n 2, 1), (30, .iload_n 3, 1), (31, .iconst 0, 1), (32, .invokevirtual 101, 3), (35, .if_icmp .lt 7, 3), (38, .iconst 1, 1), (39, .goto 4, 3), (42, .iconst 0, 1), (43, .istore 4, 2), (45, .iinc 5 1, 3), (48, .goto (-42), 3), (51, .iload 4, 2), (53, .ireturn, 1)] := decs_of (by decide +kernel)
theorem DX12_isLike_0 : decs cX12_isLike [(0, .iload 5, 2), (2, .istore 6, 2), (4, .aload_n 0, 1), (5, .getfield 23, 3), (8, .iload_n 1, 1), (9, .iaload, 1), (10, .iconst 1, 1), (11, .isub, 1), (12, .istore 7, 2), (14, .iload 7, 2), (16, .iload_n 3, 1), (17, .if_icmp .le 49, 3), (20, .iload 6, 2), (22, .iload 7, 2), (24, .invokestatic 138, 3), (27, .iconst 1, 1), (28, .isub, 1), (29, .istore 8, 2), (31, .iload 8, 2), (33, .iload 4, 2), (35, .if_icmp .eq 23, 3), (38, .aload_n 0, 1), (39, .iload_n 1, 1), (40, .iload_n 3, 1), (41, .iload 7, 2), (43, .invokevirtual 158, 3), (46, .aload_n 0, 1), (47, .iload_n 2, 1), (48, .iload 4, 2), (50, .iload 8, 2), (52, .invokevirtual 158, 3), (55, .if_icmp .eq 5, 3), (58, .iconst 0, 1), (59, .ireturn, 1), (60, .iinc 7 (-1), 3), (63, .goto (-49), 3), (66, .iconst 1, 1), (67, .ireturn, 1)] := decs_of (by decide +kernel)
theorem DX12_isList_0 : decs cX12_isList [(0, .iload_n 0, 1), (1, .i2l, 1), (2, .lconst 0, 1), (3, .ldc2_w 123, 3), (6, .invokestatic 70, 3), (9, .ireturn, 1)] := decs_of (by decide +kernel)
theorem DX12_isMet_0 : decs cX12_isMet [(0, .iconst 0, 1), (1, .istore 4, 2), (3, .iload 4, 2), (5, .aload_n 0, 1), (6, .getfield 235, 3), (9, .if_icmp .ge 45, 3), (12, .aload_n 0, 1), (13, .getfield 32, 3), (16, .iload 4, 2), (18, .iaload, 1), (19, .iload_n 2, 1), (20, .if_icmp .ne 28, 3), (23, .aload_n 0, 1), (24, .getfield 32, 3), (27, .iload_n 1, 1), (28, .iload 4, 2), (30, .isub, 1), (31, .aload_n 0, 1), (32, .getfield 235, 3), (35, .iadd, 1), (36, .aload_n 0, 1), (37, .getfield 235, 3), (40, .irem, 1), (41, .iaload, 1), (42, .iload_n 3, 1), (43, .if_icmp .ne 5, 3), (46, .iconst 1, 1), (47, .ireturn, 1), (48, .iinc 4 1, 3), (51, .goto (-48), 3), (54, .iconst 0, 1), (55, .ireturn, 1)] := decs_of (by decide +kernel)
theorem DX12_isNet_0 : decs cX12_isNet [(0, .iload_n 0, 1), (1, .i2l, 1), (2, .lconst 0, 1), (3, .ldc2_w 123, 3), (6, .invokestatic 70, 3), (9, .ireturn, 1)] := decs_of (by decide +kernel)
theorem DX12_isNode_0 : decs cX12_isNode [(0, .iload_n 2, 1), (1, .i2l, 1), (2, .lconst 0, 1), (3, .aload_n 0, 1), (4, .getfield 23, 3), (7, .iload_n 1, 1), (8, .iaload, 1), (9, .iconst 1, 1), (10, .isub, 1), (11, .i2l, 1), (12, .invokestatic 70, 3), (15, .ireturn, 1)] := decs_of (by decide +kernel)
theorem DX12_isOther_0 : decs cX12_isOther [(0, .iload_n 1, 1), (1, .i2l, 1), (2, .lconst 1, 1), (3, .aload_n 0, 1), (4, .getfield 9, 3), (7, .iconst 1, 1), (8, .isub, 1), (9, .i2l, 1), (10, .invokestatic 70, 3), (13, .ireturn, 1)] := decs_of (by decide +kernel)
theorem DX12_isPictured_0 : decs cX12_isPictured [(0, .iconst 2, 1), (1, .iload_n 1, 1), (2, .imul, 1), (3, .aload_n 0, 1), (4, .getfield 235, 3), (7, .if_icmp .le 25, 3), (10, .aload_n 0, 1), (11, .invokevirtual 244, 3), (14, .ifCond .eq 16, 3), (17, .aload_n 0, 1), (18, .invokevirtual 248, 3), (21, .bipush (-5), 2), (23, .if_icmp .ne 7, 3), (26, .iconst 1, 1), (27, .goto 4, 3), (30, .iconst 0, 1), (31, .ireturn, 1), (32, .iconst 1, 1), (33, .istore_n 2, 1), (34, .iload_n 2, 1), (35, .aload_n 0, 1), (36, .getfield 9, 3), (39, .if_icmp .ge 65, 3), (42, .iconst 2, 1), (43, .iload_n 1, 1), (44, .imul, 1), (45, .aload_n 0, 1), (46, .getfield 235, 3), (49, .if_icmp .ne 13, 3), (52, .aload_n 0, 1), (53, .getfield 15, 3), (56, .iload_n 2, 1), (57, .iaload, 1), (58, .iload_n 2, 1), (59, .if_icmp .ne 39, 3), (62, .aload_n 0, 1), (63, .getfield 32, 3), (66, .iload_n 1, 1), (67, .iload_n 2, 1), (68, .iastore, 1), (69, .aload_n 0, 1), (70, .getfield 32, 3), (73, .aload_n 0, 1), (74, .getfield 235, 3), (77, .iload_n 1, 1), (78, .isub, 1), (79, .aload_n 0, 1), (80, .getfield 15, 3), (83, .iload_n 2, 1), (84, .iaload, 1), (85, .iastore, 1), (86, .aload_n 0, 1), (87, .iload_n 1, 1), (88, .iconst 1, 1), (89, .iadd, 1), (90, .invokevirtual 252, 3), (93, .ifCond .eq 5, 3), (96, .iconst 1, 1), (97, .ireturn, 1), (98, .iinc 2 1, 3)] := decs_of (by decide +kernel)
theorem DX12_isPictured_1 : decs cX12_isPictured [(101, .goto (-67), 3), (104, .iconst 0, 1), (105, .ireturn, 1)] := decs_of (by decide +kernel)
theorem DX12_isPlayed_0 : decs cX12_isPlayed [(0, .aload_n 0, 1), (1, .iload_n 1, 1), (2, .invokevirtual 164, 3), (5, .bipush (-5), 2), (7, .if_icmp .ne 15, 3), (10, .aload_n 0, 1), (11, .iload_n 1, 1), (12, .invokevirtual 202, 3), (15, .ifCond .ne 7, 3), (18, .iconst 1, 1), (19, .goto 4, 3), (22, .iconst 0, 1), (23, .ireturn, 1)] := decs_of (by decide +kernel)
theorem DX12_isRelation_0 : decs cX12_isRelation [(0, .iload_n 1, 1), (1, .i2l, 1), (2, .lconst 0, 1), (3, .iconst 1, 1), (4, .aload_n 0, 1), (5, .getfield 9, 3), (8, .ishl, 1), (9, .iconst 1, 1), (10, .isub, 1), (11, .i2l, 1), (12, .invokestatic 70, 3), (15, .ireturn, 1)] := decs_of (by decide +kernel)
theorem DX12_isWon_0 : decs cX12_isWon [(0, .iload_n 1, 1), (1, .ifCond .ne 5, 3), (4, .iconst 1, 1), (5, .ireturn, 1), (6, .aload_n 0, 1), (7, .iload_n 1, 1), (8, .invokevirtual 217, 3), (11, .bipush (-5), 2), (13, .if_icmp .ne 7, 3), (16, .iconst 1, 1), (17, .goto 4, 3), (20, .iconst 0, 1), (21, .ireturn, 1)] := decs_of (by decide +kernel)
theorem DX12_judge_0 : decs cX12_judge [(0, .iload_n 1, 1), (1, .invokestatic 241, 3), (4, .ifCond .ne 5, 3), (7, .iconst (-1), 1), (8, .ireturn, 1), (9, .aload_n 0, 1), (10, .getfield 35, 3), (13, .iload_n 1, 1), (14, .iaload, 1), (15, .iconst (-1), 1), (16, .if_icmp .ne 6, 3), (19, .bipush (-11), 2), (21, .ireturn, 1), (22, .aload_n 0, 1), (23, .getfield 35, 3), (26, .iload_n 1, 1), (27, .iaload, 1), (28, .ifCond .ne 6, 3), (31, .bipush (-2), 2), (33, .ireturn, 1), (34, .aload_n 0, 1), (35, .aload_n 0, 1), (36, .getfield 35, 3), (39, .iload_n 1, 1), (40, .iaload, 1), (41, .iconst 1, 1), (42, .iadd, 1), (43, .putfield 235, 3), (46, .iconst 1, 1), (47, .istore_n 2, 1), (48, .iload_n 2, 1), (49, .aload_n 0, 1), (50, .getfield 235, 3), (53, .if_icmp .ge 100, 3), (56, .aload_n 0, 1), (57, .getfield 38, 3), (60, .bipush 12, 2), (62, .iload_n 1, 1), (63, .imul, 1), (64, .iload_n 2, 1), (65, .iadd, 1), (66, .iconst 1, 1), (67, .isub, 1), (68, .laload, 1), (69, .lstore_n 3, 1), (70, .aload_n 0, 1), (71, .getfield 38, 3), (74, .bipush 12, 2), (76, .iload_n 1, 1), (77, .imul, 1), (78, .aload_n 0, 1), (79, .getfield 235, 3), (82, .iadd, 1), (83, .iload_n 2, 1), (84, .isub, 1), (85, .iconst 1, 1), (86, .isub, 1), (87, .laload, 1), (88, .lstore 5, 2), (90, .lload_n 3, 1)] := decs_of (by decide +kernel)
theorem DX12_judge_1 : decs cX12_judge [(91, .lconst 1, 1), (92, .aload_n 0, 1), (93, .getfield 9, 3), (96, .iconst 1, 1), (97, .isub, 1), (98, .i2l, 1), (99, .invokestatic 70, 3), (102, .ifCond .eq 33, 3), (105, .lload 5, 2), (107, .lconst 1, 1), (108, .aload_n 0, 1), (109, .getfield 9, 3), (112, .iconst 1, 1), (113, .isub, 1), (114, .i2l, 1), (115, .invokestatic 70, 3), (118, .ifCond .eq 17, 3), (121, .aload_n 0, 1), (122, .getfield 15, 3), (125, .lload 5, 2), (127, .l2i, 1), (128, .iaload, 1), (129, .i2l, 1), (130, .lload_n 3, 1), (131, .lcmp, 1), (132, .ifCond .eq 7, 3), (135, .iload_n 2, 1), (136, .iconst 1, 1), (137, .isub, 1), (138, .ireturn, 1), (139, .aload_n 0, 1), (140, .getfield 32, 3), (143, .iload_n 2, 1), (144, .lload_n 3, 1), (145, .l2i, 1), (146, .iastore, 1), (147, .iinc 2 1, 3), (150, .goto (-102), 3), (153, .aload_n 0, 1), (154, .getfield 32, 3), (157, .iconst 0, 1), (158, .iconst 0, 1), (159, .iastore, 1), (160, .aload_n 0, 1), (161, .invokevirtual 244, 3), (164, .ifCond .ne 7, 3), (167, .sipush 200, 3), (170, .ireturn, 1), (171, .aload_n 0, 1), (172, .invokevirtual 248, 3), (175, .istore_n 2, 1), (176, .iload_n 2, 1), (177, .bipush (-5), 2), (179, .if_icmp .ne 8, 3), (182, .bipush (-5), 2), (184, .goto 7, 3), (187, .bipush 100, 2), (189, .iload_n 2, 1), (190, .iadd, 1), (191, .ireturn, 1)] := decs_of (by decide +kernel)
theorem DX12_killer_0 : decs cX12_killer [(0, .aload_n 0, 1), (1, .iload_n 1, 1), (2, .iload_n 2, 1), (3, .invokevirtual 223, 3), (6, .istore_n 3, 1), (7, .iload_n 3, 1), (8, .ifCond .eq 5, 3), (11, .iload_n 3, 1), (12, .ireturn, 1), (13, .aload_n 0, 1), (14, .iload_n 1, 1), (15, .iconst 5, 1), (16, .invokevirtual 161, 3), (19, .aload_n 0, 1), (20, .iload_n 2, 1), (21, .invokevirtual 217, 3), (24, .ireturn, 1)] := decs_of (by decide +kernel)
theorem DX12_killerOf_0 : decs cX12_killerOf [(0, .iload_n 1, 1), (1, .ifCond .ne 6, 3), (4, .bipush (-5), 2), (6, .ireturn, 1), (7, .aload_n 0, 1), (8, .iconst 5, 1), (9, .iconst (-1), 1), (10, .invokevirtual 171, 3), (13, .istore_n 2, 1), (14, .iload_n 2, 1), (15, .iconst (-1), 1), (16, .if_icmp .eq 26, 3), (19, .aload_n 0, 1), (20, .iload_n 2, 1), (21, .iload_n 1, 1), (22, .iconst 1, 1), (23, .isub, 1), (24, .invokevirtual 208, 3), (27, .ifCond .ne 5, 3), (30, .iload_n 2, 1), (31, .ireturn, 1), (32, .aload_n 0, 1), (33, .iconst 5, 1), (34, .iload_n 2, 1), (35, .invokevirtual 171, 3), (38, .istore_n 2, 1), (39, .goto (-25), 3), (42, .bipush (-5), 2), (44, .ireturn, 1)] := decs_of (by decide +kernel)
theorem DX12_label_0 : decs cX12_label [(0, .iload_n 1, 1), (1, .invokestatic 145, 3), (4, .ifCond .eq 31, 3), (7, .aload_n 0, 1), (8, .iload_n 1, 1), (9, .iload_n 2, 1), (10, .invokevirtual 155, 3), (13, .ifCond .eq 22, 3), (16, .aload_n 0, 1), (17, .iload_n 1, 1), (18, .iload_n 3, 1), (19, .invokevirtual 155, 3), (22, .ifCond .eq 13, 3), (25, .aload_n 0, 1), (26, .iload_n 1, 1), (27, .iload_n 2, 1), (28, .iload_n 3, 1), (29, .invokevirtual 158, 3), (32, .goto 4, 3), (35, .iconst (-1), 1), (36, .ireturn, 1)] := decs_of (by decide +kernel)
theorem DX12_labelOf_0 : decs cX12_labelOf [(0, .iload_n 2, 1), (1, .iload_n 3, 1), (2, .if_icmp .ne 7, 3), (5, .iconst 0, 1), (6, .goto 19, 3), (9, .aload_n 0, 1), (10, .getfield 26, 3), (13, .bipush 36, 2), (15, .iload_n 1, 1), (16, .imul, 1), (17, .bipush 6, 2), (19, .iload_n 2, 1), (20, .imul, 1), (21, .iadd, 1), (22, .iload_n 3, 1), (23, .iadd, 1), (24, .iaload, 1), (25, .ireturn, 1)] := decs_of (by decide +kernel)
theorem DX12_lasts_0 : decs cX12_lasts [(0, .aload_n 0, 1), (1, .iload_n 1, 1), (2, .iconst 0, 1), (3, .invokevirtual 223, 3), (6, .istore_n 2, 1), (7, .iload_n 2, 1), (8, .ifCond .eq 5, 3), (11, .iload_n 2, 1), (12, .ireturn, 1), (13, .aload_n 0, 1), (14, .iload_n 1, 1), (15, .iconst 5, 1), (16, .invokevirtual 161, 3), (19, .aload_n 0, 1), (20, .iconst 1, 1), (21, .invokevirtual 205, 3), (24, .ifCond .ne 7, 3), (27, .iconst 0, 1), (28, .goto 16, 3), (31, .aload_n 0, 1), (32, .iconst 2, 1), (33, .invokevirtual 205, 3), (36, .ifCond .eq 7, 3), (39, .iconst 2, 1), (40, .goto 4, 3), (43, .iconst 1, 1), (44, .ireturn, 1)] := decs_of (by decide +kernel)
theorem DX12_later_0 : decs cX12_later [(0, .aload_n 0, 1), (1, .getfield 78, 3), (4, .ifCond .eq 10, 3), (7, .aload_n 0, 1), (8, .getfield 226, 3), (11, .ifCond .ne 6, 3), (14, .bipush (-3), 2), (16, .ireturn, 1), (17, .aload_n 0, 1), (18, .getfield 29, 3), (21, .iconst 0, 1), (22, .iaload, 1), (23, .istore_n 1, 1), (24, .iconst 1, 1), (25, .istore_n 2, 1), (26, .iload_n 2, 1), (27, .aload_n 0, 1), (28, .getfield 226, 3), (31, .if_icmp .ge 23, 3), (34, .aload_n 0, 1), (35, .getfield 29, 3), (38, .iload_n 2, 1), (39, .iconst 1, 1), (40, .isub, 1), (41, .aload_n 0, 1), (42, .getfield 29, 3), (45, .iload_n 2, 1), (46, .iaload, 1), (47, .iastore, 1), (48, .iinc 2 1, 3), (51, .goto (-25), 3), (54, .aload_n 0, 1), (55, .getfield 29, 3), (58, .aload_n 0, 1), (59, .getfield 226, 3), (62, .iconst 1, 1), (63, .isub, 1), (64, .iload_n 1, 1), (65, .iastore, 1), (66, .aload_n 0, 1), (67, .getfield 226, 3), (70, .ireturn, 1)] := decs_of (by decide +kernel)
theorem DX12_lays_0 : decs cX12_lays [(0, .aload_n 0, 1), (1, .getfield 26, 3), (4, .bipush 36, 2), (6, .iload_n 1, 1), (7, .imul, 1), (8, .bipush 6, 2), (10, .iload_n 2, 1), (11, .imul, 1), (12, .iadd, 1), (13, .iload_n 3, 1), (14, .iadd, 1), (15, .iload 4, 2), (17, .iastore, 1), (18, .aload_n 0, 1), (19, .getfield 26, 3), (22, .bipush 36, 2), (24, .iload_n 1, 1), (25, .imul, 1), (26, .bipush 6, 2), (28, .iload_n 3, 1), (29, .imul, 1), (30, .iadd, 1), (31, .iload_n 2, 1), (32, .iadd, 1), (33, .aload_n 0, 1), (34, .getfield 15, 3), (37, .iload 4, 2), (39, .iaload, 1), (40, .iastore, 1), (41, .return_, 1)] := decs_of (by decide +kernel)
theorem DX12_likens_0 : decs cX12_likens [(0, .aload_n 0, 1), (1, .getfield 23, 3), (4, .iload_n 2, 1), (5, .aload_n 0, 1), (6, .getfield 23, 3), (9, .iload_n 1, 1), (10, .iaload, 1), (11, .iastore, 1), (12, .iconst 0, 1), (13, .istore_n 3, 1), (14, .iload_n 3, 1), (15, .bipush 36, 2), (17, .if_icmp .ge 31, 3), (20, .aload_n 0, 1), (21, .getfield 26, 3), (24, .bipush 36, 2), (26, .iload_n 2, 1), (27, .imul, 1), (28, .iload_n 3, 1), (29, .iadd, 1), (30, .aload_n 0, 1), (31, .getfield 26, 3), (34, .bipush 36, 2), (36, .iload_n 1, 1), (37, .imul, 1), (38, .iload_n 3, 1), (39, .iadd, 1), (40, .iaload, 1), (41, .iastore, 1), (42, .iinc 3 1, 3), (45, .goto (-31), 3), (48, .return_, 1)] := decs_of (by decide +kernel)
theorem DX12_list_0 : decs cX12_list [(0, .iload_n 1, 1), (1, .invokestatic 241, 3), (4, .ifCond .ne 5, 3), (7, .iconst (-1), 1), (8, .ireturn, 1), (9, .iload_n 2, 1), (10, .bipush 12, 2), (12, .if_icmp .le 6, 3), (15, .bipush (-2), 2), (17, .ireturn, 1), (18, .iload_n 2, 1), (19, .iconst (-1), 1), (20, .if_icmp .ge 6, 3), (23, .bipush (-14), 2), (25, .ireturn, 1), (26, .aload_n 0, 1), (27, .getfield 35, 3), (30, .iload_n 1, 1), (31, .iload_n 2, 1), (32, .iastore, 1), (33, .iconst 0, 1), (34, .istore_n 3, 1), (35, .iload_n 3, 1), (36, .bipush 12, 2), (38, .if_icmp .ge 21, 3), (41, .aload_n 0, 1), (42, .getfield 38, 3), (45, .bipush 12, 2), (47, .iload_n 1, 1), (48, .imul, 1), (49, .iload_n 3, 1), (50, .iadd, 1), (51, .lconst 0, 1), (52, .lastore, 1), (53, .iinc 3 1, 3), (56, .goto (-21), 3), (59, .iconst 1, 1), (60, .ireturn, 1)] := decs_of (by decide +kernel)
theorem DX12_looks_0 : decs cX12_looks [(0, .aload_n 0, 1), (1, .iconst 0, 1), (2, .putfield 174, 3), (5, .aload_n 0, 1), (6, .iload_n 3, 1), (7, .putfield 177, 3), (10, .aload_n 0, 1), (11, .bipush (-5), 2), (13, .putfield 180, 3), (16, .iconst 1, 1), (17, .istore 4, 2), (19, .iconst 1, 1), (20, .istore 5, 2), (22, .iload 5, 2), (24, .aload_n 0, 1), (25, .getfield 23, 3), (28, .iload_n 1, 1), (29, .iaload, 1), (30, .if_icmp .ge 16, 3), (33, .iload 4, 2), (35, .bipush 10, 2), (37, .imul, 1), (38, .istore 4, 2), (40, .iinc 5 1, 3), (43, .goto (-21), 3), (46, .aload_n 0, 1), (47, .iload_n 1, 1), (48, .iload_n 2, 1), (49, .aload_n 0, 1), (50, .getfield 23, 3), (53, .iload_n 1, 1), (54, .iaload, 1), (55, .iconst 1, 1), (56, .isub, 1), (57, .iload 4, 2), (59, .iconst 0, 1), (60, .invokevirtual 186, 3), (63, .pop, 1), (64, .return_, 1)] := decs_of (by decide +kernel)
theorem DX12_looksToFill_0 : decs cX12_looksToFill [(0, .aload_n 0, 1), (1, .iload_n 1, 1), (2, .iconst 5, 1), (3, .invokevirtual 161, 3), (6, .aload_n 0, 1), (7, .iconst 0, 1), (8, .putfield 174, 3), (11, .aload_n 0, 1), (12, .iload_n 3, 1), (13, .putfield 177, 3), (16, .aload_n 0, 1), (17, .bipush (-5), 2), (19, .putfield 180, 3), (22, .aload_n 0, 1), (23, .iload_n 2, 1), (24, .iconst (-1), 1), (25, .invokevirtual 208, 3), (28, .pop, 1), (29, .return_, 1)] := decs_of (by decide +kernel)
theorem DX12_mayStand_0 : decs cX12_mayStand [(0, .aload_n 0, 1), (1, .getfield 23, 3), (4, .iconst 5, 1), (5, .iaload, 1), (6, .istore_n 3, 1), (7, .iload_n 1, 1), (8, .iconst 1, 1), (9, .iadd, 1), (10, .istore 4, 2), (12, .iload 4, 2), (14, .iload_n 3, 1), (15, .if_icmp .ge 35, 3), (18, .aload_n 0, 1), (19, .aload_n 0, 1), (20, .iconst 5, 1), (21, .iload_n 1, 1), (22, .iload 4, 2), (24, .invokevirtual 158, 3), (27, .aload_n 0, 1), (28, .iconst 5, 1), (29, .iload 4, 2), (31, .iload_n 3, 1), (32, .invokevirtual 158, 3), (35, .iload_n 2, 1), (36, .invokevirtual 105, 3), (39, .ifCond .ne 5, 3), (42, .iconst 0, 1), (43, .ireturn, 1), (44, .iinc 4 1, 3), (47, .goto (-35), 3), (50, .iconst 1, 1), (51, .ireturn, 1)] := decs_of (by decide +kernel)
theorem DX12_node_0 : decs cX12_node [(0, .iload_n 1, 1), (1, .invokestatic 145, 3), (4, .ifCond .ne 5, 3), (7, .iconst (-1), 1), (8, .ireturn, 1), (9, .aload_n 0, 1), (10, .getfield 23, 3), (13, .iload_n 1, 1), (14, .iaload, 1), (15, .bipush 6, 2), (17, .if_icmp .ne 6, 3), (20, .bipush (-4), 2), (22, .ireturn, 1), (23, .aload_n 0, 1), (24, .iload_n 1, 1), (25, .iload_n 2, 1), (26, .invokevirtual 148, 3), (29, .ifCond .ne 6, 3), (32, .bipush (-2), 2), (34, .ireturn, 1), (35, .aload_n 0, 1), (36, .iload_n 1, 1), (37, .iload_n 2, 1), (38, .invokevirtual 151, 3), (41, .aload_n 0, 1), (42, .getfield 23, 3), (45, .iload_n 1, 1), (46, .iaload, 1), (47, .iconst 1, 1), (48, .isub, 1), (49, .ireturn, 1)] := decs_of (by decide +kernel)
theorem DX12_occurs_0 : decs cX12_occurs [(0, .iload_n 1, 1), (1, .invokestatic 145, 3), (4, .ifCond .eq 15, 3), (7, .iload_n 2, 1), (8, .invokestatic 145, 3), (11, .ifCond .eq 8, 3), (14, .iload_n 3, 1), (15, .iconst (-1), 1), (16, .if_icmp .ge 5, 3), (19, .iconst (-1), 1), (20, .ireturn, 1), (21, .aload_n 0, 1), (22, .iload_n 1, 1), (23, .iload_n 2, 1), (24, .iload_n 3, 1), (25, .invokevirtual 189, 3), (28, .iload_n 3, 1), (29, .iconst (-1), 1), (30, .if_icmp .ne 10, 3), (33, .aload_n 0, 1), (34, .getfield 174, 3), (37, .goto 20, 3), (40, .aload_n 0, 1), (41, .getfield 180, 3), (44, .bipush (-5), 2), (46, .if_icmp .ne 7, 3), (49, .iconst (-1), 1), (50, .goto 7, 3), (53, .aload_n 0, 1), (54, .getfield 180, 3), (57, .ireturn, 1)] := decs_of (by decide +kernel)
theorem DX12_over_0 : decs cX12_over [(0, .aload_n 0, 1), (1, .iload_n 1, 1), (2, .invokevirtual 91, 3), (5, .ifCond .eq 21, 3), (8, .aload_n 0, 1), (9, .iload_n 2, 1), (10, .invokevirtual 91, 3), (13, .ifCond .eq 13, 3), (16, .iload_n 3, 1), (17, .i2l, 1), (18, .lconst 0, 1), (19, .lconst 1, 1), (20, .invokestatic 70, 3), (23, .ifCond .ne 6, 3), (26, .bipush (-2), 2), (28, .ireturn, 1), (29, .iconst 0, 1), (30, .istore 4, 2), (32, .iconst 0, 1), (33, .istore 5, 2), (35, .iload 5, 2), (37, .aload_n 0, 1), (38, .getfield 9, 3), (41, .if_icmp .ge 39, 3), (44, .iload 4, 2), (46, .aload_n 0, 1), (47, .iconst 1, 1), (48, .iload 5, 2), (50, .ishl, 1), (51, .iload_n 2, 1), (52, .iload_n 3, 1), (53, .invokevirtual 113, 3), (56, .iload_n 1, 1), (57, .iconst (-1), 1), (58, .ixor, 1), (59, .iand, 1), (60, .ifCond .ne 10, 3), (63, .iconst 1, 1), (64, .iload 5, 2), (66, .ishl, 1), (67, .goto 4, 3), (70, .iconst 0, 1), (71, .ior, 1), (72, .istore 4, 2), (74, .iinc 5 1, 3), (77, .goto (-42), 3), (80, .iload 4, 2), (82, .ireturn, 1)] := decs_of (by decide +kernel)
theorem DX12_pair_0 : decs cX12_pair [(0, .aload_n 0, 1), (1, .iload_n 1, 1), (2, .invokevirtual 83, 3), (5, .ifCond .eq 11, 3), (8, .aload_n 0, 1), (9, .iload_n 2, 1), (10, .invokevirtual 83, 3), (13, .ifCond .ne 5, 3), (16, .iconst (-1), 1), (17, .ireturn, 1), (18, .aload_n 0, 1), (19, .getfield 15, 3), (22, .iload_n 1, 1), (23, .iaload, 1), (24, .istore_n 3, 1), (25, .aload_n 0, 1), (26, .getfield 15, 3), (29, .iload_n 2, 1), (30, .iaload, 1), (31, .istore 4, 2), (33, .aload_n 0, 1), (34, .getfield 15, 3), (37, .iload_n 3, 1), (38, .iload_n 3, 1), (39, .iastore, 1), (40, .aload_n 0, 1), (41, .getfield 15, 3), (44, .iload 4, 2), (46, .iload 4, 2), (48, .iastore, 1), (49, .aload_n 0, 1), (50, .getfield 15, 3), (53, .iload_n 1, 1), (54, .iload_n 2, 1), (55, .iastore, 1), (56, .aload_n 0, 1), (57, .getfield 15, 3), (60, .iload_n 2, 1), (61, .iload_n 1, 1), (62, .iastore, 1), (63, .aload_n 0, 1), (64, .invokevirtual 67, 3), (67, .iconst 0, 1), (68, .istore 5, 2), (70, .iconst 0, 1), (71, .istore 6, 2), (73, .iload 6, 2), (75, .aload_n 0, 1), (76, .getfield 9, 3), (79, .if_icmp .ge 31, 3), (82, .iload 5, 2), (84, .aload_n 0, 1), (85, .getfield 15, 3), (88, .iload 6, 2), (90, .iaload, 1), (91, .iload 6, 2), (93, .if_icmp .ne 7, 3), (96, .iconst 0, 1), (97, .goto 4, 3), (100, .iconst 1, 1)] := decs_of (by decide +kernel)
theorem DX12_pair_1 : decs cX12_pair [(101, .iadd, 1), (102, .istore 5, 2), (104, .iinc 6 1, 3), (107, .goto (-34), 3), (110, .iload 5, 2), (112, .ireturn, 1)] := decs_of (by decide +kernel)
theorem DX12_power_0 : decs cX12_power [(0, .aload_n 0, 1), (1, .iload_n 1, 1), (2, .invokevirtual 91, 3), (5, .ifCond .ne 6, 3), (8, .bipush (-2), 2), (10, .ireturn, 1), (11, .iload_n 2, 1), (12, .i2l, 1), (13, .lconst 0, 1), (14, .lconst 1, 1), (15, .invokestatic 70, 3), (18, .ifCond .ne 5, 3), (21, .iconst (-1), 1), (22, .ireturn, 1), (23, .aload_n 0, 1), (24, .iload_n 1, 1), (25, .bipush 16, 2), (27, .invokevirtual 117, 3), (30, .istore_n 3, 1), (31, .iconst 1, 1), (32, .istore 4, 2), (34, .aload_n 0, 1), (35, .iload_n 3, 1), (36, .iload_n 1, 1), (37, .invokevirtual 109, 3), (40, .istore 5, 2), (42, .iload 5, 2), (44, .iload_n 3, 1), (45, .if_icmp .eq 18, 3), (48, .aload_n 0, 1), (49, .iload 5, 2), (51, .iload_n 1, 1), (52, .invokevirtual 109, 3), (55, .istore 5, 2), (57, .iinc 4 1, 3), (60, .goto (-18), 3), (63, .iconst 0, 1), (64, .istore 6, 2), (66, .aload_n 0, 1), (67, .iload_n 1, 1), (68, .iload 6, 2), (70, .invokevirtual 117, 3), (73, .aload_n 0, 1), (74, .iload_n 1, 1), (75, .iload 6, 2), (77, .iload 4, 2), (79, .iadd, 1), (80, .invokevirtual 117, 3), (83, .if_icmp .eq 9, 3), (86, .iinc 6 1, 3), (89, .goto (-23), 3), (92, .iload_n 2, 1), (93, .ifCond .ne 8, 3), (96, .iload 6, 2), (98, .goto 5, 3), (101, .iload 4, 2), (103, .ireturn, 1)] := decs_of (by decide +kernel)
theorem DX12_powerOf_0 : decs cX12_powerOf [(0, .iload_n 1, 1), (1, .istore_n 3, 1), (2, .iconst 0, 1), (3, .istore 4, 2), (5, .iload 4, 2), (7, .iload_n 2, 1), (8, .if_icmp .ge 16, 3), (11, .aload_n 0, 1), (12, .iload_n 3, 1), (13, .iload_n 1, 1), (14, .invokevirtual 109, 3), (17, .istore_n 3, 1), (18, .iinc 4 1, 3), (21, .goto (-16), 3), (24, .iload_n 3, 1), (25, .ireturn, 1)] := decs_of (by decide +kernel)
theorem DX12_put_0 : decs cX12_put [(0, .iload_n 1, 1), (1, .invokestatic 241, 3), (4, .ifCond .ne 5, 3), (7, .iconst (-1), 1), (8, .ireturn, 1), (9, .aload_n 0, 1), (10, .getfield 35, 3), (13, .iload_n 1, 1), (14, .iaload, 1), (15, .iconst (-1), 1), (16, .if_icmp .ne 6, 3), (19, .bipush (-11), 2), (21, .ireturn, 1), (22, .iload_n 2, 1), (23, .i2l, 1), (24, .lconst 0, 1), (25, .aload_n 0, 1), (26, .getfield 35, 3), (29, .iload_n 1, 1), (30, .iaload, 1), (31, .iconst 1, 1), (32, .isub, 1), (33, .i2l, 1), (34, .invokestatic 70, 3), (37, .ifCond .ne 6, 3), (40, .bipush (-13), 2), (42, .ireturn, 1), (43, .aload_n 0, 1), (44, .getfield 38, 3), (47, .bipush 12, 2), (49, .iload_n 1, 1), (50, .imul, 1), (51, .iload_n 2, 1), (52, .iadd, 1), (53, .lload_n 3, 1), (54, .lastore, 1), (55, .iconst 1, 1), (56, .ireturn, 1)] := decs_of (by decide +kernel)
theorem DX12_read_0 : decs cX12_read [(0, .aload_n 0, 1), (1, .aload_n 0, 1), (2, .getfield 261, 3), (5, .putfield 267, 3), (8, .aload_n 0, 1), (9, .iconst 0, 1), (10, .putfield 261, 3), (13, .aload_n 0, 1), (14, .iconst 0, 1), (15, .putfield 264, 3), (18, .iconst 1, 1), (19, .istore_n 1, 1), (20, .iload_n 1, 1), (21, .ifCond .eq 49, 3), (24, .aload_n 0, 1), (25, .invokevirtual 284, 3), (28, .iconst (-1), 1), (29, .if_icmp .ne 11, 3), (32, .bipush (-100), 2), (34, .aload_n 0, 1), (35, .getfield 264, 3), (38, .isub, 1), (39, .ireturn, 1), (40, .aload_n 0, 1), (41, .bipush 59, 2), (43, .bipush 59, 2), (45, .invokevirtual 270, 3), (48, .istore_n 1, 1), (49, .aload_n 0, 1), (50, .dup, 1), (51, .getfield 264, 3), (54, .iload_n 1, 1), (55, .ifCond .eq 7, 3), (58, .iconst 1, 1), (59, .goto 4, 3), (62, .iconst 0, 1), (63, .iadd, 1), (64, .putfield 264, 3), (67, .goto (-47), 3), (70, .aload_n 0, 1), (71, .getfield 264, 3), (74, .aload_n 0, 1), (75, .getfield 267, 3), (78, .if_icmp .ge 11, 3), (81, .bipush (-100), 2), (83, .aload_n 0, 1), (84, .getfield 264, 3), (87, .isub, 1), (88, .ireturn, 1), (89, .aload_n 0, 1), (90, .iconst 0, 1), (91, .putfield 264, 3), (94, .iconst 0, 1), (95, .istore_n 2, 1), (96, .aload_n 0, 1), (97, .getfield 264, 3), (100, .aload_n 0, 1), (101, .getfield 267, 3), (104, .if_icmp .ge 36, 3), (107, .aload_n 0, 1)] := decs_of (by decide +kernel)
theorem DX12_read_1 : decs cX12_read [(108, .aload_n 0, 1), (109, .invokevirtual 284, 3), (112, .invokevirtual 287, 3), (115, .ifCond .ne 9, 3), (118, .sipush (-300), 3), (121, .iload_n 2, 1), (122, .isub, 1), (123, .ireturn, 1), (124, .iinc 2 1, 3), (127, .aload_n 0, 1), (128, .dup, 1), (129, .getfield 264, 3), (132, .iconst 1, 1), (133, .iadd, 1), (134, .putfield 264, 3), (137, .goto (-41), 3), (140, .iload_n 2, 1), (141, .ireturn, 1)] := decs_of (by decide +kernel)
theorem DX12_relabel_0 : decs cX12_relabel [(0, .iload_n 1, 1), (1, .invokestatic 145, 3), (4, .ifCond .eq 35, 3), (7, .aload_n 0, 1), (8, .iload_n 1, 1), (9, .iload_n 2, 1), (10, .invokevirtual 155, 3), (13, .ifCond .eq 26, 3), (16, .aload_n 0, 1), (17, .iload_n 1, 1), (18, .iload_n 3, 1), (19, .invokevirtual 155, 3), (22, .ifCond .eq 17, 3), (25, .iload_n 2, 1), (26, .iload_n 3, 1), (27, .if_icmp .eq 12, 3), (30, .aload_n 0, 1), (31, .iload 4, 2), (33, .invokevirtual 83, 3), (36, .ifCond .ne 5, 3), (39, .iconst (-1), 1), (40, .ireturn, 1), (41, .aload_n 0, 1), (42, .iload_n 1, 1), (43, .iload_n 2, 1), (44, .iload_n 3, 1), (45, .invokevirtual 158, 3), (48, .istore 5, 2), (50, .aload_n 0, 1), (51, .iload_n 1, 1), (52, .iload_n 2, 1), (53, .iload_n 3, 1), (54, .iload 4, 2), (56, .invokevirtual 141, 3), (59, .iload 5, 2), (61, .ireturn, 1)] := decs_of (by decide +kernel)
theorem DX12_seeks_0 : decs cX12_seeks [(0, .iload_n 3, 1), (1, .ifCond .ge 52, 3), (4, .aload_n 0, 1), (5, .aload_n 0, 1), (6, .getfield 174, 3), (9, .aload_n 0, 1), (10, .getfield 177, 3), (13, .if_icmp .ne 8, 3), (16, .iload 5, 2), (18, .goto 7, 3), (21, .aload_n 0, 1), (22, .getfield 180, 3), (25, .putfield 180, 3), (28, .aload_n 0, 1), (29, .dup, 1), (30, .getfield 174, 3), (33, .iconst 1, 1), (34, .iadd, 1), (35, .putfield 174, 3), (38, .aload_n 0, 1), (39, .getfield 180, 3), (42, .bipush (-5), 2), (44, .if_icmp .eq 7, 3), (47, .iconst 1, 1), (48, .goto 4, 3), (51, .iconst 0, 1), (52, .ireturn, 1), (53, .iconst 0, 1), (54, .istore 6, 2), (56, .iload 6, 2), (58, .aload_n 0, 1), (59, .getfield 23, 3), (62, .iload_n 2, 1), (63, .iaload, 1), (64, .if_icmp .ge 52, 3), (67, .aload_n 0, 1), (68, .iload_n 1, 1), (69, .iload_n 2, 1), (70, .iload_n 3, 1), (71, .iload 6, 2), (73, .iload 5, 2), (75, .invokevirtual 183, 3), (78, .ifCond .eq 32, 3), (81, .aload_n 0, 1), (82, .iload_n 1, 1), (83, .iload_n 2, 1), (84, .iload_n 3, 1), (85, .iconst 1, 1), (86, .isub, 1), (87, .iload 4, 2), (89, .bipush 10, 2), (91, .idiv, 1), (92, .iload 5, 2), (94, .iload 4, 2), (96, .iload 6, 2), (98, .iconst 1, 1), (99, .iadd, 1), (100, .imul, 1), (101, .iadd, 1), (102, .invokevirtual 186, 3)] := decs_of (by decide +kernel)
theorem DX12_seeks_1 : decs cX12_seeks [(105, .ifCond .eq 5, 3), (108, .iconst 1, 1), (109, .ireturn, 1), (110, .iinc 6 1, 3), (113, .goto (-57), 3), (116, .iconst 0, 1), (117, .ireturn, 1)] := decs_of (by decide +kernel)
theorem DX12_solved_0 : decs cX12_solved [(0, .aload_n 0, 1), (1, .iload_n 1, 1), (2, .invokevirtual 91, 3), (5, .ifCond .eq 21, 3), (8, .aload_n 0, 1), (9, .iload_n 2, 1), (10, .invokevirtual 91, 3), (13, .ifCond .eq 13, 3), (16, .iload_n 3, 1), (17, .i2l, 1), (18, .lconst 0, 1), (19, .lconst 1, 1), (20, .invokestatic 70, 3), (23, .ifCond .ne 6, 3), (26, .bipush (-2), 2), (28, .ireturn, 1), (29, .iload 4, 2), (31, .i2l, 1), (32, .lconst 0, 1), (33, .ldc2_w 123, 3), (36, .invokestatic 70, 3), (39, .ifCond .ne 5, 3), (42, .iconst (-1), 1), (43, .ireturn, 1), (44, .iconst 0, 1), (45, .istore 5, 2), (47, .bipush (-5), 2), (49, .istore 6, 2), (51, .iconst 0, 1), (52, .istore 7, 2), (54, .iconst 0, 1), (55, .istore 8, 2), (57, .iload 8, 2), (59, .iconst 1, 1), (60, .aload_n 0, 1), (61, .getfield 9, 3), (64, .ishl, 1), (65, .if_icmp .ge 45, 3), (68, .aload_n 0, 1), (69, .iload 8, 2), (71, .iload_n 1, 1), (72, .iload_n 3, 1), (73, .invokevirtual 113, 3), (76, .iload_n 2, 1), (77, .if_icmp .ne 27, 3), (80, .iload 5, 2), (82, .ifCond .ne 8, 3), (85, .iload 8, 2), (87, .goto 5, 3), (90, .iload 6, 2), (92, .istore 6, 2), (94, .iload 7, 2), (96, .iload 8, 2), (98, .ior, 1), (99, .istore 7, 2), (101, .iinc 5 1, 3), (104, .iinc 8 1, 3), (107, .goto (-50), 3), (110, .iload 4, 2), (112, .ifCond .ne 8, 3)] := decs_of (by decide +kernel)
theorem DX12_solved_1 : decs cX12_solved [(115, .iload 5, 2), (117, .goto 26, 3), (120, .iload 4, 2), (122, .iconst 1, 1), (123, .if_icmp .ne 8, 3), (126, .iload 6, 2), (128, .goto 15, 3), (131, .iload 5, 2), (133, .ifCond .ne 8, 3), (136, .bipush (-5), 2), (138, .goto 5, 3), (141, .iload 7, 2), (143, .ireturn, 1)] := decs_of (by decide +kernel)
theorem DX12_sound_0 : decs cX12_sound [(0, .iload_n 1, 1), (1, .invokestatic 145, 3), (4, .ifCond .eq 11, 3), (7, .aload_n 0, 1), (8, .iload_n 1, 1), (9, .invokevirtual 164, 3), (12, .goto 4, 3), (15, .iconst (-1), 1), (16, .ireturn, 1)] := decs_of (by decide +kernel)
theorem DX12_spelled_0 : decs cX12_spelled [(0, .iload_n 1, 1), (1, .iconst (-1), 1), (2, .if_icmp .ge 5, 3), (5, .iconst (-1), 1), (6, .ireturn, 1), (7, .aload_n 0, 1), (8, .iload_n 1, 1), (9, .putfield 293, 3), (12, .aload_n 0, 1), (13, .invokevirtual 309, 3), (16, .iload_n 1, 1), (17, .iconst (-1), 1), (18, .if_icmp .ne 10, 3), (21, .aload_n 0, 1), (22, .getfield 290, 3), (25, .goto 7, 3), (28, .aload_n 0, 1), (29, .getfield 296, 3), (32, .ireturn, 1)] := decs_of (by decide +kernel)
theorem DX12_spells_0 : decs cX12_spells [(0, .aload_n 0, 1), (1, .iconst 0, 1), (2, .putfield 290, 3), (5, .aload_n 0, 1), (6, .iconst (-1), 1), (7, .putfield 296, 3), (10, .aload_n 0, 1), (11, .iconst 0, 1), (12, .invokevirtual 303, 3), (15, .aload_n 0, 1), (16, .aload_n 0, 1), (17, .getfield 9, 3), (20, .invokevirtual 306, 3), (23, .iconst 1, 1), (24, .istore_n 1, 1), (25, .iload_n 1, 1), (26, .aload_n 0, 1), (27, .getfield 9, 3), (30, .if_icmp .ge 45, 3), (33, .aload_n 0, 1), (34, .getfield 15, 3), (37, .iload_n 1, 1), (38, .iaload, 1), (39, .iload_n 1, 1), (40, .if_icmp .le 29, 3), (43, .aload_n 0, 1), (44, .bipush 59, 2), (46, .invokevirtual 299, 3), (49, .aload_n 0, 1), (50, .iconst 1, 1), (51, .invokevirtual 303, 3), (54, .aload_n 0, 1), (55, .iload_n 1, 1), (56, .invokevirtual 306, 3), (59, .aload_n 0, 1), (60, .aload_n 0, 1), (61, .getfield 15, 3), (64, .iload_n 1, 1), (65, .iaload, 1), (66, .invokevirtual 306, 3), (69, .iinc 1 1, 3), (72, .goto (-47), 3), (75, .iconst 1, 1), (76, .istore_n 1, 1), (77, .iload_n 1, 1), (78, .aload_n 0, 1), (79, .getfield 9, 3), (82, .if_icmp .ge 87, 3), (85, .iconst 1, 1), (86, .istore_n 2, 1), (87, .iload_n 2, 1), (88, .aload_n 0, 1), (89, .getfield 9, 3), (92, .if_icmp .ge 71, 3), (95, .iconst 1, 1), (96, .istore_n 3, 1), (97, .iload_n 3, 1), (98, .aload_n 0, 1), (99, .getfield 9, 3), (102, .if_icmp .ge 55, 3)] := decs_of (by decide +kernel)
theorem DX12_spells_1 : decs cX12_spells [(105, .aload_n 0, 1), (106, .iload_n 1, 1), (107, .iload_n 2, 1), (108, .iload_n 3, 1), (109, .invokevirtual 105, 3), (112, .ifCond .eq 39, 3), (115, .aload_n 0, 1), (116, .iload_n 1, 1), (117, .iload_n 2, 1), (118, .iload_n 3, 1), (119, .invokevirtual 127, 3), (122, .ifCond .eq 29, 3), (125, .aload_n 0, 1), (126, .bipush 59, 2), (128, .invokevirtual 299, 3), (131, .aload_n 0, 1), (132, .iconst 2, 1), (133, .invokevirtual 303, 3), (136, .aload_n 0, 1), (137, .iload_n 1, 1), (138, .invokevirtual 306, 3), (141, .aload_n 0, 1), (142, .iload_n 2, 1), (143, .invokevirtual 306, 3), (146, .aload_n 0, 1), (147, .iload_n 3, 1), (148, .invokevirtual 306, 3), (151, .iinc 3 1, 3), (154, .goto (-57), 3), (157, .iinc 2 1, 3), (160, .goto (-73), 3), (163, .iinc 1 1, 3), (166, .goto (-89), 3), (169, .return_, 1)] := decs_of (by decide +kernel)
theorem DX12_statement_0 : decs cX12_statement [(0, .aload_n 0, 1), (1, .invokevirtual 273, 3), (4, .istore_n 1, 1), (5, .iload_n 1, 1), (6, .iconst (-1), 1), (7, .if_icmp .ne 5, 3), (10, .iconst (-1), 1), (11, .ireturn, 1), (12, .iconst 0, 1), (13, .istore_n 2, 1), (14, .iload_n 2, 1), (15, .aload_n 0, 1), (16, .getfield 46, 3), (19, .iload_n 1, 1), (20, .iaload, 1), (21, .if_icmp .ge 73, 3), (24, .aload_n 0, 1), (25, .bipush 32, 2), (27, .bipush 32, 2), (29, .invokevirtual 270, 3), (32, .ifCond .ne 5, 3), (35, .iconst (-1), 1), (36, .ireturn, 1), (37, .aload_n 0, 1), (38, .dup, 1), (39, .getfield 264, 3), (42, .iconst 1, 1), (43, .iadd, 1), (44, .putfield 264, 3), (47, .aload_n 0, 1), (48, .bipush 48, 2), (50, .bipush 57, 2), (52, .invokevirtual 270, 3), (55, .ifCond .ne 5, 3), (58, .iconst (-1), 1), (59, .ireturn, 1), (60, .aload_n 0, 1), (61, .getfield 52, 3), (64, .iload_n 2, 1), (65, .aload_n 0, 1), (66, .getfield 49, 3), (69, .aload_n 0, 1), (70, .getfield 264, 3), (73, .iaload, 1), (74, .bipush 48, 2), (76, .isub, 1), (77, .iastore, 1), (78, .aload_n 0, 1), (79, .dup, 1), (80, .getfield 264, 3), (83, .iconst 1, 1), (84, .iadd, 1), (85, .putfield 264, 3), (88, .iinc 2 1, 3), (91, .goto (-77), 3), (94, .iload_n 1, 1), (95, .ireturn, 1)] := decs_of (by decide +kernel)
theorem DX12_take_0 : decs cX12_take [(0, .iload_n 1, 1), (1, .invokestatic 145, 3), (4, .ifCond .ne 5, 3), (7, .iconst (-1), 1), (8, .ireturn, 1), (9, .aload_n 0, 1), (10, .getfield 78, 3), (13, .ifCond .ne 6, 3), (16, .bipush (-3), 2), (18, .ireturn, 1), (19, .aload_n 0, 1), (20, .iconst 4, 1), (21, .iload_n 1, 1), (22, .invokevirtual 161, 3), (25, .aload_n 0, 1), (26, .getfield 23, 3), (29, .iload_n 1, 1), (30, .iaload, 1), (31, .ireturn, 1)] := decs_of (by decide +kernel)
theorem DX12_triangle_0 : decs cX12_triangle [(0, .aload_n 0, 1), (1, .iload_n 1, 1), (2, .invokevirtual 98, 3), (5, .ifCond .eq 19, 3), (8, .aload_n 0, 1), (9, .iload_n 2, 1), (10, .invokevirtual 98, 3), (13, .ifCond .eq 11, 3), (16, .aload_n 0, 1), (17, .iload_n 3, 1), (18, .invokevirtual 98, 3), (21, .ifCond .ne 5, 3), (24, .iconst (-1), 1), (25, .ireturn, 1), (26, .iload 4, 2), (28, .i2l, 1), (29, .lconst 0, 1), (30, .lconst 1, 1), (31, .invokestatic 70, 3), (34, .ifCond .ne 6, 3), (37, .bipush (-2), 2), (39, .ireturn, 1), (40, .iload_n 1, 1), (41, .ifCond .eq 11, 3), (44, .iload_n 2, 1), (45, .ifCond .eq 7, 3), (48, .iload_n 3, 1), (49, .ifCond .ne 6, 3), (52, .bipush (-3), 2), (54, .ireturn, 1), (55, .iconst 0, 1), (56, .istore 5, 2), (58, .iconst 0, 1), (59, .istore 6, 2), (61, .iload 6, 2), (63, .bipush 6, 2), (65, .if_icmp .ge 69, 3), (68, .aload_n 0, 1), (69, .iload_n 1, 1), (70, .iload_n 2, 1), (71, .iload_n 3, 1), (72, .iload 6, 2), (74, .invokevirtual 101, 3), (77, .istore 7, 2), (79, .iload 5, 2), (81, .aload_n 0, 1), (82, .getfield 19, 3), (85, .iload 7, 2), (87, .baload, 1), (88, .iload 4, 2), (90, .iconst 1, 1), (91, .if_icmp .ne 7, 3), (94, .iconst 1, 1), (95, .goto 4, 3), (98, .iconst 0, 1), (99, .if_icmp .ne 7, 3), (102, .iconst 0, 1), (103, .goto 4, 3), (106, .iconst 1, 1), (107, .iadd, 1)] := decs_of (by decide +kernel)
theorem DX12_triangle_1 : decs cX12_triangle [(108, .istore 5, 2), (110, .aload_n 0, 1), (111, .getfield 19, 3), (114, .iload 7, 2), (116, .iload 4, 2), (118, .iconst 1, 1), (119, .if_icmp .ne 7, 3), (122, .iconst 1, 1), (123, .goto 4, 3), (126, .iconst 0, 1), (127, .bastore, 1), (128, .iinc 6 1, 3), (131, .goto (-70), 3), (134, .iload 5, 2), (136, .ireturn, 1)] := decs_of (by decide +kernel)
theorem DX12_turn_0 : decs cX12_turn [(0, .iload 4, 2), (2, .tableswitch 124 0 4 #[34, 45, 61, 77, 103], 34), (36, .bipush 16, 2), (38, .iload_n 1, 1), (39, .imul, 1), (40, .iconst 4, 1), (41, .iload_n 2, 1), (42, .imul, 1), (43, .iadd, 1), (44, .iload_n 3, 1), (45, .iadd, 1), (46, .ireturn, 1), (47, .bipush 16, 2), (49, .aload_n 0, 1), (50, .getfield 15, 3), (53, .iload_n 1, 1), (54, .iaload, 1), (55, .imul, 1), (56, .iconst 4, 1), (57, .iload_n 3, 1), (58, .imul, 1), (59, .iadd, 1), (60, .iload_n 2, 1), (61, .iadd, 1), (62, .ireturn, 1), (63, .bipush 16, 2), (65, .iload_n 3, 1), (66, .imul, 1), (67, .iconst 4, 1), (68, .aload_n 0, 1), (69, .getfield 15, 3), (72, .iload_n 2, 1), (73, .iaload, 1), (74, .imul, 1), (75, .iadd, 1), (76, .iload_n 1, 1), (77, .iadd, 1), (78, .ireturn, 1), (79, .bipush 16, 2), (81, .aload_n 0, 1), (82, .getfield 15, 3), (85, .iload_n 2, 1), (86, .iaload, 1), (87, .imul, 1), (88, .iconst 4, 1), (89, .aload_n 0, 1), (90, .getfield 15, 3), (93, .iload_n 1, 1), (94, .iaload, 1), (95, .imul, 1), (96, .iadd, 1), (97, .aload_n 0, 1), (98, .getfield 15, 3), (101, .iload_n 3, 1), (102, .iaload, 1), (103, .iadd, 1), (104, .ireturn, 1), (105, .bipush 16, 2), (107, .iload_n 2, 1), (108, .imul, 1)] := decs_of (by decide +kernel)
theorem DX12_turn_1 : decs cX12_turn [(109, .iconst 4, 1), (110, .aload_n 0, 1), (111, .getfield 15, 3), (114, .iload_n 3, 1), (115, .iaload, 1), (116, .imul, 1), (117, .iadd, 1), (118, .aload_n 0, 1), (119, .getfield 15, 3), (122, .iload_n 1, 1), (123, .iaload, 1), (124, .iadd, 1), (125, .ireturn, 1), (126, .bipush 16, 2), (128, .aload_n 0, 1), (129, .getfield 15, 3), (132, .iload_n 3, 1), (133, .iaload, 1), (134, .imul, 1), (135, .iconst 4, 1), (136, .iload_n 1, 1), (137, .imul, 1), (138, .iadd, 1), (139, .aload_n 0, 1), (140, .getfield 15, 3), (143, .iload_n 2, 1), (144, .iaload, 1), (145, .iadd, 1), (146, .ireturn, 1)] := decs_of (by decide +kernel)
theorem DX12_turned_0 : decs cX12_turned [(0, .iconst 0, 1), (1, .istore_n 2, 1), (2, .iconst 0, 1), (3, .istore_n 3, 1), (4, .iload_n 3, 1), (5, .aload_n 0, 1), (6, .getfield 9, 3), (9, .if_icmp .ge 32, 3), (12, .iload_n 2, 1), (13, .iload_n 1, 1), (14, .iload_n 3, 1), (15, .invokestatic 87, 3), (18, .ifCond .eq 14, 3), (21, .iconst 1, 1), (22, .aload_n 0, 1), (23, .getfield 15, 3), (26, .iload_n 3, 1), (27, .iaload, 1), (28, .ishl, 1), (29, .goto 4, 3), (32, .iconst 0, 1), (33, .ior, 1), (34, .istore_n 2, 1), (35, .iinc 3 1, 3), (38, .goto (-34), 3), (41, .iload_n 2, 1), (42, .ireturn, 1)] := decs_of (by decide +kernel)
theorem DX12_undo_0 : decs cX12_undo [(0, .aload_n 0, 1), (1, .getfield 312, 3), (4, .ifCond .ne 6, 3), (7, .bipush (-3), 2), (9, .ireturn, 1), (10, .aload_n 0, 1), (11, .aload_n 0, 1), (12, .getfield 315, 3), (15, .putfield 9, 3), (18, .iconst 0, 1), (19, .istore_n 1, 1), (20, .iload_n 1, 1), (21, .iconst 4, 1), (22, .if_icmp .ge 21, 3), (25, .aload_n 0, 1), (26, .getfield 15, 3), (29, .iload_n 1, 1), (30, .aload_n 0, 1), (31, .getfield 55, 3), (34, .iload_n 1, 1), (35, .iaload, 1), (36, .iastore, 1), (37, .iinc 1 1, 3), (40, .goto (-20), 3), (43, .iconst 0, 1), (44, .istore_n 1, 1), (45, .iload_n 1, 1), (46, .bipush 64, 2), (48, .if_icmp .ge 21, 3), (51, .aload_n 0, 1), (52, .getfield 19, 3), (55, .iload_n 1, 1), (56, .aload_n 0, 1), (57, .getfield 58, 3), (60, .iload_n 1, 1), (61, .baload, 1), (62, .bastore, 1), (63, .iinc 1 1, 3), (66, .goto (-21), 3), (69, .iconst 0, 1), (70, .istore_n 1, 1), (71, .iload_n 1, 1), (72, .iconst 3, 1), (73, .if_icmp .gt 21, 3), (76, .aload_n 0, 1), (77, .getfield 23, 3), (80, .iload_n 1, 1), (81, .aload_n 0, 1), (82, .getfield 61, 3), (85, .iload_n 1, 1), (86, .iaload, 1), (87, .iastore, 1), (88, .iinc 1 1, 3), (91, .goto (-20), 3), (94, .iconst 0, 1), (95, .istore_n 1, 1), (96, .iload_n 1, 1), (97, .sipush 144, 3), (100, .if_icmp .ge 21, 3), (103, .aload_n 0, 1)] := decs_of (by decide +kernel)
theorem DX12_undo_1 : decs cX12_undo [(104, .getfield 26, 3), (107, .iload_n 1, 1), (108, .aload_n 0, 1), (109, .getfield 64, 3), (112, .iload_n 1, 1), (113, .iaload, 1), (114, .iastore, 1), (115, .iinc 1 1, 3), (118, .goto (-22), 3), (121, .aload_n 0, 1), (122, .aload_n 0, 1), (123, .getfield 318, 3), (126, .putfield 74, 3), (129, .aload_n 0, 1), (130, .iconst 0, 1), (131, .putfield 78, 3), (134, .aload_n 0, 1), (135, .getfield 9, 3), (138, .ireturn, 1)] := decs_of (by decide +kernel)
theorem DX12_unsound_0 : decs cX12_unsound [(0, .iconst 0, 1), (1, .istore_n 2, 1), (2, .iload_n 2, 1), (3, .aload_n 0, 1), (4, .getfield 23, 3), (7, .iload_n 1, 1), (8, .iaload, 1), (9, .if_icmp .ge 90, 3), (12, .iconst 0, 1), (13, .istore_n 3, 1), (14, .iload_n 3, 1), (15, .aload_n 0, 1), (16, .getfield 23, 3), (19, .iload_n 1, 1), (20, .iaload, 1), (21, .if_icmp .ge 72, 3), (24, .iconst 0, 1), (25, .istore 4, 2), (27, .iload 4, 2), (29, .aload_n 0, 1), (30, .getfield 23, 3), (33, .iload_n 1, 1), (34, .iaload, 1), (35, .if_icmp .ge 52, 3), (38, .aload_n 0, 1), (39, .aload_n 0, 1), (40, .iload_n 1, 1), (41, .iload_n 2, 1), (42, .iload_n 3, 1), (43, .invokevirtual 158, 3), (46, .aload_n 0, 1), (47, .iload_n 1, 1), (48, .iload_n 3, 1), (49, .iload 4, 2), (51, .invokevirtual 158, 3), (54, .aload_n 0, 1), (55, .iload_n 1, 1), (56, .iload_n 2, 1), (57, .iload 4, 2), (59, .invokevirtual 158, 3), (62, .invokevirtual 105, 3), (65, .ifCond .ne 16, 3), (68, .bipush 100, 2), (70, .iload_n 2, 1), (71, .imul, 1), (72, .bipush 10, 2), (74, .iload_n 3, 1), (75, .imul, 1), (76, .iadd, 1), (77, .iload 4, 2), (79, .iadd, 1), (80, .ireturn, 1), (81, .iinc 4 1, 3), (84, .goto (-57), 3), (87, .iinc 3 1, 3), (90, .goto (-76), 3), (93, .iinc 2 1, 3), (96, .goto (-94), 3), (99, .bipush (-5), 2), (101, .ireturn, 1)] := decs_of (by decide +kernel)
theorem DX12_whyNot_0 : decs cX12_whyNot [(0, .iload_n 1, 1), (1, .invokestatic 145, 3), (4, .ifCond .ne 5, 3), (7, .iconst (-1), 1), (8, .ireturn, 1), (9, .iload_n 2, 1), (10, .i2l, 1), (11, .lconst 0, 1), (12, .ldc2_w 123, 3), (15, .invokestatic 70, 3), (18, .ifCond .ne 6, 3), (21, .bipush (-2), 2), (23, .ireturn, 1), (24, .aload_n 0, 1), (25, .iload_n 1, 1), (26, .invokevirtual 220, 3), (29, .ifCond .eq 17, 3), (32, .aload_n 0, 1), (33, .getfield 23, 3), (36, .iload_n 1, 1), (37, .iaload, 1), (38, .iconst 3, 1), (39, .if_icmp .gt 7, 3), (42, .iconst 0, 1), (43, .goto 5, 3), (46, .bipush (-3), 2), (48, .ireturn, 1)] := decs_of (by decide +kernel)
theorem DX12_wipe_0 : decs cX12_wipe [(0, .aload_n 0, 1), (1, .getfield 261, 3), (4, .istore_n 1, 1), (5, .aload_n 0, 1), (6, .iconst 0, 1), (7, .putfield 261, 3), (10, .iload_n 1, 1), (11, .ireturn, 1)] := decs_of (by decide +kernel)
theorem DX12_won_0 : decs cX12_won [(0, .aload_n 0, 1), (1, .iload_n 1, 1), (2, .iload_n 2, 1), (3, .invokevirtual 223, 3), (6, .istore_n 3, 1), (7, .iload_n 3, 1), (8, .ifCond .eq 5, 3), (11, .iload_n 3, 1), (12, .ireturn, 1), (13, .aload_n 0, 1), (14, .iload_n 1, 1), (15, .iconst 5, 1), (16, .invokevirtual 161, 3), (19, .aload_n 0, 1), (20, .iload_n 2, 1), (21, .invokevirtual 205, 3), (24, .ifCond .eq 7, 3), (27, .iconst 1, 1), (28, .goto 4, 3), (31, .iconst 0, 1), (32, .ireturn, 1)] := decs_of (by decide +kernel)
theorem DX12_word_0 : decs cX12_word [(0, .aload_n 0, 1), (1, .getfield 264, 3), (4, .istore_n 1, 1), (5, .aload_n 0, 1), (6, .bipush 97, 2), (8, .bipush 122, 2), (10, .invokevirtual 270, 3), (13, .ifCond .eq 16, 3), (16, .aload_n 0, 1), (17, .dup, 1), (18, .getfield 264, 3), (21, .iconst 1, 1), (22, .iadd, 1), (23, .putfield 264, 3), (26, .goto (-21), 3), (29, .iconst 0, 1), (30, .istore_n 2, 1), (31, .iconst 0, 1), (32, .istore_n 3, 1), (33, .iload_n 3, 1), (34, .iconst 4, 1), (35, .if_icmp .ge 115, 3), (38, .iload_n 2, 1), (39, .istore 4, 2), (41, .aload_n 0, 1), (42, .getfield 42, 3), (45, .iload 4, 2), (47, .caload, 1), (48, .bipush 32, 2), (50, .if_icmp .eq 9, 3), (53, .iinc 4 1, 3), (56, .goto (-15), 3), (59, .iload 4, 2), (61, .iload_n 2, 1), (62, .isub, 1), (63, .aload_n 0, 1), (64, .getfield 264, 3), (67, .iload_n 1, 1), (68, .isub, 1), (69, .if_icmp .ne 7, 3), (72, .iconst 1, 1), (73, .goto 4, 3), (76, .iconst 0, 1), (77, .istore 5, 2), (79, .iconst 0, 1), (80, .istore 6, 2), (82, .iload 5, 2), (84, .ifCond .eq 48, 3), (87, .iload 6, 2), (89, .aload_n 0, 1), (90, .getfield 264, 3), (93, .iload_n 1, 1), (94, .isub, 1), (95, .if_icmp .ge 37, 3), (98, .aload_n 0, 1), (99, .getfield 42, 3), (102, .iload_n 2, 1), (103, .iload 6, 2), (105, .iadd, 1), (106, .caload, 1)] := decs_of (by decide +kernel)
theorem DX12_word_1 : decs cX12_word [(107, .aload_n 0, 1), (108, .getfield 49, 3), (111, .iload_n 1, 1), (112, .iload 6, 2), (114, .iadd, 1), (115, .iaload, 1), (116, .if_icmp .ne 7, 3), (119, .iconst 1, 1), (120, .goto 4, 3), (123, .iconst 0, 1), (124, .istore 5, 2), (126, .iinc 6 1, 3), (129, .goto (-47), 3), (132, .iload 5, 2), (134, .ifCond .eq 5, 3), (137, .iload_n 3, 1), (138, .ireturn, 1), (139, .iload 4, 2), (141, .iconst 1, 1), (142, .iadd, 1), (143, .istore_n 2, 1), (144, .iinc 3 1, 3), (147, .goto (-114), 3), (150, .aload_n 0, 1), (151, .iload_n 1, 1), (152, .putfield 264, 3), (155, .iconst (-1), 1), (156, .ireturn, 1)] := decs_of (by decide +kernel)
theorem DX12_writes_0 : decs cX12_writes [(0, .aload_n 0, 1), (1, .aload_n 0, 1), (2, .getfield 290, 3), (5, .aload_n 0, 1), (6, .getfield 293, 3), (9, .if_icmp .ne 7, 3), (12, .iload_n 1, 1), (13, .goto 7, 3), (16, .aload_n 0, 1), (17, .getfield 296, 3), (20, .putfield 296, 3), (23, .aload_n 0, 1), (24, .dup, 1), (25, .getfield 290, 3), (28, .iconst 1, 1), (29, .iadd, 1), (30, .putfield 290, 3), (33, .return_, 1)] := decs_of (by decide +kernel)
theorem DX12_writesFigure_0 : decs cX12_writesFigure [(0, .aload_n 0, 1), (1, .bipush 32, 2), (3, .invokevirtual 299, 3), (6, .aload_n 0, 1), (7, .bipush 48, 2), (9, .iload_n 1, 1), (10, .iadd, 1), (11, .invokevirtual 299, 3), (14, .return_, 1)] := decs_of (by decide +kernel)
theorem DX12_writesWord_0 : decs cX12_writesWord [(0, .iconst 0, 1), (1, .istore_n 2, 1), (2, .iconst 0, 1), (3, .istore_n 3, 1), (4, .iload_n 3, 1), (5, .iload_n 1, 1), (6, .if_icmp .ge 28, 3), (9, .iload_n 3, 1), (10, .aload_n 0, 1), (11, .getfield 42, 3), (14, .iload_n 2, 1), (15, .caload, 1), (16, .bipush 32, 2), (18, .if_icmp .ne 7, 3), (21, .iconst 1, 1), (22, .goto 4, 3), (25, .iconst 0, 1), (26, .iadd, 1), (27, .istore_n 3, 1), (28, .iinc 2 1, 3), (31, .goto (-27), 3), (34, .iload_n 2, 1), (35, .istore_n 3, 1), (36, .aload_n 0, 1), (37, .getfield 42, 3), (40, .iload_n 3, 1), (41, .caload, 1), (42, .bipush 32, 2), (44, .if_icmp .eq 19, 3), (47, .aload_n 0, 1), (48, .aload_n 0, 1), (49, .getfield 42, 3), (52, .iload_n 3, 1), (53, .caload, 1), (54, .invokevirtual 299, 3), (57, .iinc 3 1, 3), (60, .goto (-24), 3), (63, .return_, 1)] := decs_of (by decide +kernel)
theorem DX2_answers_0 : decs cX2_answers [(0, .aload_n 0, 1), (1, .getfield 29, 3), (4, .getfield 37, 3), (7, .getfield 97, 3), (10, .astore_n 3, 1), (11, .iconst 0, 1), (12, .istore 4, 2), (14, .iload 4, 2), (16, .aload_n 0, 1), (17, .getfield 12, 3), (20, .getfield 89, 3), (23, .if_icmp .ge 63, 3), (26, .iload 4, 2), (28, .istore 5, 2), (30, .iload 5, 2), (32, .aload_n 0, 1), (33, .getfield 12, 3), (36, .getfield 89, 3), (39, .if_icmp .ge 41, 3), (42, .aload_n 1, 1), (43, .bipush 6, 2), (45, .iload 4, 2), (47, .imul, 1), (48, .iload 5, 2), (50, .iadd, 1), (51, .iaload, 1), (52, .iconst 4, 1), (53, .aload_n 2, 1), (54, .iload 4, 2), (56, .iaload, 1), (57, .imul, 1), (58, .aload_n 3, 1), (59, .aload_n 2, 1), (60, .iload 5, 2), (62, .iaload, 1), (63, .iaload, 1), (64, .iadd, 1), (65, .ishr, 1), (66, .iconst 1, 1), (67, .iand, 1), (68, .iconst 1, 1), (69, .if_icmp .ne 5, 3), (72, .iconst 1, 1), (73, .ireturn, 1), (74, .iinc 5 1, 3), (77, .goto (-47), 3), (80, .iinc 4 1, 3), (83, .goto (-69), 3), (86, .iconst 0, 1), (87, .ireturn, 1)] := decs_of (by decide +kernel)
theorem DX2_findGaps_0 : decs cX2_findGaps [(0, .iconst 0, 1), (1, .istore_n 2, 1), (2, .iload_n 2, 1), (3, .aload_n 0, 1), (4, .getfield 12, 3), (7, .getfield 89, 3), (10, .if_icmp .ge 52, 3), (13, .iload_n 2, 1), (14, .istore_n 3, 1), (15, .iload_n 3, 1), (16, .aload_n 0, 1), (17, .getfield 12, 3), (20, .getfield 89, 3), (23, .if_icmp .ge 33, 3), (26, .aload_n 1, 1), (27, .bipush 6, 2), (29, .iload_n 2, 1), (30, .imul, 1), (31, .iload_n 3, 1), (32, .iadd, 1), (33, .aload_n 0, 1), (34, .getfield 12, 3), (37, .aload_n 0, 1), (38, .getfield 29, 3), (41, .getfield 37, 3), (44, .iload_n 2, 1), (45, .iload_n 3, 1), (46, .invokevirtual 93, 3), (49, .iastore, 1), (50, .iinc 3 1, 3), (53, .goto (-38), 3), (56, .iinc 2 1, 3), (59, .goto (-57), 3), (62, .return_, 1)] := decs_of (by decide +kernel)
theorem DX2_firstLeft_0 : decs cX2_firstLeft [(0, .iload_n 1, 1), (1, .iconst 1, 1), (2, .if_icmp .lt 8, 3), (5, .iload_n 1, 1), (6, .iconst 2, 1), (7, .if_icmp .le 6, 3), (10, .bipush (-5), 2), (12, .ireturn, 1), (13, .iconst 0, 1), (14, .istore_n 2, 1), (15, .iload_n 2, 1), (16, .aload_n 0, 1), (17, .getfield 12, 3), (20, .getfield 89, 3), (23, .if_icmp .ge 62, 3), (26, .iload_n 2, 1), (27, .istore_n 3, 1), (28, .iload_n 3, 1), (29, .aload_n 0, 1), (30, .getfield 12, 3), (33, .getfield 89, 3), (36, .if_icmp .ge 43, 3), (39, .aload_n 0, 1), (40, .getfield 26, 3), (43, .iload_n 1, 1), (44, .iconst 1, 1), (45, .isub, 1), (46, .aaload, 1), (47, .bipush 6, 2), (49, .iload_n 2, 1), (50, .imul, 1), (51, .iload_n 3, 1), (52, .iadd, 1), (53, .iaload, 1), (54, .istore 4, 2), (56, .iload 4, 2), (58, .ifCond .eq 15, 3), (61, .iload_n 2, 1), (62, .iload_n 3, 1), (63, .iload 4, 2), (65, .iconst 0, 1), (66, .invokestatic 112, 3), (69, .invokestatic 116, 3), (72, .ireturn, 1), (73, .iinc 3 1, 3), (76, .goto (-48), 3), (79, .iinc 2 1, 3), (82, .goto (-67), 3), (85, .bipush (-5), 2), (87, .ireturn, 1)] := decs_of (by decide +kernel)
theorem DX2_init_0 : decs cX2_init [(0, .aload_n 0, 1), (1, .invokespecial 3, 3), (4, .aload_n 0, 1), (5, .new 9, 3), (8, .dup, 1), (9, .invokespecial 11, 3), (12, .putfield 12, 3), (15, .aload_n 0, 1), (16, .iconst 2, 1), (17, .anewarray 18, 3), (20, .putfield 20, 3), (23, .aload_n 0, 1), (24, .iconst 2, 1), (25, .bipush 36, 2), (27, .multianewarray 24 2, 4), (31, .putfield 26, 3), (34, .aload_n 0, 1), (35, .aload_n 1, 1), (36, .putfield 29, 3), (39, .aload_n 0, 1), (40, .aload_n 2, 1), (41, .putfield 33, 3), (44, .iconst 0, 1), (45, .istore_n 3, 1), (46, .iload_n 3, 1), (47, .iconst 2, 1), (48, .if_icmp .ge 30, 3), (51, .aload_n 0, 1), (52, .getfield 20, 3), (55, .iload_n 3, 1), (56, .new 18, 3), (59, .dup, 1), (60, .aload_n 1, 1), (61, .getfield 37, 3), (64, .aload_n 0, 1), (65, .getfield 12, 3), (68, .invokespecial 43, 3), (71, .aastore, 1), (72, .iinc 3 1, 3), (75, .goto (-29), 3), (78, .return_, 1)] := decs_of (by decide +kernel)
theorem DX2_isOpen_0 : decs cX2_isOpen [(0, .iconst 0, 1), (1, .istore_n 2, 1), (2, .iload_n 2, 1), (3, .aload_n 0, 1), (4, .getfield 12, 3), (7, .getfield 89, 3), (10, .if_icmp .ge 41, 3), (13, .iload_n 2, 1), (14, .istore_n 3, 1), (15, .iload_n 3, 1), (16, .aload_n 0, 1), (17, .getfield 12, 3), (20, .getfield 89, 3), (23, .if_icmp .ge 22, 3), (26, .aload_n 1, 1), (27, .bipush 6, 2), (29, .iload_n 2, 1), (30, .imul, 1), (31, .iload_n 3, 1), (32, .iadd, 1), (33, .iaload, 1), (34, .ifCond .eq 5, 3), (37, .iconst 1, 1), (38, .ireturn, 1), (39, .iinc 3 1, 3), (42, .goto (-27), 3), (45, .iinc 2 1, 3), (48, .goto (-46), 3), (51, .iconst 0, 1), (52, .ireturn, 1)] := decs_of (by decide +kernel)
theorem DX2_isWon_0 : decs cX2_isWon [(0, .aload_n 0, 1), (1, .getfield 12, 3), (4, .aload_n 1, 1), (5, .invokevirtual 46, 3), (8, .aload_n 0, 1), (9, .iload_n 2, 1), (10, .invokevirtual 50, 3), (13, .ireturn, 1)] := decs_of (by decide +kernel)
theorem DX2_outlives_0 : decs cX2_outlives [(0, .iload_n 1, 1), (1, .iconst 1, 1), (2, .if_icmp .lt 8, 3), (5, .iload_n 1, 1), (6, .iconst 2, 1), (7, .if_icmp .le 5, 3), (10, .iconst 1, 1), (11, .ireturn, 1), (12, .aload_n 0, 1), (13, .getfield 26, 3), (16, .iload_n 1, 1), (17, .iconst 1, 1), (18, .isub, 1), (19, .aaload, 1), (20, .astore_n 2, 1), (21, .aload_n 0, 1), (22, .getfield 20, 3), (25, .iload_n 1, 1), (26, .iconst 1, 1), (27, .isub, 1), (28, .aaload, 1), (29, .astore_n 3, 1), (30, .aload_n 0, 1), (31, .aload_n 2, 1), (32, .invokevirtual 54, 3), (35, .aload_n 3, 1), (36, .invokevirtual 58, 3), (39, .aload_n 0, 1), (40, .aload_n 2, 1), (41, .invokevirtual 61, 3), (44, .istore 4, 2), (46, .aload_n 3, 1), (47, .invokevirtual 65, 3), (50, .istore 5, 2), (52, .iconst 0, 1), (53, .istore 6, 2), (55, .iload 6, 2), (57, .ldc 69, 2), (59, .if_icmp .ge 67, 3), (62, .iload 5, 2), (64, .ifCond .eq 62, 3), (67, .iload 4, 2), (69, .ifCond .eq 57, 3), (72, .aload_n 0, 1), (73, .aload_n 2, 1), (74, .aload_n 3, 1), (75, .getfield 70, 3), (78, .invokevirtual 74, 3), (81, .ifCond .eq 33, 3), (84, .aload_n 0, 1), (85, .aload_n 3, 1), (86, .getfield 70, 3), (89, .iload_n 1, 1), (90, .iconst 1, 1), (91, .isub, 1), (92, .invokevirtual 78, 3), (95, .ifCond .eq 19, 3), (98, .aload_n 0, 1), (99, .aload_n 2, 1), (100, .aload_n 3, 1)] := decs_of (by decide +kernel)
theorem DX2_outlives_1 : decs cX2_outlives [(101, .getfield 70, 3), (104, .invokevirtual 82, 3), (107, .aload_n 0, 1), (108, .aload_n 2, 1), (109, .invokevirtual 61, 3), (112, .istore 4, 2), (114, .aload_n 3, 1), (115, .invokevirtual 86, 3), (118, .istore 5, 2), (120, .iinc 6 1, 3), (123, .goto (-68), 3), (126, .iload 4, 2), (128, .ifCond .ne 7, 3), (131, .iconst 1, 1), (132, .goto 4, 3), (135, .iconst 0, 1), (136, .ireturn, 1)] := decs_of (by decide +kernel)
theorem DX2_stands_0 : decs cX2_stands [(0, .aload_n 0, 1), (1, .getfield 12, 3), (4, .aload_n 1, 1), (5, .aload_n 0, 1), (6, .getfield 29, 3), (9, .getfield 37, 3), (12, .invokevirtual 102, 3), (15, .aload_n 0, 1), (16, .getfield 33, 3), (19, .aload_n 0, 1), (20, .getfield 12, 3), (23, .invokevirtual 106, 3), (26, .ifCond .ne 15, 3), (29, .aload_n 0, 1), (30, .iload_n 2, 1), (31, .invokevirtual 50, 3), (34, .ifCond .eq 7, 3), (37, .iconst 1, 1), (38, .goto 4, 3), (41, .iconst 0, 1), (42, .istore_n 3, 1), (43, .aload_n 0, 1), (44, .getfield 12, 3), (47, .dup, 1), (48, .getfield 89, 3), (51, .iconst 1, 1), (52, .isub, 1), (53, .putfield 89, 3), (56, .iload_n 3, 1), (57, .ireturn, 1)] := decs_of (by decide +kernel)
theorem DX2_strike_0 : decs cX2_strike [(0, .aload_n 0, 1), (1, .getfield 29, 3), (4, .getfield 37, 3), (7, .getfield 97, 3), (10, .astore_n 3, 1), (11, .iconst 0, 1), (12, .istore 4, 2), (14, .iload 4, 2), (16, .aload_n 0, 1), (17, .getfield 12, 3), (20, .getfield 89, 3), (23, .if_icmp .ge 61, 3), (26, .iload 4, 2), (28, .istore 5, 2), (30, .iload 5, 2), (32, .aload_n 0, 1), (33, .getfield 12, 3), (36, .getfield 89, 3), (39, .if_icmp .ge 39, 3), (42, .aload_n 1, 1), (43, .bipush 6, 2), (45, .iload 4, 2), (47, .imul, 1), (48, .iload 5, 2), (50, .iadd, 1), (51, .dup2, 1), (52, .iaload, 1), (53, .iconst 1, 1), (54, .iconst 4, 1), (55, .aload_n 2, 1), (56, .iload 4, 2), (58, .iaload, 1), (59, .imul, 1), (60, .aload_n 3, 1), (61, .aload_n 2, 1), (62, .iload 5, 2), (64, .iaload, 1), (65, .iaload, 1), (66, .iadd, 1), (67, .ishl, 1), (68, .iconst (-1), 1), (69, .ixor, 1), (70, .iand, 1), (71, .iastore, 1), (72, .iinc 5 1, 3), (75, .goto (-45), 3), (78, .iinc 4 1, 3), (81, .goto (-67), 3), (84, .return_, 1)] := decs_of (by decide +kernel)
theorem DX3_at_0 : decs cX3_at [(0, .aload_n 0, 1), (1, .getfield 15, 3), (4, .bipush 6, 2), (6, .iload_n 1, 1), (7, .imul, 1), (8, .iload_n 2, 1), (9, .iadd, 1), (10, .iaload, 1), (11, .ireturn, 1)] := decs_of (by decide +kernel)
theorem DX3_become_0 : decs cX3_become [(0, .aload_n 0, 1), (1, .aload_n 1, 1), (2, .getfield 9, 3), (5, .putfield 9, 3), (8, .iconst 0, 1), (9, .istore_n 2, 1), (10, .iload_n 2, 1), (11, .aload_n 0, 1), (12, .getfield 15, 3), (15, .arraylength, 1), (16, .if_icmp .ge 21, 3), (19, .aload_n 0, 1), (20, .getfield 15, 3), (23, .iload_n 2, 1), (24, .aload_n 1, 1), (25, .getfield 15, 3), (28, .iload_n 2, 1), (29, .iaload, 1), (30, .iastore, 1), (31, .iinc 2 1, 3), (34, .goto (-24), 3), (37, .return_, 1)] := decs_of (by decide +kernel)
theorem DX3_gapAt_0 : decs cX3_gapAt [(0, .iconst 0, 1), (1, .istore_n 3, 1), (2, .iconst 0, 1), (3, .istore 4, 2), (5, .iload 4, 2), (7, .aload_n 0, 1), (8, .getfield 9, 3), (11, .if_icmp .ge 80, 3), (14, .iload 4, 2), (16, .istore 5, 2), (18, .iload 5, 2), (20, .aload_n 0, 1), (21, .getfield 9, 3), (24, .if_icmp .ge 61, 3), (27, .aload_n 0, 1), (28, .aload_n 1, 1), (29, .iload 4, 2), (31, .iload 5, 2), (33, .invokevirtual 37, 3), (36, .istore 6, 2), (38, .iload 6, 2), (40, .invokestatic 41, 3), (43, .istore 7, 2), (45, .iload_n 2, 1), (46, .iload_n 3, 1), (47, .if_icmp .lt 27, 3), (50, .iload_n 2, 1), (51, .iload_n 3, 1), (52, .iload 7, 2), (54, .iadd, 1), (55, .if_icmp .ge 19, 3), (58, .iload 4, 2), (60, .iload 5, 2), (62, .iload 6, 2), (64, .iload_n 2, 1), (65, .iload_n 3, 1), (66, .isub, 1), (67, .invokestatic 47, 3), (70, .invokestatic 50, 3), (73, .ireturn, 1), (74, .iload_n 3, 1), (75, .iload 7, 2), (77, .iadd, 1), (78, .istore_n 3, 1), (79, .iinc 5 1, 3), (82, .goto (-64), 3), (85, .iinc 4 1, 3), (88, .goto (-83), 3), (91, .iload_n 2, 1), (92, .iconst (-1), 1), (93, .if_icmp .ne 7, 3), (96, .iload_n 3, 1), (97, .goto 4, 3), (100, .iconst (-1), 1), (101, .ireturn, 1)] := decs_of (by decide +kernel)
theorem DX3_gapNumber_0 : decs cX3_gapNumber [(0, .sipush 1000, 3), (3, .iload_n 0, 1), (4, .imul, 1), (5, .bipush 100, 2), (7, .iload_n 1, 1), (8, .imul, 1), (9, .iadd, 1), (10, .bipush 10, 2), (12, .iload_n 2, 1), (13, .iconst 2, 1), (14, .ishr, 1), (15, .imul, 1), (16, .iadd, 1), (17, .iload_n 2, 1), (18, .iconst 3, 1), (19, .iand, 1), (20, .iadd, 1), (21, .ireturn, 1)] := decs_of (by decide +kernel)
theorem DX3_grow_0 : decs cX3_grow [(0, .iconst 0, 1), (1, .istore_n 3, 1), (2, .iload_n 3, 1), (3, .aload_n 0, 1), (4, .getfield 9, 3), (7, .if_icmp .ge 22, 3), (10, .aload_n 0, 1), (11, .iload_n 3, 1), (12, .aload_n 0, 1), (13, .getfield 9, 3), (16, .aload_n 1, 1), (17, .iload_n 3, 1), (18, .iaload, 1), (19, .aload_n 2, 1), (20, .invokevirtual 24, 3), (23, .iinc 3 1, 3), (26, .goto (-24), 3), (29, .aload_n 0, 1), (30, .dup, 1), (31, .getfield 9, 3), (34, .iconst 1, 1), (35, .iadd, 1), (36, .putfield 9, 3), (39, .return_, 1)] := decs_of (by decide +kernel)
theorem DX3_init_0 : decs cX3_init [(0, .aload_n 0, 1), (1, .invokespecial 3, 3), (4, .aload_n 0, 1), (5, .iconst 0, 1), (6, .putfield 9, 3), (9, .aload_n 0, 1), (10, .bipush 36, 2), (12, .newarray .int, 2), (14, .putfield 15, 3), (17, .return_, 1)] := decs_of (by decide +kernel)
theorem DX3_lacks_0 : decs cX3_lacks [(0, .iload_n 2, 1), (1, .sipush 1000, 3), (4, .idiv, 1), (5, .istore_n 3, 1), (6, .iload_n 2, 1), (7, .bipush 100, 2), (9, .idiv, 1), (10, .bipush 10, 2), (12, .irem, 1), (13, .istore 4, 2), (15, .iload_n 2, 1), (16, .bipush 10, 2), (18, .idiv, 1), (19, .bipush 10, 2), (21, .irem, 1), (22, .istore 5, 2), (24, .iload_n 2, 1), (25, .bipush 10, 2), (27, .irem, 1), (28, .istore 6, 2), (30, .iload_n 2, 1), (31, .ifCond .lt 36, 3), (34, .iload_n 3, 1), (35, .iload 4, 2), (37, .if_icmp .gt 30, 3), (40, .iload 4, 2), (42, .aload_n 0, 1), (43, .getfield 9, 3), (46, .if_icmp .ge 21, 3), (49, .iload 5, 2), (51, .aload_n 1, 1), (52, .getfield 36, 3), (55, .if_icmp .ge 12, 3), (58, .iload 6, 2), (60, .aload_n 1, 1), (61, .getfield 36, 3), (64, .if_icmp .lt 5, 3), (67, .iconst 0, 1), (68, .ireturn, 1), (69, .aload_n 0, 1), (70, .aload_n 1, 1), (71, .iload_n 3, 1), (72, .iload 4, 2), (74, .invokevirtual 37, 3), (77, .iconst 4, 1), (78, .iload 5, 2), (80, .imul, 1), (81, .iload 6, 2), (83, .iadd, 1), (84, .ishr, 1), (85, .iconst 1, 1), (86, .iand, 1), (87, .iconst 1, 1), (88, .if_icmp .ne 7, 3), (91, .iconst 1, 1), (92, .goto 4, 3), (95, .iconst 0, 1), (96, .ireturn, 1)] := decs_of (by decide +kernel)
theorem DX3_link_0 : decs cX3_link [(0, .aload_n 0, 1), (1, .getfield 15, 3), (4, .bipush 6, 2), (6, .iload_n 1, 1), (7, .imul, 1), (8, .iload_n 2, 1), (9, .iadd, 1), (10, .iload_n 3, 1), (11, .iastore, 1), (12, .aload_n 0, 1), (13, .getfield 15, 3), (16, .bipush 6, 2), (18, .iload_n 2, 1), (19, .imul, 1), (20, .iload_n 1, 1), (21, .iadd, 1), (22, .aload 4, 2), (24, .getfield 19, 3), (27, .iload_n 3, 1), (28, .iaload, 1), (29, .iastore, 1), (30, .return_, 1)] := decs_of (by decide +kernel)
theorem DX3_open_0 : decs cX3_open [(0, .iconst 0, 1), (1, .istore 4, 2), (3, .aload_n 0, 1), (4, .iload_n 2, 1), (5, .iload_n 3, 1), (6, .invokevirtual 28, 3), (9, .istore 5, 2), (11, .iconst 1, 1), (12, .istore 6, 2), (14, .iload 6, 2), (16, .aload_n 1, 1), (17, .getfield 36, 3), (20, .if_icmp .ge 54, 3), (23, .iconst 1, 1), (24, .istore 7, 2), (26, .iload 7, 2), (28, .aload_n 1, 1), (29, .getfield 36, 3), (32, .if_icmp .ge 36, 3), (35, .aload_n 1, 1), (36, .iload 6, 2), (38, .iload 7, 2), (40, .iload 5, 2), (42, .invokevirtual 32, 3), (45, .ifCond .eq 17, 3), (48, .iload 4, 2), (50, .iconst 1, 1), (51, .iconst 4, 1), (52, .iload 6, 2), (54, .imul, 1), (55, .iload 7, 2), (57, .iadd, 1), (58, .ishl, 1), (59, .ior, 1), (60, .istore 4, 2), (62, .iinc 7 1, 3), (65, .goto (-39), 3), (68, .iinc 6 1, 3), (71, .goto (-57), 3), (74, .iconst 0, 1), (75, .istore 6, 2), (77, .iload 6, 2), (79, .aload_n 0, 1), (80, .getfield 9, 3), (83, .if_icmp .ge 35, 3), (86, .iload 4, 2), (88, .iconst 1, 1), (89, .iconst 4, 1), (90, .aload_n 0, 1), (91, .iload_n 2, 1), (92, .iload 6, 2), (94, .invokevirtual 28, 3), (97, .imul, 1), (98, .aload_n 0, 1), (99, .iload 6, 2), (101, .iload_n 3, 1), (102, .invokevirtual 28, 3), (105, .iadd, 1), (106, .ishl, 1), (107, .iconst (-1), 1)] := decs_of (by decide +kernel)
theorem DX3_open_1 : decs cX3_open [(108, .ixor, 1), (109, .iand, 1), (110, .istore 4, 2), (112, .iinc 6 1, 3), (115, .goto (-38), 3), (118, .iload 4, 2), (120, .ireturn, 1)] := decs_of (by decide +kernel)
theorem DX3_placeOf_0 : decs cX3_placeOf [(0, .iconst 0, 1), (1, .istore_n 2, 1), (2, .iconst 0, 1), (3, .istore_n 3, 1), (4, .iload_n 3, 1), (5, .bipush 16, 2), (7, .if_icmp .ge 28, 3), (10, .iload_n 0, 1), (11, .iload_n 3, 1), (12, .ishr, 1), (13, .iconst 1, 1), (14, .iand, 1), (15, .iconst 1, 1), (16, .if_icmp .ne 13, 3), (19, .iload_n 2, 1), (20, .iload_n 1, 1), (21, .if_icmp .ne 5, 3), (24, .iload_n 3, 1), (25, .ireturn, 1), (26, .iinc 2 1, 3), (29, .iinc 3 1, 3), (32, .goto (-28), 3), (35, .iconst 0, 1), (36, .ireturn, 1)] := decs_of (by decide +kernel)
theorem DX3_unsound_0 : decs cX3_unsound [(0, .iconst 0, 1), (1, .istore_n 2, 1), (2, .iload_n 2, 1), (3, .aload_n 0, 1), (4, .getfield 9, 3), (7, .if_icmp .ge 87, 3), (10, .iload_n 2, 1), (11, .iconst 1, 1), (12, .iadd, 1), (13, .istore_n 3, 1), (14, .iload_n 3, 1), (15, .aload_n 0, 1), (16, .getfield 9, 3), (19, .if_icmp .ge 69, 3), (22, .iload_n 3, 1), (23, .iconst 1, 1), (24, .iadd, 1), (25, .istore 4, 2), (27, .iload 4, 2), (29, .aload_n 0, 1), (30, .getfield 9, 3), (33, .if_icmp .ge 49, 3), (36, .aload_n 1, 1), (37, .aload_n 0, 1), (38, .iload_n 2, 1), (39, .iload_n 3, 1), (40, .invokevirtual 28, 3), (43, .aload_n 0, 1), (44, .iload_n 3, 1), (45, .iload 4, 2), (47, .invokevirtual 28, 3), (50, .aload_n 0, 1), (51, .iload_n 2, 1), (52, .iload 4, 2), (54, .invokevirtual 28, 3), (57, .invokevirtual 32, 3), (60, .ifCond .ne 16, 3), (63, .bipush 100, 2), (65, .iload_n 2, 1), (66, .imul, 1), (67, .bipush 10, 2), (69, .iload_n 3, 1), (70, .imul, 1), (71, .iadd, 1), (72, .iload 4, 2), (74, .iadd, 1), (75, .ireturn, 1), (76, .iinc 4 1, 3), (79, .goto (-52), 3), (82, .iinc 3 1, 3), (85, .goto (-71), 3), (88, .iinc 2 1, 3), (91, .goto (-89), 3), (94, .bipush (-5), 2), (96, .ireturn, 1)] := decs_of (by decide +kernel)
theorem DX4_clash_0 : decs cX4_clash [(0, .iload_n 1, 1), (1, .istore_n 2, 1), (2, .iload_n 2, 1), (3, .ifCond .lt 89, 3), (6, .iload_n 2, 1), (7, .iconst 1, 1), (8, .iadd, 1), (9, .istore_n 3, 1), (10, .iload_n 3, 1), (11, .aload_n 0, 1), (12, .getfield 57, 3), (15, .if_icmp .ge 71, 3), (18, .aload_n 0, 1), (19, .getfield 24, 3), (22, .getfield 58, 3), (25, .bipush 6, 2), (27, .aload_n 0, 1), (28, .getfield 62, 3), (31, .iload_n 2, 1), (32, .iaload, 1), (33, .imul, 1), (34, .aload_n 0, 1), (35, .getfield 62, 3), (38, .iload_n 3, 1), (39, .iaload, 1), (40, .iadd, 1), (41, .iaload, 1), (42, .istore 4, 2), (44, .aload_n 0, 1), (45, .getfield 62, 3), (48, .iload_n 2, 1), (49, .iaload, 1), (50, .aload_n 0, 1), (51, .getfield 62, 3), (54, .iload_n 3, 1), (55, .iaload, 1), (56, .if_icmp .eq 22, 3), (59, .aload_n 0, 1), (60, .getfield 21, 3), (63, .getfield 58, 3), (66, .bipush 6, 2), (68, .iload_n 2, 1), (69, .imul, 1), (70, .iload_n 3, 1), (71, .iadd, 1), (72, .iaload, 1), (73, .iload 4, 2), (75, .if_icmp .eq 5, 3), (78, .iload_n 2, 1), (79, .ireturn, 1), (80, .iinc 3 1, 3), (83, .goto (-73), 3), (86, .iinc 2 (-1), 3), (89, .goto (-87), 3), (92, .iconst (-1), 1), (93, .ireturn, 1)] := decs_of (by decide +kernel)
theorem DX4_init_0 : decs cX4_init [(0, .aload_n 0, 1), (1, .invokespecial 3, 3), (4, .aload_n 0, 1), (5, .aload_n 1, 1), (6, .putfield 9, 3), (9, .aload_n 0, 1), (10, .aload_n 1, 1), (11, .getfield 15, 3), (14, .putfield 21, 3), (17, .aload_n 0, 1), (18, .aload_n 1, 1), (19, .getfield 15, 3), (22, .putfield 24, 3), (25, .return_, 1)] := decs_of (by decide +kernel)
theorem DX4_isBarred_0 : decs cX4_isBarred [(0, .aload_n 0, 1), (1, .getfield 9, 3), (4, .getfield 43, 3), (7, .ifCond .eq 16, 3), (10, .aload_n 0, 1), (11, .getfield 9, 3), (14, .getfield 15, 3), (17, .getfield 47, 3), (20, .goto 4, 3), (23, .iconst 0, 1), (24, .istore_n 2, 1), (25, .iload_n 2, 1), (26, .ifCond .eq 11, 3), (29, .iload_n 2, 1), (30, .aload_n 1, 1), (31, .getfield 47, 3), (34, .if_icmp .le 5, 3), (37, .iconst 0, 1), (38, .ireturn, 1), (39, .aload_n 0, 1), (40, .aload_n 0, 1), (41, .getfield 9, 3), (44, .getfield 15, 3), (47, .aload_n 1, 1), (48, .invokevirtual 27, 3), (51, .aload_n 0, 1), (52, .invokevirtual 31, 3), (55, .ireturn, 1)] := decs_of (by decide +kernel)
theorem DX4_look_0 : decs cX4_look [(0, .aload_n 0, 1), (1, .aload_n 1, 1), (2, .putfield 21, 3), (5, .aload_n 0, 1), (6, .aload_n 2, 1), (7, .putfield 24, 3), (10, .aload_n 0, 1), (11, .aload_n 0, 1), (12, .getfield 21, 3), (15, .getfield 47, 3), (18, .iconst 0, 1), (19, .aload_n 0, 1), (20, .getfield 24, 3), (23, .getfield 47, 3), (26, .iconst 1, 1), (27, .isub, 1), (28, .invokevirtual 53, 3), (31, .return_, 1)] := decs_of (by decide +kernel)
theorem DX4_way_0 : decs cX4_way [(0, .aload_n 0, 1), (1, .aload_n 1, 1), (2, .aload_n 2, 1), (3, .invokevirtual 27, 3), (6, .iconst 0, 1), (7, .istore 4, 2), (9, .aload_n 0, 1), (10, .invokevirtual 31, 3), (13, .istore 5, 2), (15, .iconst 0, 1), (16, .istore 6, 2), (18, .iload 6, 2), (20, .ldc 35, 2), (22, .if_icmp .ge 35, 3), (25, .iload 5, 2), (27, .ifCond .eq 30, 3), (30, .iload 4, 2), (32, .iload_n 3, 1), (33, .if_icmp .ne 9, 3), (36, .aload_n 0, 1), (37, .iconst 1, 1), (38, .invokevirtual 36, 3), (41, .ireturn, 1), (42, .iinc 4 1, 3), (45, .aload_n 0, 1), (46, .invokevirtual 40, 3), (49, .istore 5, 2), (51, .iinc 6 1, 3), (54, .goto (-36), 3), (57, .iload_n 3, 1), (58, .iconst (-1), 1), (59, .if_icmp .ne 8, 3), (62, .iload 4, 2), (64, .goto 4, 3), (67, .iconst (-1), 1), (68, .ireturn, 1)] := decs_of (by decide +kernel)
theorem DX5_clash_0 : decs cX5_clash [(0, .iload_n 1, 1), (1, .istore_n 2, 1), (2, .iload_n 2, 1), (3, .ifCond .lt 90, 3), (6, .aload_n 0, 1), (7, .getfield 67, 3), (10, .iload_n 2, 1), (11, .isub, 1), (12, .istore_n 3, 1), (13, .aload_n 0, 1), (14, .getfield 68, 3), (17, .iload_n 2, 1), (18, .iaload, 1), (19, .istore 4, 2), (21, .iconst 2, 1), (22, .iload_n 3, 1), (23, .imul, 1), (24, .aload_n 0, 1), (25, .getfield 9, 3), (28, .if_icmp .ne 20, 3), (31, .aload_n 0, 1), (32, .getfield 22, 3), (35, .getfield 31, 3), (38, .iload 4, 2), (40, .iaload, 1), (41, .iload 4, 2), (43, .if_icmp .eq 5, 3), (46, .iload_n 2, 1), (47, .ireturn, 1), (48, .aload_n 0, 1), (49, .getfield 15, 3), (52, .iload_n 3, 1), (53, .iload 4, 2), (55, .iastore, 1), (56, .aload_n 0, 1), (57, .getfield 15, 3), (60, .aload_n 0, 1), (61, .getfield 9, 3), (64, .iload_n 3, 1), (65, .isub, 1), (66, .aload_n 0, 1), (67, .getfield 22, 3), (70, .getfield 31, 3), (73, .iload 4, 2), (75, .iaload, 1), (76, .iastore, 1), (77, .aload_n 0, 1), (78, .iload_n 3, 1), (79, .invokevirtual 71, 3), (82, .ifCond .ne 5, 3), (85, .iload_n 2, 1), (86, .ireturn, 1), (87, .iinc 2 (-1), 3), (90, .goto (-88), 3), (93, .iconst (-1), 1), (94, .ireturn, 1)] := decs_of (by decide +kernel)
theorem DX5_goes_0 : decs cX5_goes [(0, .iconst 1, 1), (1, .istore_n 2, 1), (2, .iload_n 2, 1), (3, .aload_n 0, 1), (4, .getfield 9, 3), (7, .if_icmp .ge 101, 3), (10, .iload_n 2, 1), (11, .iload_n 1, 1), (12, .if_icmp .gt 9, 3), (15, .iload_n 1, 1), (16, .iload_n 2, 1), (17, .isub, 1), (18, .goto 11, 3), (21, .iload_n 1, 1), (22, .iload_n 2, 1), (23, .isub, 1), (24, .aload_n 0, 1), (25, .getfield 9, 3), (28, .iadd, 1), (29, .istore_n 3, 1), (30, .iload_n 2, 1), (31, .iload_n 1, 1), (32, .if_icmp .le 13, 3), (35, .iload_n 2, 1), (36, .aload_n 0, 1), (37, .getfield 9, 3), (40, .iload_n 1, 1), (41, .isub, 1), (42, .if_icmp .lt 22, 3), (45, .iload_n 3, 1), (46, .iload_n 1, 1), (47, .if_icmp .le 13, 3), (50, .iload_n 3, 1), (51, .aload_n 0, 1), (52, .getfield 9, 3), (55, .iload_n 1, 1), (56, .isub, 1), (57, .if_icmp .lt 7, 3), (60, .iconst 1, 1), (61, .goto 4, 3), (64, .iconst 0, 1), (65, .istore 4, 2), (67, .iload 4, 2), (69, .ifCond .eq 33, 3), (72, .aload_n 0, 1), (73, .getfield 22, 3), (76, .aload_n 0, 1), (77, .getfield 15, 3), (80, .iload_n 2, 1), (81, .iaload, 1), (82, .aload_n 0, 1), (83, .getfield 15, 3), (86, .iload_n 3, 1), (87, .iaload, 1), (88, .aload_n 0, 1), (89, .getfield 15, 3), (92, .iload_n 1, 1), (93, .iaload, 1), (94, .invokevirtual 75, 3), (97, .ifCond .ne 5, 3)] := decs_of (by decide +kernel)
theorem DX5_goes_1 : decs cX5_goes [(100, .iconst 0, 1), (101, .ireturn, 1), (102, .iinc 2 1, 3), (105, .goto (-103), 3), (108, .iconst 1, 1), (109, .ireturn, 1)] := decs_of (by decide +kernel)
theorem DX5_init_0 : decs cX5_init [(0, .aload_n 0, 1), (1, .invokespecial 3, 3), (4, .aload_n 0, 1), (5, .iconst 2, 1), (6, .putfield 9, 3), (9, .aload_n 0, 1), (10, .bipush 13, 2), (12, .newarray .int, 2), (14, .putfield 15, 3), (17, .aload_n 0, 1), (18, .iconst 4, 1), (19, .newarray .int, 2), (21, .putfield 19, 3), (24, .aload_n 0, 1), (25, .aload_n 1, 1), (26, .putfield 22, 3), (29, .return_, 1)] := decs_of (by decide +kernel)
theorem DX5_isFull_0 : decs cX5_isFull [(0, .iconst 0, 1), (1, .istore_n 1, 1), (2, .iconst 0, 1), (3, .istore_n 2, 1), (4, .iload_n 2, 1), (5, .aload_n 0, 1), (6, .getfield 9, 3), (9, .if_icmp .ge 20, 3), (12, .iload_n 1, 1), (13, .iconst 1, 1), (14, .aload_n 0, 1), (15, .getfield 15, 3), (18, .iload_n 2, 1), (19, .iaload, 1), (20, .ishl, 1), (21, .ior, 1), (22, .istore_n 1, 1), (23, .iinc 2 1, 3), (26, .goto (-22), 3), (29, .iload_n 1, 1), (30, .aload_n 0, 1), (31, .getfield 22, 3), (34, .invokevirtual 45, 3), (37, .iconst 1, 1), (38, .isub, 1), (39, .if_icmp .ne 7, 3), (42, .iconst 1, 1), (43, .goto 4, 3), (46, .iconst 0, 1), (47, .ireturn, 1)] := decs_of (by decide +kernel)
theorem DX5_misfit_0 : decs cX5_misfit [(0, .iconst 0, 1), (1, .istore_n 1, 1), (2, .iload_n 1, 1), (3, .aload_n 0, 1), (4, .getfield 9, 3), (7, .if_icmp .ge 82, 3), (10, .iconst 0, 1), (11, .istore_n 2, 1), (12, .iconst 0, 1), (13, .istore_n 3, 1), (14, .iload_n 3, 1), (15, .aload_n 0, 1), (16, .getfield 9, 3), (19, .if_icmp .ge 47, 3), (22, .iload_n 2, 1), (23, .iconst 1, 1), (24, .iconst 4, 1), (25, .aload_n 0, 1), (26, .getfield 15, 3), (29, .iload_n 3, 1), (30, .iaload, 1), (31, .imul, 1), (32, .aload_n 0, 1), (33, .getfield 15, 3), (36, .iload_n 3, 1), (37, .iload_n 1, 1), (38, .if_icmp .gt 9, 3), (41, .iload_n 1, 1), (42, .iload_n 3, 1), (43, .isub, 1), (44, .goto 11, 3), (47, .iload_n 1, 1), (48, .iload_n 3, 1), (49, .isub, 1), (50, .aload_n 0, 1), (51, .getfield 9, 3), (54, .iadd, 1), (55, .iaload, 1), (56, .iadd, 1), (57, .ishl, 1), (58, .ior, 1), (59, .istore_n 2, 1), (60, .iinc 3 1, 3), (63, .goto (-49), 3), (66, .iload_n 2, 1), (67, .aload_n 0, 1), (68, .getfield 19, 3), (71, .aload_n 0, 1), (72, .getfield 15, 3), (75, .iload_n 1, 1), (76, .iaload, 1), (77, .iaload, 1), (78, .if_icmp .eq 5, 3), (81, .iload_n 1, 1), (82, .ireturn, 1), (83, .iinc 1 1, 3), (86, .goto (-84), 3), (89, .iconst (-1), 1), (90, .ireturn, 1)] := decs_of (by decide +kernel)
theorem DX5_readDue_0 : decs cX5_readDue [(0, .iconst 0, 1), (1, .istore_n 1, 1), (2, .iload_n 1, 1), (3, .aload_n 0, 1), (4, .getfield 22, 3), (7, .getfield 26, 3), (10, .if_icmp .ge 23, 3), (13, .aload_n 0, 1), (14, .getfield 19, 3), (17, .iload_n 1, 1), (18, .aload_n 0, 1), (19, .getfield 22, 3), (22, .iload_n 1, 1), (23, .invokevirtual 48, 3), (26, .iastore, 1), (27, .iinc 1 1, 3), (30, .goto (-28), 3), (33, .return_, 1)] := decs_of (by decide +kernel)
theorem DX5_search_0 : decs cX5_search [(0, .aload_n 0, 1), (1, .getfield 22, 3), (4, .iconst 0, 1), (5, .invokevirtual 52, 3), (8, .bipush (-5), 2), (10, .if_icmp .eq 6, 3), (13, .bipush (-5), 2), (15, .ireturn, 1), (16, .aload_n 0, 1), (17, .invokevirtual 38, 3), (20, .iconst 2, 1), (21, .istore_n 1, 1), (22, .iload_n 1, 1), (23, .bipush 13, 2), (25, .if_icmp .gt 75, 3), (28, .aload_n 0, 1), (29, .iload_n 1, 1), (30, .putfield 9, 3), (33, .aload_n 0, 1), (34, .iload_n 1, 1), (35, .iconst 2, 1), (36, .idiv, 1), (37, .iconst 1, 1), (38, .aload_n 0, 1), (39, .getfield 22, 3), (42, .getfield 26, 3), (45, .iconst 1, 1), (46, .isub, 1), (47, .invokevirtual 56, 3), (50, .aload_n 0, 1), (51, .invokevirtual 60, 3), (54, .istore_n 2, 1), (55, .iconst 0, 1), (56, .istore_n 3, 1), (57, .iload_n 3, 1), (58, .ldc 63, 2), (60, .if_icmp .ge 34, 3), (63, .iload_n 2, 1), (64, .ifCond .eq 30, 3), (67, .aload_n 0, 1), (68, .invokevirtual 34, 3), (71, .ifCond .eq 12, 3), (74, .aload_n 0, 1), (75, .invokevirtual 41, 3), (78, .ifCond .ge 5, 3), (81, .iload_n 1, 1), (82, .ireturn, 1), (83, .aload_n 0, 1), (84, .invokevirtual 64, 3), (87, .istore_n 2, 1), (88, .iinc 3 1, 3), (91, .goto (-34), 3), (94, .iinc 1 1, 3), (97, .goto (-75), 3), (100, .bipush (-5), 2), (102, .ireturn, 1)] := decs_of (by decide +kernel)
theorem DX5_verdict_0 : decs cX5_verdict [(0, .iconst 0, 1), (1, .istore 4, 2), (3, .iload 4, 2), (5, .iload_n 3, 1), (6, .if_icmp .ge 88, 3), (9, .aload_n 1, 1), (10, .iload_n 2, 1), (11, .iload 4, 2), (13, .iadd, 1), (14, .laload, 1), (15, .lstore 5, 2), (17, .lload 5, 2), (19, .lconst 1, 1), (20, .lcmp, 1), (21, .ifCond .lt 17, 3), (24, .lload 5, 2), (26, .aload_n 0, 1), (27, .getfield 22, 3), (30, .getfield 26, 3), (33, .i2l, 1), (34, .lcmp, 1), (35, .ifCond .lt 6, 3), (38, .iload 4, 2), (40, .ireturn, 1), (41, .aload_n 0, 1), (42, .getfield 15, 3), (45, .iload 4, 2), (47, .iconst 1, 1), (48, .iadd, 1), (49, .lload 5, 2), (51, .l2i, 1), (52, .iastore, 1), (53, .aload_n 1, 1), (54, .iload_n 2, 1), (55, .iload_n 3, 1), (56, .iadd, 1), (57, .iconst 1, 1), (58, .isub, 1), (59, .iload 4, 2), (61, .isub, 1), (62, .laload, 1), (63, .aload_n 0, 1), (64, .getfield 22, 3), (67, .getfield 31, 3), (70, .aload_n 0, 1), (71, .getfield 15, 3), (74, .iload 4, 2), (76, .iconst 1, 1), (77, .iadd, 1), (78, .iaload, 1), (79, .iaload, 1), (80, .i2l, 1), (81, .lcmp, 1), (82, .ifCond .eq 6, 3), (85, .iload 4, 2), (87, .ireturn, 1), (88, .iinc 4 1, 3), (91, .goto (-88), 3), (94, .aload_n 0, 1), (95, .iload_n 3, 1)] := decs_of (by decide +kernel)
theorem DX5_verdict_1 : decs cX5_verdict [(96, .iconst 1, 1), (97, .iadd, 1), (98, .putfield 9, 3), (101, .aload_n 0, 1), (102, .invokevirtual 34, 3), (105, .ifCond .ne 7, 3), (108, .sipush 200, 3), (111, .ireturn, 1), (112, .aload_n 0, 1), (113, .invokevirtual 38, 3), (116, .aload_n 0, 1), (117, .invokevirtual 41, 3), (120, .istore 4, 2), (122, .iload 4, 2), (124, .ifCond .ge 8, 3), (127, .bipush (-5), 2), (129, .goto 8, 3), (132, .bipush 100, 2), (134, .iload 4, 2), (136, .iadd, 1), (137, .ireturn, 1)] := decs_of (by decide +kernel)
theorem DX6_clash_0 : decs cX6_clash [(0, .iload_n 1, 1), (1, .istore_n 2, 1), (2, .iload_n 2, 1), (3, .ifCond .lt 60, 3), (6, .iload_n 2, 1), (7, .iconst 1, 1), (8, .iadd, 1), (9, .istore_n 3, 1), (10, .iload_n 3, 1), (11, .aload_n 0, 1), (12, .getfield 30, 3), (15, .if_icmp .ge 42, 3), (18, .aload_n 0, 1), (19, .getfield 7, 3), (22, .aload_n 0, 1), (23, .getfield 13, 3), (26, .iload_n 2, 1), (27, .iload_n 3, 1), (28, .invokevirtual 31, 3), (31, .aload_n 0, 1), (32, .getfield 35, 3), (35, .iload_n 3, 1), (36, .iaload, 1), (37, .aload_n 0, 1), (38, .getfield 35, 3), (41, .iload_n 2, 1), (42, .iaload, 1), (43, .invokevirtual 38, 3), (46, .ifCond .ne 5, 3), (49, .iload_n 2, 1), (50, .ireturn, 1), (51, .iinc 3 1, 3), (54, .goto (-44), 3), (57, .iinc 2 (-1), 3), (60, .goto (-58), 3), (63, .iconst (-1), 1), (64, .ireturn, 1)] := decs_of (by decide +kernel)
theorem DX6_init_0 : decs cX6_init [(0, .aload_n 0, 1), (1, .invokespecial 1, 3), (4, .aload_n 0, 1), (5, .aload_n 1, 1), (6, .putfield 7, 3), (9, .aload_n 0, 1), (10, .aload_n 2, 1), (11, .putfield 13, 3), (14, .return_, 1)] := decs_of (by decide +kernel)
theorem DX6_spanAll_0 : decs cX6_spanAll [(0, .aload_n 0, 1), (1, .aload_n 0, 1), (2, .getfield 13, 3), (5, .getfield 17, 3), (8, .iconst 1, 1), (9, .aload_n 0, 1), (10, .getfield 7, 3), (13, .getfield 23, 3), (16, .iconst 1, 1), (17, .isub, 1), (18, .invokevirtual 26, 3), (21, .return_, 1)] := decs_of (by decide +kernel)
theorem DX7_become_0 : decs cX7_become [(0, .aload_n 0, 1), (1, .getfield 12, 3), (4, .aload_n 1, 1), (5, .getfield 12, 3), (8, .invokevirtual 37, 3), (11, .iconst 0, 1), (12, .istore_n 2, 1), (13, .iload_n 2, 1), (14, .iconst 3, 1), (15, .if_icmp .ge 24, 3), (18, .aload_n 0, 1), (19, .getfield 20, 3), (22, .iload_n 2, 1), (23, .aaload, 1), (24, .aload_n 1, 1), (25, .getfield 20, 3), (28, .iload_n 2, 1), (29, .aaload, 1), (30, .invokevirtual 41, 3), (33, .iinc 2 1, 3), (36, .goto (-23), 3), (39, .aload_n 0, 1), (40, .getfield 25, 3), (43, .aload_n 1, 1), (44, .getfield 25, 3), (47, .invokevirtual 41, 3), (50, .aload_n 0, 1), (51, .aload_n 1, 1), (52, .getfield 29, 3), (55, .putfield 29, 3), (58, .return_, 1)] := decs_of (by decide +kernel)
theorem DX7_clearNets_0 : decs cX7_clearNets [(0, .iconst 0, 1), (1, .istore_n 1, 1), (2, .iload_n 1, 1), (3, .iconst 3, 1), (4, .if_icmp .ge 19, 3), (7, .aload_n 0, 1), (8, .getfield 20, 3), (11, .iload_n 1, 1), (12, .aaload, 1), (13, .iconst 0, 1), (14, .putfield 33, 3), (17, .iinc 1 1, 3), (20, .goto (-18), 3), (23, .aload_n 0, 1), (24, .iconst 0, 1), (25, .putfield 29, 3), (28, .return_, 1)] := decs_of (by decide +kernel)
theorem DX7_init_0 : decs cX7_init [(0, .aload_n 0, 1), (1, .invokespecial 3, 3), (4, .aload_n 0, 1), (5, .new 9, 3), (8, .dup, 1), (9, .invokespecial 11, 3), (12, .putfield 12, 3), (15, .aload_n 0, 1), (16, .iconst 3, 1), (17, .anewarray 18, 3), (20, .putfield 20, 3), (23, .aload_n 0, 1), (24, .new 18, 3), (27, .dup, 1), (28, .invokespecial 24, 3), (31, .putfield 25, 3), (34, .aload_n 0, 1), (35, .iconst 0, 1), (36, .putfield 29, 3), (39, .iconst 0, 1), (40, .istore_n 1, 1), (41, .iload_n 1, 1), (42, .iconst 3, 1), (43, .if_icmp .ge 22, 3), (46, .aload_n 0, 1), (47, .getfield 20, 3), (50, .iload_n 1, 1), (51, .new 18, 3), (54, .dup, 1), (55, .invokespecial 24, 3), (58, .aastore, 1), (59, .iinc 1 1, 3), (62, .goto (-21), 3), (65, .return_, 1)] := decs_of (by decide +kernel)
theorem DX8_become_0 : decs cX8_become [(0, .aload_n 0, 1), (1, .aload_n 1, 1), (2, .getfield 9, 3), (5, .putfield 9, 3), (8, .iconst 0, 1), (9, .istore_n 2, 1), (10, .iload_n 2, 1), (11, .iconst 4, 1), (12, .if_icmp .ge 21, 3), (15, .aload_n 0, 1), (16, .getfield 15, 3), (19, .iload_n 2, 1), (20, .aload_n 1, 1), (21, .getfield 15, 3), (24, .iload_n 2, 1), (25, .iaload, 1), (26, .iastore, 1), (27, .iinc 2 1, 3), (30, .goto (-20), 3), (33, .aload_n 0, 1), (34, .aload_n 1, 1), (35, .getfield 19, 3), (38, .putfield 19, 3), (41, .return_, 1)] := decs_of (by decide +kernel)
theorem DX8_bit_0 : decs cX8_bit [(0, .lconst 1, 1), (1, .bipush 16, 2), (3, .iload_n 0, 1), (4, .imul, 1), (5, .iconst 4, 1), (6, .iload_n 1, 1), (7, .imul, 1), (8, .iadd, 1), (9, .iload_n 2, 1), (10, .iadd, 1), (11, .lshl, 1), (12, .lreturn, 1)] := decs_of (by decide +kernel)
theorem DX8_couple_0 : decs cX8_couple [(0, .aload_n 0, 1), (1, .iload_n 1, 1), (2, .invokevirtual 30, 3), (5, .aload_n 0, 1), (6, .iload_n 2, 1), (7, .invokevirtual 30, 3), (10, .aload_n 0, 1), (11, .getfield 15, 3), (14, .iload_n 1, 1), (15, .iload_n 2, 1), (16, .iastore, 1), (17, .aload_n 0, 1), (18, .getfield 15, 3), (21, .iload_n 2, 1), (22, .iload_n 1, 1), (23, .iastore, 1), (24, .aload_n 0, 1), (25, .invokevirtual 27, 3), (28, .return_, 1)] := decs_of (by decide +kernel)
theorem DX8_coupled_0 : decs cX8_coupled [(0, .iconst 0, 1), (1, .istore_n 1, 1), (2, .iconst 0, 1), (3, .istore_n 2, 1), (4, .iload_n 2, 1), (5, .aload_n 0, 1), (6, .getfield 9, 3), (9, .if_icmp .ge 22, 3), (12, .aload_n 0, 1), (13, .getfield 15, 3), (16, .iload_n 2, 1), (17, .iaload, 1), (18, .iload_n 2, 1), (19, .if_icmp .eq 6, 3), (22, .iinc 1 1, 3), (25, .iinc 2 1, 3), (28, .goto (-24), 3), (31, .iload_n 1, 1), (32, .ireturn, 1)] := decs_of (by decide +kernel)
theorem DX8_cycleFacts_0 : decs cX8_cycleFacts [(0, .iconst 0, 1), (1, .istore_n 2, 1), (2, .iconst 0, 1), (3, .istore_n 3, 1), (4, .iconst 0, 1), (5, .istore 4, 2), (7, .iconst 1, 1), (8, .istore 5, 2), (10, .iload 5, 2), (12, .aload_n 0, 1), (13, .getfield 9, 3), (16, .if_icmp .ge 97, 3), (19, .iconst 1, 1), (20, .istore 6, 2), (22, .iload 6, 2), (24, .aload_n 0, 1), (25, .getfield 9, 3), (28, .if_icmp .ge 79, 3), (31, .iconst 1, 1), (32, .istore 7, 2), (34, .iload 7, 2), (36, .aload_n 0, 1), (37, .getfield 9, 3), (40, .if_icmp .ge 61, 3), (43, .aload_n 0, 1), (44, .iload 5, 2), (46, .iload 6, 2), (48, .iload 7, 2), (50, .invokevirtual 68, 3), (53, .ifCond .eq 42, 3), (56, .iinc 3 1, 3), (59, .aload_n 0, 1), (60, .iload 5, 2), (62, .iload 6, 2), (64, .iload 7, 2), (66, .invokevirtual 71, 3), (69, .ifCond .eq 26, 3), (72, .iinc 2 1, 3), (75, .iload 4, 2), (77, .aload_n 0, 1), (78, .iload 5, 2), (80, .iload 6, 2), (82, .iload 7, 2), (84, .invokevirtual 37, 3), (87, .invokestatic 42, 3), (90, .invokestatic 74, 3), (93, .istore 4, 2), (95, .iinc 7 1, 3), (98, .goto (-64), 3), (101, .iinc 6 1, 3), (104, .goto (-82), 3), (107, .iinc 5 1, 3), (110, .goto (-100), 3), (113, .iload_n 1, 1), (114, .ifCond .ne 5, 3), (117, .iload_n 2, 1), (118, .ireturn, 1), (119, .iload_n 1, 1), (120, .iconst 1, 1), (121, .if_icmp .ne 7, 3)] := decs_of (by decide +kernel)
theorem DX8_cycleFacts_1 : decs cX8_cycleFacts [(124, .iload_n 3, 1), (125, .goto 5, 3), (128, .iload 4, 2), (130, .ireturn, 1)] := decs_of (by decide +kernel)
theorem DX8_free_0 : decs cX8_free [(0, .aload_n 0, 1), (1, .getfield 15, 3), (4, .iload_n 1, 1), (5, .iaload, 1), (6, .istore_n 2, 1), (7, .aload_n 0, 1), (8, .getfield 15, 3), (11, .iload_n 2, 1), (12, .iload_n 2, 1), (13, .iastore, 1), (14, .aload_n 0, 1), (15, .getfield 15, 3), (18, .iload_n 1, 1), (19, .iload_n 1, 1), (20, .iastore, 1), (21, .return_, 1)] := decs_of (by decide +kernel)
theorem DX8_has_0 : decs cX8_has [(0, .aload_n 0, 1), (1, .getfield 19, 3), (4, .bipush 16, 2), (6, .iload_n 1, 1), (7, .imul, 1), (8, .iconst 4, 1), (9, .iload_n 2, 1), (10, .imul, 1), (11, .iadd, 1), (12, .iload_n 3, 1), (13, .iadd, 1), (14, .lushr, 1), (15, .lconst 1, 1), (16, .land, 1), (17, .lconst 1, 1), (18, .lcmp, 1), (19, .ifCond .ne 7, 3), (22, .iconst 1, 1), (23, .goto 4, 3), (26, .iconst 0, 1), (27, .ireturn, 1)] := decs_of (by decide +kernel)
theorem DX8_init_0 : decs cX8_init [(0, .aload_n 0, 1), (1, .invokespecial 3, 3), (4, .aload_n 0, 1), (5, .iconst 1, 1), (6, .putfield 9, 3), (9, .aload_n 0, 1), (10, .iconst 4, 1), (11, .newarray .int, 2), (13, .putfield 15, 3), (16, .aload_n 0, 1), (17, .lconst 0, 1), (18, .putfield 19, 3), (21, .aload_n 0, 1), (22, .iconst 1, 1), (23, .invokevirtual 23, 3), (26, .return_, 1)] := decs_of (by decide +kernel)
theorem DX8_isEquivalence_0 : decs cX8_isEquivalence [(0, .iload_n 1, 1), (1, .iconst 1, 1), (2, .iand, 1), (3, .iconst 1, 1), (4, .if_icmp .ne 29, 3), (7, .aload_n 0, 1), (8, .iload_n 1, 1), (9, .invokevirtual 60, 3), (12, .iload_n 1, 1), (13, .if_icmp .ne 20, 3), (16, .aload_n 0, 1), (17, .iload_n 1, 1), (18, .iload_n 1, 1), (19, .invokevirtual 48, 3), (22, .iload_n 1, 1), (23, .iconst (-1), 1), (24, .ixor, 1), (25, .iand, 1), (26, .ifCond .ne 7, 3), (29, .iconst 1, 1), (30, .goto 4, 3), (33, .iconst 0, 1), (34, .ireturn, 1)] := decs_of (by decide +kernel)
theorem DX8_isLeastTurn_0 : decs cX8_isLeastTurn [(0, .aload_n 0, 1), (1, .iload_n 1, 1), (2, .iload_n 2, 1), (3, .iload_n 3, 1), (4, .invokevirtual 37, 3), (7, .lstore 4, 2), (9, .lload 4, 2), (11, .lload 4, 2), (13, .lneg, 1), (14, .land, 1), (15, .iload_n 1, 1), (16, .iload_n 2, 1), (17, .iload_n 3, 1), (18, .invokestatic 33, 3), (21, .lcmp, 1), (22, .ifCond .ne 7, 3), (25, .iconst 1, 1), (26, .goto 4, 3), (29, .iconst 0, 1), (30, .ireturn, 1)] := decs_of (by decide +kernel)
theorem DX8_isUnbalanced_0 : decs cX8_isUnbalanced [(0, .aload_n 0, 1), (1, .aload_n 0, 1), (2, .iconst 1, 1), (3, .iload_n 1, 1), (4, .ishl, 1), (5, .iconst 1, 1), (6, .iload_n 2, 1), (7, .ishl, 1), (8, .invokevirtual 48, 3), (11, .iconst 1, 1), (12, .iload_n 3, 1), (13, .ishl, 1), (14, .invokevirtual 48, 3), (17, .istore 4, 2), (19, .iload 4, 2), (21, .aload_n 0, 1), (22, .iconst 1, 1), (23, .iload_n 1, 1), (24, .ishl, 1), (25, .aload_n 0, 1), (26, .iconst 1, 1), (27, .iload_n 2, 1), (28, .ishl, 1), (29, .iconst 1, 1), (30, .iload_n 3, 1), (31, .ishl, 1), (32, .invokevirtual 48, 3), (35, .invokevirtual 48, 3), (38, .if_icmp .eq 7, 3), (41, .iconst 1, 1), (42, .goto 4, 3), (45, .iconst 0, 1), (46, .ireturn, 1)] := decs_of (by decide +kernel)
theorem DX8_keepFixed_0 : decs cX8_keepFixed [(0, .aload_n 0, 1), (1, .lconst 0, 1), (2, .putfield 19, 3), (5, .iconst 0, 1), (6, .istore_n 1, 1), (7, .iload_n 1, 1), (8, .aload_n 0, 1), (9, .getfield 9, 3), (12, .if_icmp .ge 43, 3), (15, .aload_n 0, 1), (16, .dup, 1), (17, .getfield 19, 3), (20, .iconst 0, 1), (21, .iload_n 1, 1), (22, .iload_n 1, 1), (23, .invokestatic 33, 3), (26, .iload_n 1, 1), (27, .iconst 0, 1), (28, .iload_n 1, 1), (29, .invokestatic 33, 3), (32, .lor, 1), (33, .iload_n 1, 1), (34, .aload_n 0, 1), (35, .getfield 15, 3), (38, .iload_n 1, 1), (39, .iaload, 1), (40, .iconst 0, 1), (41, .invokestatic 33, 3), (44, .lor, 1), (45, .lor, 1), (46, .putfield 19, 3), (49, .iinc 1 1, 3), (52, .goto (-45), 3), (55, .return_, 1)] := decs_of (by decide +kernel)
theorem DX8_mark_0 : decs cX8_mark [(0, .aload_n 0, 1), (1, .iload_n 1, 1), (2, .iload_n 2, 1), (3, .iload_n 3, 1), (4, .invokevirtual 37, 3), (7, .lstore 5, 2), (9, .aload_n 0, 1), (10, .getfield 19, 3), (13, .lstore 7, 2), (15, .aload_n 0, 1), (16, .iload 4, 2), (18, .ifCond .eq 13, 3), (21, .aload_n 0, 1), (22, .getfield 19, 3), (25, .lload 5, 2), (27, .lor, 1), (28, .goto 14, 3), (31, .aload_n 0, 1), (32, .getfield 19, 3), (35, .lload 5, 2), (37, .ldc2_w 40, 3), (40, .lxor, 1), (41, .land, 1), (42, .putfield 19, 3), (45, .lload 7, 2), (47, .aload_n 0, 1), (48, .getfield 19, 3), (51, .lxor, 1), (52, .invokestatic 42, 3), (55, .ireturn, 1)] := decs_of (by decide +kernel)
theorem DX8_mirrored_0 : decs cX8_mirrored [(0, .iconst 0, 1), (1, .istore_n 2, 1), (2, .iconst 0, 1), (3, .istore_n 3, 1), (4, .iload_n 3, 1), (5, .aload_n 0, 1), (6, .getfield 9, 3), (9, .if_icmp .ge 29, 3), (12, .iload_n 1, 1), (13, .iload_n 3, 1), (14, .ishr, 1), (15, .iconst 1, 1), (16, .iand, 1), (17, .iconst 1, 1), (18, .if_icmp .ne 14, 3), (21, .iload_n 2, 1), (22, .iconst 1, 1), (23, .aload_n 0, 1), (24, .getfield 15, 3), (27, .iload_n 3, 1), (28, .iaload, 1), (29, .ishl, 1), (30, .ior, 1), (31, .istore_n 2, 1), (32, .iinc 3 1, 3), (35, .goto (-31), 3), (38, .iload_n 2, 1), (39, .ireturn, 1)] := decs_of (by decide +kernel)
theorem DX8_pairsInto_0 : decs cX8_pairsInto [(0, .iconst 0, 1), (1, .istore_n 2, 1), (2, .iconst 0, 1), (3, .istore_n 3, 1), (4, .iload_n 3, 1), (5, .aload_n 0, 1), (6, .getfield 9, 3), (9, .if_icmp .ge 49, 3), (12, .iconst 0, 1), (13, .istore 4, 2), (15, .iload 4, 2), (17, .aload_n 0, 1), (18, .getfield 9, 3), (21, .if_icmp .ge 31, 3), (24, .aload_n 0, 1), (25, .iload_n 3, 1), (26, .iload 4, 2), (28, .iload_n 1, 1), (29, .invokevirtual 71, 3), (32, .ifCond .eq 14, 3), (35, .iload_n 2, 1), (36, .iconst 1, 1), (37, .iconst 4, 1), (38, .iload_n 3, 1), (39, .imul, 1), (40, .iload 4, 2), (42, .iadd, 1), (43, .ishl, 1), (44, .ior, 1), (45, .istore_n 2, 1), (46, .iinc 4 1, 3), (49, .goto (-34), 3), (52, .iinc 3 1, 3), (55, .goto (-51), 3), (58, .iload_n 2, 1), (59, .ireturn, 1)] := decs_of (by decide +kernel)
theorem DX8_powers_0 : decs cX8_powers [(0, .iconst 0, 1), (1, .istore_n 3, 1), (2, .iload_n 1, 1), (3, .istore 4, 2), (5, .iconst 0, 1), (6, .istore 5, 2), (8, .iload 5, 2), (10, .aload_n 0, 1), (11, .invokevirtual 56, 3), (14, .if_icmp .ge 34, 3), (17, .iload_n 3, 1), (18, .iload 4, 2), (20, .ishr, 1), (21, .iconst 1, 1), (22, .iand, 1), (23, .ifCond .ne 25, 3), (26, .iload_n 3, 1), (27, .iconst 1, 1), (28, .iload 4, 2), (30, .ishl, 1), (31, .ior, 1), (32, .istore_n 3, 1), (33, .aload_n 0, 1), (34, .iload 4, 2), (36, .iload_n 1, 1), (37, .invokevirtual 48, 3), (40, .istore 4, 2), (42, .iinc 5 1, 3), (45, .goto (-37), 3), (48, .iconst 0, 1), (49, .istore 6, 2), (51, .iload_n 1, 1), (52, .istore 7, 2), (54, .iload 6, 2), (56, .iload 5, 2), (58, .if_icmp .ge 25, 3), (61, .iload 7, 2), (63, .iload 4, 2), (65, .if_icmp .eq 18, 3), (68, .aload_n 0, 1), (69, .iload 7, 2), (71, .iload_n 1, 1), (72, .invokevirtual 48, 3), (75, .istore 7, 2), (77, .iinc 6 1, 3), (80, .goto (-26), 3), (83, .iload_n 2, 1), (84, .ifCond .eq 8, 3), (87, .iload 6, 2), (89, .goto 8, 3), (92, .iload 5, 2), (94, .iload 6, 2), (96, .isub, 1), (97, .ireturn, 1)] := decs_of (by decide +kernel)
theorem DX8_product_0 : decs cX8_product [(0, .iconst 0, 1), (1, .istore_n 3, 1), (2, .iconst 0, 1), (3, .istore 4, 2), (5, .iload 4, 2), (7, .aload_n 0, 1), (8, .getfield 9, 3), (11, .if_icmp .ge 69, 3), (14, .iconst 0, 1), (15, .istore 5, 2), (17, .iload 5, 2), (19, .aload_n 0, 1), (20, .getfield 9, 3), (23, .if_icmp .ge 51, 3), (26, .iload_n 1, 1), (27, .iload 4, 2), (29, .ishr, 1), (30, .iconst 1, 1), (31, .iand, 1), (32, .iconst 1, 1), (33, .if_icmp .ne 35, 3), (36, .iload_n 2, 1), (37, .iload 5, 2), (39, .ishr, 1), (40, .iconst 1, 1), (41, .iand, 1), (42, .iconst 1, 1), (43, .if_icmp .ne 25, 3), (46, .iload_n 3, 1), (47, .aload_n 0, 1), (48, .getfield 19, 3), (51, .bipush 16, 2), (53, .iload 4, 2), (55, .imul, 1), (56, .iconst 4, 1), (57, .iload 5, 2), (59, .imul, 1), (60, .iadd, 1), (61, .lushr, 1), (62, .l2i, 1), (63, .bipush 15, 2), (65, .iand, 1), (66, .ior, 1), (67, .istore_n 3, 1), (68, .iinc 5 1, 3), (71, .goto (-54), 3), (74, .iinc 4 1, 3), (77, .goto (-72), 3), (80, .iload_n 3, 1), (81, .ireturn, 1)] := decs_of (by decide +kernel)
theorem DX8_relations_0 : decs cX8_relations [(0, .iconst 1, 1), (1, .aload_n 0, 1), (2, .getfield 9, 3), (5, .ishl, 1), (6, .ireturn, 1)] := decs_of (by decide +kernel)
theorem DX8_residual_0 : decs cX8_residual [(0, .iconst 0, 1), (1, .istore 4, 2), (3, .iconst 0, 1), (4, .istore 5, 2), (6, .iload 5, 2), (8, .aload_n 0, 1), (9, .getfield 9, 3), (12, .if_icmp .ge 35, 3), (15, .aload_n 0, 1), (16, .iconst 1, 1), (17, .iload 5, 2), (19, .ishl, 1), (20, .iload_n 2, 1), (21, .iload_n 3, 1), (22, .invokevirtual 52, 3), (25, .iload_n 1, 1), (26, .iconst (-1), 1), (27, .ixor, 1), (28, .iand, 1), (29, .ifCond .ne 12, 3), (32, .iload 4, 2), (34, .iconst 1, 1), (35, .iload 5, 2), (37, .ishl, 1), (38, .ior, 1), (39, .istore 4, 2), (41, .iinc 5 1, 3), (44, .goto (-38), 3), (47, .iload 4, 2), (49, .ireturn, 1)] := decs_of (by decide +kernel)
theorem DX8_restart_0 : decs cX8_restart [(0, .aload_n 0, 1), (1, .iload_n 1, 1), (2, .putfield 9, 3), (5, .iconst 0, 1), (6, .istore_n 2, 1), (7, .iload_n 2, 1), (8, .iconst 4, 1), (9, .if_icmp .ge 16, 3), (12, .aload_n 0, 1), (13, .getfield 15, 3), (16, .iload_n 2, 1), (17, .iload_n 2, 1), (18, .iastore, 1), (19, .iinc 2 1, 3), (22, .goto (-15), 3), (25, .aload_n 0, 1), (26, .invokevirtual 27, 3), (29, .return_, 1)] := decs_of (by decide +kernel)
theorem DX8_sided_0 : decs cX8_sided [(0, .iload_n 3, 1), (1, .ifCond .ne 12, 3), (4, .aload_n 0, 1), (5, .iload_n 1, 1), (6, .iload_n 2, 1), (7, .invokevirtual 48, 3), (10, .goto 9, 3), (13, .aload_n 0, 1), (14, .iload_n 2, 1), (15, .iload_n 1, 1), (16, .invokevirtual 48, 3), (19, .ireturn, 1)] := decs_of (by decide +kernel)
theorem DX8_solutions_0 : decs cX8_solutions [(0, .iconst 0, 1), (1, .istore 5, 2), (3, .bipush (-5), 2), (5, .istore 6, 2), (7, .iconst 0, 1), (8, .istore 7, 2), (10, .iconst 0, 1), (11, .istore 8, 2), (13, .iload 8, 2), (15, .aload_n 0, 1), (16, .invokevirtual 56, 3), (19, .if_icmp .ge 45, 3), (22, .aload_n 0, 1), (23, .iload 8, 2), (25, .iload_n 1, 1), (26, .iload_n 3, 1), (27, .invokevirtual 52, 3), (30, .iload_n 2, 1), (31, .if_icmp .ne 27, 3), (34, .iload 5, 2), (36, .ifCond .ne 8, 3), (39, .iload 8, 2), (41, .goto 5, 3), (44, .iload 6, 2), (46, .istore 6, 2), (48, .iinc 5 1, 3), (51, .iload 7, 2), (53, .iload 8, 2), (55, .ior, 1), (56, .istore 7, 2), (58, .iinc 8 1, 3), (61, .goto (-48), 3), (64, .iload 4, 2), (66, .ifCond .ne 6, 3), (69, .iload 5, 2), (71, .ireturn, 1), (72, .iload 4, 2), (74, .iconst 1, 1), (75, .if_icmp .eq 8, 3), (78, .iload 5, 2), (80, .ifCond .ne 8, 3), (83, .iload 6, 2), (85, .goto 5, 3), (88, .iload 7, 2), (90, .ireturn, 1)] := decs_of (by decide +kernel)
theorem DX8_thin_0 : decs cX8_thin [(0, .iconst 0, 1), (1, .istore_n 2, 1), (2, .iconst 0, 1), (3, .istore_n 3, 1), (4, .iload_n 3, 1), (5, .aload_n 0, 1), (6, .getfield 9, 3), (9, .if_icmp .ge 56, 3), (12, .iconst 0, 1), (13, .istore 4, 2), (15, .iload 4, 2), (17, .aload_n 0, 1), (18, .getfield 9, 3), (21, .if_icmp .ge 38, 3), (24, .aload_n 0, 1), (25, .iconst 1, 1), (26, .iload_n 3, 1), (27, .ishl, 1), (28, .iconst 1, 1), (29, .iload 4, 2), (31, .ishl, 1), (32, .invokevirtual 48, 3), (35, .ifCond .ne 18, 3), (38, .iload_n 1, 1), (39, .ifCond .ne 11, 3), (42, .bipush 10, 2), (44, .iload_n 3, 1), (45, .imul, 1), (46, .iload 4, 2), (48, .iadd, 1), (49, .ireturn, 1), (50, .iinc 2 1, 3), (53, .iinc 4 1, 3), (56, .goto (-41), 3), (59, .iinc 3 1, 3), (62, .goto (-58), 3), (65, .iload_n 1, 1), (66, .ifCond .eq 7, 3), (69, .iload_n 2, 1), (70, .goto 5, 3), (73, .bipush (-5), 2), (75, .ireturn, 1)] := decs_of (by decide +kernel)
theorem DX8_turns_0 : decs cX8_turns [(0, .aload_n 0, 1), (1, .getfield 15, 3), (4, .iload_n 1, 1), (5, .iaload, 1), (6, .istore 4, 2), (8, .aload_n 0, 1), (9, .getfield 15, 3), (12, .iload_n 2, 1), (13, .iaload, 1), (14, .istore 5, 2), (16, .aload_n 0, 1), (17, .getfield 15, 3), (20, .iload_n 3, 1), (21, .iaload, 1), (22, .istore 6, 2), (24, .iload_n 1, 1), (25, .iload_n 2, 1), (26, .iload_n 3, 1), (27, .invokestatic 33, 3), (30, .iload 4, 2), (32, .iload_n 3, 1), (33, .iload_n 2, 1), (34, .invokestatic 33, 3), (37, .lor, 1), (38, .iload_n 3, 1), (39, .iload 5, 2), (41, .iload_n 1, 1), (42, .invokestatic 33, 3), (45, .lor, 1), (46, .iload 5, 2), (48, .iload 4, 2), (50, .iload 6, 2), (52, .invokestatic 33, 3), (55, .lor, 1), (56, .iload_n 2, 1), (57, .iload 6, 2), (59, .iload 4, 2), (61, .invokestatic 33, 3), (64, .lor, 1), (65, .iload 6, 2), (67, .iload_n 1, 1), (68, .iload 5, 2), (70, .invokestatic 33, 3), (73, .lor, 1), (74, .lreturn, 1)] := decs_of (by decide +kernel)
theorem DX8_unbalanced_0 : decs cX8_unbalanced [(0, .iconst 0, 1), (1, .istore_n 2, 1), (2, .iconst 0, 1), (3, .istore_n 3, 1), (4, .iload_n 3, 1), (5, .aload_n 0, 1), (6, .getfield 9, 3), (9, .if_icmp .ge 78, 3), (12, .iconst 0, 1), (13, .istore 4, 2), (15, .iload 4, 2), (17, .aload_n 0, 1), (18, .getfield 9, 3), (21, .if_icmp .ge 60, 3), (24, .iconst 0, 1), (25, .istore 5, 2), (27, .iload 5, 2), (29, .aload_n 0, 1), (30, .getfield 9, 3), (33, .if_icmp .ge 42, 3), (36, .aload_n 0, 1), (37, .iload_n 3, 1), (38, .iload 4, 2), (40, .iload 5, 2), (42, .invokevirtual 64, 3), (45, .ifCond .eq 24, 3), (48, .iload_n 1, 1), (49, .ifCond .ne 17, 3), (52, .bipush 100, 2), (54, .iload_n 3, 1), (55, .imul, 1), (56, .bipush 10, 2), (58, .iload 4, 2), (60, .imul, 1), (61, .iadd, 1), (62, .iload 5, 2), (64, .iadd, 1), (65, .ireturn, 1), (66, .iinc 2 1, 3), (69, .iinc 5 1, 3), (72, .goto (-45), 3), (75, .iinc 4 1, 3), (78, .goto (-63), 3), (81, .iinc 3 1, 3), (84, .goto (-80), 3), (87, .iload_n 1, 1), (88, .ifCond .eq 7, 3), (91, .iload_n 2, 1), (92, .goto 5, 3), (95, .bipush (-5), 2), (97, .ireturn, 1)] := decs_of (by decide +kernel)
theorem DX9_append_0 : decs cX9_append [(0, .aload_n 0, 1), (1, .getfield 9, 3), (4, .bipush 100, 2), (6, .if_icmp .ge 24, 3), (9, .aload_n 0, 1), (10, .getfield 15, 3), (13, .aload_n 0, 1), (14, .getfield 9, 3), (17, .iload_n 1, 1), (18, .i2b, 1), (19, .bastore, 1), (20, .aload_n 0, 1), (21, .dup, 1), (22, .getfield 9, 3), (25, .iconst 1, 1), (26, .iadd, 1), (27, .putfield 9, 3), (30, .return_, 1)] := decs_of (by decide +kernel)
theorem DX9_faultPlace_0 : decs cX9_faultPlace [(0, .iconst 0, 1), (1, .istore_n 1, 1), (2, .iconst 0, 1), (3, .istore_n 2, 1), (4, .iload_n 2, 1), (5, .bipush 100, 2), (7, .if_icmp .gt 90, 3), (10, .aload_n 0, 1), (11, .iload_n 1, 1), (12, .invokevirtual 19, 3), (15, .istore_n 3, 1), (16, .aload_n 0, 1), (17, .iload_n 1, 1), (18, .iload_n 3, 1), (19, .invokevirtual 23, 3), (22, .istore 4, 2), (24, .iload 4, 2), (26, .ifCond .ge 5, 3), (29, .iload_n 1, 1), (30, .ireturn, 1), (31, .aload_n 0, 1), (32, .iload 4, 2), (34, .invokevirtual 27, 3), (37, .istore 5, 2), (39, .aload_n 0, 1), (40, .iload_n 3, 1), (41, .iload 5, 2), (43, .invokevirtual 30, 3), (46, .istore 6, 2), (48, .iload_n 3, 1), (49, .iload 6, 2), (51, .iadd, 1), (52, .istore_n 1, 1), (53, .iload 6, 2), (55, .iconst 2, 1), (56, .iload 5, 2), (58, .imul, 1), (59, .if_icmp .ge 5, 3), (62, .iload_n 1, 1), (63, .ireturn, 1), (64, .iload_n 1, 1), (65, .aload_n 0, 1), (66, .getfield 9, 3), (69, .if_icmp .ne 6, 3), (72, .bipush (-5), 2), (74, .ireturn, 1), (75, .aload_n 0, 1), (76, .getfield 15, 3), (79, .iload_n 1, 1), (80, .baload, 1), (81, .bipush 59, 2), (83, .if_icmp .eq 5, 3), (86, .iload_n 1, 1), (87, .ireturn, 1), (88, .iinc 1 1, 3), (91, .iinc 2 1, 3), (94, .goto (-90), 3), (97, .iload_n 1, 1), (98, .ireturn, 1)] := decs_of (by decide +kernel)
theorem DX9_figure_0 : decs cX9_figure [(0, .iload_n 1, 1), (1, .aload_n 0, 1), (2, .getfield 9, 3), (5, .if_icmp .ge 15, 3), (8, .aload_n 0, 1), (9, .getfield 15, 3), (12, .iload_n 1, 1), (13, .baload, 1), (14, .bipush 48, 2), (16, .isub, 1), (17, .goto 4, 3), (20, .iconst (-1), 1), (21, .ireturn, 1)] := decs_of (by decide +kernel)
theorem DX9_figuresOf_0 : decs cX9_figuresOf [(0, .iload_n 1, 1), (1, .ifCond .ne 7, 3), (4, .iconst 1, 1), (5, .goto 13, 3), (8, .iload_n 1, 1), (9, .iconst 1, 1), (10, .if_icmp .ne 7, 3), (13, .iconst 2, 1), (14, .goto 4, 3), (17, .iconst 3, 1), (18, .ireturn, 1)] := decs_of (by decide +kernel)
theorem DX9_goodFigures_0 : decs cX9_goodFigures [(0, .iconst 0, 1), (1, .istore_n 3, 1), (2, .iload_n 3, 1), (3, .iconst 2, 1), (4, .iload_n 2, 1), (5, .imul, 1), (6, .if_icmp .ge 41, 3), (9, .iload_n 1, 1), (10, .iload_n 3, 1), (11, .iadd, 1), (12, .aload_n 0, 1), (13, .getfield 9, 3), (16, .if_icmp .ge 31, 3), (19, .aload_n 0, 1), (20, .iload_n 1, 1), (21, .iload_n 3, 1), (22, .iadd, 1), (23, .iload_n 3, 1), (24, .iconst 2, 1), (25, .irem, 1), (26, .iconst 1, 1), (27, .if_icmp .ne 7, 3), (30, .iconst 1, 1), (31, .goto 4, 3), (34, .iconst 0, 1), (35, .invokevirtual 33, 3), (38, .ifCond .eq 9, 3), (41, .iinc 3 1, 3), (44, .goto (-42), 3), (47, .iload_n 3, 1), (48, .ireturn, 1)] := decs_of (by decide +kernel)
theorem DX9_init_0 : decs cX9_init [(0, .aload_n 0, 1), (1, .invokespecial 3, 3), (4, .aload_n 0, 1), (5, .iconst 0, 1), (6, .putfield 9, 3), (9, .aload_n 0, 1), (10, .bipush 100, 2), (12, .newarray .byte, 2), (14, .putfield 15, 3), (17, .return_, 1)] := decs_of (by decide +kernel)
theorem DX9_isDue_0 : decs cX9_isDue [(0, .aload_n 0, 1), (1, .getfield 15, 3), (4, .iload_n 1, 1), (5, .baload, 1), (6, .istore_n 3, 1), (7, .iload_n 2, 1), (8, .ifCond .eq 23, 3), (11, .iload_n 3, 1), (12, .bipush 48, 2), (14, .if_icmp .lt 13, 3), (17, .iload_n 3, 1), (18, .bipush 57, 2), (20, .if_icmp .gt 7, 3), (23, .iconst 1, 1), (24, .goto 18, 3), (27, .iconst 0, 1), (28, .goto 14, 3), (31, .iload_n 3, 1), (32, .bipush 32, 2), (34, .if_icmp .ne 7, 3), (37, .iconst 1, 1), (38, .goto 4, 3), (41, .iconst 0, 1), (42, .ireturn, 1)] := decs_of (by decide +kernel)
theorem DX9_isWord_0 : decs cX9_isWord [(0, .iload_n 2, 1), (1, .iload_n 1, 1), (2, .isub, 1), (3, .aload_n 3, 1), (4, .invokevirtual 49, 3), (7, .if_icmp .eq 5, 3), (10, .iconst 0, 1), (11, .ireturn, 1), (12, .iconst 0, 1), (13, .istore 4, 2), (15, .iload 4, 2), (17, .aload_n 3, 1), (18, .invokevirtual 49, 3), (21, .if_icmp .ge 29, 3), (24, .aload_n 0, 1), (25, .getfield 15, 3), (28, .iload_n 1, 1), (29, .iload 4, 2), (31, .iadd, 1), (32, .baload, 1), (33, .aload_n 3, 1), (34, .iload 4, 2), (36, .invokevirtual 55, 3), (39, .if_icmp .eq 5, 3), (42, .iconst 0, 1), (43, .ireturn, 1), (44, .iinc 4 1, 3), (47, .goto (-32), 3), (50, .iconst 1, 1), (51, .ireturn, 1)] := decs_of (by decide +kernel)
theorem DX9_spell_0 : decs cX9_spell [(0, .aload_n 0, 1), (1, .iconst 0, 1), (2, .putfield 9, 3), (5, .aload_n 0, 1), (6, .ldc 37, 2), (8, .invokevirtual 59, 3), (11, .aload_n 0, 1), (12, .aload_n 1, 1), (13, .getfield 63, 3), (16, .invokevirtual 66, 3), (19, .iconst 1, 1), (20, .istore_n 2, 1), (21, .iload_n 2, 1), (22, .aload_n 1, 1), (23, .getfield 63, 3), (26, .if_icmp .ge 40, 3), (29, .iload_n 2, 1), (30, .aload_n 1, 1), (31, .getfield 70, 3), (34, .iload_n 2, 1), (35, .iaload, 1), (36, .if_icmp .ge 24, 3), (39, .aload_n 0, 1), (40, .ldc 74, 2), (42, .invokevirtual 59, 3), (45, .aload_n 0, 1), (46, .iload_n 2, 1), (47, .invokevirtual 66, 3), (50, .aload_n 0, 1), (51, .aload_n 1, 1), (52, .getfield 70, 3), (55, .iload_n 2, 1), (56, .iaload, 1), (57, .invokevirtual 66, 3), (60, .iinc 2 1, 3), (63, .goto (-42), 3), (66, .iconst 1, 1), (67, .istore_n 2, 1), (68, .iload_n 2, 1), (69, .aload_n 1, 1), (70, .getfield 63, 3), (73, .if_icmp .ge 73, 3), (76, .iconst 1, 1), (77, .istore_n 3, 1), (78, .iload_n 3, 1), (79, .aload_n 1, 1), (80, .getfield 63, 3), (83, .if_icmp .ge 57, 3), (86, .iconst 1, 1), (87, .istore 4, 2), (89, .iload 4, 2), (91, .aload_n 1, 1), (92, .getfield 63, 3), (95, .if_icmp .ge 39, 3), (98, .aload_n 1, 1), (99, .iload_n 2, 1), (100, .iload_n 3, 1), (101, .iload 4, 2), (103, .invokevirtual 76, 3), (106, .ifCond .eq 22, 3)] := decs_of (by decide +kernel)
theorem DX9_spell_1 : decs cX9_spell [(109, .aload_n 1, 1), (110, .iload_n 2, 1), (111, .iload_n 3, 1), (112, .iload 4, 2), (114, .invokevirtual 80, 3), (117, .ifCond .eq 11, 3), (120, .aload_n 0, 1), (121, .iload_n 2, 1), (122, .iload_n 3, 1), (123, .iload 4, 2), (125, .invokevirtual 83, 3), (128, .iinc 4 1, 3), (131, .goto (-42), 3), (134, .iinc 3 1, 3), (137, .goto (-59), 3), (140, .iinc 2 1, 3), (143, .goto (-75), 3), (146, .return_, 1)] := decs_of (by decide +kernel)
theorem DX9_wordEnd_0 : decs cX9_wordEnd [(0, .iload_n 1, 1), (1, .istore_n 2, 1), (2, .iload_n 2, 1), (3, .aload_n 0, 1), (4, .getfield 9, 3), (7, .if_icmp .ge 31, 3), (10, .aload_n 0, 1), (11, .getfield 15, 3), (14, .iload_n 2, 1), (15, .baload, 1), (16, .bipush 97, 2), (18, .if_icmp .lt 20, 3), (21, .aload_n 0, 1), (22, .getfield 15, 3), (25, .iload_n 2, 1), (26, .baload, 1), (27, .bipush 122, 2), (29, .if_icmp .gt 9, 3), (32, .iinc 2 1, 3), (35, .goto (-33), 3), (38, .iload_n 2, 1), (39, .ireturn, 1)] := decs_of (by decide +kernel)
theorem DX9_wordKind_0 : decs cX9_wordKind [(0, .aload_n 0, 1), (1, .iload_n 1, 1), (2, .iload_n 2, 1), (3, .ldc 37, 2), (5, .invokevirtual 39, 3), (8, .ifCond .eq 5, 3), (11, .iconst 0, 1), (12, .ireturn, 1), (13, .aload_n 0, 1), (14, .iload_n 1, 1), (15, .iload_n 2, 1), (16, .ldc 43, 2), (18, .invokevirtual 39, 3), (21, .ifCond .eq 5, 3), (24, .iconst 1, 1), (25, .ireturn, 1), (26, .aload_n 0, 1), (27, .iload_n 1, 1), (28, .iload_n 2, 1), (29, .ldc 45, 2), (31, .invokevirtual 39, 3), (34, .ifCond .eq 5, 3), (37, .iconst 2, 1), (38, .ireturn, 1), (39, .aload_n 0, 1), (40, .iload_n 1, 1), (41, .iload_n 2, 1), (42, .ldc 47, 2), (44, .invokevirtual 39, 3), (47, .ifCond .eq 7, 3), (50, .iconst 3, 1), (51, .goto 4, 3), (54, .iconst (-1), 1), (55, .ireturn, 1)] := decs_of (by decide +kernel)
theorem DX9_writeFigure_0 : decs cX9_writeFigure [(0, .aload_n 0, 1), (1, .bipush 32, 2), (3, .invokevirtual 89, 3), (6, .aload_n 0, 1), (7, .bipush 48, 2), (9, .iload_n 1, 1), (10, .iadd, 1), (11, .invokevirtual 89, 3), (14, .return_, 1)] := decs_of (by decide +kernel)
theorem DX9_writeThree_0 : decs cX9_writeThree [(0, .aload_n 0, 1), (1, .ldc 87, 2), (3, .invokevirtual 59, 3), (6, .aload_n 0, 1), (7, .iload_n 1, 1), (8, .invokevirtual 66, 3), (11, .aload_n 0, 1), (12, .iload_n 2, 1), (13, .invokevirtual 66, 3), (16, .aload_n 0, 1), (17, .iload_n 3, 1), (18, .invokevirtual 66, 3), (21, .return_, 1)] := decs_of (by decide +kernel)
theorem DX9_writeWord_0 : decs cX9_writeWord [(0, .iconst 0, 1), (1, .istore_n 2, 1), (2, .iload_n 2, 1), (3, .aload_n 1, 1), (4, .invokevirtual 49, 3), (7, .if_icmp .ge 18, 3), (10, .aload_n 0, 1), (11, .aload_n 1, 1), (12, .iload_n 2, 1), (13, .invokevirtual 55, 3), (16, .invokevirtual 89, 3), (19, .iinc 2 1, 3), (22, .goto (-20), 3), (25, .return_, 1)] := decs_of (by decide +kernel)
end
section
/-! what a region asks for: loads, stores, calls, typed -/
def LdI (h : gk_H) (r ci k : Nat) (φ : Int32 → Prop) : Prop := ∃ (fs : List Value) (v : Int32), h[r]? = some (.inr (ci, fs)) ∧ fs[k]? = some (.int v) ∧ φ v
def LdL (h : gk_H) (r ci k : Nat) (φ : Int64 → Prop) : Prop := ∃ (fs : List Value) (v : Int64), h[r]? = some (.inr (ci, fs)) ∧ fs[k]? = some (.long v) ∧ φ v
def LdR (h : gk_H) (r ci k : Nat) (φ : Nat → Prop) : Prop := ∃ (fs : List Value) (v : Nat), h[r]? = some (.inr (ci, fs)) ∧ fs[k]? = some (.ref v) ∧ φ v
def StI (h : gk_H) (r ci k : Nat) (x : Int32) (φ : gk_H → Prop) : Prop := ∃ (fs : List Value), h[r]? = some (.inr (ci, fs)) ∧ k < fs.length ∧ φ (h.set r (.inr (ci, fs.set k (.int x))))
def StL (h : gk_H) (r ci k : Nat) (x : Int64) (φ : gk_H → Prop) : Prop := ∃ (fs : List Value), h[r]? = some (.inr (ci, fs)) ∧ k < fs.length ∧ φ (h.set r (.inr (ci, fs.set k (.long x))))
def StR (h : gk_H) (r ci k : Nat) (x : Nat) (φ : gk_H → Prop) : Prop := ∃ (fs : List Value), h[r]? = some (.inr (ci, fs)) ∧ k < fs.length ∧ φ (h.set r (.inr (ci, fs.set k (.ref x))))
/-- a boolean -/
def bz (x : Int32) : Prop := x = 0 ∨ x = 1
theorem bz_n {x : Int32} (h : bz x) : narrow .boolean (.int x) = .int x := by rcases h with rfl | rfl <;> rfl
theorem bz_f {x : Int32} (h : bz x) : fits .boolean (.int x) = true := by rcases h with rfl | rfl <;> rfl
def StZ (h : gk_H) (r ci k : Nat) (x : Int32) (φ : gk_H → Prop) : Prop := bz x ∧ ∃ (fs : List Value), h[r]? = some (.inr (ci, fs)) ∧ k < fs.length ∧ φ (h.set r (.inr (ci, fs.set k (.int x))))
def AlI (h : gk_H) (r : Nat) (i : Int32) (φ : Int32 → Prop) : Prop := ∃ (n : Nat) (f : Nat → Int32), h[r]? = some (.inl (0, n, .inl f)) ∧ vp_in i n ∧ φ (f i.toNatClampNeg)
def AlB (h : gk_H) (r : Nat) (i : Int32) (φ : Int32 → Prop) : Prop := ∃ (n : Nat) (f : Nat → Int32), h[r]? = some (.inl (2, n, .inl f)) ∧ vp_in i n ∧ φ (f i.toNatClampNeg)
def AlZ (h : gk_H) (r : Nat) (i : Int32) (φ : Int32 → Prop) : Prop := ∃ (n : Nat) (f : Nat → Int32), h[r]? = some (.inl (3, n, .inl f)) ∧ vp_in i n ∧ φ (f i.toNatClampNeg)
def AlC (h : gk_H) (r : Nat) (i : Int32) (φ : Int32 → Prop) : Prop := ∃ (n : Nat) (f : Nat → Int32), h[r]? = some (.inl (4, n, .inl f)) ∧ vp_in i n ∧ φ (f i.toNatClampNeg)
def AlL (h : gk_H) (r : Nat) (i : Int32) (φ : Int64 → Prop) : Prop := ∃ (n : Nat) (f : Nat → Int64), h[r]? = some (.inl (1, n, .inr (.inl f))) ∧ vp_in i n ∧ φ (f i.toNatClampNeg)
def AlR (t : Nat) (h : gk_H) (r : Nat) (i : Int32) (φ : Nat → Prop) : Prop := ∃ (n : Nat) (f : Nat → Option Nat) (a : Nat), h[r]? = some (.inl (t, n, .inr (.inr (.inr (.inr f))))) ∧ vp_in i n ∧ f i.toNatClampNeg = some a ∧ φ a
def AsI (h : gk_H) (r : Nat) (i x : Int32) (φ : gk_H → Prop) : Prop := ∃ (n : Nat) (f : Nat → Int32), h[r]? = some (.inl (0, n, .inl f)) ∧ vp_in i n ∧ φ (h.set r (.inl (0, n, .inl (upd f i.toNatClampNeg x))))
def AsB (h : gk_H) (r : Nat) (i x : Int32) (φ : gk_H → Prop) : Prop := ∃ (n : Nat) (f : Nat → Int32), h[r]? = some (.inl (2, n, .inl f)) ∧ vp_in i n ∧ φ (h.set r (.inl (2, n, .inl (upd f i.toNatClampNeg (vp_nar .byte x)))))
def AsZ (h : gk_H) (r : Nat) (i x : Int32) (φ : gk_H → Prop) : Prop := ∃ (n : Nat) (f : Nat → Int32), h[r]? = some (.inl (3, n, .inl f)) ∧ vp_in i n ∧ φ (h.set r (.inl (3, n, .inl (upd f i.toNatClampNeg (vp_nar .boolean x)))))
def AsC (h : gk_H) (r : Nat) (i x : Int32) (φ : gk_H → Prop) : Prop := ∃ (n : Nat) (f : Nat → Int32), h[r]? = some (.inl (4, n, .inl f)) ∧ vp_in i n ∧ φ (h.set r (.inl (4, n, .inl (upd f i.toNatClampNeg (vp_nar .char x)))))
def AsL (h : gk_H) (r : Nat) (i : Int32) (x : Int64) (φ : gk_H → Prop) : Prop := ∃ (n : Nat) (f : Nat → Int64), h[r]? = some (.inl (1, n, .inr (.inl f))) ∧ vp_in i n ∧ φ (h.set r (.inl (1, n, .inr (.inl (vp_updL f i.toNatClampNeg x)))))
def Len (h : gk_H) (r : Nat) (φ : Int32 → Prop) : Prop := ∃ (t : Nat) (x : vp_A) (v : Int32), h[r]? = some (.inl (t, x)) ∧ t < 8 ∧ Int32.ofNat x.1 = v ∧ φ v
def RnI (E : gk_E) (M : gk_M) (d : gk_B) (vs : List Value) (h : gk_H) (φ : Int32 → gk_H → Prop) : Prop := gk_Run E M d vs h (fun o h' => ∃ v, o = some (.int v) ∧ φ v h')
def RnL (E : gk_E) (M : gk_M) (d : gk_B) (vs : List Value) (h : gk_H) (φ : Int64 → gk_H → Prop) : Prop := gk_Run E M d vs h (fun o h' => ∃ v, o = some (.long v) ∧ φ v h')
def RnV (E : gk_E) (M : gk_M) (d : gk_B) (vs : List Value) (h : gk_H) (φ : gk_H → Prop) : Prop := gk_Run E M d vs h (fun o h' => o = none ∧ φ h')
theorem RnI.mono {E : gk_E} {M : gk_M} {d1 d2 : Nat} {vs : List Value} {h : gk_H} {φ : Int32 → gk_H → Prop} (hd : d1 ≤ d2) (k : RnI E M (d1, 0, 0) vs h φ) : RnI E M (d2, 0, 0) vs h φ := gk_Run.mono hd k
theorem RnL.mono {E : gk_E} {M : gk_M} {d1 d2 : Nat} {vs : List Value} {h : gk_H} {φ : Int64 → gk_H → Prop} (hd : d1 ≤ d2) (k : RnL E M (d1, 0, 0) vs h φ) : RnL E M (d2, 0, 0) vs h φ := gk_Run.mono hd k
theorem RnV.mono {E : gk_E} {M : gk_M} {d1 d2 : Nat} {vs : List Value} {h : gk_H} {φ : gk_H → Prop} (hd : d1 ≤ d2) (k : RnV E M (d1, 0, 0) vs h φ) : RnV E M (d2, 0, 0) vs h φ := gk_Run.mono hd k
section GKV
variable {E : gk_E} {M : gk_M} {pc : Nat} {lv : List (Nat × Value)} {st : List Value} {h : gk_H} {K : Option Value → gk_H → Prop}
theorem gk_vV {dd idx ci n r : Nat} {M' : gk_M} {fs : List Value} {st0 : List Value} (As rest : List Value) (hd : decode M.2.1 pc = .ok (.invokevirtual idx, 3)) (hw : gk_Cv M.1.cls idx M' ci n) (hr : h[r]? = some (.inr (ci, fs))) (hs : st0 = As.reverse ++ .ref r :: rest) (hn : As.length = n) (hm : (lg_sl (.ref r :: As)).length ≤ M'.2.2.1) (h8 : (rest.map fun v => v.category).sum ≤ 8)
    (k : gk_Run E M' (dd, 0, 0) (.ref r :: As) h (fun o h' => gk_G E M (dd + 1, 0, 0) (pc + 3) lv (o.toList ++ rest) h' K)) : gk_G E M (dd + 1, 0, 0) pc lv st0 h K := gk_callV (b1 := 0) (b2 := 0) (c1 := 0) (c2 := 0) As rest hd hw hr hs hn hm h8 k
theorem gk_vU {dd idx ci n r : Nat} {x : MethodName} {owner : String} {M' : gk_M} {fs : List Value} {st0 : List Value} (As rest : List Value) (hd : decode M.2.1 pc = .ok (.invokevirtual idx, 3)) (hw : gk_Cu M.1.cls idx x owner M' ci n) (hr : h[r]? = some (.inr (ci, fs))) (hs : st0 = As.reverse ++ .ref r :: rest) (hn : As.length = n) (hm : (lg_sl (.ref r :: As)).length ≤ M'.2.2.1) (h8 : (rest.map fun v => v.category).sum ≤ 8)
    (k : gk_Run E M' (dd, 0, 0) (.ref r :: As) h (fun o h' => gk_G E M (dd + 1, 0, 0) (pc + 3) lv (o.toList ++ rest) h' K)) : gk_G E M (dd + 1, 0, 0) pc lv st0 h K := gk_callU (b1 := 0) (b2 := 0) (c1 := 0) (c2 := 0) As rest hd hw hr hs hn hm h8 k
theorem gk_vS {dd idx n : Nat} {M' : gk_M} {st0 : List Value} (As rest : List Value) (hd : decode M.2.1 pc = .ok (.invokestatic idx, 3)) (hw : gk_Cs M.1.cls idx M' n) (hs : st0 = As.reverse ++ rest) (hn : As.length = n) (hm : (lg_sl As).length ≤ M'.2.2.1) (h8 : (rest.map fun v => v.category).sum ≤ 8)
    (k : gk_Run E M' (dd, 0, 0) As h (fun o h' => gk_G E M (dd + 1, 0, 0) (pc + 3) lv (o.toList ++ rest) h' K)) : gk_G E M (dd + 1, 0, 0) pc lv st0 h K := gk_callS (b1 := 0) (b2 := 0) (c1 := 0) (c2 := 0) As rest hd hw hs hn hm h8 k
theorem gk_max {dd idx : Nat} {x y : Int32} (hd : decode M.2.1 pc = .ok (.invokestatic idx, 3)) (w1 : Cond.methodLink M.1.cls idx Lib.Math.max.name ∈ gk_T) (w2 : Cond.static Lib.Math.max.name ∈ gk_T) (w3 : Cond.initialized "java/lang/Math" ∈ gk_T) (w4 : Cond.code Lib.Math.max.name Lib.Math.max.code 2 (some .int) ∈ gk_T) (h8 : (st.map fun v => v.category).sum ≤ 8)
    (k : gk_G E M (dd + 1, 0, 0) (pc + 3) lv (.int (if x < y then y else x) :: st) h K) : gk_G E M (dd + 1, 0, 0) pc lv (.int y :: .int x :: st) h K := by
  intro p e R s m args below meth c Q MC MS H locs ls cells slots C Rt hW hS hl hc ht hz
  have hts := C.2.2.2.2.2.2.1
  have hfr : dd + 1 ≤ R.frames := C.2.2.2.2.2.2.2.2.2.1
  have hlo : 64 * (dd + 1) ≤ R.locals := C.2.2.2.2.2.2.2.2.2.2.1
  have hRc : MC ≤ R.cells := C.2.2.2.2.2.2.2.2.2.2.2.1
  have hRs : MS ≤ R.slots := C.2.2.2.2.2.2.2.2.2.2.2.2
  have hc' : cells + 0 = MC := hc
  have ht' : slots + 0 = MS := ht
  exact va_mmax C.1 C.2.1 (C.2.2.1.trans hl.1.symm) C.2.2.2.2.2.2.2.1 (hts _ w1) (hts _ w2) (hts _ w3) (hts _ w4) (by omega) (by rw [gk_cats]; omega) (by omega) (by omega) hd (k p e R s m args below meth c Q MC MS H locs ls cells slots C Rt hW hS hl hc ht hz)
theorem gk_tsw {d : gk_B} {x : Int32} {dflt lo hi : Int} {offs : Array Int} {len n : Nat} (tgt : Nat → Nat) (td : Nat) (hd : decode M.2.1 pc = .ok (.tableswitch dflt lo hi offs, len)) (hn : (List.range n).all (fun k => decide (offs[k]? = some ((tgt k : Int) - (pc : Int)))) = true) (hlo : lo = 0) (hhi : hi + 1 = (n : Int)) (htd : (pc : Int) + dflt = (td : Int)) (hN : n < 2 ^ 31)
    (kt : ∀ k : Nat, k < n → x = nI k → gk_G E M d (tgt k) lv st h K) (kf : (∀ k : Nat, k < n → ¬ x = nI k) → gk_G E M d td lv st h K) : gk_G E M d pc lv (.int x :: st) h K := by
  intro p e R s m args below meth c Q MC MS H locs ls cells slots C Rt hW hS hl hc ht hz
  by_cases hin : x.toInt < lo ∨ hi < x.toInt
  · refine lv_tableOut C.1 C.2.1 hd hin htd (kf (fun k hk e0 => ?_) p e R s m args below meth c Q MC MS H locs ls cells slots C Rt hW hS hl hc ht hz)
    have := nI_toInt (n := k) (by omega)
    rw [e0] at hin
    omega
  · have h1 : ¬ x.toInt < lo := fun q => hin (Or.inl q)
    have h2 : ¬ hi < x.toInt := fun q => hin (Or.inr q)
    obtain ⟨k, hk⟩ : ∃ k : Nat, x.toInt = (k : Int) := ⟨x.toInt.toNat, by omega⟩
    have hkn : k < n := by omega
    have hx : x = nI k := by
      apply Int32.toInt_inj.mp
      rw [nI_toInt (by omega)]
      exact hk
    have h3 := of_decide_eq_true (List.all_eq_true.mp hn k (List.mem_range.mpr hkn))
    refine lv_tableIn (tgt := tgt k) C.1 C.2.1 hd h1 h2 (by rw [hk, hlo, show ((k : Int) - 0).toNat = k by omega]; exact h3) (by omega) (kt k hkn hx p e R s m args below meth c Q MC MS H locs ls cells slots C Rt hW hS hl hc ht hz)
end GKV
theorem fWX10_9 {ci : Nat} (hci : ci = 4 ∨ ci = 5 ∨ ci = 6) : gk_Fg RX10 9 ci 0 := by
  rcases hci with rfl | rfl | rfl
  · exact fX10_9_4
  · exact fX10_9_5
  · exact fX10_9_6
theorem fWX10_15 {ci : Nat} (hci : ci = 4 ∨ ci = 5 ∨ ci = 6) : gk_Fg RX10 15 ci 1 := by
  rcases hci with rfl | rfl | rfl
  · exact fX10_15_4
  · exact fX10_15_5
  · exact fX10_15_6
theorem fWX10_19 {ci : Nat} (hci : ci = 4 ∨ ci = 5 ∨ ci = 6) : gk_Fg RX10 19 ci 2 := by
  rcases hci with rfl | rfl | rfl
  · exact fX10_19_4
  · exact fX10_19_5
  · exact fX10_19_6
theorem fWX10_22 {ci : Nat} (hci : ci = 4 ∨ ci = 5 ∨ ci = 6) : gk_Fg RX10 22 ci 3 := by
  rcases hci with rfl | rfl | rfl
  · exact fX10_22_4
  · exact fX10_22_5
  · exact fX10_22_6
theorem fWX10_9w {ci : Nat} (hci : ci = 4 ∨ ci = 5 ∨ ci = 6) : gk_Fl RX10 9 ci 0 .int false := by
  rcases hci with rfl | rfl | rfl
  · exact fX10_9_4w
  · exact fX10_9_5w
  · exact fX10_9_6w
theorem cW25 {ci : Nat} (hci : ci = 4 ∨ ci = 5 ∨ ci = 6) : gk_Cu RX10 25 yX10_settle RX10 mX10_settle ci 1 := by
  rcases hci with rfl | rfl | rfl
  · exact cuX10_25_4
  · exact cuX10_25_5
  · exact cuX10_25_6
theorem cW29 {ci : Nat} (hci : ci = 4 ∨ ci = 5 ∨ ci = 6) : gk_Cu RX10 29 yX10_turn RX10 mX10_turn ci 1 := by
  rcases hci with rfl | rfl | rfl
  · exact cuX10_29_4
  · exact cuX10_29_5
  · exact cuX10_29_6
end
section
theorem cb_m100 : (Int8.ofInt (-100)).toInt32 = (-100) := by decide +kernel
theorem cb_m14 : (Int8.ofInt (-14)).toInt32 = (-14) := by decide +kernel
theorem cb_m13 : (Int8.ofInt (-13)).toInt32 = (-13) := by decide +kernel
theorem cb_m11 : (Int8.ofInt (-11)).toInt32 = (-11) := by decide +kernel
theorem cb_m5 : (Int8.ofInt (-5)).toInt32 = (-5) := by decide +kernel
theorem cb_m4 : (Int8.ofInt (-4)).toInt32 = (-4) := by decide +kernel
theorem cb_m3 : (Int8.ofInt (-3)).toInt32 = (-3) := by decide +kernel
theorem cb_m2 : (Int8.ofInt (-2)).toInt32 = (-2) := by decide +kernel
theorem cb_6 : (Int8.ofInt (6)).toInt32 = nI 6 := by decide +kernel
theorem cb_8 : (Int8.ofInt (8)).toInt32 = nI 8 := by decide +kernel
theorem cb_10 : (Int8.ofInt (10)).toInt32 = nI 10 := by decide +kernel
theorem cb_12 : (Int8.ofInt (12)).toInt32 = nI 12 := by decide +kernel
theorem cb_13 : (Int8.ofInt (13)).toInt32 = nI 13 := by decide +kernel
theorem cb_15 : (Int8.ofInt (15)).toInt32 = nI 15 := by decide +kernel
theorem cb_16 : (Int8.ofInt (16)).toInt32 = nI 16 := by decide +kernel
theorem cb_32 : (Int8.ofInt (32)).toInt32 = nI 32 := by decide +kernel
theorem cb_36 : (Int8.ofInt (36)).toInt32 = nI 36 := by decide +kernel
theorem cb_48 : (Int8.ofInt (48)).toInt32 = nI 48 := by decide +kernel
theorem cb_57 : (Int8.ofInt (57)).toInt32 = nI 57 := by decide +kernel
theorem cb_59 : (Int8.ofInt (59)).toInt32 = nI 59 := by decide +kernel
theorem cb_63 : (Int8.ofInt (63)).toInt32 = nI 63 := by decide +kernel
theorem cb_64 : (Int8.ofInt (64)).toInt32 = nI 64 := by decide +kernel
theorem cb_97 : (Int8.ofInt (97)).toInt32 = nI 97 := by decide +kernel
theorem cb_100 : (Int8.ofInt (100)).toInt32 = nI 100 := by decide +kernel
theorem cb_122 : (Int8.ofInt (122)).toInt32 = nI 122 := by decide +kernel
theorem cb_126 : (Int8.ofInt (126)).toInt32 = nI 126 := by decide +kernel
theorem cb_127 : (Int8.ofInt (127)).toInt32 = nI 127 := by decide +kernel
theorem ci_m1 : Int32.ofInt (-1) = (-1) := by decide +kernel
theorem ci_0 : Int32.ofInt (0) = nI 0 := by decide +kernel
theorem ci_1 : Int32.ofInt (1) = nI 1 := by decide +kernel
theorem ci_2 : Int32.ofInt (2) = nI 2 := by decide +kernel
theorem ci_3 : Int32.ofInt (3) = nI 3 := by decide +kernel
theorem ci_4 : Int32.ofInt (4) = nI 4 := by decide +kernel
theorem ci_5 : Int32.ofInt (5) = nI 5 := by decide +kernel
theorem cs_m300 : (Int16.ofInt (-300)).toInt32 = (-300) := by decide +kernel
theorem cs_144 : (Int16.ofInt (144)).toInt32 = nI 144 := by decide +kernel
theorem cs_153 : (Int16.ofInt (153)).toInt32 = nI 153 := by decide +kernel
theorem cs_200 : (Int16.ofInt (200)).toInt32 = nI 200 := by decide +kernel
theorem cs_1000 : (Int16.ofInt (1000)).toInt32 = nI 1000 := by decide +kernel
end
section
abbrev pX8_become_10 (E : gk_E) (dd : Nat) (o : Nat) (x1 : Nat) (x2 : Int32) (h : gk_H) (K : gk_H → Prop) : Prop := gk_G E mX8_become (dd, 0, 0) 10 [(0, .ref o), (1, .ref x1), (2, .int x2)] [] h (fun o h1 => o = none ∧ K h1)
set_option maxHeartbeats 4000000 in
theorem vX8_become_0 {E : gk_E} {dd : Nat} {o : Nat} {x1 : Nat}  {h : gk_H} {K : gk_H → Prop} (hv : LdI h x1 8 0 fun v1 => StI h o 8 0 v1 fun h2 => pX8_become_10 E dd o x1 (nI 0) h2 K) : RnV E mX8_become (dd, 0, 0) [.ref o, .ref x1] h K := by
  show gk_G E mX8_become (dd, 0, 0) 0 [(0, .ref o), (1, .ref x1)] [] h (fun o h1 => o = none ∧ K h1)
  refine gk_aload_n (pc := 0) (DX8_become_0.at 0 rfl) 0 rfl rfl ?_
  refine gk_aload_n (pc := 1) (DX8_become_0.at 1 rfl) 1 rfl rfl ?_
  obtain ⟨fs1, v1, q1, r1, hv⟩ := hv
  refine gk_get (pc := 2) (.int v1) (DX8_become_0.at 2 rfl) fX8_9_8 q1 r1 ?_
  obtain ⟨fs2, q2, r2, hv⟩ := hv
  refine gk_put (pc := 5) (DX8_become_0.at 3 rfl) fX8_9_8w q2 r2 rfl rfl ?_
  generalize h.set _ _ = h2 at hv ⊢
  refine gk_iconst (pc := 8) (nI 0) (DX8_become_0.at 4 rfl) ci_0 ?_
  refine gk_istore_n (pc := 9) [(2, .int (nI 0)), (0, .ref o), (1, .ref x1)] (DX8_become_0.at 5 rfl) rfl (Nat.le_of_ble_eq_true rfl) rfl ?_
  exact gk_pick (pc := 10) [(0, .ref o), (1, .ref x1), (2, .int (nI 0))] [1, 2, 0] rfl hv
set_option maxHeartbeats 4000000 in
theorem vX8_become_10 {E : gk_E} {dd : Nat} {o : Nat} {x1 : Nat} {x2 : Int32}  {h : gk_H} {K : gk_H → Prop} (hv : ((nI 4) ≤ x2 → LdL h x1 8 2 fun v1 => StL h o 8 2 v1 fun h2 => K h2) ∧ (¬ (nI 4) ≤ x2 → LdR h o 8 1 fun v3 => LdR h x1 8 1 fun v4 => AlI h v4 x2 fun v5 => AsI h v3 x2 v5 fun h6 => pX8_become_10 E dd o x1 (x2 + nI 1) h6 K)) : pX8_become_10 E dd o x1 x2 h K := by
  show gk_G E mX8_become (dd, 0, 0) 10 [(0, .ref o), (1, .ref x1), (2, .int x2)] [] h (fun o h1 => o = none ∧ K h1)
  refine gk_iload_n (pc := 10) (DX8_become_0.at 6 rfl) 2 rfl rfl ?_
  refine gk_iconst (pc := 11) (nI 4) (DX8_become_0.at 7 rfl) ci_4 ?_
  refine gk_icmp_ge (pc := 12) 33 (DX8_become_0.at 8 rfl) (by decide) (fun c => ?_) (fun c => ?_)
  · replace hv := hv.1 c
    refine gk_aload_n (pc := 33) (DX8_become_0.at 19 rfl) 0 rfl rfl ?_
    refine gk_aload_n (pc := 34) (DX8_become_0.at 20 rfl) 1 rfl rfl ?_
    obtain ⟨fs1, v1, q1, r1, hv⟩ := hv
    refine gk_get (pc := 35) (.long v1) (DX8_become_0.at 21 rfl) fX8_19_8 q1 r1 ?_
    obtain ⟨fs2, q2, r2, hv⟩ := hv
    refine gk_put (pc := 38) (DX8_become_0.at 22 rfl) fX8_19_8w q2 r2 rfl rfl ?_
    generalize h.set _ _ = h2 at hv ⊢
    exact gk_return (pc := 41) (DX8_become_0.at 23 rfl) rfl ⟨rfl, hv⟩
  · replace hv := hv.2 c
    refine gk_aload_n (pc := 15) (DX8_become_0.at 9 rfl) 0 rfl rfl ?_
    obtain ⟨fs3, v3, q3, r3, hv⟩ := hv
    refine gk_get (pc := 16) (.ref v3) (DX8_become_0.at 10 rfl) fX8_15_8 q3 r3 ?_
    refine gk_iload_n (pc := 19) (DX8_become_0.at 11 rfl) 2 rfl rfl ?_
    refine gk_aload_n (pc := 20) (DX8_become_0.at 12 rfl) 1 rfl rfl ?_
    obtain ⟨fs4, v4, q4, r4, hv⟩ := hv
    refine gk_get (pc := 21) (.ref v4) (DX8_become_0.at 13 rfl) fX8_15_8 q4 r4 ?_
    refine gk_iload_n (pc := 24) (DX8_become_0.at 14 rfl) 2 rfl rfl ?_
    obtain ⟨n5, f5, q5, r5, hv⟩ := hv
    refine gk_iald (pc := 25) (DX8_become_0.at 15 rfl) q5 r5 ?_
    generalize f5 _ = v5 at hv ⊢
    obtain ⟨n6, f6, q6, r6, hv⟩ := hv
    refine gk_iast (pc := 26) (DX8_become_0.at 16 rfl) q6 r6 ?_
    generalize h.set _ _ = h6 at hv ⊢
    refine gk_iinc (pc := 27) (x2 + nI 1) [(2, .int (x2 + nI 1)), (0, .ref o), (1, .ref x1)] 2 (DX8_become_0.at 17 rfl) rfl (by rw [ci_1]) (Nat.le_of_ble_eq_true rfl) rfl ?_
    refine gk_goto (pc := 30) 10 (DX8_become_0.at 18 rfl) (by decide) ?_
    exact gk_pick (pc := 10) [(0, .ref o), (1, .ref x1), (2, .int (x2 + nI 1))] [1, 2, 0] rfl hv
set_option maxHeartbeats 4000000 in
theorem vX8_bit_0 {E : gk_E} {dd : Nat} {x0 : Int32} {x1 : Int32} {x2 : Int32}  {h : gk_H} {K : Int64 → gk_H → Prop} (hv : K ((lN 1) <<< (((((nI 16) * x0) + ((nI 4) * x1)) + x2).toInt64 &&& 63)) h) : RnL E mX8_bit (dd, 0, 0) [.int x0, .int x1, .int x2] h K := by
  show gk_G E mX8_bit (dd, 0, 0) 0 [(0, .int x0), (1, .int x1), (2, .int x2)] [] h (fun o h1 => ∃ v, o = some (.long v) ∧ K v h1)
  refine gk_lconst (pc := 0) (lN 1) (DX8_bit_0.at 0 rfl) rfl ?_
  refine gk_bipush (pc := 1) (nI 16) (DX8_bit_0.at 1 rfl) cb_16 ?_
  refine gk_iload_n (pc := 3) (DX8_bit_0.at 2 rfl) 0 rfl rfl ?_
  refine gk_imul (pc := 4) (DX8_bit_0.at 3 rfl) ?_
  refine gk_iconst (pc := 5) (nI 4) (DX8_bit_0.at 4 rfl) ci_4 ?_
  refine gk_iload_n (pc := 6) (DX8_bit_0.at 5 rfl) 1 rfl rfl ?_
  refine gk_imul (pc := 7) (DX8_bit_0.at 6 rfl) ?_
  refine gk_iadd (pc := 8) (DX8_bit_0.at 7 rfl) ?_
  refine gk_iload_n (pc := 9) (DX8_bit_0.at 8 rfl) 2 rfl rfl ?_
  refine gk_iadd (pc := 10) (DX8_bit_0.at 9 rfl) ?_
  refine gk_lshl (pc := 11) (DX8_bit_0.at 10 rfl) ?_
  exact gk_lreturn (pc := 12) (DX8_bit_0.at 11 rfl) rfl ⟨_, rfl, hv⟩
set_option maxHeartbeats 4000000 in
theorem vX8_couple_0 {E : gk_E} {dd : Nat} {o : Nat} {x1 : Int32} {x2 : Int32}  {h : gk_H} {K : gk_H → Prop} (hv : (∃ fs, h[o]? = some (.inr (8, fs))) ∧ RnV E mX8_free (dd, 0, 0) [.ref o, .int x1] h (fun h1 => (∃ fs, h1[o]? = some (.inr (8, fs))) ∧ RnV E mX8_free (dd, 0, 0) [.ref o, .int x2] h1 (fun h2 => LdR h2 o 8 1 fun v3 => AsI h2 v3 x1 x2 fun h4 => LdR h4 o 8 1 fun v5 => AsI h4 v5 x2 x1 fun h6 => (∃ fs, h6[o]? = some (.inr (8, fs))) ∧ RnV E mX8_keepFixed (dd, 0, 0) [.ref o] h6 (fun h7 => K h7)))) : RnV E mX8_couple (dd + 1, 0, 0) [.ref o, .int x1, .int x2] h K := by
  show gk_G E mX8_couple (dd + 1, 0, 0) 0 [(0, .ref o), (1, .int x1), (2, .int x2)] [] h (fun o h1 => o = none ∧ K h1)
  refine gk_aload_n (pc := 0) (DX8_couple_0.at 0 rfl) 0 rfl rfl ?_
  refine gk_iload_n (pc := 1) (DX8_couple_0.at 1 rfl) 1 rfl rfl ?_
  obtain ⟨⟨fs1, q1⟩, hv⟩ := hv
  refine gk_vV (pc := 2) [.int x1] [] (DX8_couple_0.at 2 rfl) cvX8_30 q1 rfl rfl (Nat.le_of_ble_eq_true rfl) (Nat.le_of_ble_eq_true rfl) (gk_Run.post (fun o h1 z => ?_) hv)
  obtain ⟨rfl, hv⟩ := z
  refine gk_aload_n (pc := 5) (DX8_couple_0.at 3 rfl) 0 rfl rfl ?_
  refine gk_iload_n (pc := 6) (DX8_couple_0.at 4 rfl) 2 rfl rfl ?_
  obtain ⟨⟨fs2, q2⟩, hv⟩ := hv
  refine gk_vV (pc := 7) [.int x2] [] (DX8_couple_0.at 5 rfl) cvX8_30 q2 rfl rfl (Nat.le_of_ble_eq_true rfl) (Nat.le_of_ble_eq_true rfl) (gk_Run.post (fun o h2 z => ?_) hv)
  obtain ⟨rfl, hv⟩ := z
  refine gk_aload_n (pc := 10) (DX8_couple_0.at 6 rfl) 0 rfl rfl ?_
  obtain ⟨fs3, v3, q3, r3, hv⟩ := hv
  refine gk_get (pc := 11) (.ref v3) (DX8_couple_0.at 7 rfl) fX8_15_8 q3 r3 ?_
  refine gk_iload_n (pc := 14) (DX8_couple_0.at 8 rfl) 1 rfl rfl ?_
  refine gk_iload_n (pc := 15) (DX8_couple_0.at 9 rfl) 2 rfl rfl ?_
  obtain ⟨n4, f4, q4, r4, hv⟩ := hv
  refine gk_iast (pc := 16) (DX8_couple_0.at 10 rfl) q4 r4 ?_
  generalize h2.set _ _ = h4 at hv ⊢
  refine gk_aload_n (pc := 17) (DX8_couple_0.at 11 rfl) 0 rfl rfl ?_
  obtain ⟨fs5, v5, q5, r5, hv⟩ := hv
  refine gk_get (pc := 18) (.ref v5) (DX8_couple_0.at 12 rfl) fX8_15_8 q5 r5 ?_
  refine gk_iload_n (pc := 21) (DX8_couple_0.at 13 rfl) 2 rfl rfl ?_
  refine gk_iload_n (pc := 22) (DX8_couple_0.at 14 rfl) 1 rfl rfl ?_
  obtain ⟨n6, f6, q6, r6, hv⟩ := hv
  refine gk_iast (pc := 23) (DX8_couple_0.at 15 rfl) q6 r6 ?_
  generalize h4.set _ _ = h6 at hv ⊢
  refine gk_aload_n (pc := 24) (DX8_couple_0.at 16 rfl) 0 rfl rfl ?_
  obtain ⟨⟨fs7, q7⟩, hv⟩ := hv
  refine gk_vV (pc := 25) [] [] (DX8_couple_0.at 17 rfl) cvX8_27 q7 rfl rfl (Nat.le_of_ble_eq_true rfl) (Nat.le_of_ble_eq_true rfl) (gk_Run.post (fun o h7 z => ?_) hv)
  obtain ⟨rfl, hv⟩ := z
  exact gk_return (pc := 28) (DX8_couple_0.at 18 rfl) rfl ⟨rfl, hv⟩
abbrev pX8_coupled_4 (E : gk_E) (dd : Nat) (o : Nat) (x1 : Int32) (x2 : Int32) (h : gk_H) (K : Int32 → gk_H → Prop) : Prop := gk_G E mX8_coupled (dd, 0, 0) 4 [(0, .ref o), (1, .int x1), (2, .int x2)] [] h (fun o h1 => ∃ v, o = some (.int v) ∧ K v h1)
set_option maxHeartbeats 4000000 in
theorem vX8_coupled_0 {E : gk_E} {dd : Nat} {o : Nat}  {h : gk_H} {K : Int32 → gk_H → Prop} (hv : pX8_coupled_4 E dd o (nI 0) (nI 0) h K) : RnI E mX8_coupled (dd, 0, 0) [.ref o] h K := by
  show gk_G E mX8_coupled (dd, 0, 0) 0 [(0, .ref o)] [] h (fun o h1 => ∃ v, o = some (.int v) ∧ K v h1)
  refine gk_iconst (pc := 0) (nI 0) (DX8_coupled_0.at 0 rfl) ci_0 ?_
  refine gk_istore_n (pc := 1) [(1, .int (nI 0)), (0, .ref o)] (DX8_coupled_0.at 1 rfl) rfl (Nat.le_of_ble_eq_true rfl) rfl ?_
  refine gk_iconst (pc := 2) (nI 0) (DX8_coupled_0.at 2 rfl) ci_0 ?_
  refine gk_istore_n (pc := 3) [(2, .int (nI 0)), (1, .int (nI 0)), (0, .ref o)] (DX8_coupled_0.at 3 rfl) rfl (Nat.le_of_ble_eq_true rfl) rfl ?_
  exact gk_pick (pc := 4) [(0, .ref o), (1, .int (nI 0)), (2, .int (nI 0))] [2, 1, 0] rfl hv
set_option maxHeartbeats 4000000 in
theorem vX8_coupled_4 {E : gk_E} {dd : Nat} {o : Nat} {x1 : Int32} {x2 : Int32}  {h : gk_H} {K : Int32 → gk_H → Prop} (hv : LdI h o 8 0 fun v1 => (v1 ≤ x2 → K x1 h) ∧ (¬ v1 ≤ x2 → LdR h o 8 1 fun v2 => AlI h v2 x2 fun v3 => (v3 = x2 → pX8_coupled_4 E dd o x1 (x2 + nI 1) h K) ∧ (¬ v3 = x2 → pX8_coupled_4 E dd o (x1 + nI 1) (x2 + nI 1) h K))) : pX8_coupled_4 E dd o x1 x2 h K := by
  show gk_G E mX8_coupled (dd, 0, 0) 4 [(0, .ref o), (1, .int x1), (2, .int x2)] [] h (fun o h1 => ∃ v, o = some (.int v) ∧ K v h1)
  refine gk_iload_n (pc := 4) (DX8_coupled_0.at 4 rfl) 2 rfl rfl ?_
  refine gk_aload_n (pc := 5) (DX8_coupled_0.at 5 rfl) 0 rfl rfl ?_
  obtain ⟨fs1, v1, q1, r1, hv⟩ := hv
  refine gk_get (pc := 6) (.int v1) (DX8_coupled_0.at 6 rfl) fX8_9_8 q1 r1 ?_
  refine gk_icmp_ge (pc := 9) 31 (DX8_coupled_0.at 7 rfl) (by decide) (fun c => ?_) (fun c => ?_)
  · replace hv := hv.1 c
    refine gk_iload_n (pc := 31) (DX8_coupled_0.at 17 rfl) 1 rfl rfl ?_
    exact gk_ireturn (pc := 32) .int (DX8_coupled_0.at 18 rfl) rfl rfl ⟨_, rfl, hv⟩
  · replace hv := hv.2 c
    refine gk_aload_n (pc := 12) (DX8_coupled_0.at 8 rfl) 0 rfl rfl ?_
    obtain ⟨fs2, v2, q2, r2, hv⟩ := hv
    refine gk_get (pc := 13) (.ref v2) (DX8_coupled_0.at 9 rfl) fX8_15_8 q2 r2 ?_
    refine gk_iload_n (pc := 16) (DX8_coupled_0.at 10 rfl) 2 rfl rfl ?_
    obtain ⟨n3, f3, q3, r3, hv⟩ := hv
    refine gk_iald (pc := 17) (DX8_coupled_0.at 11 rfl) q3 r3 ?_
    generalize f3 _ = v3 at hv ⊢
    refine gk_iload_n (pc := 18) (DX8_coupled_0.at 12 rfl) 2 rfl rfl ?_
    refine gk_icmp_eq (pc := 19) 25 (DX8_coupled_0.at 13 rfl) (by decide) (fun c => ?_) (fun c => ?_)
    · replace hv := hv.1 c
      refine gk_iinc (pc := 25) (x2 + nI 1) [(2, .int (x2 + nI 1)), (0, .ref o), (1, .int x1)] 2 (DX8_coupled_0.at 15 rfl) rfl (by rw [ci_1]) (Nat.le_of_ble_eq_true rfl) rfl ?_
      refine gk_goto (pc := 28) 4 (DX8_coupled_0.at 16 rfl) (by decide) ?_
      exact gk_pick (pc := 4) [(0, .ref o), (1, .int x1), (2, .int (x2 + nI 1))] [1, 2, 0] rfl hv
    · replace hv := hv.2 c
      refine gk_iinc (pc := 22) (x1 + nI 1) [(1, .int (x1 + nI 1)), (0, .ref o), (2, .int x2)] 1 (DX8_coupled_0.at 14 rfl) rfl (by rw [ci_1]) (Nat.le_of_ble_eq_true rfl) rfl ?_
      refine gk_iinc (pc := 25) (x2 + nI 1) [(2, .int (x2 + nI 1)), (1, .int (x1 + nI 1)), (0, .ref o)] 2 (DX8_coupled_0.at 15 rfl) rfl (by rw [ci_1]) (Nat.le_of_ble_eq_true rfl) rfl ?_
      refine gk_goto (pc := 28) 4 (DX8_coupled_0.at 16 rfl) (by decide) ?_
      exact gk_pick (pc := 4) [(0, .ref o), (1, .int (x1 + nI 1)), (2, .int (x2 + nI 1))] [2, 1, 0] rfl hv
abbrev pX8_cycleFacts_10 (E : gk_E) (dd : Nat) (o : Nat) (x1 : Int32) (x2 : Int32) (x3 : Int32) (x4 : Int32) (x5 : Int32) (h : gk_H) (K : Int32 → gk_H → Prop) : Prop := gk_G E mX8_cycleFacts (dd + 1, 0, 0) 10 [(0, .ref o), (1, .int x1), (2, .int x2), (3, .int x3), (4, .int x4), (5, .int x5)] [] h (fun o h1 => ∃ v, o = some (.int v) ∧ K v h1)
abbrev pX8_cycleFacts_22 (E : gk_E) (dd : Nat) (o : Nat) (x1 : Int32) (x2 : Int32) (x3 : Int32) (x4 : Int32) (x5 : Int32) (x6 : Int32) (h : gk_H) (K : Int32 → gk_H → Prop) : Prop := gk_G E mX8_cycleFacts (dd + 1, 0, 0) 22 [(0, .ref o), (1, .int x1), (2, .int x2), (3, .int x3), (4, .int x4), (5, .int x5), (6, .int x6)] [] h (fun o h1 => ∃ v, o = some (.int v) ∧ K v h1)
abbrev pX8_cycleFacts_34 (E : gk_E) (dd : Nat) (o : Nat) (x1 : Int32) (x2 : Int32) (x3 : Int32) (x4 : Int32) (x5 : Int32) (x6 : Int32) (x7 : Int32) (h : gk_H) (K : Int32 → gk_H → Prop) : Prop := gk_G E mX8_cycleFacts (dd + 1, 0, 0) 34 [(0, .ref o), (1, .int x1), (2, .int x2), (3, .int x3), (4, .int x4), (5, .int x5), (6, .int x6), (7, .int x7)] [] h (fun o h1 => ∃ v, o = some (.int v) ∧ K v h1)
set_option maxHeartbeats 4000000 in
theorem vX8_cycleFacts_0 {E : gk_E} {dd : Nat} {o : Nat} {x1 : Int32}  {h : gk_H} {K : Int32 → gk_H → Prop} (hv : pX8_cycleFacts_10 E dd o x1 (nI 0) (nI 0) (nI 0) (nI 1) h K) : RnI E mX8_cycleFacts (dd + 1, 0, 0) [.ref o, .int x1] h K := by
  show gk_G E mX8_cycleFacts (dd + 1, 0, 0) 0 [(0, .ref o), (1, .int x1)] [] h (fun o h1 => ∃ v, o = some (.int v) ∧ K v h1)
  refine gk_iconst (pc := 0) (nI 0) (DX8_cycleFacts_0.at 0 rfl) ci_0 ?_
  refine gk_istore_n (pc := 1) [(2, .int (nI 0)), (0, .ref o), (1, .int x1)] (DX8_cycleFacts_0.at 1 rfl) rfl (Nat.le_of_ble_eq_true rfl) rfl ?_
  refine gk_iconst (pc := 2) (nI 0) (DX8_cycleFacts_0.at 2 rfl) ci_0 ?_
  refine gk_istore_n (pc := 3) [(3, .int (nI 0)), (2, .int (nI 0)), (0, .ref o), (1, .int x1)] (DX8_cycleFacts_0.at 3 rfl) rfl (Nat.le_of_ble_eq_true rfl) rfl ?_
  refine gk_iconst (pc := 4) (nI 0) (DX8_cycleFacts_0.at 4 rfl) ci_0 ?_
  refine gk_istore (pc := 5) [(4, .int (nI 0)), (3, .int (nI 0)), (2, .int (nI 0)), (0, .ref o), (1, .int x1)] (DX8_cycleFacts_0.at 5 rfl) (Nat.le_of_ble_eq_true rfl) rfl ?_
  refine gk_iconst (pc := 7) (nI 1) (DX8_cycleFacts_0.at 6 rfl) ci_1 ?_
  refine gk_istore (pc := 8) [(5, .int (nI 1)), (4, .int (nI 0)), (3, .int (nI 0)), (2, .int (nI 0)), (0, .ref o), (1, .int x1)] (DX8_cycleFacts_0.at 7 rfl) (Nat.le_of_ble_eq_true rfl) rfl ?_
  exact gk_pick (pc := 10) [(0, .ref o), (1, .int x1), (2, .int (nI 0)), (3, .int (nI 0)), (4, .int (nI 0)), (5, .int (nI 1))] [4, 5, 3, 2, 1, 0] rfl hv
set_option maxHeartbeats 4000000 in
theorem vX8_cycleFacts_10 {E : gk_E} {dd : Nat} {o : Nat} {x1 : Int32} {x2 : Int32} {x3 : Int32} {x4 : Int32} {x5 : Int32}  {h : gk_H} {K : Int32 → gk_H → Prop} (hv : LdI h o 8 0 fun v1 => (v1 ≤ x5 → (¬ x1 = 0 → (¬ x1 = (nI 1) → K x4 h) ∧ (x1 = (nI 1) → K x3 h)) ∧ (x1 = 0 → K x2 h)) ∧ (¬ v1 ≤ x5 → pX8_cycleFacts_22 E dd o x1 x2 x3 x4 x5 (nI 1) h K)) : pX8_cycleFacts_10 E dd o x1 x2 x3 x4 x5 h K := by
  show gk_G E mX8_cycleFacts (dd + 1, 0, 0) 10 [(0, .ref o), (1, .int x1), (2, .int x2), (3, .int x3), (4, .int x4), (5, .int x5)] [] h (fun o h1 => ∃ v, o = some (.int v) ∧ K v h1)
  refine gk_iload (pc := 10) (DX8_cycleFacts_0.at 8 rfl) 5 rfl ?_
  refine gk_aload_n (pc := 12) (DX8_cycleFacts_0.at 9 rfl) 0 rfl rfl ?_
  obtain ⟨fs1, v1, q1, r1, hv⟩ := hv
  refine gk_get (pc := 13) (.int v1) (DX8_cycleFacts_0.at 10 rfl) fX8_9_8 q1 r1 ?_
  refine gk_icmp_ge (pc := 16) 113 (DX8_cycleFacts_0.at 11 rfl) (by decide) (fun c => ?_) (fun c => ?_)
  · replace hv := hv.1 c
    refine gk_iload_n (pc := 113) (DX8_cycleFacts_0.at 53 rfl) 1 rfl rfl ?_
    refine gk_if_ne (pc := 114) 119 (DX8_cycleFacts_0.at 54 rfl) (by decide) (fun c => ?_) (fun c => ?_)
    · replace hv := hv.1 c
      refine gk_iload_n (pc := 119) (DX8_cycleFacts_0.at 57 rfl) 1 rfl rfl ?_
      refine gk_iconst (pc := 120) (nI 1) (DX8_cycleFacts_0.at 58 rfl) ci_1 ?_
      refine gk_icmp_ne (pc := 121) 128 (DX8_cycleFacts_0.at 59 rfl) (by decide) (fun c => ?_) (fun c => ?_)
      · replace hv := hv.1 c
        refine gk_iload (pc := 128) (DX8_cycleFacts_1.at 2 rfl) 4 rfl ?_
        exact gk_ireturn (pc := 130) .int (DX8_cycleFacts_1.at 3 rfl) rfl rfl ⟨_, rfl, hv⟩
      · replace hv := hv.2 c
        refine gk_iload_n (pc := 124) (DX8_cycleFacts_1.at 0 rfl) 3 rfl rfl ?_
        refine gk_goto (pc := 125) 130 (DX8_cycleFacts_1.at 1 rfl) (by decide) ?_
        exact gk_ireturn (pc := 130) .int (DX8_cycleFacts_1.at 3 rfl) rfl rfl ⟨_, rfl, hv⟩
    · replace hv := hv.2 c
      refine gk_iload_n (pc := 117) (DX8_cycleFacts_0.at 55 rfl) 2 rfl rfl ?_
      exact gk_ireturn (pc := 118) .int (DX8_cycleFacts_0.at 56 rfl) rfl rfl ⟨_, rfl, hv⟩
  · replace hv := hv.2 c
    refine gk_iconst (pc := 19) (nI 1) (DX8_cycleFacts_0.at 12 rfl) ci_1 ?_
    refine gk_istore (pc := 20) [(6, .int (nI 1)), (0, .ref o), (1, .int x1), (2, .int x2), (3, .int x3), (4, .int x4), (5, .int x5)] (DX8_cycleFacts_0.at 13 rfl) (Nat.le_of_ble_eq_true rfl) rfl ?_
    exact gk_pick (pc := 22) [(0, .ref o), (1, .int x1), (2, .int x2), (3, .int x3), (4, .int x4), (5, .int x5), (6, .int (nI 1))] [1, 2, 3, 4, 5, 6, 0] rfl hv
set_option maxHeartbeats 4000000 in
theorem vX8_cycleFacts_22 {E : gk_E} {dd : Nat} {o : Nat} {x1 : Int32} {x2 : Int32} {x3 : Int32} {x4 : Int32} {x5 : Int32} {x6 : Int32}  {h : gk_H} {K : Int32 → gk_H → Prop} (hv : LdI h o 8 0 fun v1 => (v1 ≤ x6 → pX8_cycleFacts_10 E dd o x1 x2 x3 x4 (x5 + nI 1) h K) ∧ (¬ v1 ≤ x6 → pX8_cycleFacts_34 E dd o x1 x2 x3 x4 x5 x6 (nI 1) h K)) : pX8_cycleFacts_22 E dd o x1 x2 x3 x4 x5 x6 h K := by
  show gk_G E mX8_cycleFacts (dd + 1, 0, 0) 22 [(0, .ref o), (1, .int x1), (2, .int x2), (3, .int x3), (4, .int x4), (5, .int x5), (6, .int x6)] [] h (fun o h1 => ∃ v, o = some (.int v) ∧ K v h1)
  refine gk_iload (pc := 22) (DX8_cycleFacts_0.at 14 rfl) 6 rfl ?_
  refine gk_aload_n (pc := 24) (DX8_cycleFacts_0.at 15 rfl) 0 rfl rfl ?_
  obtain ⟨fs1, v1, q1, r1, hv⟩ := hv
  refine gk_get (pc := 25) (.int v1) (DX8_cycleFacts_0.at 16 rfl) fX8_9_8 q1 r1 ?_
  refine gk_icmp_ge (pc := 28) 107 (DX8_cycleFacts_0.at 17 rfl) (by decide) (fun c => ?_) (fun c => ?_)
  · replace hv := hv.1 c
    refine gk_iinc (pc := 107) (x5 + nI 1) [(5, .int (x5 + nI 1)), (0, .ref o), (1, .int x1), (2, .int x2), (3, .int x3), (4, .int x4), (6, .int x6)] 5 (DX8_cycleFacts_0.at 51 rfl) rfl (by rw [ci_1]) (Nat.le_of_ble_eq_true rfl) rfl ?_
    refine gk_goto (pc := 110) 10 (DX8_cycleFacts_0.at 52 rfl) (by decide) ?_
    exact gk_pick (pc := 10) [(0, .ref o), (1, .int x1), (2, .int x2), (3, .int x3), (4, .int x4), (5, .int (x5 + nI 1))] [1, 2, 3, 4, 5, 0] rfl hv
  · replace hv := hv.2 c
    refine gk_iconst (pc := 31) (nI 1) (DX8_cycleFacts_0.at 18 rfl) ci_1 ?_
    refine gk_istore (pc := 32) [(7, .int (nI 1)), (0, .ref o), (1, .int x1), (2, .int x2), (3, .int x3), (4, .int x4), (5, .int x5), (6, .int x6)] (DX8_cycleFacts_0.at 19 rfl) (Nat.le_of_ble_eq_true rfl) rfl ?_
    exact gk_pick (pc := 34) [(0, .ref o), (1, .int x1), (2, .int x2), (3, .int x3), (4, .int x4), (5, .int x5), (6, .int x6), (7, .int (nI 1))] [1, 2, 3, 4, 5, 6, 7, 0] rfl hv
set_option maxHeartbeats 4000000 in
theorem vX8_cycleFacts_34 {E : gk_E} {dd : Nat} {o : Nat} {x1 : Int32} {x2 : Int32} {x3 : Int32} {x4 : Int32} {x5 : Int32} {x6 : Int32} {x7 : Int32}  {h : gk_H} {K : Int32 → gk_H → Prop} (hv : LdI h o 8 0 fun v1 => (v1 ≤ x7 → pX8_cycleFacts_22 E dd o x1 x2 x3 x4 x5 (x6 + nI 1) h K) ∧ (¬ v1 ≤ x7 → (∃ fs, h[o]? = some (.inr (8, fs))) ∧ RnI E mX8_isLeastTurn (dd, 0, 0) [.ref o, .int x5, .int x6, .int x7] h (fun v2 h2 => (v2 = 0 → pX8_cycleFacts_34 E dd o x1 x2 x3 x4 x5 x6 (x7 + nI 1) h2 K) ∧ (¬ v2 = 0 → (∃ fs, h2[o]? = some (.inr (8, fs))) ∧ RnI E mX8_has (dd, 0, 0) [.ref o, .int x5, .int x6, .int x7] h2 (fun v3 h3 => (v3 = 0 → pX8_cycleFacts_34 E dd o x1 x2 (x3 + nI 1) x4 x5 x6 (x7 + nI 1) h3 K) ∧ (¬ v3 = 0 → (∃ fs, h3[o]? = some (.inr (8, fs))) ∧ RnL E mX8_turns (dd, 0, 0) [.ref o, .int x5, .int x6, .int x7] h3 (fun v4 h4 => RnI E J13_bitCount_95d88 (dd, 0, 0) [.long v4] h4 (fun v5 h5 => pX8_cycleFacts_34 E dd o x1 (x2 + nI 1) (x3 + nI 1) (if x4 < v5 then v5 else x4) x5 x6 (x7 + nI 1) h5 K)))))))) : pX8_cycleFacts_34 E dd o x1 x2 x3 x4 x5 x6 x7 h K := by
  show gk_G E mX8_cycleFacts (dd + 1, 0, 0) 34 [(0, .ref o), (1, .int x1), (2, .int x2), (3, .int x3), (4, .int x4), (5, .int x5), (6, .int x6), (7, .int x7)] [] h (fun o h1 => ∃ v, o = some (.int v) ∧ K v h1)
  refine gk_iload (pc := 34) (DX8_cycleFacts_0.at 20 rfl) 7 rfl ?_
  refine gk_aload_n (pc := 36) (DX8_cycleFacts_0.at 21 rfl) 0 rfl rfl ?_
  obtain ⟨fs1, v1, q1, r1, hv⟩ := hv
  refine gk_get (pc := 37) (.int v1) (DX8_cycleFacts_0.at 22 rfl) fX8_9_8 q1 r1 ?_
  refine gk_icmp_ge (pc := 40) 101 (DX8_cycleFacts_0.at 23 rfl) (by decide) (fun c => ?_) (fun c => ?_)
  · replace hv := hv.1 c
    refine gk_iinc (pc := 101) (x6 + nI 1) [(6, .int (x6 + nI 1)), (0, .ref o), (1, .int x1), (2, .int x2), (3, .int x3), (4, .int x4), (5, .int x5), (7, .int x7)] 6 (DX8_cycleFacts_0.at 49 rfl) rfl (by rw [ci_1]) (Nat.le_of_ble_eq_true rfl) rfl ?_
    refine gk_goto (pc := 104) 22 (DX8_cycleFacts_0.at 50 rfl) (by decide) ?_
    exact gk_pick (pc := 22) [(0, .ref o), (1, .int x1), (2, .int x2), (3, .int x3), (4, .int x4), (5, .int x5), (6, .int (x6 + nI 1))] [1, 2, 3, 4, 5, 6, 0] rfl hv
  · replace hv := hv.2 c
    refine gk_aload_n (pc := 43) (DX8_cycleFacts_0.at 24 rfl) 0 rfl rfl ?_
    refine gk_iload (pc := 44) (DX8_cycleFacts_0.at 25 rfl) 5 rfl ?_
    refine gk_iload (pc := 46) (DX8_cycleFacts_0.at 26 rfl) 6 rfl ?_
    refine gk_iload (pc := 48) (DX8_cycleFacts_0.at 27 rfl) 7 rfl ?_
    obtain ⟨⟨fs2, q2⟩, hv⟩ := hv
    refine gk_vV (pc := 50) [.int x5, .int x6, .int x7] [] (DX8_cycleFacts_0.at 28 rfl) cvX8_68 q2 rfl rfl (Nat.le_of_ble_eq_true rfl) (Nat.le_of_ble_eq_true rfl) (gk_Run.post (fun o h2 z => ?_) hv)
    obtain ⟨v2, rfl, hv⟩ := z
    refine gk_if_eq (pc := 53) 95 (DX8_cycleFacts_0.at 29 rfl) (by decide) (fun c => ?_) (fun c => ?_)
    · replace hv := hv.1 c
      refine gk_iinc (pc := 95) (x7 + nI 1) [(7, .int (x7 + nI 1)), (0, .ref o), (1, .int x1), (2, .int x2), (3, .int x3), (4, .int x4), (5, .int x5), (6, .int x6)] 7 (DX8_cycleFacts_0.at 47 rfl) rfl (by rw [ci_1]) (Nat.le_of_ble_eq_true rfl) rfl ?_
      refine gk_goto (pc := 98) 34 (DX8_cycleFacts_0.at 48 rfl) (by decide) ?_
      exact gk_pick (pc := 34) [(0, .ref o), (1, .int x1), (2, .int x2), (3, .int x3), (4, .int x4), (5, .int x5), (6, .int x6), (7, .int (x7 + nI 1))] [1, 2, 3, 4, 5, 6, 7, 0] rfl hv
    · replace hv := hv.2 c
      refine gk_iinc (pc := 56) (x3 + nI 1) [(3, .int (x3 + nI 1)), (0, .ref o), (1, .int x1), (2, .int x2), (4, .int x4), (5, .int x5), (6, .int x6), (7, .int x7)] 3 (DX8_cycleFacts_0.at 30 rfl) rfl (by rw [ci_1]) (Nat.le_of_ble_eq_true rfl) rfl ?_
      refine gk_aload_n (pc := 59) (DX8_cycleFacts_0.at 31 rfl) 1 rfl rfl ?_
      refine gk_iload (pc := 60) (DX8_cycleFacts_0.at 32 rfl) 5 rfl ?_
      refine gk_iload (pc := 62) (DX8_cycleFacts_0.at 33 rfl) 6 rfl ?_
      refine gk_iload (pc := 64) (DX8_cycleFacts_0.at 34 rfl) 7 rfl ?_
      obtain ⟨⟨fs3, q3⟩, hv⟩ := hv
      refine gk_vV (pc := 66) [.int x5, .int x6, .int x7] [] (DX8_cycleFacts_0.at 35 rfl) cvX8_71 q3 rfl rfl (Nat.le_of_ble_eq_true rfl) (Nat.le_of_ble_eq_true rfl) (gk_Run.post (fun o h3 z => ?_) hv)
      obtain ⟨v3, rfl, hv⟩ := z
      refine gk_if_eq (pc := 69) 95 (DX8_cycleFacts_0.at 36 rfl) (by decide) (fun c => ?_) (fun c => ?_)
      · replace hv := hv.1 c
        refine gk_iinc (pc := 95) (x7 + nI 1) [(7, .int (x7 + nI 1)), (3, .int (x3 + nI 1)), (0, .ref o), (1, .int x1), (2, .int x2), (4, .int x4), (5, .int x5), (6, .int x6)] 7 (DX8_cycleFacts_0.at 47 rfl) rfl (by rw [ci_1]) (Nat.le_of_ble_eq_true rfl) rfl ?_
        refine gk_goto (pc := 98) 34 (DX8_cycleFacts_0.at 48 rfl) (by decide) ?_
        exact gk_pick (pc := 34) [(0, .ref o), (1, .int x1), (2, .int x2), (3, .int (x3 + nI 1)), (4, .int x4), (5, .int x5), (6, .int x6), (7, .int (x7 + nI 1))] [2, 3, 4, 1, 5, 6, 7, 0] rfl hv
      · replace hv := hv.2 c
        refine gk_iinc (pc := 72) (x2 + nI 1) [(2, .int (x2 + nI 1)), (3, .int (x3 + nI 1)), (0, .ref o), (1, .int x1), (4, .int x4), (5, .int x5), (6, .int x6), (7, .int x7)] 3 (DX8_cycleFacts_0.at 37 rfl) rfl (by rw [ci_1]) (Nat.le_of_ble_eq_true rfl) rfl ?_
        refine gk_iload (pc := 75) (DX8_cycleFacts_0.at 38 rfl) 4 rfl ?_
        refine gk_aload_n (pc := 77) (DX8_cycleFacts_0.at 39 rfl) 2 rfl rfl ?_
        refine gk_iload (pc := 78) (DX8_cycleFacts_0.at 40 rfl) 5 rfl ?_
        refine gk_iload (pc := 80) (DX8_cycleFacts_0.at 41 rfl) 6 rfl ?_
        refine gk_iload (pc := 82) (DX8_cycleFacts_0.at 42 rfl) 7 rfl ?_
        obtain ⟨⟨fs4, q4⟩, hv⟩ := hv
        refine gk_vV (pc := 84) [.int x5, .int x6, .int x7] [.int x4] (DX8_cycleFacts_0.at 43 rfl) cvX8_37 q4 rfl rfl (Nat.le_of_ble_eq_true rfl) (Nat.le_of_ble_eq_true rfl) (gk_Run.post (fun o h4 z => ?_) hv)
        obtain ⟨v4, rfl, hv⟩ := z
        refine gk_vS (pc := 87) [.long v4] [.int x4] (DX8_cycleFacts_0.at 44 rfl) csX8_42 rfl rfl (Nat.le_of_ble_eq_true rfl) (Nat.le_of_ble_eq_true rfl) (gk_Run.post (fun o h5 z => ?_) hv)
        obtain ⟨v5, rfl, hv⟩ := z
        refine gk_max (pc := 90) (DX8_cycleFacts_0.at 45 rfl) kw_587 kw_588 kw_98 kw_589 (Nat.le_of_ble_eq_true rfl) ?_
        refine gk_istore (pc := 93) [(4, .int (if x4 < v5 then v5 else x4)), (2, .int (x2 + nI 1)), (3, .int (x3 + nI 1)), (0, .ref o), (1, .int x1), (5, .int x5), (6, .int x6), (7, .int x7)] (DX8_cycleFacts_0.at 46 rfl) (Nat.le_of_ble_eq_true rfl) rfl ?_
        refine gk_iinc (pc := 95) (x7 + nI 1) [(7, .int (x7 + nI 1)), (4, .int (if x4 < v5 then v5 else x4)), (2, .int (x2 + nI 1)), (3, .int (x3 + nI 1)), (0, .ref o), (1, .int x1), (5, .int x5), (6, .int x6)] 7 (DX8_cycleFacts_0.at 47 rfl) rfl (by rw [ci_1]) (Nat.le_of_ble_eq_true rfl) rfl ?_
        refine gk_goto (pc := 98) 34 (DX8_cycleFacts_0.at 48 rfl) (by decide) ?_
        exact gk_pick (pc := 34) [(0, .ref o), (1, .int x1), (2, .int (x2 + nI 1)), (3, .int (x3 + nI 1)), (4, .int (if x4 < v5 then v5 else x4)), (5, .int x5), (6, .int x6), (7, .int (x7 + nI 1))] [4, 5, 2, 3, 1, 6, 7, 0] rfl hv
set_option maxHeartbeats 4000000 in
theorem vX8_free_0 {E : gk_E} {dd : Nat} {o : Nat} {x1 : Int32}  {h : gk_H} {K : gk_H → Prop} (hv : LdR h o 8 1 fun v1 => AlI h v1 x1 fun v2 => LdR h o 8 1 fun v3 => AsI h v3 v2 v2 fun h4 => LdR h4 o 8 1 fun v5 => AsI h4 v5 x1 x1 fun h6 => K h6) : RnV E mX8_free (dd, 0, 0) [.ref o, .int x1] h K := by
  show gk_G E mX8_free (dd, 0, 0) 0 [(0, .ref o), (1, .int x1)] [] h (fun o h1 => o = none ∧ K h1)
  refine gk_aload_n (pc := 0) (DX8_free_0.at 0 rfl) 0 rfl rfl ?_
  obtain ⟨fs1, v1, q1, r1, hv⟩ := hv
  refine gk_get (pc := 1) (.ref v1) (DX8_free_0.at 1 rfl) fX8_15_8 q1 r1 ?_
  refine gk_iload_n (pc := 4) (DX8_free_0.at 2 rfl) 1 rfl rfl ?_
  obtain ⟨n2, f2, q2, r2, hv⟩ := hv
  refine gk_iald (pc := 5) (DX8_free_0.at 3 rfl) q2 r2 ?_
  generalize f2 _ = v2 at hv ⊢
  refine gk_istore_n (pc := 6) [(2, .int v2), (0, .ref o), (1, .int x1)] (DX8_free_0.at 4 rfl) rfl (Nat.le_of_ble_eq_true rfl) rfl ?_
  refine gk_aload_n (pc := 7) (DX8_free_0.at 5 rfl) 1 rfl rfl ?_
  obtain ⟨fs3, v3, q3, r3, hv⟩ := hv
  refine gk_get (pc := 8) (.ref v3) (DX8_free_0.at 6 rfl) fX8_15_8 q3 r3 ?_
  refine gk_iload_n (pc := 11) (DX8_free_0.at 7 rfl) 0 rfl rfl ?_
  refine gk_iload_n (pc := 12) (DX8_free_0.at 8 rfl) 0 rfl rfl ?_
  obtain ⟨n4, f4, q4, r4, hv⟩ := hv
  refine gk_iast (pc := 13) (DX8_free_0.at 9 rfl) q4 r4 ?_
  generalize h.set _ _ = h4 at hv ⊢
  refine gk_aload_n (pc := 14) (DX8_free_0.at 10 rfl) 1 rfl rfl ?_
  obtain ⟨fs5, v5, q5, r5, hv⟩ := hv
  refine gk_get (pc := 15) (.ref v5) (DX8_free_0.at 11 rfl) fX8_15_8 q5 r5 ?_
  refine gk_iload_n (pc := 18) (DX8_free_0.at 12 rfl) 2 rfl rfl ?_
  refine gk_iload_n (pc := 19) (DX8_free_0.at 13 rfl) 2 rfl rfl ?_
  obtain ⟨n6, f6, q6, r6, hv⟩ := hv
  refine gk_iast (pc := 20) (DX8_free_0.at 14 rfl) q6 r6 ?_
  generalize h4.set _ _ = h6 at hv ⊢
  exact gk_return (pc := 21) (DX8_free_0.at 15 rfl) rfl ⟨rfl, hv⟩
set_option maxHeartbeats 4000000 in
theorem vX8_has_0 {E : gk_E} {dd : Nat} {o : Nat} {x1 : Int32} {x2 : Int32} {x3 : Int32}  {h : gk_H} {K : Int32 → gk_H → Prop} (hv : LdL h o 8 2 fun v1 => (¬ (lg_cmp (((v1.toUInt64 >>> (((((nI 16) * x1) + ((nI 4) * x2)) + x3).toInt64.toUInt64 &&& Int64.toUInt64 63)).toInt64) &&& (lN 1)) (lN 1)) = 0 → K (nI 0) h) ∧ ((lg_cmp (((v1.toUInt64 >>> (((((nI 16) * x1) + ((nI 4) * x2)) + x3).toInt64.toUInt64 &&& Int64.toUInt64 63)).toInt64) &&& (lN 1)) (lN 1)) = 0 → K (nI 1) h)) : RnI E mX8_has (dd, 0, 0) [.ref o, .int x1, .int x2, .int x3] h K := by
  show gk_G E mX8_has (dd, 0, 0) 0 [(0, .ref o), (1, .int x1), (2, .int x2), (3, .int x3)] [] h (fun o h1 => ∃ v, o = some (.int v) ∧ K v h1)
  refine gk_aload_n (pc := 0) (DX8_has_0.at 0 rfl) 0 rfl rfl ?_
  obtain ⟨fs1, v1, q1, r1, hv⟩ := hv
  refine gk_get (pc := 1) (.long v1) (DX8_has_0.at 1 rfl) fX8_19_8 q1 r1 ?_
  refine gk_bipush (pc := 4) (nI 16) (DX8_has_0.at 2 rfl) cb_16 ?_
  refine gk_iload_n (pc := 6) (DX8_has_0.at 3 rfl) 1 rfl rfl ?_
  refine gk_imul (pc := 7) (DX8_has_0.at 4 rfl) ?_
  refine gk_iconst (pc := 8) (nI 4) (DX8_has_0.at 5 rfl) ci_4 ?_
  refine gk_iload_n (pc := 9) (DX8_has_0.at 6 rfl) 2 rfl rfl ?_
  refine gk_imul (pc := 10) (DX8_has_0.at 7 rfl) ?_
  refine gk_iadd (pc := 11) (DX8_has_0.at 8 rfl) ?_
  refine gk_iload_n (pc := 12) (DX8_has_0.at 9 rfl) 3 rfl rfl ?_
  refine gk_iadd (pc := 13) (DX8_has_0.at 10 rfl) ?_
  refine gk_lushr (pc := 14) (DX8_has_0.at 11 rfl) ?_
  refine gk_lconst (pc := 15) (lN 1) (DX8_has_0.at 12 rfl) rfl ?_
  refine gk_land (pc := 16) (DX8_has_0.at 13 rfl) ?_
  refine gk_lconst (pc := 17) (lN 1) (DX8_has_0.at 14 rfl) rfl ?_
  refine gk_lcmp (pc := 18) (DX8_has_0.at 15 rfl) ?_
  refine gk_if_ne (pc := 19) 26 (DX8_has_0.at 16 rfl) (by decide) (fun c => ?_) (fun c => ?_)
  · replace hv := hv.1 c
    refine gk_iconst (pc := 26) (nI 0) (DX8_has_0.at 19 rfl) ci_0 ?_
    exact gk_ireturn (pc := 27) .boolean (DX8_has_0.at 20 rfl) rfl rfl ⟨_, rfl, hv⟩
  · replace hv := hv.2 c
    refine gk_iconst (pc := 22) (nI 1) (DX8_has_0.at 17 rfl) ci_1 ?_
    refine gk_goto (pc := 23) 27 (DX8_has_0.at 18 rfl) (by decide) ?_
    exact gk_ireturn (pc := 27) .boolean (DX8_has_0.at 20 rfl) rfl rfl ⟨_, rfl, hv⟩
set_option maxHeartbeats 4000000 in
theorem vX8_isEquivalence_0 {E : gk_E} {dd : Nat} {o : Nat} {x1 : Int32}  {h : gk_H} {K : Int32 → gk_H → Prop} (hv : (¬ (x1 &&& (nI 1)) = (nI 1) → K (nI 0) h) ∧ ((x1 &&& (nI 1)) = (nI 1) → (∃ fs, h[o]? = some (.inr (8, fs))) ∧ RnI E mX8_mirrored (dd, 0, 0) [.ref o, .int x1] h (fun v1 h1 => (¬ v1 = x1 → K (nI 0) h1) ∧ (v1 = x1 → (∃ fs, h1[o]? = some (.inr (8, fs))) ∧ RnI E mX8_product (dd, 0, 0) [.ref o, .int x1, .int x1] h1 (fun v2 h2 => (¬ (v2 &&& (x1 ^^^ ((-1)))) = 0 → K (nI 0) h2) ∧ ((v2 &&& (x1 ^^^ ((-1)))) = 0 → K (nI 1) h2)))))) : RnI E mX8_isEquivalence (dd + 1, 0, 0) [.ref o, .int x1] h K := by
  show gk_G E mX8_isEquivalence (dd + 1, 0, 0) 0 [(0, .ref o), (1, .int x1)] [] h (fun o h1 => ∃ v, o = some (.int v) ∧ K v h1)
  refine gk_iload_n (pc := 0) (DX8_isEquivalence_0.at 0 rfl) 1 rfl rfl ?_
  refine gk_iconst (pc := 1) (nI 1) (DX8_isEquivalence_0.at 1 rfl) ci_1 ?_
  refine gk_iand (pc := 2) (DX8_isEquivalence_0.at 2 rfl) ?_
  refine gk_iconst (pc := 3) (nI 1) (DX8_isEquivalence_0.at 3 rfl) ci_1 ?_
  refine gk_icmp_ne (pc := 4) 33 (DX8_isEquivalence_0.at 4 rfl) (by decide) (fun c => ?_) (fun c => ?_)
  · replace hv := hv.1 c
    refine gk_iconst (pc := 33) (nI 0) (DX8_isEquivalence_0.at 21 rfl) ci_0 ?_
    exact gk_ireturn (pc := 34) .boolean (DX8_isEquivalence_0.at 22 rfl) rfl rfl ⟨_, rfl, hv⟩
  · replace hv := hv.2 c
    refine gk_aload_n (pc := 7) (DX8_isEquivalence_0.at 5 rfl) 0 rfl rfl ?_
    refine gk_iload_n (pc := 8) (DX8_isEquivalence_0.at 6 rfl) 1 rfl rfl ?_
    obtain ⟨⟨fs1, q1⟩, hv⟩ := hv
    refine gk_vV (pc := 9) [.int x1] [] (DX8_isEquivalence_0.at 7 rfl) cvX8_60 q1 rfl rfl (Nat.le_of_ble_eq_true rfl) (Nat.le_of_ble_eq_true rfl) (gk_Run.post (fun o h1 z => ?_) hv)
    obtain ⟨v1, rfl, hv⟩ := z
    refine gk_iload_n (pc := 12) (DX8_isEquivalence_0.at 8 rfl) 1 rfl rfl ?_
    refine gk_icmp_ne (pc := 13) 33 (DX8_isEquivalence_0.at 9 rfl) (by decide) (fun c => ?_) (fun c => ?_)
    · replace hv := hv.1 c
      refine gk_iconst (pc := 33) (nI 0) (DX8_isEquivalence_0.at 21 rfl) ci_0 ?_
      exact gk_ireturn (pc := 34) .boolean (DX8_isEquivalence_0.at 22 rfl) rfl rfl ⟨_, rfl, hv⟩
    · replace hv := hv.2 c
      refine gk_aload_n (pc := 16) (DX8_isEquivalence_0.at 10 rfl) 0 rfl rfl ?_
      refine gk_iload_n (pc := 17) (DX8_isEquivalence_0.at 11 rfl) 1 rfl rfl ?_
      refine gk_iload_n (pc := 18) (DX8_isEquivalence_0.at 12 rfl) 1 rfl rfl ?_
      obtain ⟨⟨fs2, q2⟩, hv⟩ := hv
      refine gk_vV (pc := 19) [.int x1, .int x1] [] (DX8_isEquivalence_0.at 13 rfl) cvX8_48 q2 rfl rfl (Nat.le_of_ble_eq_true rfl) (Nat.le_of_ble_eq_true rfl) (gk_Run.post (fun o h2 z => ?_) hv)
      obtain ⟨v2, rfl, hv⟩ := z
      refine gk_iload_n (pc := 22) (DX8_isEquivalence_0.at 14 rfl) 1 rfl rfl ?_
      refine gk_iconst (pc := 23) ((-1)) (DX8_isEquivalence_0.at 15 rfl) ci_m1 ?_
      refine gk_ixor (pc := 24) (DX8_isEquivalence_0.at 16 rfl) ?_
      refine gk_iand (pc := 25) (DX8_isEquivalence_0.at 17 rfl) ?_
      refine gk_if_ne (pc := 26) 33 (DX8_isEquivalence_0.at 18 rfl) (by decide) (fun c => ?_) (fun c => ?_)
      · replace hv := hv.1 c
        refine gk_iconst (pc := 33) (nI 0) (DX8_isEquivalence_0.at 21 rfl) ci_0 ?_
        exact gk_ireturn (pc := 34) .boolean (DX8_isEquivalence_0.at 22 rfl) rfl rfl ⟨_, rfl, hv⟩
      · replace hv := hv.2 c
        refine gk_iconst (pc := 29) (nI 1) (DX8_isEquivalence_0.at 19 rfl) ci_1 ?_
        refine gk_goto (pc := 30) 34 (DX8_isEquivalence_0.at 20 rfl) (by decide) ?_
        exact gk_ireturn (pc := 34) .boolean (DX8_isEquivalence_0.at 22 rfl) rfl rfl ⟨_, rfl, hv⟩
set_option maxHeartbeats 4000000 in
theorem vX8_isLeastTurn_0 {E : gk_E} {dd : Nat} {o : Nat} {x1 : Int32} {x2 : Int32} {x3 : Int32}  {h : gk_H} {K : Int32 → gk_H → Prop} (hv : (∃ fs, h[o]? = some (.inr (8, fs))) ∧ RnL E mX8_turns (dd, 0, 0) [.ref o, .int x1, .int x2, .int x3] h (fun v1 h1 => RnL E X8_bit (dd, 0, 0) [.int x1, .int x2, .int x3] h1 (fun v2 h2 => (¬ (lg_cmp (v1 &&& (-v1)) v2) = 0 → K (nI 0) h2) ∧ ((lg_cmp (v1 &&& (-v1)) v2) = 0 → K (nI 1) h2)))) : RnI E mX8_isLeastTurn (dd + 1, 0, 0) [.ref o, .int x1, .int x2, .int x3] h K := by
  show gk_G E mX8_isLeastTurn (dd + 1, 0, 0) 0 [(0, .ref o), (1, .int x1), (2, .int x2), (3, .int x3)] [] h (fun o h1 => ∃ v, o = some (.int v) ∧ K v h1)
  refine gk_aload_n (pc := 0) (DX8_isLeastTurn_0.at 0 rfl) 0 rfl rfl ?_
  refine gk_iload_n (pc := 1) (DX8_isLeastTurn_0.at 1 rfl) 1 rfl rfl ?_
  refine gk_iload_n (pc := 2) (DX8_isLeastTurn_0.at 2 rfl) 2 rfl rfl ?_
  refine gk_iload_n (pc := 3) (DX8_isLeastTurn_0.at 3 rfl) 3 rfl rfl ?_
  obtain ⟨⟨fs1, q1⟩, hv⟩ := hv
  refine gk_vV (pc := 4) [.int x1, .int x2, .int x3] [] (DX8_isLeastTurn_0.at 4 rfl) cvX8_37 q1 rfl rfl (Nat.le_of_ble_eq_true rfl) (Nat.le_of_ble_eq_true rfl) (gk_Run.post (fun o h1 z => ?_) hv)
  obtain ⟨v1, rfl, hv⟩ := z
  refine gk_lstore (pc := 7) [(4, .long v1), (0, .ref o), (1, .int x1), (2, .int x2), (3, .int x3)] (DX8_isLeastTurn_0.at 5 rfl) (Nat.le_of_ble_eq_true rfl) rfl ?_
  refine gk_lload (pc := 9) (DX8_isLeastTurn_0.at 6 rfl) 0 rfl ?_
  refine gk_lload (pc := 11) (DX8_isLeastTurn_0.at 7 rfl) 0 rfl ?_
  refine gk_lneg (pc := 13) (DX8_isLeastTurn_0.at 8 rfl) ?_
  refine gk_land (pc := 14) (DX8_isLeastTurn_0.at 9 rfl) ?_
  refine gk_iload_n (pc := 15) (DX8_isLeastTurn_0.at 10 rfl) 2 rfl rfl ?_
  refine gk_iload_n (pc := 16) (DX8_isLeastTurn_0.at 11 rfl) 3 rfl rfl ?_
  refine gk_iload_n (pc := 17) (DX8_isLeastTurn_0.at 12 rfl) 4 rfl rfl ?_
  refine gk_vS (pc := 18) [.int x1, .int x2, .int x3] [.long (v1 &&& (-v1))] (DX8_isLeastTurn_0.at 13 rfl) csX8_33 rfl rfl (Nat.le_of_ble_eq_true rfl) (Nat.le_of_ble_eq_true rfl) (gk_Run.post (fun o h2 z => ?_) hv)
  obtain ⟨v2, rfl, hv⟩ := z
  refine gk_lcmp (pc := 21) (DX8_isLeastTurn_0.at 14 rfl) ?_
  refine gk_if_ne (pc := 22) 29 (DX8_isLeastTurn_0.at 15 rfl) (by decide) (fun c => ?_) (fun c => ?_)
  · replace hv := hv.1 c
    refine gk_iconst (pc := 29) (nI 0) (DX8_isLeastTurn_0.at 18 rfl) ci_0 ?_
    exact gk_ireturn (pc := 30) .boolean (DX8_isLeastTurn_0.at 19 rfl) rfl rfl ⟨_, rfl, hv⟩
  · replace hv := hv.2 c
    refine gk_iconst (pc := 25) (nI 1) (DX8_isLeastTurn_0.at 16 rfl) ci_1 ?_
    refine gk_goto (pc := 26) 30 (DX8_isLeastTurn_0.at 17 rfl) (by decide) ?_
    exact gk_ireturn (pc := 30) .boolean (DX8_isLeastTurn_0.at 19 rfl) rfl rfl ⟨_, rfl, hv⟩
set_option maxHeartbeats 4000000 in
theorem vX8_isUnbalanced_0 {E : gk_E} {dd : Nat} {o : Nat} {x1 : Int32} {x2 : Int32} {x3 : Int32}  {h : gk_H} {K : Int32 → gk_H → Prop} (hv : (∃ fs, h[o]? = some (.inr (8, fs))) ∧ RnI E mX8_product (dd, 0, 0) [.ref o, .int ((nI 1) <<< (x1 &&& 31)), .int ((nI 1) <<< (x2 &&& 31))] h (fun v1 h1 => (∃ fs, h1[o]? = some (.inr (8, fs))) ∧ RnI E mX8_product (dd, 0, 0) [.ref o, .int v1, .int ((nI 1) <<< (x3 &&& 31))] h1 (fun v2 h2 => (∃ fs, h2[o]? = some (.inr (8, fs))) ∧ RnI E mX8_product (dd, 0, 0) [.ref o, .int ((nI 1) <<< (x2 &&& 31)), .int ((nI 1) <<< (x3 &&& 31))] h2 (fun v3 h3 => (∃ fs, h3[o]? = some (.inr (8, fs))) ∧ RnI E mX8_product (dd, 0, 0) [.ref o, .int ((nI 1) <<< (x1 &&& 31)), .int v3] h3 (fun v4 h4 => (v2 = v4 → K (nI 0) h4) ∧ (¬ v2 = v4 → K (nI 1) h4)))))) : RnI E mX8_isUnbalanced (dd + 1, 0, 0) [.ref o, .int x1, .int x2, .int x3] h K := by
  show gk_G E mX8_isUnbalanced (dd + 1, 0, 0) 0 [(0, .ref o), (1, .int x1), (2, .int x2), (3, .int x3)] [] h (fun o h1 => ∃ v, o = some (.int v) ∧ K v h1)
  refine gk_aload_n (pc := 0) (DX8_isUnbalanced_0.at 0 rfl) 0 rfl rfl ?_
  refine gk_aload_n (pc := 1) (DX8_isUnbalanced_0.at 1 rfl) 0 rfl rfl ?_
  refine gk_iconst (pc := 2) (nI 1) (DX8_isUnbalanced_0.at 2 rfl) ci_1 ?_
  refine gk_iload_n (pc := 3) (DX8_isUnbalanced_0.at 3 rfl) 1 rfl rfl ?_
  refine gk_ishl (pc := 4) (DX8_isUnbalanced_0.at 4 rfl) ?_
  refine gk_iconst (pc := 5) (nI 1) (DX8_isUnbalanced_0.at 5 rfl) ci_1 ?_
  refine gk_iload_n (pc := 6) (DX8_isUnbalanced_0.at 6 rfl) 2 rfl rfl ?_
  refine gk_ishl (pc := 7) (DX8_isUnbalanced_0.at 7 rfl) ?_
  obtain ⟨⟨fs1, q1⟩, hv⟩ := hv
  refine gk_vV (pc := 8) [.int ((nI 1) <<< (x1 &&& 31)), .int ((nI 1) <<< (x2 &&& 31))] [.ref o] (DX8_isUnbalanced_0.at 8 rfl) cvX8_48 q1 rfl rfl (Nat.le_of_ble_eq_true rfl) (Nat.le_of_ble_eq_true rfl) (gk_Run.post (fun o h1 z => ?_) hv)
  obtain ⟨v1, rfl, hv⟩ := z
  refine gk_iconst (pc := 11) (nI 1) (DX8_isUnbalanced_0.at 9 rfl) ci_1 ?_
  refine gk_iload_n (pc := 12) (DX8_isUnbalanced_0.at 10 rfl) 3 rfl rfl ?_
  refine gk_ishl (pc := 13) (DX8_isUnbalanced_0.at 11 rfl) ?_
  obtain ⟨⟨fs2, q2⟩, hv⟩ := hv
  refine gk_vV (pc := 14) [.int v1, .int ((nI 1) <<< (x3 &&& 31))] [] (DX8_isUnbalanced_0.at 12 rfl) cvX8_48 q2 rfl rfl (Nat.le_of_ble_eq_true rfl) (Nat.le_of_ble_eq_true rfl) (gk_Run.post (fun o h2 z => ?_) hv)
  obtain ⟨v2, rfl, hv⟩ := z
  refine gk_istore (pc := 17) [(4, .int v2), (0, .ref o), (1, .int x1), (2, .int x2), (3, .int x3)] (DX8_isUnbalanced_0.at 13 rfl) (Nat.le_of_ble_eq_true rfl) rfl ?_
  refine gk_iload (pc := 19) (DX8_isUnbalanced_0.at 14 rfl) 0 rfl ?_
  refine gk_aload_n (pc := 21) (DX8_isUnbalanced_0.at 15 rfl) 1 rfl rfl ?_
  refine gk_iconst (pc := 22) (nI 1) (DX8_isUnbalanced_0.at 16 rfl) ci_1 ?_
  refine gk_iload_n (pc := 23) (DX8_isUnbalanced_0.at 17 rfl) 2 rfl rfl ?_
  refine gk_ishl (pc := 24) (DX8_isUnbalanced_0.at 18 rfl) ?_
  refine gk_aload_n (pc := 25) (DX8_isUnbalanced_0.at 19 rfl) 1 rfl rfl ?_
  refine gk_iconst (pc := 26) (nI 1) (DX8_isUnbalanced_0.at 20 rfl) ci_1 ?_
  refine gk_iload_n (pc := 27) (DX8_isUnbalanced_0.at 21 rfl) 3 rfl rfl ?_
  refine gk_ishl (pc := 28) (DX8_isUnbalanced_0.at 22 rfl) ?_
  refine gk_iconst (pc := 29) (nI 1) (DX8_isUnbalanced_0.at 23 rfl) ci_1 ?_
  refine gk_iload_n (pc := 30) (DX8_isUnbalanced_0.at 24 rfl) 4 rfl rfl ?_
  refine gk_ishl (pc := 31) (DX8_isUnbalanced_0.at 25 rfl) ?_
  obtain ⟨⟨fs3, q3⟩, hv⟩ := hv
  refine gk_vV (pc := 32) [.int ((nI 1) <<< (x2 &&& 31)), .int ((nI 1) <<< (x3 &&& 31))] [.int ((nI 1) <<< (x1 &&& 31)), .ref o, .int v2] (DX8_isUnbalanced_0.at 26 rfl) cvX8_48 q3 rfl rfl (Nat.le_of_ble_eq_true rfl) (Nat.le_of_ble_eq_true rfl) (gk_Run.post (fun o h3 z => ?_) hv)
  obtain ⟨v3, rfl, hv⟩ := z
  obtain ⟨⟨fs4, q4⟩, hv⟩ := hv
  refine gk_vV (pc := 35) [.int ((nI 1) <<< (x1 &&& 31)), .int v3] [.int v2] (DX8_isUnbalanced_0.at 27 rfl) cvX8_48 q4 rfl rfl (Nat.le_of_ble_eq_true rfl) (Nat.le_of_ble_eq_true rfl) (gk_Run.post (fun o h4 z => ?_) hv)
  obtain ⟨v4, rfl, hv⟩ := z
  refine gk_icmp_eq (pc := 38) 45 (DX8_isUnbalanced_0.at 28 rfl) (by decide) (fun c => ?_) (fun c => ?_)
  · replace hv := hv.1 c
    refine gk_iconst (pc := 45) (nI 0) (DX8_isUnbalanced_0.at 31 rfl) ci_0 ?_
    exact gk_ireturn (pc := 46) .boolean (DX8_isUnbalanced_0.at 32 rfl) rfl rfl ⟨_, rfl, hv⟩
  · replace hv := hv.2 c
    refine gk_iconst (pc := 41) (nI 1) (DX8_isUnbalanced_0.at 29 rfl) ci_1 ?_
    refine gk_goto (pc := 42) 46 (DX8_isUnbalanced_0.at 30 rfl) (by decide) ?_
    exact gk_ireturn (pc := 46) .boolean (DX8_isUnbalanced_0.at 32 rfl) rfl rfl ⟨_, rfl, hv⟩
abbrev pX8_keepFixed_7 (E : gk_E) (dd : Nat) (o : Nat) (x1 : Int32) (h : gk_H) (K : gk_H → Prop) : Prop := gk_G E mX8_keepFixed (dd + 1, 0, 0) 7 [(0, .ref o), (1, .int x1)] [] h (fun o h1 => o = none ∧ K h1)
set_option maxHeartbeats 4000000 in
theorem vX8_keepFixed_0 {E : gk_E} {dd : Nat} {o : Nat}  {h : gk_H} {K : gk_H → Prop} (hv : StL h o 8 2 (lN 0) fun h1 => pX8_keepFixed_7 E dd o (nI 0) h1 K) : RnV E mX8_keepFixed (dd + 1, 0, 0) [.ref o] h K := by
  show gk_G E mX8_keepFixed (dd + 1, 0, 0) 0 [(0, .ref o)] [] h (fun o h1 => o = none ∧ K h1)
  refine gk_aload_n (pc := 0) (DX8_keepFixed_0.at 0 rfl) 0 rfl rfl ?_
  refine gk_lconst (pc := 1) (lN 0) (DX8_keepFixed_0.at 1 rfl) rfl ?_
  obtain ⟨fs1, q1, r1, hv⟩ := hv
  refine gk_put (pc := 2) (DX8_keepFixed_0.at 2 rfl) fX8_19_8w q1 r1 rfl rfl ?_
  generalize h.set _ _ = h1 at hv ⊢
  refine gk_iconst (pc := 5) (nI 0) (DX8_keepFixed_0.at 3 rfl) ci_0 ?_
  refine gk_istore_n (pc := 6) [(1, .int (nI 0)), (0, .ref o)] (DX8_keepFixed_0.at 4 rfl) rfl (Nat.le_of_ble_eq_true rfl) rfl ?_
  exact gk_pick (pc := 7) [(0, .ref o), (1, .int (nI 0))] [1, 0] rfl hv
set_option maxHeartbeats 4000000 in
theorem vX8_keepFixed_7 {E : gk_E} {dd : Nat} {o : Nat} {x1 : Int32}  {h : gk_H} {K : gk_H → Prop} (hv : LdI h o 8 0 fun v1 => (v1 ≤ x1 → K h) ∧ (¬ v1 ≤ x1 → LdL h o 8 2 fun v2 => RnL E X8_bit (dd, 0, 0) [.int (nI 0), .int x1, .int x1] h (fun v3 h3 => RnL E X8_bit (dd, 0, 0) [.int x1, .int (nI 0), .int x1] h3 (fun v4 h4 => LdR h4 o 8 1 fun v5 => AlI h4 v5 x1 fun v6 => RnL E X8_bit (dd, 0, 0) [.int x1, .int v6, .int (nI 0)] h4 (fun v7 h7 => StL h7 o 8 2 (v2 ||| ((v3 ||| v4) ||| v7)) fun h8 => pX8_keepFixed_7 E dd o (x1 + nI 1) h8 K))))) : pX8_keepFixed_7 E dd o x1 h K := by
  show gk_G E mX8_keepFixed (dd + 1, 0, 0) 7 [(0, .ref o), (1, .int x1)] [] h (fun o h1 => o = none ∧ K h1)
  refine gk_iload_n (pc := 7) (DX8_keepFixed_0.at 5 rfl) 1 rfl rfl ?_
  refine gk_aload_n (pc := 8) (DX8_keepFixed_0.at 6 rfl) 0 rfl rfl ?_
  obtain ⟨fs1, v1, q1, r1, hv⟩ := hv
  refine gk_get (pc := 9) (.int v1) (DX8_keepFixed_0.at 7 rfl) fX8_9_8 q1 r1 ?_
  refine gk_icmp_ge (pc := 12) 55 (DX8_keepFixed_0.at 8 rfl) (by decide) (fun c => ?_) (fun c => ?_)
  · replace hv := hv.1 c
    exact gk_return (pc := 55) (DX8_keepFixed_0.at 33 rfl) rfl ⟨rfl, hv⟩
  · replace hv := hv.2 c
    refine gk_aload_n (pc := 15) (DX8_keepFixed_0.at 9 rfl) 0 rfl rfl ?_
    refine gk_dup (pc := 16) (DX8_keepFixed_0.at 10 rfl) rfl ?_
    obtain ⟨fs2, v2, q2, r2, hv⟩ := hv
    refine gk_get (pc := 17) (.long v2) (DX8_keepFixed_0.at 11 rfl) fX8_19_8 q2 r2 ?_
    refine gk_iconst (pc := 20) (nI 0) (DX8_keepFixed_0.at 12 rfl) ci_0 ?_
    refine gk_iload_n (pc := 21) (DX8_keepFixed_0.at 13 rfl) 1 rfl rfl ?_
    refine gk_iload_n (pc := 22) (DX8_keepFixed_0.at 14 rfl) 1 rfl rfl ?_
    refine gk_vS (pc := 23) [.int (nI 0), .int x1, .int x1] [.long v2, .ref o] (DX8_keepFixed_0.at 15 rfl) csX8_33 rfl rfl (Nat.le_of_ble_eq_true rfl) (Nat.le_of_ble_eq_true rfl) (gk_Run.post (fun o h3 z => ?_) hv)
    obtain ⟨v3, rfl, hv⟩ := z
    refine gk_iload_n (pc := 26) (DX8_keepFixed_0.at 16 rfl) 1 rfl rfl ?_
    refine gk_iconst (pc := 27) (nI 0) (DX8_keepFixed_0.at 17 rfl) ci_0 ?_
    refine gk_iload_n (pc := 28) (DX8_keepFixed_0.at 18 rfl) 1 rfl rfl ?_
    refine gk_vS (pc := 29) [.int x1, .int (nI 0), .int x1] [.long v3, .long v2, .ref o] (DX8_keepFixed_0.at 19 rfl) csX8_33 rfl rfl (Nat.le_of_ble_eq_true rfl) (Nat.le_of_ble_eq_true rfl) (gk_Run.post (fun o h4 z => ?_) hv)
    obtain ⟨v4, rfl, hv⟩ := z
    refine gk_lor (pc := 32) (DX8_keepFixed_0.at 20 rfl) ?_
    refine gk_iload_n (pc := 33) (DX8_keepFixed_0.at 21 rfl) 1 rfl rfl ?_
    refine gk_aload_n (pc := 34) (DX8_keepFixed_0.at 22 rfl) 0 rfl rfl ?_
    obtain ⟨fs5, v5, q5, r5, hv⟩ := hv
    refine gk_get (pc := 35) (.ref v5) (DX8_keepFixed_0.at 23 rfl) fX8_15_8 q5 r5 ?_
    refine gk_iload_n (pc := 38) (DX8_keepFixed_0.at 24 rfl) 1 rfl rfl ?_
    obtain ⟨n6, f6, q6, r6, hv⟩ := hv
    refine gk_iald (pc := 39) (DX8_keepFixed_0.at 25 rfl) q6 r6 ?_
    generalize f6 _ = v6 at hv ⊢
    refine gk_iconst (pc := 40) (nI 0) (DX8_keepFixed_0.at 26 rfl) ci_0 ?_
    refine gk_vS (pc := 41) [.int x1, .int v6, .int (nI 0)] [.long (v3 ||| v4), .long v2, .ref o] (DX8_keepFixed_0.at 27 rfl) csX8_33 rfl rfl (Nat.le_of_ble_eq_true rfl) (Nat.le_of_ble_eq_true rfl) (gk_Run.post (fun o h7 z => ?_) hv)
    obtain ⟨v7, rfl, hv⟩ := z
    refine gk_lor (pc := 44) (DX8_keepFixed_0.at 28 rfl) ?_
    refine gk_lor (pc := 45) (DX8_keepFixed_0.at 29 rfl) ?_
    obtain ⟨fs8, q8, r8, hv⟩ := hv
    refine gk_put (pc := 46) (DX8_keepFixed_0.at 30 rfl) fX8_19_8w q8 r8 rfl rfl ?_
    generalize h7.set _ _ = h8 at hv ⊢
    refine gk_iinc (pc := 49) (x1 + nI 1) [(1, .int (x1 + nI 1)), (0, .ref o)] 1 (DX8_keepFixed_0.at 31 rfl) rfl (by rw [ci_1]) (Nat.le_of_ble_eq_true rfl) rfl ?_
    refine gk_goto (pc := 52) 7 (DX8_keepFixed_0.at 32 rfl) (by decide) ?_
    exact gk_pick (pc := 7) [(0, .ref o), (1, .int (x1 + nI 1))] [1, 0] rfl hv
set_option maxHeartbeats 4000000 in
theorem vX8_mark_0 {E : gk_E} {dd : Nat} {o : Nat} {x1 : Int32} {x2 : Int32} {x3 : Int32} {x4 : Int32}  {h : gk_H} {K : Int32 → gk_H → Prop} (hv : (∃ fs, h[o]? = some (.inr (8, fs))) ∧ RnL E mX8_turns (dd, 0, 0) [.ref o, .int x1, .int x2, .int x3] h (fun v1 h1 => LdL h1 o 8 2 fun v2 => (x4 = 0 → LdL h1 o 8 2 fun v3 => StL h1 o 8 2 (v3 &&& (v1 ^^^ ((-1)))) fun h4 => LdL h4 o 8 2 fun v5 => RnI E J13_bitCount_95d88 (dd, 0, 0) [.long (v2 ^^^ v5)] h4 (fun v6 h6 => K v6 h6)) ∧ (¬ x4 = 0 → LdL h1 o 8 2 fun v7 => StL h1 o 8 2 (v7 ||| v1) fun h8 => LdL h8 o 8 2 fun v9 => RnI E J13_bitCount_95d88 (dd, 0, 0) [.long (v2 ^^^ v9)] h8 (fun v10 h10 => K v10 h10)))) : RnI E mX8_mark (dd + 1, 0, 0) [.ref o, .int x1, .int x2, .int x3, .int x4] h K := by
  show gk_G E mX8_mark (dd + 1, 0, 0) 0 [(0, .ref o), (1, .int x1), (2, .int x2), (3, .int x3), (4, .int x4)] [] h (fun o h1 => ∃ v, o = some (.int v) ∧ K v h1)
  refine gk_aload_n (pc := 0) (DX8_mark_0.at 0 rfl) 0 rfl rfl ?_
  refine gk_iload_n (pc := 1) (DX8_mark_0.at 1 rfl) 1 rfl rfl ?_
  refine gk_iload_n (pc := 2) (DX8_mark_0.at 2 rfl) 2 rfl rfl ?_
  refine gk_iload_n (pc := 3) (DX8_mark_0.at 3 rfl) 3 rfl rfl ?_
  obtain ⟨⟨fs1, q1⟩, hv⟩ := hv
  refine gk_vV (pc := 4) [.int x1, .int x2, .int x3] [] (DX8_mark_0.at 4 rfl) cvX8_37 q1 rfl rfl (Nat.le_of_ble_eq_true rfl) (Nat.le_of_ble_eq_true rfl) (gk_Run.post (fun o h1 z => ?_) hv)
  obtain ⟨v1, rfl, hv⟩ := z
  refine gk_lstore (pc := 7) [(5, .long v1), (0, .ref o), (1, .int x1), (2, .int x2), (3, .int x3), (4, .int x4)] (DX8_mark_0.at 5 rfl) (Nat.le_of_ble_eq_true rfl) rfl ?_
  refine gk_aload_n (pc := 9) (DX8_mark_0.at 6 rfl) 1 rfl rfl ?_
  obtain ⟨fs2, v2, q2, r2, hv⟩ := hv
  refine gk_get (pc := 10) (.long v2) (DX8_mark_0.at 7 rfl) fX8_19_8 q2 r2 ?_
  refine gk_lstore (pc := 13) [(7, .long v2), (5, .long v1), (0, .ref o), (1, .int x1), (2, .int x2), (3, .int x3), (4, .int x4)] (DX8_mark_0.at 8 rfl) (Nat.le_of_ble_eq_true rfl) rfl ?_
  refine gk_aload_n (pc := 15) (DX8_mark_0.at 9 rfl) 2 rfl rfl ?_
  refine gk_iload (pc := 16) (DX8_mark_0.at 10 rfl) 6 rfl ?_
  refine gk_if_eq (pc := 18) 31 (DX8_mark_0.at 11 rfl) (by decide) (fun c => ?_) (fun c => ?_)
  · replace hv := hv.1 c
    refine gk_aload_n (pc := 31) (DX8_mark_0.at 17 rfl) 2 rfl rfl ?_
    obtain ⟨fs3, v3, q3, r3, hv⟩ := hv
    refine gk_get (pc := 32) (.long v3) (DX8_mark_0.at 18 rfl) fX8_19_8 q3 r3 ?_
    refine gk_lload (pc := 35) (DX8_mark_0.at 19 rfl) 1 rfl ?_
    refine gk_ldc2 (pc := 37) ((-1)) (DX8_mark_0.at 20 rfl) klX8_40 ?_
    refine gk_lxor (pc := 40) (DX8_mark_0.at 21 rfl) ?_
    refine gk_land (pc := 41) (DX8_mark_0.at 22 rfl) ?_
    obtain ⟨fs4, q4, r4, hv⟩ := hv
    refine gk_put (pc := 42) (DX8_mark_0.at 23 rfl) fX8_19_8w q4 r4 rfl rfl ?_
    generalize h1.set _ _ = h4 at hv ⊢
    refine gk_lload (pc := 45) (DX8_mark_0.at 24 rfl) 0 rfl ?_
    refine gk_aload_n (pc := 47) (DX8_mark_0.at 25 rfl) 2 rfl rfl ?_
    obtain ⟨fs5, v5, q5, r5, hv⟩ := hv
    refine gk_get (pc := 48) (.long v5) (DX8_mark_0.at 26 rfl) fX8_19_8 q5 r5 ?_
    refine gk_lxor (pc := 51) (DX8_mark_0.at 27 rfl) ?_
    refine gk_vS (pc := 52) [.long (v2 ^^^ v5)] [] (DX8_mark_0.at 28 rfl) csX8_42 rfl rfl (Nat.le_of_ble_eq_true rfl) (Nat.le_of_ble_eq_true rfl) (gk_Run.post (fun o h6 z => ?_) hv)
    obtain ⟨v6, rfl, hv⟩ := z
    exact gk_ireturn (pc := 55) .int (DX8_mark_0.at 29 rfl) rfl rfl ⟨_, rfl, hv⟩
  · replace hv := hv.2 c
    refine gk_aload_n (pc := 21) (DX8_mark_0.at 12 rfl) 2 rfl rfl ?_
    obtain ⟨fs7, v7, q7, r7, hv⟩ := hv
    refine gk_get (pc := 22) (.long v7) (DX8_mark_0.at 13 rfl) fX8_19_8 q7 r7 ?_
    refine gk_lload (pc := 25) (DX8_mark_0.at 14 rfl) 1 rfl ?_
    refine gk_lor (pc := 27) (DX8_mark_0.at 15 rfl) ?_
    refine gk_goto (pc := 28) 42 (DX8_mark_0.at 16 rfl) (by decide) ?_
    obtain ⟨fs8, q8, r8, hv⟩ := hv
    refine gk_put (pc := 42) (DX8_mark_0.at 23 rfl) fX8_19_8w q8 r8 rfl rfl ?_
    generalize h1.set _ _ = h8 at hv ⊢
    refine gk_lload (pc := 45) (DX8_mark_0.at 24 rfl) 0 rfl ?_
    refine gk_aload_n (pc := 47) (DX8_mark_0.at 25 rfl) 2 rfl rfl ?_
    obtain ⟨fs9, v9, q9, r9, hv⟩ := hv
    refine gk_get (pc := 48) (.long v9) (DX8_mark_0.at 26 rfl) fX8_19_8 q9 r9 ?_
    refine gk_lxor (pc := 51) (DX8_mark_0.at 27 rfl) ?_
    refine gk_vS (pc := 52) [.long (v2 ^^^ v9)] [] (DX8_mark_0.at 28 rfl) csX8_42 rfl rfl (Nat.le_of_ble_eq_true rfl) (Nat.le_of_ble_eq_true rfl) (gk_Run.post (fun o h10 z => ?_) hv)
    obtain ⟨v10, rfl, hv⟩ := z
    exact gk_ireturn (pc := 55) .int (DX8_mark_0.at 29 rfl) rfl rfl ⟨_, rfl, hv⟩
abbrev pX8_mirrored_4 (E : gk_E) (dd : Nat) (o : Nat) (x1 : Int32) (x2 : Int32) (x3 : Int32) (h : gk_H) (K : Int32 → gk_H → Prop) : Prop := gk_G E mX8_mirrored (dd, 0, 0) 4 [(0, .ref o), (1, .int x1), (2, .int x2), (3, .int x3)] [] h (fun o h1 => ∃ v, o = some (.int v) ∧ K v h1)
set_option maxHeartbeats 4000000 in
theorem vX8_mirrored_0 {E : gk_E} {dd : Nat} {o : Nat} {x1 : Int32}  {h : gk_H} {K : Int32 → gk_H → Prop} (hv : pX8_mirrored_4 E dd o x1 (nI 0) (nI 0) h K) : RnI E mX8_mirrored (dd, 0, 0) [.ref o, .int x1] h K := by
  show gk_G E mX8_mirrored (dd, 0, 0) 0 [(0, .ref o), (1, .int x1)] [] h (fun o h1 => ∃ v, o = some (.int v) ∧ K v h1)
  refine gk_iconst (pc := 0) (nI 0) (DX8_mirrored_0.at 0 rfl) ci_0 ?_
  refine gk_istore_n (pc := 1) [(2, .int (nI 0)), (0, .ref o), (1, .int x1)] (DX8_mirrored_0.at 1 rfl) rfl (Nat.le_of_ble_eq_true rfl) rfl ?_
  refine gk_iconst (pc := 2) (nI 0) (DX8_mirrored_0.at 2 rfl) ci_0 ?_
  refine gk_istore_n (pc := 3) [(3, .int (nI 0)), (2, .int (nI 0)), (0, .ref o), (1, .int x1)] (DX8_mirrored_0.at 3 rfl) rfl (Nat.le_of_ble_eq_true rfl) rfl ?_
  exact gk_pick (pc := 4) [(0, .ref o), (1, .int x1), (2, .int (nI 0)), (3, .int (nI 0))] [2, 3, 1, 0] rfl hv
set_option maxHeartbeats 4000000 in
theorem vX8_mirrored_4 {E : gk_E} {dd : Nat} {o : Nat} {x1 : Int32} {x2 : Int32} {x3 : Int32}  {h : gk_H} {K : Int32 → gk_H → Prop} (hv : LdI h o 8 0 fun v1 => (v1 ≤ x3 → K x2 h) ∧ (¬ v1 ≤ x3 → (¬ ((x1 >>> (x3 &&& 31)) &&& (nI 1)) = (nI 1) → pX8_mirrored_4 E dd o x1 x2 (x3 + nI 1) h K) ∧ (((x1 >>> (x3 &&& 31)) &&& (nI 1)) = (nI 1) → LdR h o 8 1 fun v2 => AlI h v2 x3 fun v3 => pX8_mirrored_4 E dd o x1 (x2 ||| ((nI 1) <<< (v3 &&& 31))) (x3 + nI 1) h K))) : pX8_mirrored_4 E dd o x1 x2 x3 h K := by
  show gk_G E mX8_mirrored (dd, 0, 0) 4 [(0, .ref o), (1, .int x1), (2, .int x2), (3, .int x3)] [] h (fun o h1 => ∃ v, o = some (.int v) ∧ K v h1)
  refine gk_iload_n (pc := 4) (DX8_mirrored_0.at 4 rfl) 3 rfl rfl ?_
  refine gk_aload_n (pc := 5) (DX8_mirrored_0.at 5 rfl) 0 rfl rfl ?_
  obtain ⟨fs1, v1, q1, r1, hv⟩ := hv
  refine gk_get (pc := 6) (.int v1) (DX8_mirrored_0.at 6 rfl) fX8_9_8 q1 r1 ?_
  refine gk_icmp_ge (pc := 9) 38 (DX8_mirrored_0.at 7 rfl) (by decide) (fun c => ?_) (fun c => ?_)
  · replace hv := hv.1 c
    refine gk_iload_n (pc := 38) (DX8_mirrored_0.at 26 rfl) 2 rfl rfl ?_
    exact gk_ireturn (pc := 39) .int (DX8_mirrored_0.at 27 rfl) rfl rfl ⟨_, rfl, hv⟩
  · replace hv := hv.2 c
    refine gk_iload_n (pc := 12) (DX8_mirrored_0.at 8 rfl) 1 rfl rfl ?_
    refine gk_iload_n (pc := 13) (DX8_mirrored_0.at 9 rfl) 3 rfl rfl ?_
    refine gk_ishr (pc := 14) (DX8_mirrored_0.at 10 rfl) ?_
    refine gk_iconst (pc := 15) (nI 1) (DX8_mirrored_0.at 11 rfl) ci_1 ?_
    refine gk_iand (pc := 16) (DX8_mirrored_0.at 12 rfl) ?_
    refine gk_iconst (pc := 17) (nI 1) (DX8_mirrored_0.at 13 rfl) ci_1 ?_
    refine gk_icmp_ne (pc := 18) 32 (DX8_mirrored_0.at 14 rfl) (by decide) (fun c => ?_) (fun c => ?_)
    · replace hv := hv.1 c
      refine gk_iinc (pc := 32) (x3 + nI 1) [(3, .int (x3 + nI 1)), (0, .ref o), (1, .int x1), (2, .int x2)] 3 (DX8_mirrored_0.at 24 rfl) rfl (by rw [ci_1]) (Nat.le_of_ble_eq_true rfl) rfl ?_
      refine gk_goto (pc := 35) 4 (DX8_mirrored_0.at 25 rfl) (by decide) ?_
      exact gk_pick (pc := 4) [(0, .ref o), (1, .int x1), (2, .int x2), (3, .int (x3 + nI 1))] [1, 2, 3, 0] rfl hv
    · replace hv := hv.2 c
      refine gk_iload_n (pc := 21) (DX8_mirrored_0.at 15 rfl) 2 rfl rfl ?_
      refine gk_iconst (pc := 22) (nI 1) (DX8_mirrored_0.at 16 rfl) ci_1 ?_
      refine gk_aload_n (pc := 23) (DX8_mirrored_0.at 17 rfl) 0 rfl rfl ?_
      obtain ⟨fs2, v2, q2, r2, hv⟩ := hv
      refine gk_get (pc := 24) (.ref v2) (DX8_mirrored_0.at 18 rfl) fX8_15_8 q2 r2 ?_
      refine gk_iload_n (pc := 27) (DX8_mirrored_0.at 19 rfl) 3 rfl rfl ?_
      obtain ⟨n3, f3, q3, r3, hv⟩ := hv
      refine gk_iald (pc := 28) (DX8_mirrored_0.at 20 rfl) q3 r3 ?_
      generalize f3 _ = v3 at hv ⊢
      refine gk_ishl (pc := 29) (DX8_mirrored_0.at 21 rfl) ?_
      refine gk_ior (pc := 30) (DX8_mirrored_0.at 22 rfl) ?_
      refine gk_istore_n (pc := 31) [(2, .int (x2 ||| ((nI 1) <<< (v3 &&& 31)))), (0, .ref o), (1, .int x1), (3, .int x3)] (DX8_mirrored_0.at 23 rfl) rfl (Nat.le_of_ble_eq_true rfl) rfl ?_
      refine gk_iinc (pc := 32) (x3 + nI 1) [(3, .int (x3 + nI 1)), (2, .int (x2 ||| ((nI 1) <<< (v3 &&& 31)))), (0, .ref o), (1, .int x1)] 3 (DX8_mirrored_0.at 24 rfl) rfl (by rw [ci_1]) (Nat.le_of_ble_eq_true rfl) rfl ?_
      refine gk_goto (pc := 35) 4 (DX8_mirrored_0.at 25 rfl) (by decide) ?_
      exact gk_pick (pc := 4) [(0, .ref o), (1, .int x1), (2, .int (x2 ||| ((nI 1) <<< (v3 &&& 31)))), (3, .int (x3 + nI 1))] [2, 3, 1, 0] rfl hv
abbrev pX8_pairsInto_4 (E : gk_E) (dd : Nat) (o : Nat) (x1 : Int32) (x2 : Int32) (x3 : Int32) (h : gk_H) (K : Int32 → gk_H → Prop) : Prop := gk_G E mX8_pairsInto (dd + 1, 0, 0) 4 [(0, .ref o), (1, .int x1), (2, .int x2), (3, .int x3)] [] h (fun o h1 => ∃ v, o = some (.int v) ∧ K v h1)
abbrev pX8_pairsInto_15 (E : gk_E) (dd : Nat) (o : Nat) (x1 : Int32) (x2 : Int32) (x3 : Int32) (x4 : Int32) (h : gk_H) (K : Int32 → gk_H → Prop) : Prop := gk_G E mX8_pairsInto (dd + 1, 0, 0) 15 [(0, .ref o), (1, .int x1), (2, .int x2), (3, .int x3), (4, .int x4)] [] h (fun o h1 => ∃ v, o = some (.int v) ∧ K v h1)
set_option maxHeartbeats 4000000 in
theorem vX8_pairsInto_0 {E : gk_E} {dd : Nat} {o : Nat} {x1 : Int32}  {h : gk_H} {K : Int32 → gk_H → Prop} (hv : pX8_pairsInto_4 E dd o x1 (nI 0) (nI 0) h K) : RnI E mX8_pairsInto (dd + 1, 0, 0) [.ref o, .int x1] h K := by
  show gk_G E mX8_pairsInto (dd + 1, 0, 0) 0 [(0, .ref o), (1, .int x1)] [] h (fun o h1 => ∃ v, o = some (.int v) ∧ K v h1)
  refine gk_iconst (pc := 0) (nI 0) (DX8_pairsInto_0.at 0 rfl) ci_0 ?_
  refine gk_istore_n (pc := 1) [(2, .int (nI 0)), (0, .ref o), (1, .int x1)] (DX8_pairsInto_0.at 1 rfl) rfl (Nat.le_of_ble_eq_true rfl) rfl ?_
  refine gk_iconst (pc := 2) (nI 0) (DX8_pairsInto_0.at 2 rfl) ci_0 ?_
  refine gk_istore_n (pc := 3) [(3, .int (nI 0)), (2, .int (nI 0)), (0, .ref o), (1, .int x1)] (DX8_pairsInto_0.at 3 rfl) rfl (Nat.le_of_ble_eq_true rfl) rfl ?_
  exact gk_pick (pc := 4) [(0, .ref o), (1, .int x1), (2, .int (nI 0)), (3, .int (nI 0))] [2, 3, 1, 0] rfl hv
set_option maxHeartbeats 4000000 in
theorem vX8_pairsInto_4 {E : gk_E} {dd : Nat} {o : Nat} {x1 : Int32} {x2 : Int32} {x3 : Int32}  {h : gk_H} {K : Int32 → gk_H → Prop} (hv : LdI h o 8 0 fun v1 => (v1 ≤ x3 → K x2 h) ∧ (¬ v1 ≤ x3 → pX8_pairsInto_15 E dd o x1 x2 x3 (nI 0) h K)) : pX8_pairsInto_4 E dd o x1 x2 x3 h K := by
  show gk_G E mX8_pairsInto (dd + 1, 0, 0) 4 [(0, .ref o), (1, .int x1), (2, .int x2), (3, .int x3)] [] h (fun o h1 => ∃ v, o = some (.int v) ∧ K v h1)
  refine gk_iload_n (pc := 4) (DX8_pairsInto_0.at 4 rfl) 3 rfl rfl ?_
  refine gk_aload_n (pc := 5) (DX8_pairsInto_0.at 5 rfl) 0 rfl rfl ?_
  obtain ⟨fs1, v1, q1, r1, hv⟩ := hv
  refine gk_get (pc := 6) (.int v1) (DX8_pairsInto_0.at 6 rfl) fX8_9_8 q1 r1 ?_
  refine gk_icmp_ge (pc := 9) 58 (DX8_pairsInto_0.at 7 rfl) (by decide) (fun c => ?_) (fun c => ?_)
  · replace hv := hv.1 c
    refine gk_iload_n (pc := 58) (DX8_pairsInto_0.at 34 rfl) 2 rfl rfl ?_
    exact gk_ireturn (pc := 59) .int (DX8_pairsInto_0.at 35 rfl) rfl rfl ⟨_, rfl, hv⟩
  · replace hv := hv.2 c
    refine gk_iconst (pc := 12) (nI 0) (DX8_pairsInto_0.at 8 rfl) ci_0 ?_
    refine gk_istore (pc := 13) [(4, .int (nI 0)), (0, .ref o), (1, .int x1), (2, .int x2), (3, .int x3)] (DX8_pairsInto_0.at 9 rfl) (Nat.le_of_ble_eq_true rfl) rfl ?_
    exact gk_pick (pc := 15) [(0, .ref o), (1, .int x1), (2, .int x2), (3, .int x3), (4, .int (nI 0))] [1, 2, 3, 4, 0] rfl hv
set_option maxHeartbeats 4000000 in
theorem vX8_pairsInto_15 {E : gk_E} {dd : Nat} {o : Nat} {x1 : Int32} {x2 : Int32} {x3 : Int32} {x4 : Int32}  {h : gk_H} {K : Int32 → gk_H → Prop} (hv : LdI h o 8 0 fun v1 => (v1 ≤ x4 → pX8_pairsInto_4 E dd o x1 x2 (x3 + nI 1) h K) ∧ (¬ v1 ≤ x4 → (∃ fs, h[o]? = some (.inr (8, fs))) ∧ RnI E mX8_has (dd, 0, 0) [.ref o, .int x3, .int x4, .int x1] h (fun v2 h2 => (v2 = 0 → pX8_pairsInto_15 E dd o x1 x2 x3 (x4 + nI 1) h2 K) ∧ (¬ v2 = 0 → pX8_pairsInto_15 E dd o x1 (x2 ||| ((nI 1) <<< ((((nI 4) * x3) + x4) &&& 31))) x3 (x4 + nI 1) h2 K)))) : pX8_pairsInto_15 E dd o x1 x2 x3 x4 h K := by
  show gk_G E mX8_pairsInto (dd + 1, 0, 0) 15 [(0, .ref o), (1, .int x1), (2, .int x2), (3, .int x3), (4, .int x4)] [] h (fun o h1 => ∃ v, o = some (.int v) ∧ K v h1)
  refine gk_iload (pc := 15) (DX8_pairsInto_0.at 10 rfl) 4 rfl ?_
  refine gk_aload_n (pc := 17) (DX8_pairsInto_0.at 11 rfl) 0 rfl rfl ?_
  obtain ⟨fs1, v1, q1, r1, hv⟩ := hv
  refine gk_get (pc := 18) (.int v1) (DX8_pairsInto_0.at 12 rfl) fX8_9_8 q1 r1 ?_
  refine gk_icmp_ge (pc := 21) 52 (DX8_pairsInto_0.at 13 rfl) (by decide) (fun c => ?_) (fun c => ?_)
  · replace hv := hv.1 c
    refine gk_iinc (pc := 52) (x3 + nI 1) [(3, .int (x3 + nI 1)), (0, .ref o), (1, .int x1), (2, .int x2), (4, .int x4)] 3 (DX8_pairsInto_0.at 32 rfl) rfl (by rw [ci_1]) (Nat.le_of_ble_eq_true rfl) rfl ?_
    refine gk_goto (pc := 55) 4 (DX8_pairsInto_0.at 33 rfl) (by decide) ?_
    exact gk_pick (pc := 4) [(0, .ref o), (1, .int x1), (2, .int x2), (3, .int (x3 + nI 1))] [1, 2, 3, 0] rfl hv
  · replace hv := hv.2 c
    refine gk_aload_n (pc := 24) (DX8_pairsInto_0.at 14 rfl) 0 rfl rfl ?_
    refine gk_iload_n (pc := 25) (DX8_pairsInto_0.at 15 rfl) 3 rfl rfl ?_
    refine gk_iload (pc := 26) (DX8_pairsInto_0.at 16 rfl) 4 rfl ?_
    refine gk_iload_n (pc := 28) (DX8_pairsInto_0.at 17 rfl) 1 rfl rfl ?_
    obtain ⟨⟨fs2, q2⟩, hv⟩ := hv
    refine gk_vV (pc := 29) [.int x3, .int x4, .int x1] [] (DX8_pairsInto_0.at 18 rfl) cvX8_71 q2 rfl rfl (Nat.le_of_ble_eq_true rfl) (Nat.le_of_ble_eq_true rfl) (gk_Run.post (fun o h2 z => ?_) hv)
    obtain ⟨v2, rfl, hv⟩ := z
    refine gk_if_eq (pc := 32) 46 (DX8_pairsInto_0.at 19 rfl) (by decide) (fun c => ?_) (fun c => ?_)
    · replace hv := hv.1 c
      refine gk_iinc (pc := 46) (x4 + nI 1) [(4, .int (x4 + nI 1)), (0, .ref o), (1, .int x1), (2, .int x2), (3, .int x3)] 4 (DX8_pairsInto_0.at 30 rfl) rfl (by rw [ci_1]) (Nat.le_of_ble_eq_true rfl) rfl ?_
      refine gk_goto (pc := 49) 15 (DX8_pairsInto_0.at 31 rfl) (by decide) ?_
      exact gk_pick (pc := 15) [(0, .ref o), (1, .int x1), (2, .int x2), (3, .int x3), (4, .int (x4 + nI 1))] [1, 2, 3, 4, 0] rfl hv
    · replace hv := hv.2 c
      refine gk_iload_n (pc := 35) (DX8_pairsInto_0.at 20 rfl) 2 rfl rfl ?_
      refine gk_iconst (pc := 36) (nI 1) (DX8_pairsInto_0.at 21 rfl) ci_1 ?_
      refine gk_iconst (pc := 37) (nI 4) (DX8_pairsInto_0.at 22 rfl) ci_4 ?_
      refine gk_iload_n (pc := 38) (DX8_pairsInto_0.at 23 rfl) 3 rfl rfl ?_
      refine gk_imul (pc := 39) (DX8_pairsInto_0.at 24 rfl) ?_
      refine gk_iload (pc := 40) (DX8_pairsInto_0.at 25 rfl) 4 rfl ?_
      refine gk_iadd (pc := 42) (DX8_pairsInto_0.at 26 rfl) ?_
      refine gk_ishl (pc := 43) (DX8_pairsInto_0.at 27 rfl) ?_
      refine gk_ior (pc := 44) (DX8_pairsInto_0.at 28 rfl) ?_
      refine gk_istore_n (pc := 45) [(2, .int (x2 ||| ((nI 1) <<< ((((nI 4) * x3) + x4) &&& 31)))), (0, .ref o), (1, .int x1), (3, .int x3), (4, .int x4)] (DX8_pairsInto_0.at 29 rfl) rfl (Nat.le_of_ble_eq_true rfl) rfl ?_
      refine gk_iinc (pc := 46) (x4 + nI 1) [(4, .int (x4 + nI 1)), (2, .int (x2 ||| ((nI 1) <<< ((((nI 4) * x3) + x4) &&& 31)))), (0, .ref o), (1, .int x1), (3, .int x3)] 4 (DX8_pairsInto_0.at 30 rfl) rfl (by rw [ci_1]) (Nat.le_of_ble_eq_true rfl) rfl ?_
      refine gk_goto (pc := 49) 15 (DX8_pairsInto_0.at 31 rfl) (by decide) ?_
      exact gk_pick (pc := 15) [(0, .ref o), (1, .int x1), (2, .int (x2 ||| ((nI 1) <<< ((((nI 4) * x3) + x4) &&& 31)))), (3, .int x3), (4, .int (x4 + nI 1))] [2, 3, 1, 4, 0] rfl hv
abbrev pX8_powers_8 (E : gk_E) (dd : Nat) (o : Nat) (x1 : Int32) (x2 : Int32) (x3 : Int32) (x4 : Int32) (x5 : Int32) (h : gk_H) (K : Int32 → gk_H → Prop) : Prop := gk_G E mX8_powers (dd + 1, 0, 0) 8 [(0, .ref o), (1, .int x1), (2, .int x2), (3, .int x3), (4, .int x4), (5, .int x5)] [] h (fun o h1 => ∃ v, o = some (.int v) ∧ K v h1)
abbrev pX8_powers_54 (E : gk_E) (dd : Nat) (o : Nat) (x1 : Int32) (x2 : Int32) (x3 : Int32) (x4 : Int32) (x5 : Int32) (x6 : Int32) (x7 : Int32) (h : gk_H) (K : Int32 → gk_H → Prop) : Prop := gk_G E mX8_powers (dd + 1, 0, 0) 54 [(0, .ref o), (1, .int x1), (2, .int x2), (3, .int x3), (4, .int x4), (5, .int x5), (6, .int x6), (7, .int x7)] [] h (fun o h1 => ∃ v, o = some (.int v) ∧ K v h1)
set_option maxHeartbeats 4000000 in
theorem vX8_powers_0 {E : gk_E} {dd : Nat} {o : Nat} {x1 : Int32} {x2 : Int32}  {h : gk_H} {K : Int32 → gk_H → Prop} (hv : pX8_powers_8 E dd o x1 x2 (nI 0) x1 (nI 0) h K) : RnI E mX8_powers (dd + 1, 0, 0) [.ref o, .int x1, .int x2] h K := by
  show gk_G E mX8_powers (dd + 1, 0, 0) 0 [(0, .ref o), (1, .int x1), (2, .int x2)] [] h (fun o h1 => ∃ v, o = some (.int v) ∧ K v h1)
  refine gk_iconst (pc := 0) (nI 0) (DX8_powers_0.at 0 rfl) ci_0 ?_
  refine gk_istore_n (pc := 1) [(3, .int (nI 0)), (0, .ref o), (1, .int x1), (2, .int x2)] (DX8_powers_0.at 1 rfl) rfl (Nat.le_of_ble_eq_true rfl) rfl ?_
  refine gk_iload_n (pc := 2) (DX8_powers_0.at 2 rfl) 2 rfl rfl ?_
  refine gk_istore (pc := 3) [(4, .int x1), (3, .int (nI 0)), (0, .ref o), (1, .int x1), (2, .int x2)] (DX8_powers_0.at 3 rfl) (Nat.le_of_ble_eq_true rfl) rfl ?_
  refine gk_iconst (pc := 5) (nI 0) (DX8_powers_0.at 4 rfl) ci_0 ?_
  refine gk_istore (pc := 6) [(5, .int (nI 0)), (4, .int x1), (3, .int (nI 0)), (0, .ref o), (1, .int x1), (2, .int x2)] (DX8_powers_0.at 5 rfl) (Nat.le_of_ble_eq_true rfl) rfl ?_
  exact gk_pick (pc := 8) [(0, .ref o), (1, .int x1), (2, .int x2), (3, .int (nI 0)), (4, .int x1), (5, .int (nI 0))] [3, 4, 5, 2, 1, 0] rfl hv
set_option maxHeartbeats 4000000 in
theorem vX8_powers_8 {E : gk_E} {dd : Nat} {o : Nat} {x1 : Int32} {x2 : Int32} {x3 : Int32} {x4 : Int32} {x5 : Int32}  {h : gk_H} {K : Int32 → gk_H → Prop} (hv : (∃ fs, h[o]? = some (.inr (8, fs))) ∧ RnI E mX8_relations (dd, 0, 0) [.ref o] h (fun v1 h1 => (v1 ≤ x5 → pX8_powers_54 E dd o x1 x2 x3 x4 x5 (nI 0) x1 h1 K) ∧ (¬ v1 ≤ x5 → (¬ ((x3 >>> (x4 &&& 31)) &&& (nI 1)) = 0 → pX8_powers_54 E dd o x1 x2 x3 x4 x5 (nI 0) x1 h1 K) ∧ (((x3 >>> (x4 &&& 31)) &&& (nI 1)) = 0 → (∃ fs, h1[o]? = some (.inr (8, fs))) ∧ RnI E mX8_product (dd, 0, 0) [.ref o, .int x4, .int x1] h1 (fun v2 h2 => pX8_powers_8 E dd o x1 x2 (x3 ||| ((nI 1) <<< (x4 &&& 31))) v2 (x5 + nI 1) h2 K))))) : pX8_powers_8 E dd o x1 x2 x3 x4 x5 h K := by
  show gk_G E mX8_powers (dd + 1, 0, 0) 8 [(0, .ref o), (1, .int x1), (2, .int x2), (3, .int x3), (4, .int x4), (5, .int x5)] [] h (fun o h1 => ∃ v, o = some (.int v) ∧ K v h1)
  refine gk_iload (pc := 8) (DX8_powers_0.at 6 rfl) 5 rfl ?_
  refine gk_aload_n (pc := 10) (DX8_powers_0.at 7 rfl) 0 rfl rfl ?_
  obtain ⟨⟨fs1, q1⟩, hv⟩ := hv
  refine gk_vV (pc := 11) [] [.int x5] (DX8_powers_0.at 8 rfl) cvX8_56 q1 rfl rfl (Nat.le_of_ble_eq_true rfl) (Nat.le_of_ble_eq_true rfl) (gk_Run.post (fun o h1 z => ?_) hv)
  obtain ⟨v1, rfl, hv⟩ := z
  refine gk_icmp_ge (pc := 14) 48 (DX8_powers_0.at 9 rfl) (by decide) (fun c => ?_) (fun c => ?_)
  · replace hv := hv.1 c
    refine gk_iconst (pc := 48) (nI 0) (DX8_powers_0.at 29 rfl) ci_0 ?_
    refine gk_istore (pc := 49) [(6, .int (nI 0)), (0, .ref o), (1, .int x1), (2, .int x2), (3, .int x3), (4, .int x4), (5, .int x5)] (DX8_powers_0.at 30 rfl) (Nat.le_of_ble_eq_true rfl) rfl ?_
    refine gk_iload_n (pc := 51) (DX8_powers_0.at 31 rfl) 2 rfl rfl ?_
    refine gk_istore (pc := 52) [(7, .int x1), (6, .int (nI 0)), (0, .ref o), (1, .int x1), (2, .int x2), (3, .int x3), (4, .int x4), (5, .int x5)] (DX8_powers_0.at 32 rfl) (Nat.le_of_ble_eq_true rfl) rfl ?_
    exact gk_pick (pc := 54) [(0, .ref o), (1, .int x1), (2, .int x2), (3, .int x3), (4, .int x4), (5, .int x5), (6, .int (nI 0)), (7, .int x1)] [2, 3, 4, 5, 6, 7, 1, 0] rfl hv
  · replace hv := hv.2 c
    refine gk_iload_n (pc := 17) (DX8_powers_0.at 10 rfl) 3 rfl rfl ?_
    refine gk_iload (pc := 18) (DX8_powers_0.at 11 rfl) 4 rfl ?_
    refine gk_ishr (pc := 20) (DX8_powers_0.at 12 rfl) ?_
    refine gk_iconst (pc := 21) (nI 1) (DX8_powers_0.at 13 rfl) ci_1 ?_
    refine gk_iand (pc := 22) (DX8_powers_0.at 14 rfl) ?_
    refine gk_if_ne (pc := 23) 48 (DX8_powers_0.at 15 rfl) (by decide) (fun c => ?_) (fun c => ?_)
    · replace hv := hv.1 c
      refine gk_iconst (pc := 48) (nI 0) (DX8_powers_0.at 29 rfl) ci_0 ?_
      refine gk_istore (pc := 49) [(6, .int (nI 0)), (0, .ref o), (1, .int x1), (2, .int x2), (3, .int x3), (4, .int x4), (5, .int x5)] (DX8_powers_0.at 30 rfl) (Nat.le_of_ble_eq_true rfl) rfl ?_
      refine gk_iload_n (pc := 51) (DX8_powers_0.at 31 rfl) 2 rfl rfl ?_
      refine gk_istore (pc := 52) [(7, .int x1), (6, .int (nI 0)), (0, .ref o), (1, .int x1), (2, .int x2), (3, .int x3), (4, .int x4), (5, .int x5)] (DX8_powers_0.at 32 rfl) (Nat.le_of_ble_eq_true rfl) rfl ?_
      exact gk_pick (pc := 54) [(0, .ref o), (1, .int x1), (2, .int x2), (3, .int x3), (4, .int x4), (5, .int x5), (6, .int (nI 0)), (7, .int x1)] [2, 3, 4, 5, 6, 7, 1, 0] rfl hv
    · replace hv := hv.2 c
      refine gk_iload_n (pc := 26) (DX8_powers_0.at 16 rfl) 3 rfl rfl ?_
      refine gk_iconst (pc := 27) (nI 1) (DX8_powers_0.at 17 rfl) ci_1 ?_
      refine gk_iload (pc := 28) (DX8_powers_0.at 18 rfl) 4 rfl ?_
      refine gk_ishl (pc := 30) (DX8_powers_0.at 19 rfl) ?_
      refine gk_ior (pc := 31) (DX8_powers_0.at 20 rfl) ?_
      refine gk_istore_n (pc := 32) [(3, .int (x3 ||| ((nI 1) <<< (x4 &&& 31)))), (0, .ref o), (1, .int x1), (2, .int x2), (4, .int x4), (5, .int x5)] (DX8_powers_0.at 21 rfl) rfl (Nat.le_of_ble_eq_true rfl) rfl ?_
      refine gk_aload_n (pc := 33) (DX8_powers_0.at 22 rfl) 1 rfl rfl ?_
      refine gk_iload (pc := 34) (DX8_powers_0.at 23 rfl) 4 rfl ?_
      refine gk_iload_n (pc := 36) (DX8_powers_0.at 24 rfl) 2 rfl rfl ?_
      obtain ⟨⟨fs2, q2⟩, hv⟩ := hv
      refine gk_vV (pc := 37) [.int x4, .int x1] [] (DX8_powers_0.at 25 rfl) cvX8_48 q2 rfl rfl (Nat.le_of_ble_eq_true rfl) (Nat.le_of_ble_eq_true rfl) (gk_Run.post (fun o h2 z => ?_) hv)
      obtain ⟨v2, rfl, hv⟩ := z
      refine gk_istore (pc := 40) [(4, .int v2), (3, .int (x3 ||| ((nI 1) <<< (x4 &&& 31)))), (0, .ref o), (1, .int x1), (2, .int x2), (5, .int x5)] (DX8_powers_0.at 26 rfl) (Nat.le_of_ble_eq_true rfl) rfl ?_
      refine gk_iinc (pc := 42) (x5 + nI 1) [(5, .int (x5 + nI 1)), (4, .int v2), (3, .int (x3 ||| ((nI 1) <<< (x4 &&& 31)))), (0, .ref o), (1, .int x1), (2, .int x2)] 5 (DX8_powers_0.at 27 rfl) rfl (by rw [ci_1]) (Nat.le_of_ble_eq_true rfl) rfl ?_
      refine gk_goto (pc := 45) 8 (DX8_powers_0.at 28 rfl) (by decide) ?_
      exact gk_pick (pc := 8) [(0, .ref o), (1, .int x1), (2, .int x2), (3, .int (x3 ||| ((nI 1) <<< (x4 &&& 31)))), (4, .int v2), (5, .int (x5 + nI 1))] [3, 4, 5, 2, 1, 0] rfl hv
set_option maxHeartbeats 4000000 in
theorem vX8_powers_54 {E : gk_E} {dd : Nat} {o : Nat} {x1 : Int32} {x2 : Int32} {x3 : Int32} {x4 : Int32} {x5 : Int32} {x6 : Int32} {x7 : Int32}  {h : gk_H} {K : Int32 → gk_H → Prop} (hv : (x5 ≤ x6 → (x2 = 0 → K (x5 - x6) h) ∧ (¬ x2 = 0 → K x6 h)) ∧ (¬ x5 ≤ x6 → (x7 = x4 → (x2 = 0 → K (x5 - x6) h) ∧ (¬ x2 = 0 → K x6 h)) ∧ (¬ x7 = x4 → (∃ fs, h[o]? = some (.inr (8, fs))) ∧ RnI E mX8_product (dd, 0, 0) [.ref o, .int x7, .int x1] h (fun v1 h1 => pX8_powers_54 E dd o x1 x2 x3 x4 x5 (x6 + nI 1) v1 h1 K)))) : pX8_powers_54 E dd o x1 x2 x3 x4 x5 x6 x7 h K := by
  show gk_G E mX8_powers (dd + 1, 0, 0) 54 [(0, .ref o), (1, .int x1), (2, .int x2), (3, .int x3), (4, .int x4), (5, .int x5), (6, .int x6), (7, .int x7)] [] h (fun o h1 => ∃ v, o = some (.int v) ∧ K v h1)
  refine gk_iload (pc := 54) (DX8_powers_0.at 33 rfl) 6 rfl ?_
  refine gk_iload (pc := 56) (DX8_powers_0.at 34 rfl) 5 rfl ?_
  refine gk_icmp_ge (pc := 58) 83 (DX8_powers_0.at 35 rfl) (by decide) (fun c => ?_) (fun c => ?_)
  · replace hv := hv.1 c
    refine gk_iload_n (pc := 83) (DX8_powers_0.at 46 rfl) 2 rfl rfl ?_
    refine gk_if_eq (pc := 84) 92 (DX8_powers_0.at 47 rfl) (by decide) (fun c => ?_) (fun c => ?_)
    · replace hv := hv.1 c
      refine gk_iload (pc := 92) (DX8_powers_0.at 50 rfl) 5 rfl ?_
      refine gk_iload (pc := 94) (DX8_powers_0.at 51 rfl) 6 rfl ?_
      refine gk_isub (pc := 96) (DX8_powers_0.at 52 rfl) ?_
      exact gk_ireturn (pc := 97) .int (DX8_powers_0.at 53 rfl) rfl rfl ⟨_, rfl, hv⟩
    · replace hv := hv.2 c
      refine gk_iload (pc := 87) (DX8_powers_0.at 48 rfl) 6 rfl ?_
      refine gk_goto (pc := 89) 97 (DX8_powers_0.at 49 rfl) (by decide) ?_
      exact gk_ireturn (pc := 97) .int (DX8_powers_0.at 53 rfl) rfl rfl ⟨_, rfl, hv⟩
  · replace hv := hv.2 c
    refine gk_iload (pc := 61) (DX8_powers_0.at 36 rfl) 7 rfl ?_
    refine gk_iload (pc := 63) (DX8_powers_0.at 37 rfl) 4 rfl ?_
    refine gk_icmp_eq (pc := 65) 83 (DX8_powers_0.at 38 rfl) (by decide) (fun c => ?_) (fun c => ?_)
    · replace hv := hv.1 c
      refine gk_iload_n (pc := 83) (DX8_powers_0.at 46 rfl) 2 rfl rfl ?_
      refine gk_if_eq (pc := 84) 92 (DX8_powers_0.at 47 rfl) (by decide) (fun c => ?_) (fun c => ?_)
      · replace hv := hv.1 c
        refine gk_iload (pc := 92) (DX8_powers_0.at 50 rfl) 5 rfl ?_
        refine gk_iload (pc := 94) (DX8_powers_0.at 51 rfl) 6 rfl ?_
        refine gk_isub (pc := 96) (DX8_powers_0.at 52 rfl) ?_
        exact gk_ireturn (pc := 97) .int (DX8_powers_0.at 53 rfl) rfl rfl ⟨_, rfl, hv⟩
      · replace hv := hv.2 c
        refine gk_iload (pc := 87) (DX8_powers_0.at 48 rfl) 6 rfl ?_
        refine gk_goto (pc := 89) 97 (DX8_powers_0.at 49 rfl) (by decide) ?_
        exact gk_ireturn (pc := 97) .int (DX8_powers_0.at 53 rfl) rfl rfl ⟨_, rfl, hv⟩
    · replace hv := hv.2 c
      refine gk_aload_n (pc := 68) (DX8_powers_0.at 39 rfl) 0 rfl rfl ?_
      refine gk_iload (pc := 69) (DX8_powers_0.at 40 rfl) 7 rfl ?_
      refine gk_iload_n (pc := 71) (DX8_powers_0.at 41 rfl) 1 rfl rfl ?_
      obtain ⟨⟨fs1, q1⟩, hv⟩ := hv
      refine gk_vV (pc := 72) [.int x7, .int x1] [] (DX8_powers_0.at 42 rfl) cvX8_48 q1 rfl rfl (Nat.le_of_ble_eq_true rfl) (Nat.le_of_ble_eq_true rfl) (gk_Run.post (fun o h1 z => ?_) hv)
      obtain ⟨v1, rfl, hv⟩ := z
      refine gk_istore (pc := 75) [(7, .int v1), (0, .ref o), (1, .int x1), (2, .int x2), (3, .int x3), (4, .int x4), (5, .int x5), (6, .int x6)] (DX8_powers_0.at 43 rfl) (Nat.le_of_ble_eq_true rfl) rfl ?_
      refine gk_iinc (pc := 77) (x6 + nI 1) [(6, .int (x6 + nI 1)), (7, .int v1), (0, .ref o), (1, .int x1), (2, .int x2), (3, .int x3), (4, .int x4), (5, .int x5)] 7 (DX8_powers_0.at 44 rfl) rfl (by rw [ci_1]) (Nat.le_of_ble_eq_true rfl) rfl ?_
      refine gk_goto (pc := 80) 54 (DX8_powers_0.at 45 rfl) (by decide) ?_
      exact gk_pick (pc := 54) [(0, .ref o), (1, .int x1), (2, .int x2), (3, .int x3), (4, .int x4), (5, .int x5), (6, .int (x6 + nI 1)), (7, .int v1)] [2, 3, 4, 5, 6, 7, 0, 1] rfl hv
abbrev pX8_product_5 (E : gk_E) (dd : Nat) (o : Nat) (x1 : Int32) (x2 : Int32) (x3 : Int32) (x4 : Int32) (h : gk_H) (K : Int32 → gk_H → Prop) : Prop := gk_G E mX8_product (dd, 0, 0) 5 [(0, .ref o), (1, .int x1), (2, .int x2), (3, .int x3), (4, .int x4)] [] h (fun o h1 => ∃ v, o = some (.int v) ∧ K v h1)
abbrev pX8_product_17 (E : gk_E) (dd : Nat) (o : Nat) (x1 : Int32) (x2 : Int32) (x3 : Int32) (x4 : Int32) (x5 : Int32) (h : gk_H) (K : Int32 → gk_H → Prop) : Prop := gk_G E mX8_product (dd, 0, 0) 17 [(0, .ref o), (1, .int x1), (2, .int x2), (3, .int x3), (4, .int x4), (5, .int x5)] [] h (fun o h1 => ∃ v, o = some (.int v) ∧ K v h1)
set_option maxHeartbeats 4000000 in
theorem vX8_product_0 {E : gk_E} {dd : Nat} {o : Nat} {x1 : Int32} {x2 : Int32}  {h : gk_H} {K : Int32 → gk_H → Prop} (hv : pX8_product_5 E dd o x1 x2 (nI 0) (nI 0) h K) : RnI E mX8_product (dd, 0, 0) [.ref o, .int x1, .int x2] h K := by
  show gk_G E mX8_product (dd, 0, 0) 0 [(0, .ref o), (1, .int x1), (2, .int x2)] [] h (fun o h1 => ∃ v, o = some (.int v) ∧ K v h1)
  refine gk_iconst (pc := 0) (nI 0) (DX8_product_0.at 0 rfl) ci_0 ?_
  refine gk_istore_n (pc := 1) [(3, .int (nI 0)), (0, .ref o), (1, .int x1), (2, .int x2)] (DX8_product_0.at 1 rfl) rfl (Nat.le_of_ble_eq_true rfl) rfl ?_
  refine gk_iconst (pc := 2) (nI 0) (DX8_product_0.at 2 rfl) ci_0 ?_
  refine gk_istore (pc := 3) [(4, .int (nI 0)), (3, .int (nI 0)), (0, .ref o), (1, .int x1), (2, .int x2)] (DX8_product_0.at 3 rfl) (Nat.le_of_ble_eq_true rfl) rfl ?_
  exact gk_pick (pc := 5) [(0, .ref o), (1, .int x1), (2, .int x2), (3, .int (nI 0)), (4, .int (nI 0))] [2, 3, 4, 1, 0] rfl hv
set_option maxHeartbeats 4000000 in
theorem vX8_product_5 {E : gk_E} {dd : Nat} {o : Nat} {x1 : Int32} {x2 : Int32} {x3 : Int32} {x4 : Int32}  {h : gk_H} {K : Int32 → gk_H → Prop} (hv : LdI h o 8 0 fun v1 => (v1 ≤ x4 → K x3 h) ∧ (¬ v1 ≤ x4 → pX8_product_17 E dd o x1 x2 x3 x4 (nI 0) h K)) : pX8_product_5 E dd o x1 x2 x3 x4 h K := by
  show gk_G E mX8_product (dd, 0, 0) 5 [(0, .ref o), (1, .int x1), (2, .int x2), (3, .int x3), (4, .int x4)] [] h (fun o h1 => ∃ v, o = some (.int v) ∧ K v h1)
  refine gk_iload (pc := 5) (DX8_product_0.at 4 rfl) 4 rfl ?_
  refine gk_aload_n (pc := 7) (DX8_product_0.at 5 rfl) 0 rfl rfl ?_
  obtain ⟨fs1, v1, q1, r1, hv⟩ := hv
  refine gk_get (pc := 8) (.int v1) (DX8_product_0.at 6 rfl) fX8_9_8 q1 r1 ?_
  refine gk_icmp_ge (pc := 11) 80 (DX8_product_0.at 7 rfl) (by decide) (fun c => ?_) (fun c => ?_)
  · replace hv := hv.1 c
    refine gk_iload_n (pc := 80) (DX8_product_0.at 48 rfl) 3 rfl rfl ?_
    exact gk_ireturn (pc := 81) .int (DX8_product_0.at 49 rfl) rfl rfl ⟨_, rfl, hv⟩
  · replace hv := hv.2 c
    refine gk_iconst (pc := 14) (nI 0) (DX8_product_0.at 8 rfl) ci_0 ?_
    refine gk_istore (pc := 15) [(5, .int (nI 0)), (0, .ref o), (1, .int x1), (2, .int x2), (3, .int x3), (4, .int x4)] (DX8_product_0.at 9 rfl) (Nat.le_of_ble_eq_true rfl) rfl ?_
    exact gk_pick (pc := 17) [(0, .ref o), (1, .int x1), (2, .int x2), (3, .int x3), (4, .int x4), (5, .int (nI 0))] [1, 2, 3, 4, 5, 0] rfl hv
set_option maxHeartbeats 4000000 in
theorem vX8_product_17 {E : gk_E} {dd : Nat} {o : Nat} {x1 : Int32} {x2 : Int32} {x3 : Int32} {x4 : Int32} {x5 : Int32}  {h : gk_H} {K : Int32 → gk_H → Prop} (hv : LdI h o 8 0 fun v1 => (v1 ≤ x5 → pX8_product_5 E dd o x1 x2 x3 (x4 + nI 1) h K) ∧ (¬ v1 ≤ x5 → (¬ ((x1 >>> (x4 &&& 31)) &&& (nI 1)) = (nI 1) → pX8_product_17 E dd o x1 x2 x3 x4 (x5 + nI 1) h K) ∧ (((x1 >>> (x4 &&& 31)) &&& (nI 1)) = (nI 1) → (¬ ((x2 >>> (x5 &&& 31)) &&& (nI 1)) = (nI 1) → pX8_product_17 E dd o x1 x2 x3 x4 (x5 + nI 1) h K) ∧ (((x2 >>> (x5 &&& 31)) &&& (nI 1)) = (nI 1) → LdL h o 8 2 fun v2 => pX8_product_17 E dd o x1 x2 (x3 ||| ((((v2.toUInt64 >>> ((((nI 16) * x4) + ((nI 4) * x5)).toInt64.toUInt64 &&& Int64.toUInt64 63)).toInt64).toInt32) &&& (nI 15))) x4 (x5 + nI 1) h K)))) : pX8_product_17 E dd o x1 x2 x3 x4 x5 h K := by
  show gk_G E mX8_product (dd, 0, 0) 17 [(0, .ref o), (1, .int x1), (2, .int x2), (3, .int x3), (4, .int x4), (5, .int x5)] [] h (fun o h1 => ∃ v, o = some (.int v) ∧ K v h1)
  refine gk_iload (pc := 17) (DX8_product_0.at 10 rfl) 5 rfl ?_
  refine gk_aload_n (pc := 19) (DX8_product_0.at 11 rfl) 0 rfl rfl ?_
  obtain ⟨fs1, v1, q1, r1, hv⟩ := hv
  refine gk_get (pc := 20) (.int v1) (DX8_product_0.at 12 rfl) fX8_9_8 q1 r1 ?_
  refine gk_icmp_ge (pc := 23) 74 (DX8_product_0.at 13 rfl) (by decide) (fun c => ?_) (fun c => ?_)
  · replace hv := hv.1 c
    refine gk_iinc (pc := 74) (x4 + nI 1) [(4, .int (x4 + nI 1)), (0, .ref o), (1, .int x1), (2, .int x2), (3, .int x3), (5, .int x5)] 4 (DX8_product_0.at 46 rfl) rfl (by rw [ci_1]) (Nat.le_of_ble_eq_true rfl) rfl ?_
    refine gk_goto (pc := 77) 5 (DX8_product_0.at 47 rfl) (by decide) ?_
    exact gk_pick (pc := 5) [(0, .ref o), (1, .int x1), (2, .int x2), (3, .int x3), (4, .int (x4 + nI 1))] [1, 2, 3, 4, 0] rfl hv
  · replace hv := hv.2 c
    refine gk_iload_n (pc := 26) (DX8_product_0.at 14 rfl) 1 rfl rfl ?_
    refine gk_iload (pc := 27) (DX8_product_0.at 15 rfl) 4 rfl ?_
    refine gk_ishr (pc := 29) (DX8_product_0.at 16 rfl) ?_
    refine gk_iconst (pc := 30) (nI 1) (DX8_product_0.at 17 rfl) ci_1 ?_
    refine gk_iand (pc := 31) (DX8_product_0.at 18 rfl) ?_
    refine gk_iconst (pc := 32) (nI 1) (DX8_product_0.at 19 rfl) ci_1 ?_
    refine gk_icmp_ne (pc := 33) 68 (DX8_product_0.at 20 rfl) (by decide) (fun c => ?_) (fun c => ?_)
    · replace hv := hv.1 c
      refine gk_iinc (pc := 68) (x5 + nI 1) [(5, .int (x5 + nI 1)), (0, .ref o), (1, .int x1), (2, .int x2), (3, .int x3), (4, .int x4)] 5 (DX8_product_0.at 44 rfl) rfl (by rw [ci_1]) (Nat.le_of_ble_eq_true rfl) rfl ?_
      refine gk_goto (pc := 71) 17 (DX8_product_0.at 45 rfl) (by decide) ?_
      exact gk_pick (pc := 17) [(0, .ref o), (1, .int x1), (2, .int x2), (3, .int x3), (4, .int x4), (5, .int (x5 + nI 1))] [1, 2, 3, 4, 5, 0] rfl hv
    · replace hv := hv.2 c
      refine gk_iload_n (pc := 36) (DX8_product_0.at 21 rfl) 2 rfl rfl ?_
      refine gk_iload (pc := 37) (DX8_product_0.at 22 rfl) 5 rfl ?_
      refine gk_ishr (pc := 39) (DX8_product_0.at 23 rfl) ?_
      refine gk_iconst (pc := 40) (nI 1) (DX8_product_0.at 24 rfl) ci_1 ?_
      refine gk_iand (pc := 41) (DX8_product_0.at 25 rfl) ?_
      refine gk_iconst (pc := 42) (nI 1) (DX8_product_0.at 26 rfl) ci_1 ?_
      refine gk_icmp_ne (pc := 43) 68 (DX8_product_0.at 27 rfl) (by decide) (fun c => ?_) (fun c => ?_)
      · replace hv := hv.1 c
        refine gk_iinc (pc := 68) (x5 + nI 1) [(5, .int (x5 + nI 1)), (0, .ref o), (1, .int x1), (2, .int x2), (3, .int x3), (4, .int x4)] 5 (DX8_product_0.at 44 rfl) rfl (by rw [ci_1]) (Nat.le_of_ble_eq_true rfl) rfl ?_
        refine gk_goto (pc := 71) 17 (DX8_product_0.at 45 rfl) (by decide) ?_
        exact gk_pick (pc := 17) [(0, .ref o), (1, .int x1), (2, .int x2), (3, .int x3), (4, .int x4), (5, .int (x5 + nI 1))] [1, 2, 3, 4, 5, 0] rfl hv
      · replace hv := hv.2 c
        refine gk_iload_n (pc := 46) (DX8_product_0.at 28 rfl) 3 rfl rfl ?_
        refine gk_aload_n (pc := 47) (DX8_product_0.at 29 rfl) 0 rfl rfl ?_
        obtain ⟨fs2, v2, q2, r2, hv⟩ := hv
        refine gk_get (pc := 48) (.long v2) (DX8_product_0.at 30 rfl) fX8_19_8 q2 r2 ?_
        refine gk_bipush (pc := 51) (nI 16) (DX8_product_0.at 31 rfl) cb_16 ?_
        refine gk_iload (pc := 53) (DX8_product_0.at 32 rfl) 4 rfl ?_
        refine gk_imul (pc := 55) (DX8_product_0.at 33 rfl) ?_
        refine gk_iconst (pc := 56) (nI 4) (DX8_product_0.at 34 rfl) ci_4 ?_
        refine gk_iload (pc := 57) (DX8_product_0.at 35 rfl) 5 rfl ?_
        refine gk_imul (pc := 59) (DX8_product_0.at 36 rfl) ?_
        refine gk_iadd (pc := 60) (DX8_product_0.at 37 rfl) ?_
        refine gk_lushr (pc := 61) (DX8_product_0.at 38 rfl) ?_
        refine gk_l2i (pc := 62) (DX8_product_0.at 39 rfl) ?_
        refine gk_bipush (pc := 63) (nI 15) (DX8_product_0.at 40 rfl) cb_15 ?_
        refine gk_iand (pc := 65) (DX8_product_0.at 41 rfl) ?_
        refine gk_ior (pc := 66) (DX8_product_0.at 42 rfl) ?_
        refine gk_istore_n (pc := 67) [(3, .int (x3 ||| ((((v2.toUInt64 >>> ((((nI 16) * x4) + ((nI 4) * x5)).toInt64.toUInt64 &&& Int64.toUInt64 63)).toInt64).toInt32) &&& (nI 15)))), (0, .ref o), (1, .int x1), (2, .int x2), (4, .int x4), (5, .int x5)] (DX8_product_0.at 43 rfl) rfl (Nat.le_of_ble_eq_true rfl) rfl ?_
        refine gk_iinc (pc := 68) (x5 + nI 1) [(5, .int (x5 + nI 1)), (3, .int (x3 ||| ((((v2.toUInt64 >>> ((((nI 16) * x4) + ((nI 4) * x5)).toInt64.toUInt64 &&& Int64.toUInt64 63)).toInt64).toInt32) &&& (nI 15)))), (0, .ref o), (1, .int x1), (2, .int x2), (4, .int x4)] 5 (DX8_product_0.at 44 rfl) rfl (by rw [ci_1]) (Nat.le_of_ble_eq_true rfl) rfl ?_
        refine gk_goto (pc := 71) 17 (DX8_product_0.at 45 rfl) (by decide) ?_
        exact gk_pick (pc := 17) [(0, .ref o), (1, .int x1), (2, .int x2), (3, .int (x3 ||| ((((v2.toUInt64 >>> ((((nI 16) * x4) + ((nI 4) * x5)).toInt64.toUInt64 &&& Int64.toUInt64 63)).toInt64).toInt32) &&& (nI 15)))), (4, .int x4), (5, .int (x5 + nI 1))] [2, 3, 4, 1, 5, 0] rfl hv
set_option maxHeartbeats 4000000 in
theorem vX8_relations_0 {E : gk_E} {dd : Nat} {o : Nat}  {h : gk_H} {K : Int32 → gk_H → Prop} (hv : LdI h o 8 0 fun v1 => K ((nI 1) <<< (v1 &&& 31)) h) : RnI E mX8_relations (dd, 0, 0) [.ref o] h K := by
  show gk_G E mX8_relations (dd, 0, 0) 0 [(0, .ref o)] [] h (fun o h1 => ∃ v, o = some (.int v) ∧ K v h1)
  refine gk_iconst (pc := 0) (nI 1) (DX8_relations_0.at 0 rfl) ci_1 ?_
  refine gk_aload_n (pc := 1) (DX8_relations_0.at 1 rfl) 0 rfl rfl ?_
  obtain ⟨fs1, v1, q1, r1, hv⟩ := hv
  refine gk_get (pc := 2) (.int v1) (DX8_relations_0.at 2 rfl) fX8_9_8 q1 r1 ?_
  refine gk_ishl (pc := 5) (DX8_relations_0.at 3 rfl) ?_
  exact gk_ireturn (pc := 6) .int (DX8_relations_0.at 4 rfl) rfl rfl ⟨_, rfl, hv⟩
abbrev pX8_residual_6 (E : gk_E) (dd : Nat) (o : Nat) (x1 : Int32) (x2 : Int32) (x3 : Int32) (x4 : Int32) (x5 : Int32) (h : gk_H) (K : Int32 → gk_H → Prop) : Prop := gk_G E mX8_residual (dd + 1, 0, 0) 6 [(0, .ref o), (1, .int x1), (2, .int x2), (3, .int x3), (4, .int x4), (5, .int x5)] [] h (fun o h1 => ∃ v, o = some (.int v) ∧ K v h1)
set_option maxHeartbeats 4000000 in
theorem vX8_residual_0 {E : gk_E} {dd : Nat} {o : Nat} {x1 : Int32} {x2 : Int32} {x3 : Int32}  {h : gk_H} {K : Int32 → gk_H → Prop} (hv : pX8_residual_6 E dd o x1 x2 x3 (nI 0) (nI 0) h K) : RnI E mX8_residual (dd + 1, 0, 0) [.ref o, .int x1, .int x2, .int x3] h K := by
  show gk_G E mX8_residual (dd + 1, 0, 0) 0 [(0, .ref o), (1, .int x1), (2, .int x2), (3, .int x3)] [] h (fun o h1 => ∃ v, o = some (.int v) ∧ K v h1)
  refine gk_iconst (pc := 0) (nI 0) (DX8_residual_0.at 0 rfl) ci_0 ?_
  refine gk_istore (pc := 1) [(4, .int (nI 0)), (0, .ref o), (1, .int x1), (2, .int x2), (3, .int x3)] (DX8_residual_0.at 1 rfl) (Nat.le_of_ble_eq_true rfl) rfl ?_
  refine gk_iconst (pc := 3) (nI 0) (DX8_residual_0.at 2 rfl) ci_0 ?_
  refine gk_istore (pc := 4) [(5, .int (nI 0)), (4, .int (nI 0)), (0, .ref o), (1, .int x1), (2, .int x2), (3, .int x3)] (DX8_residual_0.at 3 rfl) (Nat.le_of_ble_eq_true rfl) rfl ?_
  exact gk_pick (pc := 6) [(0, .ref o), (1, .int x1), (2, .int x2), (3, .int x3), (4, .int (nI 0)), (5, .int (nI 0))] [2, 3, 4, 5, 1, 0] rfl hv
set_option maxHeartbeats 4000000 in
theorem vX8_residual_6 {E : gk_E} {dd : Nat} {o : Nat} {x1 : Int32} {x2 : Int32} {x3 : Int32} {x4 : Int32} {x5 : Int32}  {h : gk_H} {K : Int32 → gk_H → Prop} (hv : LdI h o 8 0 fun v1 => (v1 ≤ x5 → K x4 h) ∧ (¬ v1 ≤ x5 → (∃ fs, h[o]? = some (.inr (8, fs))) ∧ RnI E mX8_sided (dd, 0, 0) [.ref o, .int ((nI 1) <<< (x5 &&& 31)), .int x2, .int x3] h (fun v2 h2 => (¬ (v2 &&& (x1 ^^^ ((-1)))) = 0 → pX8_residual_6 E dd o x1 x2 x3 x4 (x5 + nI 1) h2 K) ∧ ((v2 &&& (x1 ^^^ ((-1)))) = 0 → pX8_residual_6 E dd o x1 x2 x3 (x4 ||| ((nI 1) <<< (x5 &&& 31))) (x5 + nI 1) h2 K)))) : pX8_residual_6 E dd o x1 x2 x3 x4 x5 h K := by
  show gk_G E mX8_residual (dd + 1, 0, 0) 6 [(0, .ref o), (1, .int x1), (2, .int x2), (3, .int x3), (4, .int x4), (5, .int x5)] [] h (fun o h1 => ∃ v, o = some (.int v) ∧ K v h1)
  refine gk_iload (pc := 6) (DX8_residual_0.at 4 rfl) 5 rfl ?_
  refine gk_aload_n (pc := 8) (DX8_residual_0.at 5 rfl) 0 rfl rfl ?_
  obtain ⟨fs1, v1, q1, r1, hv⟩ := hv
  refine gk_get (pc := 9) (.int v1) (DX8_residual_0.at 6 rfl) fX8_9_8 q1 r1 ?_
  refine gk_icmp_ge (pc := 12) 47 (DX8_residual_0.at 7 rfl) (by decide) (fun c => ?_) (fun c => ?_)
  · replace hv := hv.1 c
    refine gk_iload (pc := 47) (DX8_residual_0.at 28 rfl) 4 rfl ?_
    exact gk_ireturn (pc := 49) .int (DX8_residual_0.at 29 rfl) rfl rfl ⟨_, rfl, hv⟩
  · replace hv := hv.2 c
    refine gk_aload_n (pc := 15) (DX8_residual_0.at 8 rfl) 0 rfl rfl ?_
    refine gk_iconst (pc := 16) (nI 1) (DX8_residual_0.at 9 rfl) ci_1 ?_
    refine gk_iload (pc := 17) (DX8_residual_0.at 10 rfl) 5 rfl ?_
    refine gk_ishl (pc := 19) (DX8_residual_0.at 11 rfl) ?_
    refine gk_iload_n (pc := 20) (DX8_residual_0.at 12 rfl) 2 rfl rfl ?_
    refine gk_iload_n (pc := 21) (DX8_residual_0.at 13 rfl) 3 rfl rfl ?_
    obtain ⟨⟨fs2, q2⟩, hv⟩ := hv
    refine gk_vV (pc := 22) [.int ((nI 1) <<< (x5 &&& 31)), .int x2, .int x3] [] (DX8_residual_0.at 14 rfl) cvX8_52 q2 rfl rfl (Nat.le_of_ble_eq_true rfl) (Nat.le_of_ble_eq_true rfl) (gk_Run.post (fun o h2 z => ?_) hv)
    obtain ⟨v2, rfl, hv⟩ := z
    refine gk_iload_n (pc := 25) (DX8_residual_0.at 15 rfl) 1 rfl rfl ?_
    refine gk_iconst (pc := 26) ((-1)) (DX8_residual_0.at 16 rfl) ci_m1 ?_
    refine gk_ixor (pc := 27) (DX8_residual_0.at 17 rfl) ?_
    refine gk_iand (pc := 28) (DX8_residual_0.at 18 rfl) ?_
    refine gk_if_ne (pc := 29) 41 (DX8_residual_0.at 19 rfl) (by decide) (fun c => ?_) (fun c => ?_)
    · replace hv := hv.1 c
      refine gk_iinc (pc := 41) (x5 + nI 1) [(5, .int (x5 + nI 1)), (0, .ref o), (1, .int x1), (2, .int x2), (3, .int x3), (4, .int x4)] 5 (DX8_residual_0.at 26 rfl) rfl (by rw [ci_1]) (Nat.le_of_ble_eq_true rfl) rfl ?_
      refine gk_goto (pc := 44) 6 (DX8_residual_0.at 27 rfl) (by decide) ?_
      exact gk_pick (pc := 6) [(0, .ref o), (1, .int x1), (2, .int x2), (3, .int x3), (4, .int x4), (5, .int (x5 + nI 1))] [1, 2, 3, 4, 5, 0] rfl hv
    · replace hv := hv.2 c
      refine gk_iload (pc := 32) (DX8_residual_0.at 20 rfl) 4 rfl ?_
      refine gk_iconst (pc := 34) (nI 1) (DX8_residual_0.at 21 rfl) ci_1 ?_
      refine gk_iload (pc := 35) (DX8_residual_0.at 22 rfl) 5 rfl ?_
      refine gk_ishl (pc := 37) (DX8_residual_0.at 23 rfl) ?_
      refine gk_ior (pc := 38) (DX8_residual_0.at 24 rfl) ?_
      refine gk_istore (pc := 39) [(4, .int (x4 ||| ((nI 1) <<< (x5 &&& 31)))), (0, .ref o), (1, .int x1), (2, .int x2), (3, .int x3), (5, .int x5)] (DX8_residual_0.at 25 rfl) (Nat.le_of_ble_eq_true rfl) rfl ?_
      refine gk_iinc (pc := 41) (x5 + nI 1) [(5, .int (x5 + nI 1)), (4, .int (x4 ||| ((nI 1) <<< (x5 &&& 31)))), (0, .ref o), (1, .int x1), (2, .int x2), (3, .int x3)] 5 (DX8_residual_0.at 26 rfl) rfl (by rw [ci_1]) (Nat.le_of_ble_eq_true rfl) rfl ?_
      refine gk_goto (pc := 44) 6 (DX8_residual_0.at 27 rfl) (by decide) ?_
      exact gk_pick (pc := 6) [(0, .ref o), (1, .int x1), (2, .int x2), (3, .int x3), (4, .int (x4 ||| ((nI 1) <<< (x5 &&& 31)))), (5, .int (x5 + nI 1))] [2, 3, 4, 5, 1, 0] rfl hv
abbrev pX8_restart_7 (E : gk_E) (dd : Nat) (o : Nat) (x1 : Int32) (x2 : Int32) (h : gk_H) (K : gk_H → Prop) : Prop := gk_G E mX8_restart (dd + 1, 0, 0) 7 [(0, .ref o), (1, .int x1), (2, .int x2)] [] h (fun o h1 => o = none ∧ K h1)
set_option maxHeartbeats 4000000 in
theorem vX8_restart_0 {E : gk_E} {dd : Nat} {o : Nat} {x1 : Int32}  {h : gk_H} {K : gk_H → Prop} (hv : StI h o 8 0 x1 fun h1 => pX8_restart_7 E dd o x1 (nI 0) h1 K) : RnV E mX8_restart (dd + 1, 0, 0) [.ref o, .int x1] h K := by
  show gk_G E mX8_restart (dd + 1, 0, 0) 0 [(0, .ref o), (1, .int x1)] [] h (fun o h1 => o = none ∧ K h1)
  refine gk_aload_n (pc := 0) (DX8_restart_0.at 0 rfl) 0 rfl rfl ?_
  refine gk_iload_n (pc := 1) (DX8_restart_0.at 1 rfl) 1 rfl rfl ?_
  obtain ⟨fs1, q1, r1, hv⟩ := hv
  refine gk_put (pc := 2) (DX8_restart_0.at 2 rfl) fX8_9_8w q1 r1 rfl rfl ?_
  generalize h.set _ _ = h1 at hv ⊢
  refine gk_iconst (pc := 5) (nI 0) (DX8_restart_0.at 3 rfl) ci_0 ?_
  refine gk_istore_n (pc := 6) [(2, .int (nI 0)), (0, .ref o), (1, .int x1)] (DX8_restart_0.at 4 rfl) rfl (Nat.le_of_ble_eq_true rfl) rfl ?_
  exact gk_pick (pc := 7) [(0, .ref o), (1, .int x1), (2, .int (nI 0))] [1, 2, 0] rfl hv
set_option maxHeartbeats 4000000 in
theorem vX8_restart_7 {E : gk_E} {dd : Nat} {o : Nat} {x1 : Int32} {x2 : Int32}  {h : gk_H} {K : gk_H → Prop} (hv : ((nI 4) ≤ x2 → (∃ fs, h[o]? = some (.inr (8, fs))) ∧ RnV E mX8_keepFixed (dd, 0, 0) [.ref o] h (fun h1 => K h1)) ∧ (¬ (nI 4) ≤ x2 → LdR h o 8 1 fun v2 => AsI h v2 x2 x2 fun h3 => pX8_restart_7 E dd o x1 (x2 + nI 1) h3 K)) : pX8_restart_7 E dd o x1 x2 h K := by
  show gk_G E mX8_restart (dd + 1, 0, 0) 7 [(0, .ref o), (1, .int x1), (2, .int x2)] [] h (fun o h1 => o = none ∧ K h1)
  refine gk_iload_n (pc := 7) (DX8_restart_0.at 5 rfl) 2 rfl rfl ?_
  refine gk_iconst (pc := 8) (nI 4) (DX8_restart_0.at 6 rfl) ci_4 ?_
  refine gk_icmp_ge (pc := 9) 25 (DX8_restart_0.at 7 rfl) (by decide) (fun c => ?_) (fun c => ?_)
  · replace hv := hv.1 c
    refine gk_aload_n (pc := 25) (DX8_restart_0.at 15 rfl) 0 rfl rfl ?_
    obtain ⟨⟨fs1, q1⟩, hv⟩ := hv
    refine gk_vV (pc := 26) [] [] (DX8_restart_0.at 16 rfl) cvX8_27 q1 rfl rfl (Nat.le_of_ble_eq_true rfl) (Nat.le_of_ble_eq_true rfl) (gk_Run.post (fun o h1 z => ?_) hv)
    obtain ⟨rfl, hv⟩ := z
    exact gk_return (pc := 29) (DX8_restart_0.at 17 rfl) rfl ⟨rfl, hv⟩
  · replace hv := hv.2 c
    refine gk_aload_n (pc := 12) (DX8_restart_0.at 8 rfl) 0 rfl rfl ?_
    obtain ⟨fs2, v2, q2, r2, hv⟩ := hv
    refine gk_get (pc := 13) (.ref v2) (DX8_restart_0.at 9 rfl) fX8_15_8 q2 r2 ?_
    refine gk_iload_n (pc := 16) (DX8_restart_0.at 10 rfl) 2 rfl rfl ?_
    refine gk_iload_n (pc := 17) (DX8_restart_0.at 11 rfl) 2 rfl rfl ?_
    obtain ⟨n3, f3, q3, r3, hv⟩ := hv
    refine gk_iast (pc := 18) (DX8_restart_0.at 12 rfl) q3 r3 ?_
    generalize h.set _ _ = h3 at hv ⊢
    refine gk_iinc (pc := 19) (x2 + nI 1) [(2, .int (x2 + nI 1)), (0, .ref o), (1, .int x1)] 2 (DX8_restart_0.at 13 rfl) rfl (by rw [ci_1]) (Nat.le_of_ble_eq_true rfl) rfl ?_
    refine gk_goto (pc := 22) 7 (DX8_restart_0.at 14 rfl) (by decide) ?_
    exact gk_pick (pc := 7) [(0, .ref o), (1, .int x1), (2, .int (x2 + nI 1))] [1, 2, 0] rfl hv
set_option maxHeartbeats 4000000 in
theorem vX8_sided_0 {E : gk_E} {dd : Nat} {o : Nat} {x1 : Int32} {x2 : Int32} {x3 : Int32}  {h : gk_H} {K : Int32 → gk_H → Prop} (hv : (¬ x3 = 0 → (∃ fs, h[o]? = some (.inr (8, fs))) ∧ RnI E mX8_product (dd, 0, 0) [.ref o, .int x2, .int x1] h (fun v1 h1 => K v1 h1)) ∧ (x3 = 0 → (∃ fs, h[o]? = some (.inr (8, fs))) ∧ RnI E mX8_product (dd, 0, 0) [.ref o, .int x1, .int x2] h (fun v2 h2 => K v2 h2))) : RnI E mX8_sided (dd + 1, 0, 0) [.ref o, .int x1, .int x2, .int x3] h K := by
  show gk_G E mX8_sided (dd + 1, 0, 0) 0 [(0, .ref o), (1, .int x1), (2, .int x2), (3, .int x3)] [] h (fun o h1 => ∃ v, o = some (.int v) ∧ K v h1)
  refine gk_iload_n (pc := 0) (DX8_sided_0.at 0 rfl) 3 rfl rfl ?_
  refine gk_if_ne (pc := 1) 13 (DX8_sided_0.at 1 rfl) (by decide) (fun c => ?_) (fun c => ?_)
  · replace hv := hv.1 c
    refine gk_aload_n (pc := 13) (DX8_sided_0.at 7 rfl) 0 rfl rfl ?_
    refine gk_iload_n (pc := 14) (DX8_sided_0.at 8 rfl) 2 rfl rfl ?_
    refine gk_iload_n (pc := 15) (DX8_sided_0.at 9 rfl) 1 rfl rfl ?_
    obtain ⟨⟨fs1, q1⟩, hv⟩ := hv
    refine gk_vV (pc := 16) [.int x2, .int x1] [] (DX8_sided_0.at 10 rfl) cvX8_48 q1 rfl rfl (Nat.le_of_ble_eq_true rfl) (Nat.le_of_ble_eq_true rfl) (gk_Run.post (fun o h1 z => ?_) hv)
    obtain ⟨v1, rfl, hv⟩ := z
    exact gk_ireturn (pc := 19) .int (DX8_sided_0.at 11 rfl) rfl rfl ⟨_, rfl, hv⟩
  · replace hv := hv.2 c
    refine gk_aload_n (pc := 4) (DX8_sided_0.at 2 rfl) 0 rfl rfl ?_
    refine gk_iload_n (pc := 5) (DX8_sided_0.at 3 rfl) 1 rfl rfl ?_
    refine gk_iload_n (pc := 6) (DX8_sided_0.at 4 rfl) 2 rfl rfl ?_
    obtain ⟨⟨fs2, q2⟩, hv⟩ := hv
    refine gk_vV (pc := 7) [.int x1, .int x2] [] (DX8_sided_0.at 5 rfl) cvX8_48 q2 rfl rfl (Nat.le_of_ble_eq_true rfl) (Nat.le_of_ble_eq_true rfl) (gk_Run.post (fun o h2 z => ?_) hv)
    obtain ⟨v2, rfl, hv⟩ := z
    refine gk_goto (pc := 10) 19 (DX8_sided_0.at 6 rfl) (by decide) ?_
    exact gk_ireturn (pc := 19) .int (DX8_sided_0.at 11 rfl) rfl rfl ⟨_, rfl, hv⟩
abbrev pX8_solutions_13 (E : gk_E) (dd : Nat) (o : Nat) (x1 : Int32) (x2 : Int32) (x3 : Int32) (x4 : Int32) (x5 : Int32) (x6 : Int32) (x7 : Int32) (x8 : Int32) (h : gk_H) (K : Int32 → gk_H → Prop) : Prop := gk_G E mX8_solutions (dd + 1, 0, 0) 13 [(0, .ref o), (1, .int x1), (2, .int x2), (3, .int x3), (4, .int x4), (5, .int x5), (6, .int x6), (7, .int x7), (8, .int x8)] [] h (fun o h1 => ∃ v, o = some (.int v) ∧ K v h1)
set_option maxHeartbeats 4000000 in
theorem vX8_solutions_0 {E : gk_E} {dd : Nat} {o : Nat} {x1 : Int32} {x2 : Int32} {x3 : Int32} {x4 : Int32}  {h : gk_H} {K : Int32 → gk_H → Prop} (hv : pX8_solutions_13 E dd o x1 x2 x3 x4 (nI 0) ((-5)) (nI 0) (nI 0) h K) : RnI E mX8_solutions (dd + 1, 0, 0) [.ref o, .int x1, .int x2, .int x3, .int x4] h K := by
  show gk_G E mX8_solutions (dd + 1, 0, 0) 0 [(0, .ref o), (1, .int x1), (2, .int x2), (3, .int x3), (4, .int x4)] [] h (fun o h1 => ∃ v, o = some (.int v) ∧ K v h1)
  refine gk_iconst (pc := 0) (nI 0) (DX8_solutions_0.at 0 rfl) ci_0 ?_
  refine gk_istore (pc := 1) [(5, .int (nI 0)), (0, .ref o), (1, .int x1), (2, .int x2), (3, .int x3), (4, .int x4)] (DX8_solutions_0.at 1 rfl) (Nat.le_of_ble_eq_true rfl) rfl ?_
  refine gk_bipush (pc := 3) ((-5)) (DX8_solutions_0.at 2 rfl) cb_m5 ?_
  refine gk_istore (pc := 5) [(6, .int ((-5))), (5, .int (nI 0)), (0, .ref o), (1, .int x1), (2, .int x2), (3, .int x3), (4, .int x4)] (DX8_solutions_0.at 3 rfl) (Nat.le_of_ble_eq_true rfl) rfl ?_
  refine gk_iconst (pc := 7) (nI 0) (DX8_solutions_0.at 4 rfl) ci_0 ?_
  refine gk_istore (pc := 8) [(7, .int (nI 0)), (6, .int ((-5))), (5, .int (nI 0)), (0, .ref o), (1, .int x1), (2, .int x2), (3, .int x3), (4, .int x4)] (DX8_solutions_0.at 5 rfl) (Nat.le_of_ble_eq_true rfl) rfl ?_
  refine gk_iconst (pc := 10) (nI 0) (DX8_solutions_0.at 6 rfl) ci_0 ?_
  refine gk_istore (pc := 11) [(8, .int (nI 0)), (7, .int (nI 0)), (6, .int ((-5))), (5, .int (nI 0)), (0, .ref o), (1, .int x1), (2, .int x2), (3, .int x3), (4, .int x4)] (DX8_solutions_0.at 7 rfl) (Nat.le_of_ble_eq_true rfl) rfl ?_
  exact gk_pick (pc := 13) [(0, .ref o), (1, .int x1), (2, .int x2), (3, .int x3), (4, .int x4), (5, .int (nI 0)), (6, .int ((-5))), (7, .int (nI 0)), (8, .int (nI 0))] [4, 5, 6, 7, 8, 3, 2, 1, 0] rfl hv
set_option maxHeartbeats 4000000 in
theorem vX8_solutions_13 {E : gk_E} {dd : Nat} {o : Nat} {x1 : Int32} {x2 : Int32} {x3 : Int32} {x4 : Int32} {x5 : Int32} {x6 : Int32} {x7 : Int32} {x8 : Int32}  {h : gk_H} {K : Int32 → gk_H → Prop} (hv : (∃ fs, h[o]? = some (.inr (8, fs))) ∧ RnI E mX8_relations (dd, 0, 0) [.ref o] h (fun v1 h1 => (v1 ≤ x8 → (¬ x4 = 0 → (x4 = (nI 1) → K x6 h1) ∧ (¬ x4 = (nI 1) → (¬ x5 = 0 → K x7 h1) ∧ (x5 = 0 → K x6 h1))) ∧ (x4 = 0 → K x5 h1)) ∧ (¬ v1 ≤ x8 → (∃ fs, h1[o]? = some (.inr (8, fs))) ∧ RnI E mX8_sided (dd, 0, 0) [.ref o, .int x8, .int x1, .int x3] h1 (fun v2 h2 => (¬ v2 = x2 → pX8_solutions_13 E dd o x1 x2 x3 x4 x5 x6 x7 (x8 + nI 1) h2 K) ∧ (v2 = x2 → (¬ x5 = 0 → pX8_solutions_13 E dd o x1 x2 x3 x4 (x5 + nI 1) x6 (x7 ||| x8) (x8 + nI 1) h2 K) ∧ (x5 = 0 → pX8_solutions_13 E dd o x1 x2 x3 x4 (x5 + nI 1) x8 (x7 ||| x8) (x8 + nI 1) h2 K)))))) : pX8_solutions_13 E dd o x1 x2 x3 x4 x5 x6 x7 x8 h K := by
  show gk_G E mX8_solutions (dd + 1, 0, 0) 13 [(0, .ref o), (1, .int x1), (2, .int x2), (3, .int x3), (4, .int x4), (5, .int x5), (6, .int x6), (7, .int x7), (8, .int x8)] [] h (fun o h1 => ∃ v, o = some (.int v) ∧ K v h1)
  refine gk_iload (pc := 13) (DX8_solutions_0.at 8 rfl) 8 rfl ?_
  refine gk_aload_n (pc := 15) (DX8_solutions_0.at 9 rfl) 0 rfl rfl ?_
  obtain ⟨⟨fs1, q1⟩, hv⟩ := hv
  refine gk_vV (pc := 16) [] [.int x8] (DX8_solutions_0.at 10 rfl) cvX8_56 q1 rfl rfl (Nat.le_of_ble_eq_true rfl) (Nat.le_of_ble_eq_true rfl) (gk_Run.post (fun o h1 z => ?_) hv)
  obtain ⟨v1, rfl, hv⟩ := z
  refine gk_icmp_ge (pc := 19) 64 (DX8_solutions_0.at 11 rfl) (by decide) (fun c => ?_) (fun c => ?_)
  · replace hv := hv.1 c
    refine gk_iload (pc := 64) (DX8_solutions_0.at 32 rfl) 4 rfl ?_
    refine gk_if_ne (pc := 66) 72 (DX8_solutions_0.at 33 rfl) (by decide) (fun c => ?_) (fun c => ?_)
    · replace hv := hv.1 c
      refine gk_iload (pc := 72) (DX8_solutions_0.at 36 rfl) 4 rfl ?_
      refine gk_iconst (pc := 74) (nI 1) (DX8_solutions_0.at 37 rfl) ci_1 ?_
      refine gk_icmp_eq (pc := 75) 83 (DX8_solutions_0.at 38 rfl) (by decide) (fun c => ?_) (fun c => ?_)
      · replace hv := hv.1 c
        refine gk_iload (pc := 83) (DX8_solutions_0.at 41 rfl) 6 rfl ?_
        refine gk_goto (pc := 85) 90 (DX8_solutions_0.at 42 rfl) (by decide) ?_
        exact gk_ireturn (pc := 90) .int (DX8_solutions_0.at 44 rfl) rfl rfl ⟨_, rfl, hv⟩
      · replace hv := hv.2 c
        refine gk_iload (pc := 78) (DX8_solutions_0.at 39 rfl) 5 rfl ?_
        refine gk_if_ne (pc := 80) 88 (DX8_solutions_0.at 40 rfl) (by decide) (fun c => ?_) (fun c => ?_)
        · replace hv := hv.1 c
          refine gk_iload (pc := 88) (DX8_solutions_0.at 43 rfl) 7 rfl ?_
          exact gk_ireturn (pc := 90) .int (DX8_solutions_0.at 44 rfl) rfl rfl ⟨_, rfl, hv⟩
        · replace hv := hv.2 c
          refine gk_iload (pc := 83) (DX8_solutions_0.at 41 rfl) 6 rfl ?_
          refine gk_goto (pc := 85) 90 (DX8_solutions_0.at 42 rfl) (by decide) ?_
          exact gk_ireturn (pc := 90) .int (DX8_solutions_0.at 44 rfl) rfl rfl ⟨_, rfl, hv⟩
    · replace hv := hv.2 c
      refine gk_iload (pc := 69) (DX8_solutions_0.at 34 rfl) 5 rfl ?_
      exact gk_ireturn (pc := 71) .int (DX8_solutions_0.at 35 rfl) rfl rfl ⟨_, rfl, hv⟩
  · replace hv := hv.2 c
    refine gk_aload_n (pc := 22) (DX8_solutions_0.at 12 rfl) 0 rfl rfl ?_
    refine gk_iload (pc := 23) (DX8_solutions_0.at 13 rfl) 8 rfl ?_
    refine gk_iload_n (pc := 25) (DX8_solutions_0.at 14 rfl) 1 rfl rfl ?_
    refine gk_iload_n (pc := 26) (DX8_solutions_0.at 15 rfl) 3 rfl rfl ?_
    obtain ⟨⟨fs2, q2⟩, hv⟩ := hv
    refine gk_vV (pc := 27) [.int x8, .int x1, .int x3] [] (DX8_solutions_0.at 16 rfl) cvX8_52 q2 rfl rfl (Nat.le_of_ble_eq_true rfl) (Nat.le_of_ble_eq_true rfl) (gk_Run.post (fun o h2 z => ?_) hv)
    obtain ⟨v2, rfl, hv⟩ := z
    refine gk_iload_n (pc := 30) (DX8_solutions_0.at 17 rfl) 2 rfl rfl ?_
    refine gk_icmp_ne (pc := 31) 58 (DX8_solutions_0.at 18 rfl) (by decide) (fun c => ?_) (fun c => ?_)
    · replace hv := hv.1 c
      refine gk_iinc (pc := 58) (x8 + nI 1) [(8, .int (x8 + nI 1)), (0, .ref o), (1, .int x1), (2, .int x2), (3, .int x3), (4, .int x4), (5, .int x5), (6, .int x6), (7, .int x7)] 8 (DX8_solutions_0.at 30 rfl) rfl (by rw [ci_1]) (Nat.le_of_ble_eq_true rfl) rfl ?_
      refine gk_goto (pc := 61) 13 (DX8_solutions_0.at 31 rfl) (by decide) ?_
      exact gk_pick (pc := 13) [(0, .ref o), (1, .int x1), (2, .int x2), (3, .int x3), (4, .int x4), (5, .int x5), (6, .int x6), (7, .int x7), (8, .int (x8 + nI 1))] [1, 2, 3, 4, 5, 6, 7, 8, 0] rfl hv
    · replace hv := hv.2 c
      refine gk_iload (pc := 34) (DX8_solutions_0.at 19 rfl) 5 rfl ?_
      refine gk_if_ne (pc := 36) 44 (DX8_solutions_0.at 20 rfl) (by decide) (fun c => ?_) (fun c => ?_)
      · replace hv := hv.1 c
        refine gk_iload (pc := 44) (DX8_solutions_0.at 23 rfl) 6 rfl ?_
        refine gk_istore (pc := 46) [(6, .int x6), (0, .ref o), (1, .int x1), (2, .int x2), (3, .int x3), (4, .int x4), (5, .int x5), (7, .int x7), (8, .int x8)] (DX8_solutions_0.at 24 rfl) (Nat.le_of_ble_eq_true rfl) rfl ?_
        refine gk_iinc (pc := 48) (x5 + nI 1) [(5, .int (x5 + nI 1)), (6, .int x6), (0, .ref o), (1, .int x1), (2, .int x2), (3, .int x3), (4, .int x4), (7, .int x7), (8, .int x8)] 6 (DX8_solutions_0.at 25 rfl) rfl (by rw [ci_1]) (Nat.le_of_ble_eq_true rfl) rfl ?_
        refine gk_iload (pc := 51) (DX8_solutions_0.at 26 rfl) 7 rfl ?_
        refine gk_iload (pc := 53) (DX8_solutions_0.at 27 rfl) 8 rfl ?_
        refine gk_ior (pc := 55) (DX8_solutions_0.at 28 rfl) ?_
        refine gk_istore (pc := 56) [(7, .int (x7 ||| x8)), (5, .int (x5 + nI 1)), (6, .int x6), (0, .ref o), (1, .int x1), (2, .int x2), (3, .int x3), (4, .int x4), (8, .int x8)] (DX8_solutions_0.at 29 rfl) (Nat.le_of_ble_eq_true rfl) rfl ?_
        refine gk_iinc (pc := 58) (x8 + nI 1) [(8, .int (x8 + nI 1)), (7, .int (x7 ||| x8)), (5, .int (x5 + nI 1)), (6, .int x6), (0, .ref o), (1, .int x1), (2, .int x2), (3, .int x3), (4, .int x4)] 8 (DX8_solutions_0.at 30 rfl) rfl (by rw [ci_1]) (Nat.le_of_ble_eq_true rfl) rfl ?_
        refine gk_goto (pc := 61) 13 (DX8_solutions_0.at 31 rfl) (by decide) ?_
        exact gk_pick (pc := 13) [(0, .ref o), (1, .int x1), (2, .int x2), (3, .int x3), (4, .int x4), (5, .int (x5 + nI 1)), (6, .int x6), (7, .int (x7 ||| x8)), (8, .int (x8 + nI 1))] [4, 5, 6, 7, 8, 2, 3, 1, 0] rfl hv
      · replace hv := hv.2 c
        refine gk_iload (pc := 39) (DX8_solutions_0.at 21 rfl) 8 rfl ?_
        refine gk_goto (pc := 41) 46 (DX8_solutions_0.at 22 rfl) (by decide) ?_
        refine gk_istore (pc := 46) [(6, .int x8), (0, .ref o), (1, .int x1), (2, .int x2), (3, .int x3), (4, .int x4), (5, .int x5), (7, .int x7), (8, .int x8)] (DX8_solutions_0.at 24 rfl) (Nat.le_of_ble_eq_true rfl) rfl ?_
        refine gk_iinc (pc := 48) (x5 + nI 1) [(5, .int (x5 + nI 1)), (6, .int x8), (0, .ref o), (1, .int x1), (2, .int x2), (3, .int x3), (4, .int x4), (7, .int x7), (8, .int x8)] 6 (DX8_solutions_0.at 25 rfl) rfl (by rw [ci_1]) (Nat.le_of_ble_eq_true rfl) rfl ?_
        refine gk_iload (pc := 51) (DX8_solutions_0.at 26 rfl) 7 rfl ?_
        refine gk_iload (pc := 53) (DX8_solutions_0.at 27 rfl) 8 rfl ?_
        refine gk_ior (pc := 55) (DX8_solutions_0.at 28 rfl) ?_
        refine gk_istore (pc := 56) [(7, .int (x7 ||| x8)), (5, .int (x5 + nI 1)), (6, .int x8), (0, .ref o), (1, .int x1), (2, .int x2), (3, .int x3), (4, .int x4), (8, .int x8)] (DX8_solutions_0.at 29 rfl) (Nat.le_of_ble_eq_true rfl) rfl ?_
        refine gk_iinc (pc := 58) (x8 + nI 1) [(8, .int (x8 + nI 1)), (7, .int (x7 ||| x8)), (5, .int (x5 + nI 1)), (6, .int x8), (0, .ref o), (1, .int x1), (2, .int x2), (3, .int x3), (4, .int x4)] 8 (DX8_solutions_0.at 30 rfl) rfl (by rw [ci_1]) (Nat.le_of_ble_eq_true rfl) rfl ?_
        refine gk_goto (pc := 61) 13 (DX8_solutions_0.at 31 rfl) (by decide) ?_
        exact gk_pick (pc := 13) [(0, .ref o), (1, .int x1), (2, .int x2), (3, .int x3), (4, .int x4), (5, .int (x5 + nI 1)), (6, .int x8), (7, .int (x7 ||| x8)), (8, .int (x8 + nI 1))] [4, 5, 6, 7, 8, 2, 3, 1, 0] rfl hv
abbrev pX8_thin_4 (E : gk_E) (dd : Nat) (o : Nat) (x1 : Int32) (x2 : Int32) (x3 : Int32) (h : gk_H) (K : Int32 → gk_H → Prop) : Prop := gk_G E mX8_thin (dd + 1, 0, 0) 4 [(0, .ref o), (1, .int x1), (2, .int x2), (3, .int x3)] [] h (fun o h1 => ∃ v, o = some (.int v) ∧ K v h1)
abbrev pX8_thin_15 (E : gk_E) (dd : Nat) (o : Nat) (x1 : Int32) (x2 : Int32) (x3 : Int32) (x4 : Int32) (h : gk_H) (K : Int32 → gk_H → Prop) : Prop := gk_G E mX8_thin (dd + 1, 0, 0) 15 [(0, .ref o), (1, .int x1), (2, .int x2), (3, .int x3), (4, .int x4)] [] h (fun o h1 => ∃ v, o = some (.int v) ∧ K v h1)
set_option maxHeartbeats 4000000 in
theorem vX8_thin_0 {E : gk_E} {dd : Nat} {o : Nat} {x1 : Int32}  {h : gk_H} {K : Int32 → gk_H → Prop} (hv : pX8_thin_4 E dd o x1 (nI 0) (nI 0) h K) : RnI E mX8_thin (dd + 1, 0, 0) [.ref o, .int x1] h K := by
  show gk_G E mX8_thin (dd + 1, 0, 0) 0 [(0, .ref o), (1, .int x1)] [] h (fun o h1 => ∃ v, o = some (.int v) ∧ K v h1)
  refine gk_iconst (pc := 0) (nI 0) (DX8_thin_0.at 0 rfl) ci_0 ?_
  refine gk_istore_n (pc := 1) [(2, .int (nI 0)), (0, .ref o), (1, .int x1)] (DX8_thin_0.at 1 rfl) rfl (Nat.le_of_ble_eq_true rfl) rfl ?_
  refine gk_iconst (pc := 2) (nI 0) (DX8_thin_0.at 2 rfl) ci_0 ?_
  refine gk_istore_n (pc := 3) [(3, .int (nI 0)), (2, .int (nI 0)), (0, .ref o), (1, .int x1)] (DX8_thin_0.at 3 rfl) rfl (Nat.le_of_ble_eq_true rfl) rfl ?_
  exact gk_pick (pc := 4) [(0, .ref o), (1, .int x1), (2, .int (nI 0)), (3, .int (nI 0))] [2, 3, 1, 0] rfl hv
set_option maxHeartbeats 4000000 in
theorem vX8_thin_4 {E : gk_E} {dd : Nat} {o : Nat} {x1 : Int32} {x2 : Int32} {x3 : Int32}  {h : gk_H} {K : Int32 → gk_H → Prop} (hv : LdI h o 8 0 fun v1 => (v1 ≤ x3 → (x1 = 0 → K ((-5)) h) ∧ (¬ x1 = 0 → K x2 h)) ∧ (¬ v1 ≤ x3 → pX8_thin_15 E dd o x1 x2 x3 (nI 0) h K)) : pX8_thin_4 E dd o x1 x2 x3 h K := by
  show gk_G E mX8_thin (dd + 1, 0, 0) 4 [(0, .ref o), (1, .int x1), (2, .int x2), (3, .int x3)] [] h (fun o h1 => ∃ v, o = some (.int v) ∧ K v h1)
  refine gk_iload_n (pc := 4) (DX8_thin_0.at 4 rfl) 3 rfl rfl ?_
  refine gk_aload_n (pc := 5) (DX8_thin_0.at 5 rfl) 0 rfl rfl ?_
  obtain ⟨fs1, v1, q1, r1, hv⟩ := hv
  refine gk_get (pc := 6) (.int v1) (DX8_thin_0.at 6 rfl) fX8_9_8 q1 r1 ?_
  refine gk_icmp_ge (pc := 9) 65 (DX8_thin_0.at 7 rfl) (by decide) (fun c => ?_) (fun c => ?_)
  · replace hv := hv.1 c
    refine gk_iload_n (pc := 65) (DX8_thin_0.at 36 rfl) 1 rfl rfl ?_
    refine gk_if_eq (pc := 66) 73 (DX8_thin_0.at 37 rfl) (by decide) (fun c => ?_) (fun c => ?_)
    · replace hv := hv.1 c
      refine gk_bipush (pc := 73) ((-5)) (DX8_thin_0.at 40 rfl) cb_m5 ?_
      exact gk_ireturn (pc := 75) .int (DX8_thin_0.at 41 rfl) rfl rfl ⟨_, rfl, hv⟩
    · replace hv := hv.2 c
      refine gk_iload_n (pc := 69) (DX8_thin_0.at 38 rfl) 2 rfl rfl ?_
      refine gk_goto (pc := 70) 75 (DX8_thin_0.at 39 rfl) (by decide) ?_
      exact gk_ireturn (pc := 75) .int (DX8_thin_0.at 41 rfl) rfl rfl ⟨_, rfl, hv⟩
  · replace hv := hv.2 c
    refine gk_iconst (pc := 12) (nI 0) (DX8_thin_0.at 8 rfl) ci_0 ?_
    refine gk_istore (pc := 13) [(4, .int (nI 0)), (0, .ref o), (1, .int x1), (2, .int x2), (3, .int x3)] (DX8_thin_0.at 9 rfl) (Nat.le_of_ble_eq_true rfl) rfl ?_
    exact gk_pick (pc := 15) [(0, .ref o), (1, .int x1), (2, .int x2), (3, .int x3), (4, .int (nI 0))] [1, 2, 3, 4, 0] rfl hv
set_option maxHeartbeats 4000000 in
theorem vX8_thin_15 {E : gk_E} {dd : Nat} {o : Nat} {x1 : Int32} {x2 : Int32} {x3 : Int32} {x4 : Int32}  {h : gk_H} {K : Int32 → gk_H → Prop} (hv : LdI h o 8 0 fun v1 => (v1 ≤ x4 → pX8_thin_4 E dd o x1 x2 (x3 + nI 1) h K) ∧ (¬ v1 ≤ x4 → (∃ fs, h[o]? = some (.inr (8, fs))) ∧ RnI E mX8_product (dd, 0, 0) [.ref o, .int ((nI 1) <<< (x3 &&& 31)), .int ((nI 1) <<< (x4 &&& 31))] h (fun v2 h2 => (¬ v2 = 0 → pX8_thin_15 E dd o x1 x2 x3 (x4 + nI 1) h2 K) ∧ (v2 = 0 → (¬ x1 = 0 → pX8_thin_15 E dd o x1 (x2 + nI 1) x3 (x4 + nI 1) h2 K) ∧ (x1 = 0 → K (((nI 10) * x3) + x4) h2))))) : pX8_thin_15 E dd o x1 x2 x3 x4 h K := by
  show gk_G E mX8_thin (dd + 1, 0, 0) 15 [(0, .ref o), (1, .int x1), (2, .int x2), (3, .int x3), (4, .int x4)] [] h (fun o h1 => ∃ v, o = some (.int v) ∧ K v h1)
  refine gk_iload (pc := 15) (DX8_thin_0.at 10 rfl) 4 rfl ?_
  refine gk_aload_n (pc := 17) (DX8_thin_0.at 11 rfl) 0 rfl rfl ?_
  obtain ⟨fs1, v1, q1, r1, hv⟩ := hv
  refine gk_get (pc := 18) (.int v1) (DX8_thin_0.at 12 rfl) fX8_9_8 q1 r1 ?_
  refine gk_icmp_ge (pc := 21) 59 (DX8_thin_0.at 13 rfl) (by decide) (fun c => ?_) (fun c => ?_)
  · replace hv := hv.1 c
    refine gk_iinc (pc := 59) (x3 + nI 1) [(3, .int (x3 + nI 1)), (0, .ref o), (1, .int x1), (2, .int x2), (4, .int x4)] 3 (DX8_thin_0.at 34 rfl) rfl (by rw [ci_1]) (Nat.le_of_ble_eq_true rfl) rfl ?_
    refine gk_goto (pc := 62) 4 (DX8_thin_0.at 35 rfl) (by decide) ?_
    exact gk_pick (pc := 4) [(0, .ref o), (1, .int x1), (2, .int x2), (3, .int (x3 + nI 1))] [1, 2, 3, 0] rfl hv
  · replace hv := hv.2 c
    refine gk_aload_n (pc := 24) (DX8_thin_0.at 14 rfl) 0 rfl rfl ?_
    refine gk_iconst (pc := 25) (nI 1) (DX8_thin_0.at 15 rfl) ci_1 ?_
    refine gk_iload_n (pc := 26) (DX8_thin_0.at 16 rfl) 3 rfl rfl ?_
    refine gk_ishl (pc := 27) (DX8_thin_0.at 17 rfl) ?_
    refine gk_iconst (pc := 28) (nI 1) (DX8_thin_0.at 18 rfl) ci_1 ?_
    refine gk_iload (pc := 29) (DX8_thin_0.at 19 rfl) 4 rfl ?_
    refine gk_ishl (pc := 31) (DX8_thin_0.at 20 rfl) ?_
    obtain ⟨⟨fs2, q2⟩, hv⟩ := hv
    refine gk_vV (pc := 32) [.int ((nI 1) <<< (x3 &&& 31)), .int ((nI 1) <<< (x4 &&& 31))] [] (DX8_thin_0.at 21 rfl) cvX8_48 q2 rfl rfl (Nat.le_of_ble_eq_true rfl) (Nat.le_of_ble_eq_true rfl) (gk_Run.post (fun o h2 z => ?_) hv)
    obtain ⟨v2, rfl, hv⟩ := z
    refine gk_if_ne (pc := 35) 53 (DX8_thin_0.at 22 rfl) (by decide) (fun c => ?_) (fun c => ?_)
    · replace hv := hv.1 c
      refine gk_iinc (pc := 53) (x4 + nI 1) [(4, .int (x4 + nI 1)), (0, .ref o), (1, .int x1), (2, .int x2), (3, .int x3)] 4 (DX8_thin_0.at 32 rfl) rfl (by rw [ci_1]) (Nat.le_of_ble_eq_true rfl) rfl ?_
      refine gk_goto (pc := 56) 15 (DX8_thin_0.at 33 rfl) (by decide) ?_
      exact gk_pick (pc := 15) [(0, .ref o), (1, .int x1), (2, .int x2), (3, .int x3), (4, .int (x4 + nI 1))] [1, 2, 3, 4, 0] rfl hv
    · replace hv := hv.2 c
      refine gk_iload_n (pc := 38) (DX8_thin_0.at 23 rfl) 1 rfl rfl ?_
      refine gk_if_ne (pc := 39) 50 (DX8_thin_0.at 24 rfl) (by decide) (fun c => ?_) (fun c => ?_)
      · replace hv := hv.1 c
        refine gk_iinc (pc := 50) (x2 + nI 1) [(2, .int (x2 + nI 1)), (0, .ref o), (1, .int x1), (3, .int x3), (4, .int x4)] 2 (DX8_thin_0.at 31 rfl) rfl (by rw [ci_1]) (Nat.le_of_ble_eq_true rfl) rfl ?_
        refine gk_iinc (pc := 53) (x4 + nI 1) [(4, .int (x4 + nI 1)), (2, .int (x2 + nI 1)), (0, .ref o), (1, .int x1), (3, .int x3)] 4 (DX8_thin_0.at 32 rfl) rfl (by rw [ci_1]) (Nat.le_of_ble_eq_true rfl) rfl ?_
        refine gk_goto (pc := 56) 15 (DX8_thin_0.at 33 rfl) (by decide) ?_
        exact gk_pick (pc := 15) [(0, .ref o), (1, .int x1), (2, .int (x2 + nI 1)), (3, .int x3), (4, .int (x4 + nI 1))] [2, 3, 1, 4, 0] rfl hv
      · replace hv := hv.2 c
        refine gk_bipush (pc := 42) (nI 10) (DX8_thin_0.at 25 rfl) cb_10 ?_
        refine gk_iload_n (pc := 44) (DX8_thin_0.at 26 rfl) 3 rfl rfl ?_
        refine gk_imul (pc := 45) (DX8_thin_0.at 27 rfl) ?_
        refine gk_iload (pc := 46) (DX8_thin_0.at 28 rfl) 4 rfl ?_
        refine gk_iadd (pc := 48) (DX8_thin_0.at 29 rfl) ?_
        exact gk_ireturn (pc := 49) .int (DX8_thin_0.at 30 rfl) rfl rfl ⟨_, rfl, hv⟩
set_option maxHeartbeats 4000000 in
theorem vX8_turns_0 {E : gk_E} {dd : Nat} {o : Nat} {x1 : Int32} {x2 : Int32} {x3 : Int32}  {h : gk_H} {K : Int64 → gk_H → Prop} (hv : LdR h o 8 1 fun v1 => AlI h v1 x1 fun v2 => LdR h o 8 1 fun v3 => AlI h v3 x2 fun v4 => LdR h o 8 1 fun v5 => AlI h v5 x3 fun v6 => RnL E X8_bit (dd, 0, 0) [.int x1, .int x2, .int x3] h (fun v7 h7 => RnL E X8_bit (dd, 0, 0) [.int v2, .int x3, .int x2] h7 (fun v8 h8 => RnL E X8_bit (dd, 0, 0) [.int x3, .int v4, .int x1] h8 (fun v9 h9 => RnL E X8_bit (dd, 0, 0) [.int v4, .int v2, .int v6] h9 (fun v10 h10 => RnL E X8_bit (dd, 0, 0) [.int x2, .int v6, .int v2] h10 (fun v11 h11 => RnL E X8_bit (dd, 0, 0) [.int v6, .int x1, .int v4] h11 (fun v12 h12 => K (((((v7 ||| v8) ||| v9) ||| v10) ||| v11) ||| v12) h12))))))) : RnL E mX8_turns (dd + 1, 0, 0) [.ref o, .int x1, .int x2, .int x3] h K := by
  show gk_G E mX8_turns (dd + 1, 0, 0) 0 [(0, .ref o), (1, .int x1), (2, .int x2), (3, .int x3)] [] h (fun o h1 => ∃ v, o = some (.long v) ∧ K v h1)
  refine gk_aload_n (pc := 0) (DX8_turns_0.at 0 rfl) 0 rfl rfl ?_
  obtain ⟨fs1, v1, q1, r1, hv⟩ := hv
  refine gk_get (pc := 1) (.ref v1) (DX8_turns_0.at 1 rfl) fX8_15_8 q1 r1 ?_
  refine gk_iload_n (pc := 4) (DX8_turns_0.at 2 rfl) 1 rfl rfl ?_
  obtain ⟨n2, f2, q2, r2, hv⟩ := hv
  refine gk_iald (pc := 5) (DX8_turns_0.at 3 rfl) q2 r2 ?_
  generalize f2 _ = v2 at hv ⊢
  refine gk_istore (pc := 6) [(4, .int v2), (0, .ref o), (1, .int x1), (2, .int x2), (3, .int x3)] (DX8_turns_0.at 4 rfl) (Nat.le_of_ble_eq_true rfl) rfl ?_
  refine gk_aload_n (pc := 8) (DX8_turns_0.at 5 rfl) 1 rfl rfl ?_
  obtain ⟨fs3, v3, q3, r3, hv⟩ := hv
  refine gk_get (pc := 9) (.ref v3) (DX8_turns_0.at 6 rfl) fX8_15_8 q3 r3 ?_
  refine gk_iload_n (pc := 12) (DX8_turns_0.at 7 rfl) 3 rfl rfl ?_
  obtain ⟨n4, f4, q4, r4, hv⟩ := hv
  refine gk_iald (pc := 13) (DX8_turns_0.at 8 rfl) q4 r4 ?_
  generalize f4 _ = v4 at hv ⊢
  refine gk_istore (pc := 14) [(5, .int v4), (4, .int v2), (0, .ref o), (1, .int x1), (2, .int x2), (3, .int x3)] (DX8_turns_0.at 9 rfl) (Nat.le_of_ble_eq_true rfl) rfl ?_
  refine gk_aload_n (pc := 16) (DX8_turns_0.at 10 rfl) 2 rfl rfl ?_
  obtain ⟨fs5, v5, q5, r5, hv⟩ := hv
  refine gk_get (pc := 17) (.ref v5) (DX8_turns_0.at 11 rfl) fX8_15_8 q5 r5 ?_
  refine gk_iload_n (pc := 20) (DX8_turns_0.at 12 rfl) 5 rfl rfl ?_
  obtain ⟨n6, f6, q6, r6, hv⟩ := hv
  refine gk_iald (pc := 21) (DX8_turns_0.at 13 rfl) q6 r6 ?_
  generalize f6 _ = v6 at hv ⊢
  refine gk_istore (pc := 22) [(6, .int v6), (5, .int v4), (4, .int v2), (0, .ref o), (1, .int x1), (2, .int x2), (3, .int x3)] (DX8_turns_0.at 14 rfl) (Nat.le_of_ble_eq_true rfl) rfl ?_
  refine gk_iload_n (pc := 24) (DX8_turns_0.at 15 rfl) 4 rfl rfl ?_
  refine gk_iload_n (pc := 25) (DX8_turns_0.at 16 rfl) 5 rfl rfl ?_
  refine gk_iload_n (pc := 26) (DX8_turns_0.at 17 rfl) 6 rfl rfl ?_
  refine gk_vS (pc := 27) [.int x1, .int x2, .int x3] [] (DX8_turns_0.at 18 rfl) csX8_33 rfl rfl (Nat.le_of_ble_eq_true rfl) (Nat.le_of_ble_eq_true rfl) (gk_Run.post (fun o h7 z => ?_) hv)
  obtain ⟨v7, rfl, hv⟩ := z
  refine gk_iload (pc := 30) (DX8_turns_0.at 19 rfl) 2 rfl ?_
  refine gk_iload_n (pc := 32) (DX8_turns_0.at 20 rfl) 6 rfl rfl ?_
  refine gk_iload_n (pc := 33) (DX8_turns_0.at 21 rfl) 5 rfl rfl ?_
  refine gk_vS (pc := 34) [.int v2, .int x3, .int x2] [.long v7] (DX8_turns_0.at 22 rfl) csX8_33 rfl rfl (Nat.le_of_ble_eq_true rfl) (Nat.le_of_ble_eq_true rfl) (gk_Run.post (fun o h8 z => ?_) hv)
  obtain ⟨v8, rfl, hv⟩ := z
  refine gk_lor (pc := 37) (DX8_turns_0.at 23 rfl) ?_
  refine gk_iload_n (pc := 38) (DX8_turns_0.at 24 rfl) 6 rfl rfl ?_
  refine gk_iload (pc := 39) (DX8_turns_0.at 25 rfl) 1 rfl ?_
  refine gk_iload_n (pc := 41) (DX8_turns_0.at 26 rfl) 4 rfl rfl ?_
  refine gk_vS (pc := 42) [.int x3, .int v4, .int x1] [.long (v7 ||| v8)] (DX8_turns_0.at 27 rfl) csX8_33 rfl rfl (Nat.le_of_ble_eq_true rfl) (Nat.le_of_ble_eq_true rfl) (gk_Run.post (fun o h9 z => ?_) hv)
  obtain ⟨v9, rfl, hv⟩ := z
  refine gk_lor (pc := 45) (DX8_turns_0.at 28 rfl) ?_
  refine gk_iload (pc := 46) (DX8_turns_0.at 29 rfl) 1 rfl ?_
  refine gk_iload (pc := 48) (DX8_turns_0.at 30 rfl) 2 rfl ?_
  refine gk_iload (pc := 50) (DX8_turns_0.at 31 rfl) 0 rfl ?_
  refine gk_vS (pc := 52) [.int v4, .int v2, .int v6] [.long ((v7 ||| v8) ||| v9)] (DX8_turns_0.at 32 rfl) csX8_33 rfl rfl (Nat.le_of_ble_eq_true rfl) (Nat.le_of_ble_eq_true rfl) (gk_Run.post (fun o h10 z => ?_) hv)
  obtain ⟨v10, rfl, hv⟩ := z
  refine gk_lor (pc := 55) (DX8_turns_0.at 33 rfl) ?_
  refine gk_iload_n (pc := 56) (DX8_turns_0.at 34 rfl) 5 rfl rfl ?_
  refine gk_iload (pc := 57) (DX8_turns_0.at 35 rfl) 0 rfl ?_
  refine gk_iload (pc := 59) (DX8_turns_0.at 36 rfl) 2 rfl ?_
  refine gk_vS (pc := 61) [.int x2, .int v6, .int v2] [.long (((v7 ||| v8) ||| v9) ||| v10)] (DX8_turns_0.at 37 rfl) csX8_33 rfl rfl (Nat.le_of_ble_eq_true rfl) (Nat.le_of_ble_eq_true rfl) (gk_Run.post (fun o h11 z => ?_) hv)
  obtain ⟨v11, rfl, hv⟩ := z
  refine gk_lor (pc := 64) (DX8_turns_0.at 38 rfl) ?_
  refine gk_iload (pc := 65) (DX8_turns_0.at 39 rfl) 0 rfl ?_
  refine gk_iload_n (pc := 67) (DX8_turns_0.at 40 rfl) 4 rfl rfl ?_
  refine gk_iload (pc := 68) (DX8_turns_0.at 41 rfl) 1 rfl ?_
  refine gk_vS (pc := 70) [.int v6, .int x1, .int v4] [.long ((((v7 ||| v8) ||| v9) ||| v10) ||| v11)] (DX8_turns_0.at 42 rfl) csX8_33 rfl rfl (Nat.le_of_ble_eq_true rfl) (Nat.le_of_ble_eq_true rfl) (gk_Run.post (fun o h12 z => ?_) hv)
  obtain ⟨v12, rfl, hv⟩ := z
  refine gk_lor (pc := 73) (DX8_turns_0.at 43 rfl) ?_
  exact gk_lreturn (pc := 74) (DX8_turns_0.at 44 rfl) rfl ⟨_, rfl, hv⟩
abbrev pX8_unbalanced_4 (E : gk_E) (dd : Nat) (o : Nat) (x1 : Int32) (x2 : Int32) (x3 : Int32) (h : gk_H) (K : Int32 → gk_H → Prop) : Prop := gk_G E mX8_unbalanced (dd + 1, 0, 0) 4 [(0, .ref o), (1, .int x1), (2, .int x2), (3, .int x3)] [] h (fun o h1 => ∃ v, o = some (.int v) ∧ K v h1)
abbrev pX8_unbalanced_15 (E : gk_E) (dd : Nat) (o : Nat) (x1 : Int32) (x2 : Int32) (x3 : Int32) (x4 : Int32) (h : gk_H) (K : Int32 → gk_H → Prop) : Prop := gk_G E mX8_unbalanced (dd + 1, 0, 0) 15 [(0, .ref o), (1, .int x1), (2, .int x2), (3, .int x3), (4, .int x4)] [] h (fun o h1 => ∃ v, o = some (.int v) ∧ K v h1)
abbrev pX8_unbalanced_27 (E : gk_E) (dd : Nat) (o : Nat) (x1 : Int32) (x2 : Int32) (x3 : Int32) (x4 : Int32) (x5 : Int32) (h : gk_H) (K : Int32 → gk_H → Prop) : Prop := gk_G E mX8_unbalanced (dd + 1, 0, 0) 27 [(0, .ref o), (1, .int x1), (2, .int x2), (3, .int x3), (4, .int x4), (5, .int x5)] [] h (fun o h1 => ∃ v, o = some (.int v) ∧ K v h1)
set_option maxHeartbeats 4000000 in
theorem vX8_unbalanced_0 {E : gk_E} {dd : Nat} {o : Nat} {x1 : Int32}  {h : gk_H} {K : Int32 → gk_H → Prop} (hv : pX8_unbalanced_4 E dd o x1 (nI 0) (nI 0) h K) : RnI E mX8_unbalanced (dd + 1, 0, 0) [.ref o, .int x1] h K := by
  show gk_G E mX8_unbalanced (dd + 1, 0, 0) 0 [(0, .ref o), (1, .int x1)] [] h (fun o h1 => ∃ v, o = some (.int v) ∧ K v h1)
  refine gk_iconst (pc := 0) (nI 0) (DX8_unbalanced_0.at 0 rfl) ci_0 ?_
  refine gk_istore_n (pc := 1) [(2, .int (nI 0)), (0, .ref o), (1, .int x1)] (DX8_unbalanced_0.at 1 rfl) rfl (Nat.le_of_ble_eq_true rfl) rfl ?_
  refine gk_iconst (pc := 2) (nI 0) (DX8_unbalanced_0.at 2 rfl) ci_0 ?_
  refine gk_istore_n (pc := 3) [(3, .int (nI 0)), (2, .int (nI 0)), (0, .ref o), (1, .int x1)] (DX8_unbalanced_0.at 3 rfl) rfl (Nat.le_of_ble_eq_true rfl) rfl ?_
  exact gk_pick (pc := 4) [(0, .ref o), (1, .int x1), (2, .int (nI 0)), (3, .int (nI 0))] [2, 3, 1, 0] rfl hv
set_option maxHeartbeats 4000000 in
theorem vX8_unbalanced_4 {E : gk_E} {dd : Nat} {o : Nat} {x1 : Int32} {x2 : Int32} {x3 : Int32}  {h : gk_H} {K : Int32 → gk_H → Prop} (hv : LdI h o 8 0 fun v1 => (v1 ≤ x3 → (x1 = 0 → K ((-5)) h) ∧ (¬ x1 = 0 → K x2 h)) ∧ (¬ v1 ≤ x3 → pX8_unbalanced_15 E dd o x1 x2 x3 (nI 0) h K)) : pX8_unbalanced_4 E dd o x1 x2 x3 h K := by
  show gk_G E mX8_unbalanced (dd + 1, 0, 0) 4 [(0, .ref o), (1, .int x1), (2, .int x2), (3, .int x3)] [] h (fun o h1 => ∃ v, o = some (.int v) ∧ K v h1)
  refine gk_iload_n (pc := 4) (DX8_unbalanced_0.at 4 rfl) 3 rfl rfl ?_
  refine gk_aload_n (pc := 5) (DX8_unbalanced_0.at 5 rfl) 0 rfl rfl ?_
  obtain ⟨fs1, v1, q1, r1, hv⟩ := hv
  refine gk_get (pc := 6) (.int v1) (DX8_unbalanced_0.at 6 rfl) fX8_9_8 q1 r1 ?_
  refine gk_icmp_ge (pc := 9) 87 (DX8_unbalanced_0.at 7 rfl) (by decide) (fun c => ?_) (fun c => ?_)
  · replace hv := hv.1 c
    refine gk_iload_n (pc := 87) (DX8_unbalanced_0.at 45 rfl) 1 rfl rfl ?_
    refine gk_if_eq (pc := 88) 95 (DX8_unbalanced_0.at 46 rfl) (by decide) (fun c => ?_) (fun c => ?_)
    · replace hv := hv.1 c
      refine gk_bipush (pc := 95) ((-5)) (DX8_unbalanced_0.at 49 rfl) cb_m5 ?_
      exact gk_ireturn (pc := 97) .int (DX8_unbalanced_0.at 50 rfl) rfl rfl ⟨_, rfl, hv⟩
    · replace hv := hv.2 c
      refine gk_iload_n (pc := 91) (DX8_unbalanced_0.at 47 rfl) 2 rfl rfl ?_
      refine gk_goto (pc := 92) 97 (DX8_unbalanced_0.at 48 rfl) (by decide) ?_
      exact gk_ireturn (pc := 97) .int (DX8_unbalanced_0.at 50 rfl) rfl rfl ⟨_, rfl, hv⟩
  · replace hv := hv.2 c
    refine gk_iconst (pc := 12) (nI 0) (DX8_unbalanced_0.at 8 rfl) ci_0 ?_
    refine gk_istore (pc := 13) [(4, .int (nI 0)), (0, .ref o), (1, .int x1), (2, .int x2), (3, .int x3)] (DX8_unbalanced_0.at 9 rfl) (Nat.le_of_ble_eq_true rfl) rfl ?_
    exact gk_pick (pc := 15) [(0, .ref o), (1, .int x1), (2, .int x2), (3, .int x3), (4, .int (nI 0))] [1, 2, 3, 4, 0] rfl hv
set_option maxHeartbeats 4000000 in
theorem vX8_unbalanced_15 {E : gk_E} {dd : Nat} {o : Nat} {x1 : Int32} {x2 : Int32} {x3 : Int32} {x4 : Int32}  {h : gk_H} {K : Int32 → gk_H → Prop} (hv : LdI h o 8 0 fun v1 => (v1 ≤ x4 → pX8_unbalanced_4 E dd o x1 x2 (x3 + nI 1) h K) ∧ (¬ v1 ≤ x4 → pX8_unbalanced_27 E dd o x1 x2 x3 x4 (nI 0) h K)) : pX8_unbalanced_15 E dd o x1 x2 x3 x4 h K := by
  show gk_G E mX8_unbalanced (dd + 1, 0, 0) 15 [(0, .ref o), (1, .int x1), (2, .int x2), (3, .int x3), (4, .int x4)] [] h (fun o h1 => ∃ v, o = some (.int v) ∧ K v h1)
  refine gk_iload (pc := 15) (DX8_unbalanced_0.at 10 rfl) 4 rfl ?_
  refine gk_aload_n (pc := 17) (DX8_unbalanced_0.at 11 rfl) 0 rfl rfl ?_
  obtain ⟨fs1, v1, q1, r1, hv⟩ := hv
  refine gk_get (pc := 18) (.int v1) (DX8_unbalanced_0.at 12 rfl) fX8_9_8 q1 r1 ?_
  refine gk_icmp_ge (pc := 21) 81 (DX8_unbalanced_0.at 13 rfl) (by decide) (fun c => ?_) (fun c => ?_)
  · replace hv := hv.1 c
    refine gk_iinc (pc := 81) (x3 + nI 1) [(3, .int (x3 + nI 1)), (0, .ref o), (1, .int x1), (2, .int x2), (4, .int x4)] 3 (DX8_unbalanced_0.at 43 rfl) rfl (by rw [ci_1]) (Nat.le_of_ble_eq_true rfl) rfl ?_
    refine gk_goto (pc := 84) 4 (DX8_unbalanced_0.at 44 rfl) (by decide) ?_
    exact gk_pick (pc := 4) [(0, .ref o), (1, .int x1), (2, .int x2), (3, .int (x3 + nI 1))] [1, 2, 3, 0] rfl hv
  · replace hv := hv.2 c
    refine gk_iconst (pc := 24) (nI 0) (DX8_unbalanced_0.at 14 rfl) ci_0 ?_
    refine gk_istore (pc := 25) [(5, .int (nI 0)), (0, .ref o), (1, .int x1), (2, .int x2), (3, .int x3), (4, .int x4)] (DX8_unbalanced_0.at 15 rfl) (Nat.le_of_ble_eq_true rfl) rfl ?_
    exact gk_pick (pc := 27) [(0, .ref o), (1, .int x1), (2, .int x2), (3, .int x3), (4, .int x4), (5, .int (nI 0))] [1, 2, 3, 4, 5, 0] rfl hv
set_option maxHeartbeats 4000000 in
theorem vX8_unbalanced_27 {E : gk_E} {dd : Nat} {o : Nat} {x1 : Int32} {x2 : Int32} {x3 : Int32} {x4 : Int32} {x5 : Int32}  {h : gk_H} {K : Int32 → gk_H → Prop} (hv : LdI h o 8 0 fun v1 => (v1 ≤ x5 → pX8_unbalanced_15 E dd o x1 x2 x3 (x4 + nI 1) h K) ∧ (¬ v1 ≤ x5 → (∃ fs, h[o]? = some (.inr (8, fs))) ∧ RnI E mX8_isUnbalanced (dd, 0, 0) [.ref o, .int x3, .int x4, .int x5] h (fun v2 h2 => (v2 = 0 → pX8_unbalanced_27 E dd o x1 x2 x3 x4 (x5 + nI 1) h2 K) ∧ (¬ v2 = 0 → (¬ x1 = 0 → pX8_unbalanced_27 E dd o x1 (x2 + nI 1) x3 x4 (x5 + nI 1) h2 K) ∧ (x1 = 0 → K ((((nI 100) * x3) + ((nI 10) * x4)) + x5) h2))))) : pX8_unbalanced_27 E dd o x1 x2 x3 x4 x5 h K := by
  show gk_G E mX8_unbalanced (dd + 1, 0, 0) 27 [(0, .ref o), (1, .int x1), (2, .int x2), (3, .int x3), (4, .int x4), (5, .int x5)] [] h (fun o h1 => ∃ v, o = some (.int v) ∧ K v h1)
  refine gk_iload (pc := 27) (DX8_unbalanced_0.at 16 rfl) 5 rfl ?_
  refine gk_aload_n (pc := 29) (DX8_unbalanced_0.at 17 rfl) 0 rfl rfl ?_
  obtain ⟨fs1, v1, q1, r1, hv⟩ := hv
  refine gk_get (pc := 30) (.int v1) (DX8_unbalanced_0.at 18 rfl) fX8_9_8 q1 r1 ?_
  refine gk_icmp_ge (pc := 33) 75 (DX8_unbalanced_0.at 19 rfl) (by decide) (fun c => ?_) (fun c => ?_)
  · replace hv := hv.1 c
    refine gk_iinc (pc := 75) (x4 + nI 1) [(4, .int (x4 + nI 1)), (0, .ref o), (1, .int x1), (2, .int x2), (3, .int x3), (5, .int x5)] 4 (DX8_unbalanced_0.at 41 rfl) rfl (by rw [ci_1]) (Nat.le_of_ble_eq_true rfl) rfl ?_
    refine gk_goto (pc := 78) 15 (DX8_unbalanced_0.at 42 rfl) (by decide) ?_
    exact gk_pick (pc := 15) [(0, .ref o), (1, .int x1), (2, .int x2), (3, .int x3), (4, .int (x4 + nI 1))] [1, 2, 3, 4, 0] rfl hv
  · replace hv := hv.2 c
    refine gk_aload_n (pc := 36) (DX8_unbalanced_0.at 20 rfl) 0 rfl rfl ?_
    refine gk_iload_n (pc := 37) (DX8_unbalanced_0.at 21 rfl) 3 rfl rfl ?_
    refine gk_iload (pc := 38) (DX8_unbalanced_0.at 22 rfl) 4 rfl ?_
    refine gk_iload (pc := 40) (DX8_unbalanced_0.at 23 rfl) 5 rfl ?_
    obtain ⟨⟨fs2, q2⟩, hv⟩ := hv
    refine gk_vV (pc := 42) [.int x3, .int x4, .int x5] [] (DX8_unbalanced_0.at 24 rfl) cvX8_64 q2 rfl rfl (Nat.le_of_ble_eq_true rfl) (Nat.le_of_ble_eq_true rfl) (gk_Run.post (fun o h2 z => ?_) hv)
    obtain ⟨v2, rfl, hv⟩ := z
    refine gk_if_eq (pc := 45) 69 (DX8_unbalanced_0.at 25 rfl) (by decide) (fun c => ?_) (fun c => ?_)
    · replace hv := hv.1 c
      refine gk_iinc (pc := 69) (x5 + nI 1) [(5, .int (x5 + nI 1)), (0, .ref o), (1, .int x1), (2, .int x2), (3, .int x3), (4, .int x4)] 5 (DX8_unbalanced_0.at 39 rfl) rfl (by rw [ci_1]) (Nat.le_of_ble_eq_true rfl) rfl ?_
      refine gk_goto (pc := 72) 27 (DX8_unbalanced_0.at 40 rfl) (by decide) ?_
      exact gk_pick (pc := 27) [(0, .ref o), (1, .int x1), (2, .int x2), (3, .int x3), (4, .int x4), (5, .int (x5 + nI 1))] [1, 2, 3, 4, 5, 0] rfl hv
    · replace hv := hv.2 c
      refine gk_iload_n (pc := 48) (DX8_unbalanced_0.at 26 rfl) 1 rfl rfl ?_
      refine gk_if_ne (pc := 49) 66 (DX8_unbalanced_0.at 27 rfl) (by decide) (fun c => ?_) (fun c => ?_)
      · replace hv := hv.1 c
        refine gk_iinc (pc := 66) (x2 + nI 1) [(2, .int (x2 + nI 1)), (0, .ref o), (1, .int x1), (3, .int x3), (4, .int x4), (5, .int x5)] 2 (DX8_unbalanced_0.at 38 rfl) rfl (by rw [ci_1]) (Nat.le_of_ble_eq_true rfl) rfl ?_
        refine gk_iinc (pc := 69) (x5 + nI 1) [(5, .int (x5 + nI 1)), (2, .int (x2 + nI 1)), (0, .ref o), (1, .int x1), (3, .int x3), (4, .int x4)] 5 (DX8_unbalanced_0.at 39 rfl) rfl (by rw [ci_1]) (Nat.le_of_ble_eq_true rfl) rfl ?_
        refine gk_goto (pc := 72) 27 (DX8_unbalanced_0.at 40 rfl) (by decide) ?_
        exact gk_pick (pc := 27) [(0, .ref o), (1, .int x1), (2, .int (x2 + nI 1)), (3, .int x3), (4, .int x4), (5, .int (x5 + nI 1))] [2, 3, 1, 4, 5, 0] rfl hv
      · replace hv := hv.2 c
        refine gk_bipush (pc := 52) (nI 100) (DX8_unbalanced_0.at 28 rfl) cb_100 ?_
        refine gk_iload_n (pc := 54) (DX8_unbalanced_0.at 29 rfl) 3 rfl rfl ?_
        refine gk_imul (pc := 55) (DX8_unbalanced_0.at 30 rfl) ?_
        refine gk_bipush (pc := 56) (nI 10) (DX8_unbalanced_0.at 31 rfl) cb_10 ?_
        refine gk_iload (pc := 58) (DX8_unbalanced_0.at 32 rfl) 4 rfl ?_
        refine gk_imul (pc := 60) (DX8_unbalanced_0.at 33 rfl) ?_
        refine gk_iadd (pc := 61) (DX8_unbalanced_0.at 34 rfl) ?_
        refine gk_iload (pc := 62) (DX8_unbalanced_0.at 35 rfl) 5 rfl ?_
        refine gk_iadd (pc := 64) (DX8_unbalanced_0.at 36 rfl) ?_
        exact gk_ireturn (pc := 65) .int (DX8_unbalanced_0.at 37 rfl) rfl rfl ⟨_, rfl, hv⟩
set_option maxHeartbeats 4000000 in
theorem vJ13_bitCount_95d88_0 {E : gk_E} {dd : Nat} {x0 : Int64}  {h : gk_H} {K : Int32 → gk_H → Prop} (hv : K ((((((((((x0 - (((x0.toUInt64 >>> ((nI 1).toInt64.toUInt64 &&& Int64.toUInt64 63)).toInt64) &&& (lN 6148914691236517205))) &&& (lN 3689348814741910323)) + ((((x0 - (((x0.toUInt64 >>> ((nI 1).toInt64.toUInt64 &&& Int64.toUInt64 63)).toInt64) &&& (lN 6148914691236517205))).toUInt64 >>> ((nI 2).toInt64.toUInt64 &&& Int64.toUInt64 63)).toInt64) &&& (lN 3689348814741910323))) + (((((x0 - (((x0.toUInt64 >>> ((nI 1).toInt64.toUInt64 &&& Int64.toUInt64 63)).toInt64) &&& (lN 6148914691236517205))) &&& (lN 3689348814741910323)) + ((((x0 - (((x0.toUInt64 >>> ((nI 1).toInt64.toUInt64 &&& Int64.toUInt64 63)).toInt64) &&& (lN 6148914691236517205))).toUInt64 >>> ((nI 2).toInt64.toUInt64 &&& Int64.toUInt64 63)).toInt64) &&& (lN 3689348814741910323))).toUInt64 >>> ((nI 4).toInt64.toUInt64 &&& Int64.toUInt64 63)).toInt64)) &&& (lN 1085102592571150095)) + (((((((x0 - (((x0.toUInt64 >>> ((nI 1).toInt64.toUInt64 &&& Int64.toUInt64 63)).toInt64) &&& (lN 6148914691236517205))) &&& (lN 3689348814741910323)) + ((((x0 - (((x0.toUInt64 >>> ((nI 1).toInt64.toUInt64 &&& Int64.toUInt64 63)).toInt64) &&& (lN 6148914691236517205))).toUInt64 >>> ((nI 2).toInt64.toUInt64 &&& Int64.toUInt64 63)).toInt64) &&& (lN 3689348814741910323))) + (((((x0 - (((x0.toUInt64 >>> ((nI 1).toInt64.toUInt64 &&& Int64.toUInt64 63)).toInt64) &&& (lN 6148914691236517205))) &&& (lN 3689348814741910323)) + ((((x0 - (((x0.toUInt64 >>> ((nI 1).toInt64.toUInt64 &&& Int64.toUInt64 63)).toInt64) &&& (lN 6148914691236517205))).toUInt64 >>> ((nI 2).toInt64.toUInt64 &&& Int64.toUInt64 63)).toInt64) &&& (lN 3689348814741910323))).toUInt64 >>> ((nI 4).toInt64.toUInt64 &&& Int64.toUInt64 63)).toInt64)) &&& (lN 1085102592571150095)).toUInt64 >>> ((nI 8).toInt64.toUInt64 &&& Int64.toUInt64 63)).toInt64)) + ((((((((x0 - (((x0.toUInt64 >>> ((nI 1).toInt64.toUInt64 &&& Int64.toUInt64 63)).toInt64) &&& (lN 6148914691236517205))) &&& (lN 3689348814741910323)) + ((((x0 - (((x0.toUInt64 >>> ((nI 1).toInt64.toUInt64 &&& Int64.toUInt64 63)).toInt64) &&& (lN 6148914691236517205))).toUInt64 >>> ((nI 2).toInt64.toUInt64 &&& Int64.toUInt64 63)).toInt64) &&& (lN 3689348814741910323))) + (((((x0 - (((x0.toUInt64 >>> ((nI 1).toInt64.toUInt64 &&& Int64.toUInt64 63)).toInt64) &&& (lN 6148914691236517205))) &&& (lN 3689348814741910323)) + ((((x0 - (((x0.toUInt64 >>> ((nI 1).toInt64.toUInt64 &&& Int64.toUInt64 63)).toInt64) &&& (lN 6148914691236517205))).toUInt64 >>> ((nI 2).toInt64.toUInt64 &&& Int64.toUInt64 63)).toInt64) &&& (lN 3689348814741910323))).toUInt64 >>> ((nI 4).toInt64.toUInt64 &&& Int64.toUInt64 63)).toInt64)) &&& (lN 1085102592571150095)) + (((((((x0 - (((x0.toUInt64 >>> ((nI 1).toInt64.toUInt64 &&& Int64.toUInt64 63)).toInt64) &&& (lN 6148914691236517205))) &&& (lN 3689348814741910323)) + ((((x0 - (((x0.toUInt64 >>> ((nI 1).toInt64.toUInt64 &&& Int64.toUInt64 63)).toInt64) &&& (lN 6148914691236517205))).toUInt64 >>> ((nI 2).toInt64.toUInt64 &&& Int64.toUInt64 63)).toInt64) &&& (lN 3689348814741910323))) + (((((x0 - (((x0.toUInt64 >>> ((nI 1).toInt64.toUInt64 &&& Int64.toUInt64 63)).toInt64) &&& (lN 6148914691236517205))) &&& (lN 3689348814741910323)) + ((((x0 - (((x0.toUInt64 >>> ((nI 1).toInt64.toUInt64 &&& Int64.toUInt64 63)).toInt64) &&& (lN 6148914691236517205))).toUInt64 >>> ((nI 2).toInt64.toUInt64 &&& Int64.toUInt64 63)).toInt64) &&& (lN 3689348814741910323))).toUInt64 >>> ((nI 4).toInt64.toUInt64 &&& Int64.toUInt64 63)).toInt64)) &&& (lN 1085102592571150095)).toUInt64 >>> ((nI 8).toInt64.toUInt64 &&& Int64.toUInt64 63)).toInt64)).toUInt64 >>> ((nI 16).toInt64.toUInt64 &&& Int64.toUInt64 63)).toInt64)) + (((((((((x0 - (((x0.toUInt64 >>> ((nI 1).toInt64.toUInt64 &&& Int64.toUInt64 63)).toInt64) &&& (lN 6148914691236517205))) &&& (lN 3689348814741910323)) + ((((x0 - (((x0.toUInt64 >>> ((nI 1).toInt64.toUInt64 &&& Int64.toUInt64 63)).toInt64) &&& (lN 6148914691236517205))).toUInt64 >>> ((nI 2).toInt64.toUInt64 &&& Int64.toUInt64 63)).toInt64) &&& (lN 3689348814741910323))) + (((((x0 - (((x0.toUInt64 >>> ((nI 1).toInt64.toUInt64 &&& Int64.toUInt64 63)).toInt64) &&& (lN 6148914691236517205))) &&& (lN 3689348814741910323)) + ((((x0 - (((x0.toUInt64 >>> ((nI 1).toInt64.toUInt64 &&& Int64.toUInt64 63)).toInt64) &&& (lN 6148914691236517205))).toUInt64 >>> ((nI 2).toInt64.toUInt64 &&& Int64.toUInt64 63)).toInt64) &&& (lN 3689348814741910323))).toUInt64 >>> ((nI 4).toInt64.toUInt64 &&& Int64.toUInt64 63)).toInt64)) &&& (lN 1085102592571150095)) + (((((((x0 - (((x0.toUInt64 >>> ((nI 1).toInt64.toUInt64 &&& Int64.toUInt64 63)).toInt64) &&& (lN 6148914691236517205))) &&& (lN 3689348814741910323)) + ((((x0 - (((x0.toUInt64 >>> ((nI 1).toInt64.toUInt64 &&& Int64.toUInt64 63)).toInt64) &&& (lN 6148914691236517205))).toUInt64 >>> ((nI 2).toInt64.toUInt64 &&& Int64.toUInt64 63)).toInt64) &&& (lN 3689348814741910323))) + (((((x0 - (((x0.toUInt64 >>> ((nI 1).toInt64.toUInt64 &&& Int64.toUInt64 63)).toInt64) &&& (lN 6148914691236517205))) &&& (lN 3689348814741910323)) + ((((x0 - (((x0.toUInt64 >>> ((nI 1).toInt64.toUInt64 &&& Int64.toUInt64 63)).toInt64) &&& (lN 6148914691236517205))).toUInt64 >>> ((nI 2).toInt64.toUInt64 &&& Int64.toUInt64 63)).toInt64) &&& (lN 3689348814741910323))).toUInt64 >>> ((nI 4).toInt64.toUInt64 &&& Int64.toUInt64 63)).toInt64)) &&& (lN 1085102592571150095)).toUInt64 >>> ((nI 8).toInt64.toUInt64 &&& Int64.toUInt64 63)).toInt64)) + ((((((((x0 - (((x0.toUInt64 >>> ((nI 1).toInt64.toUInt64 &&& Int64.toUInt64 63)).toInt64) &&& (lN 6148914691236517205))) &&& (lN 3689348814741910323)) + ((((x0 - (((x0.toUInt64 >>> ((nI 1).toInt64.toUInt64 &&& Int64.toUInt64 63)).toInt64) &&& (lN 6148914691236517205))).toUInt64 >>> ((nI 2).toInt64.toUInt64 &&& Int64.toUInt64 63)).toInt64) &&& (lN 3689348814741910323))) + (((((x0 - (((x0.toUInt64 >>> ((nI 1).toInt64.toUInt64 &&& Int64.toUInt64 63)).toInt64) &&& (lN 6148914691236517205))) &&& (lN 3689348814741910323)) + ((((x0 - (((x0.toUInt64 >>> ((nI 1).toInt64.toUInt64 &&& Int64.toUInt64 63)).toInt64) &&& (lN 6148914691236517205))).toUInt64 >>> ((nI 2).toInt64.toUInt64 &&& Int64.toUInt64 63)).toInt64) &&& (lN 3689348814741910323))).toUInt64 >>> ((nI 4).toInt64.toUInt64 &&& Int64.toUInt64 63)).toInt64)) &&& (lN 1085102592571150095)) + (((((((x0 - (((x0.toUInt64 >>> ((nI 1).toInt64.toUInt64 &&& Int64.toUInt64 63)).toInt64) &&& (lN 6148914691236517205))) &&& (lN 3689348814741910323)) + ((((x0 - (((x0.toUInt64 >>> ((nI 1).toInt64.toUInt64 &&& Int64.toUInt64 63)).toInt64) &&& (lN 6148914691236517205))).toUInt64 >>> ((nI 2).toInt64.toUInt64 &&& Int64.toUInt64 63)).toInt64) &&& (lN 3689348814741910323))) + (((((x0 - (((x0.toUInt64 >>> ((nI 1).toInt64.toUInt64 &&& Int64.toUInt64 63)).toInt64) &&& (lN 6148914691236517205))) &&& (lN 3689348814741910323)) + ((((x0 - (((x0.toUInt64 >>> ((nI 1).toInt64.toUInt64 &&& Int64.toUInt64 63)).toInt64) &&& (lN 6148914691236517205))).toUInt64 >>> ((nI 2).toInt64.toUInt64 &&& Int64.toUInt64 63)).toInt64) &&& (lN 3689348814741910323))).toUInt64 >>> ((nI 4).toInt64.toUInt64 &&& Int64.toUInt64 63)).toInt64)) &&& (lN 1085102592571150095)).toUInt64 >>> ((nI 8).toInt64.toUInt64 &&& Int64.toUInt64 63)).toInt64)).toUInt64 >>> ((nI 16).toInt64.toUInt64 &&& Int64.toUInt64 63)).toInt64)).toUInt64 >>> ((nI 32).toInt64.toUInt64 &&& Int64.toUInt64 63)).toInt64)).toInt32) &&& (nI 127)) h) : RnI E mJ13_bitCount_95d88 (dd, 0, 0) [.long x0] h K := by
  show gk_G E mJ13_bitCount_95d88 (dd, 0, 0) 0 [(0, .long x0)] [] h (fun o h1 => ∃ v, o = some (.int v) ∧ K v h1)
  refine gk_lload_n (pc := 0) (DJ13_bitCount_95d88_0.at 0 rfl) 0 rfl rfl ?_
  refine gk_lload_n (pc := 1) (DJ13_bitCount_95d88_0.at 1 rfl) 0 rfl rfl ?_
  refine gk_iconst (pc := 2) (nI 1) (DJ13_bitCount_95d88_0.at 2 rfl) ci_1 ?_
  refine gk_lushr (pc := 3) (DJ13_bitCount_95d88_0.at 3 rfl) ?_
  refine gk_ldc2 (pc := 4) (lN 6148914691236517205) (DJ13_bitCount_95d88_0.at 4 rfl) klJ13_314 ?_
  refine gk_land (pc := 7) (DJ13_bitCount_95d88_0.at 5 rfl) ?_
  refine gk_lsub (pc := 8) (DJ13_bitCount_95d88_0.at 6 rfl) ?_
  refine gk_lstore_n (pc := 9) [(0, .long (x0 - (((x0.toUInt64 >>> ((nI 1).toInt64.toUInt64 &&& Int64.toUInt64 63)).toInt64) &&& (lN 6148914691236517205))))] (DJ13_bitCount_95d88_0.at 7 rfl) rfl (Nat.le_of_ble_eq_true rfl) rfl ?_
  refine gk_lload_n (pc := 10) (DJ13_bitCount_95d88_0.at 8 rfl) 0 rfl rfl ?_
  refine gk_ldc2 (pc := 11) (lN 3689348814741910323) (DJ13_bitCount_95d88_0.at 9 rfl) klJ13_316 ?_
  refine gk_land (pc := 14) (DJ13_bitCount_95d88_0.at 10 rfl) ?_
  refine gk_lload_n (pc := 15) (DJ13_bitCount_95d88_0.at 11 rfl) 0 rfl rfl ?_
  refine gk_iconst (pc := 16) (nI 2) (DJ13_bitCount_95d88_0.at 12 rfl) ci_2 ?_
  refine gk_lushr (pc := 17) (DJ13_bitCount_95d88_0.at 13 rfl) ?_
  refine gk_ldc2 (pc := 18) (lN 3689348814741910323) (DJ13_bitCount_95d88_0.at 14 rfl) klJ13_316 ?_
  refine gk_land (pc := 21) (DJ13_bitCount_95d88_0.at 15 rfl) ?_
  refine gk_ladd (pc := 22) (DJ13_bitCount_95d88_0.at 16 rfl) ?_
  refine gk_lstore_n (pc := 23) [(0, .long (((x0 - (((x0.toUInt64 >>> ((nI 1).toInt64.toUInt64 &&& Int64.toUInt64 63)).toInt64) &&& (lN 6148914691236517205))) &&& (lN 3689348814741910323)) + ((((x0 - (((x0.toUInt64 >>> ((nI 1).toInt64.toUInt64 &&& Int64.toUInt64 63)).toInt64) &&& (lN 6148914691236517205))).toUInt64 >>> ((nI 2).toInt64.toUInt64 &&& Int64.toUInt64 63)).toInt64) &&& (lN 3689348814741910323))))] (DJ13_bitCount_95d88_0.at 17 rfl) rfl (Nat.le_of_ble_eq_true rfl) rfl ?_
  refine gk_lload_n (pc := 24) (DJ13_bitCount_95d88_0.at 18 rfl) 0 rfl rfl ?_
  refine gk_lload_n (pc := 25) (DJ13_bitCount_95d88_0.at 19 rfl) 0 rfl rfl ?_
  refine gk_iconst (pc := 26) (nI 4) (DJ13_bitCount_95d88_0.at 20 rfl) ci_4 ?_
  refine gk_lushr (pc := 27) (DJ13_bitCount_95d88_0.at 21 rfl) ?_
  refine gk_ladd (pc := 28) (DJ13_bitCount_95d88_0.at 22 rfl) ?_
  refine gk_ldc2 (pc := 29) (lN 1085102592571150095) (DJ13_bitCount_95d88_0.at 23 rfl) klJ13_318 ?_
  refine gk_land (pc := 32) (DJ13_bitCount_95d88_0.at 24 rfl) ?_
  refine gk_lstore_n (pc := 33) [(0, .long (((((x0 - (((x0.toUInt64 >>> ((nI 1).toInt64.toUInt64 &&& Int64.toUInt64 63)).toInt64) &&& (lN 6148914691236517205))) &&& (lN 3689348814741910323)) + ((((x0 - (((x0.toUInt64 >>> ((nI 1).toInt64.toUInt64 &&& Int64.toUInt64 63)).toInt64) &&& (lN 6148914691236517205))).toUInt64 >>> ((nI 2).toInt64.toUInt64 &&& Int64.toUInt64 63)).toInt64) &&& (lN 3689348814741910323))) + (((((x0 - (((x0.toUInt64 >>> ((nI 1).toInt64.toUInt64 &&& Int64.toUInt64 63)).toInt64) &&& (lN 6148914691236517205))) &&& (lN 3689348814741910323)) + ((((x0 - (((x0.toUInt64 >>> ((nI 1).toInt64.toUInt64 &&& Int64.toUInt64 63)).toInt64) &&& (lN 6148914691236517205))).toUInt64 >>> ((nI 2).toInt64.toUInt64 &&& Int64.toUInt64 63)).toInt64) &&& (lN 3689348814741910323))).toUInt64 >>> ((nI 4).toInt64.toUInt64 &&& Int64.toUInt64 63)).toInt64)) &&& (lN 1085102592571150095)))] (DJ13_bitCount_95d88_0.at 25 rfl) rfl (Nat.le_of_ble_eq_true rfl) rfl ?_
  refine gk_lload_n (pc := 34) (DJ13_bitCount_95d88_0.at 26 rfl) 0 rfl rfl ?_
  refine gk_lload_n (pc := 35) (DJ13_bitCount_95d88_0.at 27 rfl) 0 rfl rfl ?_
  refine gk_bipush (pc := 36) (nI 8) (DJ13_bitCount_95d88_0.at 28 rfl) cb_8 ?_
  refine gk_lushr (pc := 38) (DJ13_bitCount_95d88_0.at 29 rfl) ?_
  refine gk_ladd (pc := 39) (DJ13_bitCount_95d88_0.at 30 rfl) ?_
  refine gk_lstore_n (pc := 40) [(0, .long ((((((x0 - (((x0.toUInt64 >>> ((nI 1).toInt64.toUInt64 &&& Int64.toUInt64 63)).toInt64) &&& (lN 6148914691236517205))) &&& (lN 3689348814741910323)) + ((((x0 - (((x0.toUInt64 >>> ((nI 1).toInt64.toUInt64 &&& Int64.toUInt64 63)).toInt64) &&& (lN 6148914691236517205))).toUInt64 >>> ((nI 2).toInt64.toUInt64 &&& Int64.toUInt64 63)).toInt64) &&& (lN 3689348814741910323))) + (((((x0 - (((x0.toUInt64 >>> ((nI 1).toInt64.toUInt64 &&& Int64.toUInt64 63)).toInt64) &&& (lN 6148914691236517205))) &&& (lN 3689348814741910323)) + ((((x0 - (((x0.toUInt64 >>> ((nI 1).toInt64.toUInt64 &&& Int64.toUInt64 63)).toInt64) &&& (lN 6148914691236517205))).toUInt64 >>> ((nI 2).toInt64.toUInt64 &&& Int64.toUInt64 63)).toInt64) &&& (lN 3689348814741910323))).toUInt64 >>> ((nI 4).toInt64.toUInt64 &&& Int64.toUInt64 63)).toInt64)) &&& (lN 1085102592571150095)) + (((((((x0 - (((x0.toUInt64 >>> ((nI 1).toInt64.toUInt64 &&& Int64.toUInt64 63)).toInt64) &&& (lN 6148914691236517205))) &&& (lN 3689348814741910323)) + ((((x0 - (((x0.toUInt64 >>> ((nI 1).toInt64.toUInt64 &&& Int64.toUInt64 63)).toInt64) &&& (lN 6148914691236517205))).toUInt64 >>> ((nI 2).toInt64.toUInt64 &&& Int64.toUInt64 63)).toInt64) &&& (lN 3689348814741910323))) + (((((x0 - (((x0.toUInt64 >>> ((nI 1).toInt64.toUInt64 &&& Int64.toUInt64 63)).toInt64) &&& (lN 6148914691236517205))) &&& (lN 3689348814741910323)) + ((((x0 - (((x0.toUInt64 >>> ((nI 1).toInt64.toUInt64 &&& Int64.toUInt64 63)).toInt64) &&& (lN 6148914691236517205))).toUInt64 >>> ((nI 2).toInt64.toUInt64 &&& Int64.toUInt64 63)).toInt64) &&& (lN 3689348814741910323))).toUInt64 >>> ((nI 4).toInt64.toUInt64 &&& Int64.toUInt64 63)).toInt64)) &&& (lN 1085102592571150095)).toUInt64 >>> ((nI 8).toInt64.toUInt64 &&& Int64.toUInt64 63)).toInt64)))] (DJ13_bitCount_95d88_0.at 31 rfl) rfl (Nat.le_of_ble_eq_true rfl) rfl ?_
  refine gk_lload_n (pc := 41) (DJ13_bitCount_95d88_0.at 32 rfl) 0 rfl rfl ?_
  refine gk_lload_n (pc := 42) (DJ13_bitCount_95d88_0.at 33 rfl) 0 rfl rfl ?_
  refine gk_bipush (pc := 43) (nI 16) (DJ13_bitCount_95d88_0.at 34 rfl) cb_16 ?_
  refine gk_lushr (pc := 45) (DJ13_bitCount_95d88_0.at 35 rfl) ?_
  refine gk_ladd (pc := 46) (DJ13_bitCount_95d88_0.at 36 rfl) ?_
  refine gk_lstore_n (pc := 47) [(0, .long (((((((x0 - (((x0.toUInt64 >>> ((nI 1).toInt64.toUInt64 &&& Int64.toUInt64 63)).toInt64) &&& (lN 6148914691236517205))) &&& (lN 3689348814741910323)) + ((((x0 - (((x0.toUInt64 >>> ((nI 1).toInt64.toUInt64 &&& Int64.toUInt64 63)).toInt64) &&& (lN 6148914691236517205))).toUInt64 >>> ((nI 2).toInt64.toUInt64 &&& Int64.toUInt64 63)).toInt64) &&& (lN 3689348814741910323))) + (((((x0 - (((x0.toUInt64 >>> ((nI 1).toInt64.toUInt64 &&& Int64.toUInt64 63)).toInt64) &&& (lN 6148914691236517205))) &&& (lN 3689348814741910323)) + ((((x0 - (((x0.toUInt64 >>> ((nI 1).toInt64.toUInt64 &&& Int64.toUInt64 63)).toInt64) &&& (lN 6148914691236517205))).toUInt64 >>> ((nI 2).toInt64.toUInt64 &&& Int64.toUInt64 63)).toInt64) &&& (lN 3689348814741910323))).toUInt64 >>> ((nI 4).toInt64.toUInt64 &&& Int64.toUInt64 63)).toInt64)) &&& (lN 1085102592571150095)) + (((((((x0 - (((x0.toUInt64 >>> ((nI 1).toInt64.toUInt64 &&& Int64.toUInt64 63)).toInt64) &&& (lN 6148914691236517205))) &&& (lN 3689348814741910323)) + ((((x0 - (((x0.toUInt64 >>> ((nI 1).toInt64.toUInt64 &&& Int64.toUInt64 63)).toInt64) &&& (lN 6148914691236517205))).toUInt64 >>> ((nI 2).toInt64.toUInt64 &&& Int64.toUInt64 63)).toInt64) &&& (lN 3689348814741910323))) + (((((x0 - (((x0.toUInt64 >>> ((nI 1).toInt64.toUInt64 &&& Int64.toUInt64 63)).toInt64) &&& (lN 6148914691236517205))) &&& (lN 3689348814741910323)) + ((((x0 - (((x0.toUInt64 >>> ((nI 1).toInt64.toUInt64 &&& Int64.toUInt64 63)).toInt64) &&& (lN 6148914691236517205))).toUInt64 >>> ((nI 2).toInt64.toUInt64 &&& Int64.toUInt64 63)).toInt64) &&& (lN 3689348814741910323))).toUInt64 >>> ((nI 4).toInt64.toUInt64 &&& Int64.toUInt64 63)).toInt64)) &&& (lN 1085102592571150095)).toUInt64 >>> ((nI 8).toInt64.toUInt64 &&& Int64.toUInt64 63)).toInt64)) + ((((((((x0 - (((x0.toUInt64 >>> ((nI 1).toInt64.toUInt64 &&& Int64.toUInt64 63)).toInt64) &&& (lN 6148914691236517205))) &&& (lN 3689348814741910323)) + ((((x0 - (((x0.toUInt64 >>> ((nI 1).toInt64.toUInt64 &&& Int64.toUInt64 63)).toInt64) &&& (lN 6148914691236517205))).toUInt64 >>> ((nI 2).toInt64.toUInt64 &&& Int64.toUInt64 63)).toInt64) &&& (lN 3689348814741910323))) + (((((x0 - (((x0.toUInt64 >>> ((nI 1).toInt64.toUInt64 &&& Int64.toUInt64 63)).toInt64) &&& (lN 6148914691236517205))) &&& (lN 3689348814741910323)) + ((((x0 - (((x0.toUInt64 >>> ((nI 1).toInt64.toUInt64 &&& Int64.toUInt64 63)).toInt64) &&& (lN 6148914691236517205))).toUInt64 >>> ((nI 2).toInt64.toUInt64 &&& Int64.toUInt64 63)).toInt64) &&& (lN 3689348814741910323))).toUInt64 >>> ((nI 4).toInt64.toUInt64 &&& Int64.toUInt64 63)).toInt64)) &&& (lN 1085102592571150095)) + (((((((x0 - (((x0.toUInt64 >>> ((nI 1).toInt64.toUInt64 &&& Int64.toUInt64 63)).toInt64) &&& (lN 6148914691236517205))) &&& (lN 3689348814741910323)) + ((((x0 - (((x0.toUInt64 >>> ((nI 1).toInt64.toUInt64 &&& Int64.toUInt64 63)).toInt64) &&& (lN 6148914691236517205))).toUInt64 >>> ((nI 2).toInt64.toUInt64 &&& Int64.toUInt64 63)).toInt64) &&& (lN 3689348814741910323))) + (((((x0 - (((x0.toUInt64 >>> ((nI 1).toInt64.toUInt64 &&& Int64.toUInt64 63)).toInt64) &&& (lN 6148914691236517205))) &&& (lN 3689348814741910323)) + ((((x0 - (((x0.toUInt64 >>> ((nI 1).toInt64.toUInt64 &&& Int64.toUInt64 63)).toInt64) &&& (lN 6148914691236517205))).toUInt64 >>> ((nI 2).toInt64.toUInt64 &&& Int64.toUInt64 63)).toInt64) &&& (lN 3689348814741910323))).toUInt64 >>> ((nI 4).toInt64.toUInt64 &&& Int64.toUInt64 63)).toInt64)) &&& (lN 1085102592571150095)).toUInt64 >>> ((nI 8).toInt64.toUInt64 &&& Int64.toUInt64 63)).toInt64)).toUInt64 >>> ((nI 16).toInt64.toUInt64 &&& Int64.toUInt64 63)).toInt64)))] (DJ13_bitCount_95d88_0.at 37 rfl) rfl (Nat.le_of_ble_eq_true rfl) rfl ?_
  refine gk_lload_n (pc := 48) (DJ13_bitCount_95d88_0.at 38 rfl) 0 rfl rfl ?_
  refine gk_lload_n (pc := 49) (DJ13_bitCount_95d88_0.at 39 rfl) 0 rfl rfl ?_
  refine gk_bipush (pc := 50) (nI 32) (DJ13_bitCount_95d88_0.at 40 rfl) cb_32 ?_
  refine gk_lushr (pc := 52) (DJ13_bitCount_95d88_0.at 41 rfl) ?_
  refine gk_ladd (pc := 53) (DJ13_bitCount_95d88_0.at 42 rfl) ?_
  refine gk_lstore_n (pc := 54) [(0, .long ((((((((x0 - (((x0.toUInt64 >>> ((nI 1).toInt64.toUInt64 &&& Int64.toUInt64 63)).toInt64) &&& (lN 6148914691236517205))) &&& (lN 3689348814741910323)) + ((((x0 - (((x0.toUInt64 >>> ((nI 1).toInt64.toUInt64 &&& Int64.toUInt64 63)).toInt64) &&& (lN 6148914691236517205))).toUInt64 >>> ((nI 2).toInt64.toUInt64 &&& Int64.toUInt64 63)).toInt64) &&& (lN 3689348814741910323))) + (((((x0 - (((x0.toUInt64 >>> ((nI 1).toInt64.toUInt64 &&& Int64.toUInt64 63)).toInt64) &&& (lN 6148914691236517205))) &&& (lN 3689348814741910323)) + ((((x0 - (((x0.toUInt64 >>> ((nI 1).toInt64.toUInt64 &&& Int64.toUInt64 63)).toInt64) &&& (lN 6148914691236517205))).toUInt64 >>> ((nI 2).toInt64.toUInt64 &&& Int64.toUInt64 63)).toInt64) &&& (lN 3689348814741910323))).toUInt64 >>> ((nI 4).toInt64.toUInt64 &&& Int64.toUInt64 63)).toInt64)) &&& (lN 1085102592571150095)) + (((((((x0 - (((x0.toUInt64 >>> ((nI 1).toInt64.toUInt64 &&& Int64.toUInt64 63)).toInt64) &&& (lN 6148914691236517205))) &&& (lN 3689348814741910323)) + ((((x0 - (((x0.toUInt64 >>> ((nI 1).toInt64.toUInt64 &&& Int64.toUInt64 63)).toInt64) &&& (lN 6148914691236517205))).toUInt64 >>> ((nI 2).toInt64.toUInt64 &&& Int64.toUInt64 63)).toInt64) &&& (lN 3689348814741910323))) + (((((x0 - (((x0.toUInt64 >>> ((nI 1).toInt64.toUInt64 &&& Int64.toUInt64 63)).toInt64) &&& (lN 6148914691236517205))) &&& (lN 3689348814741910323)) + ((((x0 - (((x0.toUInt64 >>> ((nI 1).toInt64.toUInt64 &&& Int64.toUInt64 63)).toInt64) &&& (lN 6148914691236517205))).toUInt64 >>> ((nI 2).toInt64.toUInt64 &&& Int64.toUInt64 63)).toInt64) &&& (lN 3689348814741910323))).toUInt64 >>> ((nI 4).toInt64.toUInt64 &&& Int64.toUInt64 63)).toInt64)) &&& (lN 1085102592571150095)).toUInt64 >>> ((nI 8).toInt64.toUInt64 &&& Int64.toUInt64 63)).toInt64)) + ((((((((x0 - (((x0.toUInt64 >>> ((nI 1).toInt64.toUInt64 &&& Int64.toUInt64 63)).toInt64) &&& (lN 6148914691236517205))) &&& (lN 3689348814741910323)) + ((((x0 - (((x0.toUInt64 >>> ((nI 1).toInt64.toUInt64 &&& Int64.toUInt64 63)).toInt64) &&& (lN 6148914691236517205))).toUInt64 >>> ((nI 2).toInt64.toUInt64 &&& Int64.toUInt64 63)).toInt64) &&& (lN 3689348814741910323))) + (((((x0 - (((x0.toUInt64 >>> ((nI 1).toInt64.toUInt64 &&& Int64.toUInt64 63)).toInt64) &&& (lN 6148914691236517205))) &&& (lN 3689348814741910323)) + ((((x0 - (((x0.toUInt64 >>> ((nI 1).toInt64.toUInt64 &&& Int64.toUInt64 63)).toInt64) &&& (lN 6148914691236517205))).toUInt64 >>> ((nI 2).toInt64.toUInt64 &&& Int64.toUInt64 63)).toInt64) &&& (lN 3689348814741910323))).toUInt64 >>> ((nI 4).toInt64.toUInt64 &&& Int64.toUInt64 63)).toInt64)) &&& (lN 1085102592571150095)) + (((((((x0 - (((x0.toUInt64 >>> ((nI 1).toInt64.toUInt64 &&& Int64.toUInt64 63)).toInt64) &&& (lN 6148914691236517205))) &&& (lN 3689348814741910323)) + ((((x0 - (((x0.toUInt64 >>> ((nI 1).toInt64.toUInt64 &&& Int64.toUInt64 63)).toInt64) &&& (lN 6148914691236517205))).toUInt64 >>> ((nI 2).toInt64.toUInt64 &&& Int64.toUInt64 63)).toInt64) &&& (lN 3689348814741910323))) + (((((x0 - (((x0.toUInt64 >>> ((nI 1).toInt64.toUInt64 &&& Int64.toUInt64 63)).toInt64) &&& (lN 6148914691236517205))) &&& (lN 3689348814741910323)) + ((((x0 - (((x0.toUInt64 >>> ((nI 1).toInt64.toUInt64 &&& Int64.toUInt64 63)).toInt64) &&& (lN 6148914691236517205))).toUInt64 >>> ((nI 2).toInt64.toUInt64 &&& Int64.toUInt64 63)).toInt64) &&& (lN 3689348814741910323))).toUInt64 >>> ((nI 4).toInt64.toUInt64 &&& Int64.toUInt64 63)).toInt64)) &&& (lN 1085102592571150095)).toUInt64 >>> ((nI 8).toInt64.toUInt64 &&& Int64.toUInt64 63)).toInt64)).toUInt64 >>> ((nI 16).toInt64.toUInt64 &&& Int64.toUInt64 63)).toInt64)) + (((((((((x0 - (((x0.toUInt64 >>> ((nI 1).toInt64.toUInt64 &&& Int64.toUInt64 63)).toInt64) &&& (lN 6148914691236517205))) &&& (lN 3689348814741910323)) + ((((x0 - (((x0.toUInt64 >>> ((nI 1).toInt64.toUInt64 &&& Int64.toUInt64 63)).toInt64) &&& (lN 6148914691236517205))).toUInt64 >>> ((nI 2).toInt64.toUInt64 &&& Int64.toUInt64 63)).toInt64) &&& (lN 3689348814741910323))) + (((((x0 - (((x0.toUInt64 >>> ((nI 1).toInt64.toUInt64 &&& Int64.toUInt64 63)).toInt64) &&& (lN 6148914691236517205))) &&& (lN 3689348814741910323)) + ((((x0 - (((x0.toUInt64 >>> ((nI 1).toInt64.toUInt64 &&& Int64.toUInt64 63)).toInt64) &&& (lN 6148914691236517205))).toUInt64 >>> ((nI 2).toInt64.toUInt64 &&& Int64.toUInt64 63)).toInt64) &&& (lN 3689348814741910323))).toUInt64 >>> ((nI 4).toInt64.toUInt64 &&& Int64.toUInt64 63)).toInt64)) &&& (lN 1085102592571150095)) + (((((((x0 - (((x0.toUInt64 >>> ((nI 1).toInt64.toUInt64 &&& Int64.toUInt64 63)).toInt64) &&& (lN 6148914691236517205))) &&& (lN 3689348814741910323)) + ((((x0 - (((x0.toUInt64 >>> ((nI 1).toInt64.toUInt64 &&& Int64.toUInt64 63)).toInt64) &&& (lN 6148914691236517205))).toUInt64 >>> ((nI 2).toInt64.toUInt64 &&& Int64.toUInt64 63)).toInt64) &&& (lN 3689348814741910323))) + (((((x0 - (((x0.toUInt64 >>> ((nI 1).toInt64.toUInt64 &&& Int64.toUInt64 63)).toInt64) &&& (lN 6148914691236517205))) &&& (lN 3689348814741910323)) + ((((x0 - (((x0.toUInt64 >>> ((nI 1).toInt64.toUInt64 &&& Int64.toUInt64 63)).toInt64) &&& (lN 6148914691236517205))).toUInt64 >>> ((nI 2).toInt64.toUInt64 &&& Int64.toUInt64 63)).toInt64) &&& (lN 3689348814741910323))).toUInt64 >>> ((nI 4).toInt64.toUInt64 &&& Int64.toUInt64 63)).toInt64)) &&& (lN 1085102592571150095)).toUInt64 >>> ((nI 8).toInt64.toUInt64 &&& Int64.toUInt64 63)).toInt64)) + ((((((((x0 - (((x0.toUInt64 >>> ((nI 1).toInt64.toUInt64 &&& Int64.toUInt64 63)).toInt64) &&& (lN 6148914691236517205))) &&& (lN 3689348814741910323)) + ((((x0 - (((x0.toUInt64 >>> ((nI 1).toInt64.toUInt64 &&& Int64.toUInt64 63)).toInt64) &&& (lN 6148914691236517205))).toUInt64 >>> ((nI 2).toInt64.toUInt64 &&& Int64.toUInt64 63)).toInt64) &&& (lN 3689348814741910323))) + (((((x0 - (((x0.toUInt64 >>> ((nI 1).toInt64.toUInt64 &&& Int64.toUInt64 63)).toInt64) &&& (lN 6148914691236517205))) &&& (lN 3689348814741910323)) + ((((x0 - (((x0.toUInt64 >>> ((nI 1).toInt64.toUInt64 &&& Int64.toUInt64 63)).toInt64) &&& (lN 6148914691236517205))).toUInt64 >>> ((nI 2).toInt64.toUInt64 &&& Int64.toUInt64 63)).toInt64) &&& (lN 3689348814741910323))).toUInt64 >>> ((nI 4).toInt64.toUInt64 &&& Int64.toUInt64 63)).toInt64)) &&& (lN 1085102592571150095)) + (((((((x0 - (((x0.toUInt64 >>> ((nI 1).toInt64.toUInt64 &&& Int64.toUInt64 63)).toInt64) &&& (lN 6148914691236517205))) &&& (lN 3689348814741910323)) + ((((x0 - (((x0.toUInt64 >>> ((nI 1).toInt64.toUInt64 &&& Int64.toUInt64 63)).toInt64) &&& (lN 6148914691236517205))).toUInt64 >>> ((nI 2).toInt64.toUInt64 &&& Int64.toUInt64 63)).toInt64) &&& (lN 3689348814741910323))) + (((((x0 - (((x0.toUInt64 >>> ((nI 1).toInt64.toUInt64 &&& Int64.toUInt64 63)).toInt64) &&& (lN 6148914691236517205))) &&& (lN 3689348814741910323)) + ((((x0 - (((x0.toUInt64 >>> ((nI 1).toInt64.toUInt64 &&& Int64.toUInt64 63)).toInt64) &&& (lN 6148914691236517205))).toUInt64 >>> ((nI 2).toInt64.toUInt64 &&& Int64.toUInt64 63)).toInt64) &&& (lN 3689348814741910323))).toUInt64 >>> ((nI 4).toInt64.toUInt64 &&& Int64.toUInt64 63)).toInt64)) &&& (lN 1085102592571150095)).toUInt64 >>> ((nI 8).toInt64.toUInt64 &&& Int64.toUInt64 63)).toInt64)).toUInt64 >>> ((nI 16).toInt64.toUInt64 &&& Int64.toUInt64 63)).toInt64)).toUInt64 >>> ((nI 32).toInt64.toUInt64 &&& Int64.toUInt64 63)).toInt64)))] (DJ13_bitCount_95d88_0.at 43 rfl) rfl (Nat.le_of_ble_eq_true rfl) rfl ?_
  refine gk_lload_n (pc := 55) (DJ13_bitCount_95d88_0.at 44 rfl) 0 rfl rfl ?_
  refine gk_l2i (pc := 56) (DJ13_bitCount_95d88_0.at 45 rfl) ?_
  refine gk_bipush (pc := 57) (nI 127) (DJ13_bitCount_95d88_0.at 46 rfl) cb_127 ?_
  refine gk_iand (pc := 59) (DJ13_bitCount_95d88_0.at 47 rfl) ?_
  exact gk_ireturn (pc := 60) .int (DJ13_bitCount_95d88_0.at 48 rfl) rfl rfl ⟨_, rfl, hv⟩
set_option maxHeartbeats 4000000 in
theorem vJ6_bitCount_0f7a4_0 {E : gk_E} {dd : Nat} {x0 : Int32}  {h : gk_H} {K : Int32 → gk_H → Prop} (hv : K ((((((((x0 - (((x0.toUInt32 >>> ((nI 1).toUInt32 &&& Int32.toUInt32 31)).toInt32) &&& (nI 1431655765))) &&& (nI 858993459)) + ((((x0 - (((x0.toUInt32 >>> ((nI 1).toUInt32 &&& Int32.toUInt32 31)).toInt32) &&& (nI 1431655765))).toUInt32 >>> ((nI 2).toUInt32 &&& Int32.toUInt32 31)).toInt32) &&& (nI 858993459))) + (((((x0 - (((x0.toUInt32 >>> ((nI 1).toUInt32 &&& Int32.toUInt32 31)).toInt32) &&& (nI 1431655765))) &&& (nI 858993459)) + ((((x0 - (((x0.toUInt32 >>> ((nI 1).toUInt32 &&& Int32.toUInt32 31)).toInt32) &&& (nI 1431655765))).toUInt32 >>> ((nI 2).toUInt32 &&& Int32.toUInt32 31)).toInt32) &&& (nI 858993459))).toUInt32 >>> ((nI 4).toUInt32 &&& Int32.toUInt32 31)).toInt32)) &&& (nI 252645135)) + (((((((x0 - (((x0.toUInt32 >>> ((nI 1).toUInt32 &&& Int32.toUInt32 31)).toInt32) &&& (nI 1431655765))) &&& (nI 858993459)) + ((((x0 - (((x0.toUInt32 >>> ((nI 1).toUInt32 &&& Int32.toUInt32 31)).toInt32) &&& (nI 1431655765))).toUInt32 >>> ((nI 2).toUInt32 &&& Int32.toUInt32 31)).toInt32) &&& (nI 858993459))) + (((((x0 - (((x0.toUInt32 >>> ((nI 1).toUInt32 &&& Int32.toUInt32 31)).toInt32) &&& (nI 1431655765))) &&& (nI 858993459)) + ((((x0 - (((x0.toUInt32 >>> ((nI 1).toUInt32 &&& Int32.toUInt32 31)).toInt32) &&& (nI 1431655765))).toUInt32 >>> ((nI 2).toUInt32 &&& Int32.toUInt32 31)).toInt32) &&& (nI 858993459))).toUInt32 >>> ((nI 4).toUInt32 &&& Int32.toUInt32 31)).toInt32)) &&& (nI 252645135)).toUInt32 >>> ((nI 8).toUInt32 &&& Int32.toUInt32 31)).toInt32)) + ((((((((x0 - (((x0.toUInt32 >>> ((nI 1).toUInt32 &&& Int32.toUInt32 31)).toInt32) &&& (nI 1431655765))) &&& (nI 858993459)) + ((((x0 - (((x0.toUInt32 >>> ((nI 1).toUInt32 &&& Int32.toUInt32 31)).toInt32) &&& (nI 1431655765))).toUInt32 >>> ((nI 2).toUInt32 &&& Int32.toUInt32 31)).toInt32) &&& (nI 858993459))) + (((((x0 - (((x0.toUInt32 >>> ((nI 1).toUInt32 &&& Int32.toUInt32 31)).toInt32) &&& (nI 1431655765))) &&& (nI 858993459)) + ((((x0 - (((x0.toUInt32 >>> ((nI 1).toUInt32 &&& Int32.toUInt32 31)).toInt32) &&& (nI 1431655765))).toUInt32 >>> ((nI 2).toUInt32 &&& Int32.toUInt32 31)).toInt32) &&& (nI 858993459))).toUInt32 >>> ((nI 4).toUInt32 &&& Int32.toUInt32 31)).toInt32)) &&& (nI 252645135)) + (((((((x0 - (((x0.toUInt32 >>> ((nI 1).toUInt32 &&& Int32.toUInt32 31)).toInt32) &&& (nI 1431655765))) &&& (nI 858993459)) + ((((x0 - (((x0.toUInt32 >>> ((nI 1).toUInt32 &&& Int32.toUInt32 31)).toInt32) &&& (nI 1431655765))).toUInt32 >>> ((nI 2).toUInt32 &&& Int32.toUInt32 31)).toInt32) &&& (nI 858993459))) + (((((x0 - (((x0.toUInt32 >>> ((nI 1).toUInt32 &&& Int32.toUInt32 31)).toInt32) &&& (nI 1431655765))) &&& (nI 858993459)) + ((((x0 - (((x0.toUInt32 >>> ((nI 1).toUInt32 &&& Int32.toUInt32 31)).toInt32) &&& (nI 1431655765))).toUInt32 >>> ((nI 2).toUInt32 &&& Int32.toUInt32 31)).toInt32) &&& (nI 858993459))).toUInt32 >>> ((nI 4).toUInt32 &&& Int32.toUInt32 31)).toInt32)) &&& (nI 252645135)).toUInt32 >>> ((nI 8).toUInt32 &&& Int32.toUInt32 31)).toInt32)).toUInt32 >>> ((nI 16).toUInt32 &&& Int32.toUInt32 31)).toInt32)) &&& (nI 63)) h) : RnI E mJ6_bitCount_0f7a4 (dd, 0, 0) [.int x0] h K := by
  show gk_G E mJ6_bitCount_0f7a4 (dd, 0, 0) 0 [(0, .int x0)] [] h (fun o h1 => ∃ v, o = some (.int v) ∧ K v h1)
  refine gk_iload_n (pc := 0) (DJ6_bitCount_0f7a4_0.at 0 rfl) 0 rfl rfl ?_
  refine gk_iload_n (pc := 1) (DJ6_bitCount_0f7a4_0.at 1 rfl) 0 rfl rfl ?_
  refine gk_iconst (pc := 2) (nI 1) (DJ6_bitCount_0f7a4_0.at 2 rfl) ci_1 ?_
  refine gk_iushr (pc := 3) (DJ6_bitCount_0f7a4_0.at 3 rfl) ?_
  refine gk_ldc_w (pc := 4) (nI 1431655765) (DJ6_bitCount_0f7a4_0.at 4 rfl) kcJ6_265 ?_
  refine gk_iand (pc := 7) (DJ6_bitCount_0f7a4_0.at 5 rfl) ?_
  refine gk_isub (pc := 8) (DJ6_bitCount_0f7a4_0.at 6 rfl) ?_
  refine gk_istore_n (pc := 9) [(0, .int (x0 - (((x0.toUInt32 >>> ((nI 1).toUInt32 &&& Int32.toUInt32 31)).toInt32) &&& (nI 1431655765))))] (DJ6_bitCount_0f7a4_0.at 7 rfl) rfl (Nat.le_of_ble_eq_true rfl) rfl ?_
  refine gk_iload_n (pc := 10) (DJ6_bitCount_0f7a4_0.at 8 rfl) 0 rfl rfl ?_
  refine gk_ldc_w (pc := 11) (nI 858993459) (DJ6_bitCount_0f7a4_0.at 9 rfl) kcJ6_266 ?_
  refine gk_iand (pc := 14) (DJ6_bitCount_0f7a4_0.at 10 rfl) ?_
  refine gk_iload_n (pc := 15) (DJ6_bitCount_0f7a4_0.at 11 rfl) 0 rfl rfl ?_
  refine gk_iconst (pc := 16) (nI 2) (DJ6_bitCount_0f7a4_0.at 12 rfl) ci_2 ?_
  refine gk_iushr (pc := 17) (DJ6_bitCount_0f7a4_0.at 13 rfl) ?_
  refine gk_ldc_w (pc := 18) (nI 858993459) (DJ6_bitCount_0f7a4_0.at 14 rfl) kcJ6_266 ?_
  refine gk_iand (pc := 21) (DJ6_bitCount_0f7a4_0.at 15 rfl) ?_
  refine gk_iadd (pc := 22) (DJ6_bitCount_0f7a4_0.at 16 rfl) ?_
  refine gk_istore_n (pc := 23) [(0, .int (((x0 - (((x0.toUInt32 >>> ((nI 1).toUInt32 &&& Int32.toUInt32 31)).toInt32) &&& (nI 1431655765))) &&& (nI 858993459)) + ((((x0 - (((x0.toUInt32 >>> ((nI 1).toUInt32 &&& Int32.toUInt32 31)).toInt32) &&& (nI 1431655765))).toUInt32 >>> ((nI 2).toUInt32 &&& Int32.toUInt32 31)).toInt32) &&& (nI 858993459))))] (DJ6_bitCount_0f7a4_0.at 17 rfl) rfl (Nat.le_of_ble_eq_true rfl) rfl ?_
  refine gk_iload_n (pc := 24) (DJ6_bitCount_0f7a4_0.at 18 rfl) 0 rfl rfl ?_
  refine gk_iload_n (pc := 25) (DJ6_bitCount_0f7a4_0.at 19 rfl) 0 rfl rfl ?_
  refine gk_iconst (pc := 26) (nI 4) (DJ6_bitCount_0f7a4_0.at 20 rfl) ci_4 ?_
  refine gk_iushr (pc := 27) (DJ6_bitCount_0f7a4_0.at 21 rfl) ?_
  refine gk_iadd (pc := 28) (DJ6_bitCount_0f7a4_0.at 22 rfl) ?_
  refine gk_ldc_w (pc := 29) (nI 252645135) (DJ6_bitCount_0f7a4_0.at 23 rfl) kcJ6_267 ?_
  refine gk_iand (pc := 32) (DJ6_bitCount_0f7a4_0.at 24 rfl) ?_
  refine gk_istore_n (pc := 33) [(0, .int (((((x0 - (((x0.toUInt32 >>> ((nI 1).toUInt32 &&& Int32.toUInt32 31)).toInt32) &&& (nI 1431655765))) &&& (nI 858993459)) + ((((x0 - (((x0.toUInt32 >>> ((nI 1).toUInt32 &&& Int32.toUInt32 31)).toInt32) &&& (nI 1431655765))).toUInt32 >>> ((nI 2).toUInt32 &&& Int32.toUInt32 31)).toInt32) &&& (nI 858993459))) + (((((x0 - (((x0.toUInt32 >>> ((nI 1).toUInt32 &&& Int32.toUInt32 31)).toInt32) &&& (nI 1431655765))) &&& (nI 858993459)) + ((((x0 - (((x0.toUInt32 >>> ((nI 1).toUInt32 &&& Int32.toUInt32 31)).toInt32) &&& (nI 1431655765))).toUInt32 >>> ((nI 2).toUInt32 &&& Int32.toUInt32 31)).toInt32) &&& (nI 858993459))).toUInt32 >>> ((nI 4).toUInt32 &&& Int32.toUInt32 31)).toInt32)) &&& (nI 252645135)))] (DJ6_bitCount_0f7a4_0.at 25 rfl) rfl (Nat.le_of_ble_eq_true rfl) rfl ?_
  refine gk_iload_n (pc := 34) (DJ6_bitCount_0f7a4_0.at 26 rfl) 0 rfl rfl ?_
  refine gk_iload_n (pc := 35) (DJ6_bitCount_0f7a4_0.at 27 rfl) 0 rfl rfl ?_
  refine gk_bipush (pc := 36) (nI 8) (DJ6_bitCount_0f7a4_0.at 28 rfl) cb_8 ?_
  refine gk_iushr (pc := 38) (DJ6_bitCount_0f7a4_0.at 29 rfl) ?_
  refine gk_iadd (pc := 39) (DJ6_bitCount_0f7a4_0.at 30 rfl) ?_
  refine gk_istore_n (pc := 40) [(0, .int ((((((x0 - (((x0.toUInt32 >>> ((nI 1).toUInt32 &&& Int32.toUInt32 31)).toInt32) &&& (nI 1431655765))) &&& (nI 858993459)) + ((((x0 - (((x0.toUInt32 >>> ((nI 1).toUInt32 &&& Int32.toUInt32 31)).toInt32) &&& (nI 1431655765))).toUInt32 >>> ((nI 2).toUInt32 &&& Int32.toUInt32 31)).toInt32) &&& (nI 858993459))) + (((((x0 - (((x0.toUInt32 >>> ((nI 1).toUInt32 &&& Int32.toUInt32 31)).toInt32) &&& (nI 1431655765))) &&& (nI 858993459)) + ((((x0 - (((x0.toUInt32 >>> ((nI 1).toUInt32 &&& Int32.toUInt32 31)).toInt32) &&& (nI 1431655765))).toUInt32 >>> ((nI 2).toUInt32 &&& Int32.toUInt32 31)).toInt32) &&& (nI 858993459))).toUInt32 >>> ((nI 4).toUInt32 &&& Int32.toUInt32 31)).toInt32)) &&& (nI 252645135)) + (((((((x0 - (((x0.toUInt32 >>> ((nI 1).toUInt32 &&& Int32.toUInt32 31)).toInt32) &&& (nI 1431655765))) &&& (nI 858993459)) + ((((x0 - (((x0.toUInt32 >>> ((nI 1).toUInt32 &&& Int32.toUInt32 31)).toInt32) &&& (nI 1431655765))).toUInt32 >>> ((nI 2).toUInt32 &&& Int32.toUInt32 31)).toInt32) &&& (nI 858993459))) + (((((x0 - (((x0.toUInt32 >>> ((nI 1).toUInt32 &&& Int32.toUInt32 31)).toInt32) &&& (nI 1431655765))) &&& (nI 858993459)) + ((((x0 - (((x0.toUInt32 >>> ((nI 1).toUInt32 &&& Int32.toUInt32 31)).toInt32) &&& (nI 1431655765))).toUInt32 >>> ((nI 2).toUInt32 &&& Int32.toUInt32 31)).toInt32) &&& (nI 858993459))).toUInt32 >>> ((nI 4).toUInt32 &&& Int32.toUInt32 31)).toInt32)) &&& (nI 252645135)).toUInt32 >>> ((nI 8).toUInt32 &&& Int32.toUInt32 31)).toInt32)))] (DJ6_bitCount_0f7a4_0.at 31 rfl) rfl (Nat.le_of_ble_eq_true rfl) rfl ?_
  refine gk_iload_n (pc := 41) (DJ6_bitCount_0f7a4_0.at 32 rfl) 0 rfl rfl ?_
  refine gk_iload_n (pc := 42) (DJ6_bitCount_0f7a4_0.at 33 rfl) 0 rfl rfl ?_
  refine gk_bipush (pc := 43) (nI 16) (DJ6_bitCount_0f7a4_0.at 34 rfl) cb_16 ?_
  refine gk_iushr (pc := 45) (DJ6_bitCount_0f7a4_0.at 35 rfl) ?_
  refine gk_iadd (pc := 46) (DJ6_bitCount_0f7a4_0.at 36 rfl) ?_
  refine gk_istore_n (pc := 47) [(0, .int (((((((x0 - (((x0.toUInt32 >>> ((nI 1).toUInt32 &&& Int32.toUInt32 31)).toInt32) &&& (nI 1431655765))) &&& (nI 858993459)) + ((((x0 - (((x0.toUInt32 >>> ((nI 1).toUInt32 &&& Int32.toUInt32 31)).toInt32) &&& (nI 1431655765))).toUInt32 >>> ((nI 2).toUInt32 &&& Int32.toUInt32 31)).toInt32) &&& (nI 858993459))) + (((((x0 - (((x0.toUInt32 >>> ((nI 1).toUInt32 &&& Int32.toUInt32 31)).toInt32) &&& (nI 1431655765))) &&& (nI 858993459)) + ((((x0 - (((x0.toUInt32 >>> ((nI 1).toUInt32 &&& Int32.toUInt32 31)).toInt32) &&& (nI 1431655765))).toUInt32 >>> ((nI 2).toUInt32 &&& Int32.toUInt32 31)).toInt32) &&& (nI 858993459))).toUInt32 >>> ((nI 4).toUInt32 &&& Int32.toUInt32 31)).toInt32)) &&& (nI 252645135)) + (((((((x0 - (((x0.toUInt32 >>> ((nI 1).toUInt32 &&& Int32.toUInt32 31)).toInt32) &&& (nI 1431655765))) &&& (nI 858993459)) + ((((x0 - (((x0.toUInt32 >>> ((nI 1).toUInt32 &&& Int32.toUInt32 31)).toInt32) &&& (nI 1431655765))).toUInt32 >>> ((nI 2).toUInt32 &&& Int32.toUInt32 31)).toInt32) &&& (nI 858993459))) + (((((x0 - (((x0.toUInt32 >>> ((nI 1).toUInt32 &&& Int32.toUInt32 31)).toInt32) &&& (nI 1431655765))) &&& (nI 858993459)) + ((((x0 - (((x0.toUInt32 >>> ((nI 1).toUInt32 &&& Int32.toUInt32 31)).toInt32) &&& (nI 1431655765))).toUInt32 >>> ((nI 2).toUInt32 &&& Int32.toUInt32 31)).toInt32) &&& (nI 858993459))).toUInt32 >>> ((nI 4).toUInt32 &&& Int32.toUInt32 31)).toInt32)) &&& (nI 252645135)).toUInt32 >>> ((nI 8).toUInt32 &&& Int32.toUInt32 31)).toInt32)) + ((((((((x0 - (((x0.toUInt32 >>> ((nI 1).toUInt32 &&& Int32.toUInt32 31)).toInt32) &&& (nI 1431655765))) &&& (nI 858993459)) + ((((x0 - (((x0.toUInt32 >>> ((nI 1).toUInt32 &&& Int32.toUInt32 31)).toInt32) &&& (nI 1431655765))).toUInt32 >>> ((nI 2).toUInt32 &&& Int32.toUInt32 31)).toInt32) &&& (nI 858993459))) + (((((x0 - (((x0.toUInt32 >>> ((nI 1).toUInt32 &&& Int32.toUInt32 31)).toInt32) &&& (nI 1431655765))) &&& (nI 858993459)) + ((((x0 - (((x0.toUInt32 >>> ((nI 1).toUInt32 &&& Int32.toUInt32 31)).toInt32) &&& (nI 1431655765))).toUInt32 >>> ((nI 2).toUInt32 &&& Int32.toUInt32 31)).toInt32) &&& (nI 858993459))).toUInt32 >>> ((nI 4).toUInt32 &&& Int32.toUInt32 31)).toInt32)) &&& (nI 252645135)) + (((((((x0 - (((x0.toUInt32 >>> ((nI 1).toUInt32 &&& Int32.toUInt32 31)).toInt32) &&& (nI 1431655765))) &&& (nI 858993459)) + ((((x0 - (((x0.toUInt32 >>> ((nI 1).toUInt32 &&& Int32.toUInt32 31)).toInt32) &&& (nI 1431655765))).toUInt32 >>> ((nI 2).toUInt32 &&& Int32.toUInt32 31)).toInt32) &&& (nI 858993459))) + (((((x0 - (((x0.toUInt32 >>> ((nI 1).toUInt32 &&& Int32.toUInt32 31)).toInt32) &&& (nI 1431655765))) &&& (nI 858993459)) + ((((x0 - (((x0.toUInt32 >>> ((nI 1).toUInt32 &&& Int32.toUInt32 31)).toInt32) &&& (nI 1431655765))).toUInt32 >>> ((nI 2).toUInt32 &&& Int32.toUInt32 31)).toInt32) &&& (nI 858993459))).toUInt32 >>> ((nI 4).toUInt32 &&& Int32.toUInt32 31)).toInt32)) &&& (nI 252645135)).toUInt32 >>> ((nI 8).toUInt32 &&& Int32.toUInt32 31)).toInt32)).toUInt32 >>> ((nI 16).toUInt32 &&& Int32.toUInt32 31)).toInt32)))] (DJ6_bitCount_0f7a4_0.at 37 rfl) rfl (Nat.le_of_ble_eq_true rfl) rfl ?_
  refine gk_iload_n (pc := 48) (DJ6_bitCount_0f7a4_0.at 38 rfl) 0 rfl rfl ?_
  refine gk_bipush (pc := 49) (nI 63) (DJ6_bitCount_0f7a4_0.at 39 rfl) cb_63 ?_
  refine gk_iand (pc := 51) (DJ6_bitCount_0f7a4_0.at 40 rfl) ?_
  exact gk_ireturn (pc := 52) .int (DJ6_bitCount_0f7a4_0.at 41 rfl) rfl rfl ⟨_, rfl, hv⟩
end
section
theorem i_vc : Claimed_1_1 ∧ Claimed_1_2 := sorry
end
