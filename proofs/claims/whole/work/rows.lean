section
-- ===== PART A: goes FIRST, ahead of the names: the tables' words, and 'selects' of the private methods out of them =====
/-- a private method of a class that the tables say can be made, by its rows of tables_1 -/
def lw_okq (q : MethodName × Nat) : Prop := (q.1.cls ≠ "java/lang/invoke/MethodHandle" ∧ q.1.cls ≠ "java/lang/invoke/VarHandle") ∧ Cond.instantiable q.1.cls q.2 ∈ tables_1 ∧ Cond.privateMethod q.1 ∈ tables_1 ∧ Cond.instanceMethod q.1 ∈ tables_1
theorem lw_p0 : lw_okq (⟨"LinearSearch", "forgetSearch", "()V"⟩, 14) := ⟨⟨by decide +kernel, by decide +kernel⟩, List.mem_of_getElem? (i := 22) (by decide +kernel), List.mem_of_getElem? (i := 338) (by decide +kernel), List.mem_of_getElem? (i := 339) (by decide +kernel)⟩
theorem lw_p1 : lw_okq (⟨"LinearSearch", "note", "(II)V"⟩, 14) := ⟨⟨by decide +kernel, by decide +kernel⟩, List.mem_of_getElem? (i := 22) (by decide +kernel), List.mem_of_getElem? (i := 342) (by decide +kernel), List.mem_of_getElem? (i := 343) (by decide +kernel)⟩
theorem lw_p2 : lw_okq (⟨"LinearSearch$Writer", "writeChoice", "()Z"⟩, 5) := ⟨⟨by decide +kernel, by decide +kernel⟩, List.mem_of_getElem? (i := 30) (by decide +kernel), List.mem_of_getElem? (i := 397) (by decide +kernel), List.mem_of_getElem? (i := 398) (by decide +kernel)⟩
theorem lw_p3 : lw_okq (⟨"LinearSearch$Writer", "writeSequence", "()Z"⟩, 5) := ⟨⟨by decide +kernel, by decide +kernel⟩, List.mem_of_getElem? (i := 30) (by decide +kernel), List.mem_of_getElem? (i := 405) (by decide +kernel), List.mem_of_getElem? (i := 406) (by decide +kernel)⟩
theorem lw_p4 : lw_okq (⟨"LinearSearch$Writer", "peek", "()I"⟩, 5) := ⟨⟨by decide +kernel, by decide +kernel⟩, List.mem_of_getElem? (i := 30) (by decide +kernel), List.mem_of_getElem? (i := 409) (by decide +kernel), List.mem_of_getElem? (i := 410) (by decide +kernel)⟩
theorem lw_p5 : lw_okq (⟨"LinearSearch$Writer", "writePiece", "()Z"⟩, 5) := ⟨⟨by decide +kernel, by decide +kernel⟩, List.mem_of_getElem? (i := 30) (by decide +kernel), List.mem_of_getElem? (i := 413) (by decide +kernel), List.mem_of_getElem? (i := 414) (by decide +kernel)⟩
theorem lw_p6 : lw_okq (⟨"LinearSearch$Writer", "writeAtom", "()Z"⟩, 5) := ⟨⟨by decide +kernel, by decide +kernel⟩, List.mem_of_getElem? (i := 30) (by decide +kernel), List.mem_of_getElem? (i := 417) (by decide +kernel), List.mem_of_getElem? (i := 418) (by decide +kernel)⟩
theorem lw_p7 : lw_okq (⟨"LinearSearch$Writer", "writeGroup", "()Z"⟩, 5) := ⟨⟨by decide +kernel, by decide +kernel⟩, List.mem_of_getElem? (i := 30) (by decide +kernel), List.mem_of_getElem? (i := 425) (by decide +kernel), List.mem_of_getElem? (i := 426) (by decide +kernel)⟩
theorem lw_p8 : lw_okq (⟨"LinearSearch$Writer", "writeSign", "(IIZ)V"⟩, 5) := ⟨⟨by decide +kernel, by decide +kernel⟩, List.mem_of_getElem? (i := 30) (by decide +kernel), List.mem_of_getElem? (i := 429) (by decide +kernel), List.mem_of_getElem? (i := 430) (by decide +kernel)⟩
theorem lw_p9 : lw_okq (⟨"java/lang/Throwable", "fillInStackTrace", "(I)Ljava/lang/Throwable;"⟩, 6) := ⟨⟨by decide +kernel, by decide +kernel⟩, List.mem_of_getElem? (i := 489) (by decide +kernel), List.mem_of_getElem? (i := 487) (by decide +kernel), List.mem_of_getElem? (i := 488) (by decide +kernel)⟩
theorem lw_p10 : lw_okq (⟨"LinearSearch$Single", "isPlainFrom", "(LLinearSearch$Program;I)Z"⟩, 6) := ⟨⟨by decide +kernel, by decide +kernel⟩, List.mem_of_getElem? (i := 168) (by decide +kernel), List.mem_of_getElem? (i := 533) (by decide +kernel), List.mem_of_getElem? (i := 534) (by decide +kernel)⟩
theorem lw_p11 : lw_okq (⟨"LinearSearch$Follower", "push", "(IJ)V"⟩, 9) := ⟨⟨by decide +kernel, by decide +kernel⟩, List.mem_of_getElem? (i := 73) (by decide +kernel), List.mem_of_getElem? (i := 549) (by decide +kernel), List.mem_of_getElem? (i := 550) (by decide +kernel)⟩
theorem lw_p12 : lw_okq (⟨"LinearSearch$Follower", "step", "(IJ)V"⟩, 9) := ⟨⟨by decide +kernel, by decide +kernel⟩, List.mem_of_getElem? (i := 73) (by decide +kernel), List.mem_of_getElem? (i := 553) (by decide +kernel), List.mem_of_getElem? (i := 554) (by decide +kernel)⟩
theorem lw_p13 : lw_okq (⟨"LinearSearch", "plannedMatcher", "()I"⟩, 14) := ⟨⟨by decide +kernel, by decide +kernel⟩, List.mem_of_getElem? (i := 22) (by decide +kernel), List.mem_of_getElem? (i := 654) (by decide +kernel), List.mem_of_getElem? (i := 655) (by decide +kernel)⟩
theorem lw_p14 : lw_okq (⟨"LinearSearch$Marks", "findFrom", "(I)J"⟩, 8) := ⟨⟨by decide +kernel, by decide +kernel⟩, List.mem_of_getElem? (i := 137) (by decide +kernel), List.mem_of_getElem? (i := 670) (by decide +kernel), List.mem_of_getElem? (i := 671) (by decide +kernel)⟩
theorem lw_p15 : lw_okq (⟨"LinearSearch$Marks", "push", "(IIJ)V"⟩, 8) := ⟨⟨by decide +kernel, by decide +kernel⟩, List.mem_of_getElem? (i := 137) (by decide +kernel), List.mem_of_getElem? (i := 678) (by decide +kernel), List.mem_of_getElem? (i := 679) (by decide +kernel)⟩
def lw_privs_1 : List (MethodName × Nat) := [(⟨"LinearSearch", "forgetSearch", "()V"⟩, 14), (⟨"LinearSearch", "note", "(II)V"⟩, 14), (⟨"LinearSearch$Writer", "writeChoice", "()Z"⟩, 5), (⟨"LinearSearch$Writer", "writeSequence", "()Z"⟩, 5), (⟨"LinearSearch$Writer", "peek", "()I"⟩, 5), (⟨"LinearSearch$Writer", "writePiece", "()Z"⟩, 5), (⟨"LinearSearch$Writer", "writeAtom", "()Z"⟩, 5), (⟨"LinearSearch$Writer", "writeGroup", "()Z"⟩, 5), (⟨"LinearSearch$Writer", "writeSign", "(IIZ)V"⟩, 5), (⟨"java/lang/Throwable", "fillInStackTrace", "(I)Ljava/lang/Throwable;"⟩, 6), (⟨"LinearSearch$Single", "isPlainFrom", "(LLinearSearch$Program;I)Z"⟩, 6), (⟨"LinearSearch$Follower", "push", "(IJ)V"⟩, 9), (⟨"LinearSearch$Follower", "step", "(IJ)V"⟩, 9), (⟨"LinearSearch", "plannedMatcher", "()I"⟩, 14), (⟨"LinearSearch$Marks", "findFrom", "(I)J"⟩, 8), (⟨"LinearSearch$Marks", "push", "(IIJ)V"⟩, 8)]
theorem lw_r1 : ∀ q ∈ lw_privs_1, lw_okq q := List.forall_mem_cons.mpr ⟨lw_p0, List.forall_mem_cons.mpr ⟨lw_p1, List.forall_mem_cons.mpr ⟨lw_p2, List.forall_mem_cons.mpr ⟨lw_p3, List.forall_mem_cons.mpr ⟨lw_p4, List.forall_mem_cons.mpr ⟨lw_p5, List.forall_mem_cons.mpr ⟨lw_p6, List.forall_mem_cons.mpr ⟨lw_p7, List.forall_mem_cons.mpr ⟨lw_p8, List.forall_mem_cons.mpr ⟨lw_p9, List.forall_mem_cons.mpr ⟨lw_p10, List.forall_mem_cons.mpr ⟨lw_p11, List.forall_mem_cons.mpr ⟨lw_p12, List.forall_mem_cons.mpr ⟨lw_p13, List.forall_mem_cons.mpr ⟨lw_p14, List.forall_mem_cons.mpr ⟨lw_p15, fun _ h => absurd h List.not_mem_nil⟩⟩⟩⟩⟩⟩⟩⟩⟩⟩⟩⟩⟩⟩⟩⟩
theorem lw_p16 : lw_okq (⟨"LinearSearch$Marks", "mark", "(II)Z"⟩, 8) := ⟨⟨by decide +kernel, by decide +kernel⟩, List.mem_of_getElem? (i := 137) (by decide +kernel), List.mem_of_getElem? (i := 682) (by decide +kernel), List.mem_of_getElem? (i := 683) (by decide +kernel)⟩
theorem lw_p17 : lw_okq (⟨"LinearSearch$Marks", "step", "(IIJ)V"⟩, 8) := ⟨⟨by decide +kernel, by decide +kernel⟩, List.mem_of_getElem? (i := 137) (by decide +kernel), List.mem_of_getElem? (i := 688) (by decide +kernel), List.mem_of_getElem? (i := 689) (by decide +kernel)⟩
theorem lw_p18 : lw_okq (⟨"LinearSearch", "runAutomaton", "()V"⟩, 14) := ⟨⟨by decide +kernel, by decide +kernel⟩, List.mem_of_getElem? (i := 22) (by decide +kernel), List.mem_of_getElem? (i := 707) (by decide +kernel), List.mem_of_getElem? (i := 708) (by decide +kernel)⟩
theorem lw_p19 : lw_okq (⟨"LinearSearch$Automaton", "firstState", "(LLinearSearch$Program;)I"⟩, 8) := ⟨⟨by decide +kernel, by decide +kernel⟩, List.mem_of_getElem? (i := 216) (by decide +kernel), List.mem_of_getElem? (i := 715) (by decide +kernel), List.mem_of_getElem? (i := 716) (by decide +kernel)⟩
theorem lw_p20 : lw_okq (⟨"LinearSearch$Automaton", "keep", "(LLinearSearch$Program;Z)I"⟩, 8) := ⟨⟨by decide +kernel, by decide +kernel⟩, List.mem_of_getElem? (i := 216) (by decide +kernel), List.mem_of_getElem? (i := 721) (by decide +kernel), List.mem_of_getElem? (i := 722) (by decide +kernel)⟩
theorem lw_p21 : lw_okq (⟨"LinearSearch$Automaton", "stateAt", "(I)LLinearSearch$State;"⟩, 8) := ⟨⟨by decide +kernel, by decide +kernel⟩, List.mem_of_getElem? (i := 216) (by decide +kernel), List.mem_of_getElem? (i := 744) (by decide +kernel), List.mem_of_getElem? (i := 745) (by decide +kernel)⟩
theorem lw_p22 : lw_okq (⟨"LinearSearch$Automaton", "foundBehindLasts", "(LLinearSearch$Program;LLinearSearch$State;I)Z"⟩, 8) := ⟨⟨by decide +kernel, by decide +kernel⟩, List.mem_of_getElem? (i := 216) (by decide +kernel), List.mem_of_getElem? (i := 748) (by decide +kernel), List.mem_of_getElem? (i := 749) (by decide +kernel)⟩
theorem lw_p23 : lw_okq (⟨"LinearSearch$Automaton", "nextState", "(LLinearSearch$Program;II)I"⟩, 8) := ⟨⟨by decide +kernel, by decide +kernel⟩, List.mem_of_getElem? (i := 216) (by decide +kernel), List.mem_of_getElem? (i := 764) (by decide +kernel), List.mem_of_getElem? (i := 765) (by decide +kernel)⟩
theorem lw_p24 : lw_okq (⟨"LinearSearch", "runLists", "()V"⟩, 14) := ⟨⟨by decide +kernel, by decide +kernel⟩, List.mem_of_getElem? (i := 22) (by decide +kernel), List.mem_of_getElem? (i := 782) (by decide +kernel), List.mem_of_getElem? (i := 783) (by decide +kernel)⟩
theorem lw_p25 : lw_okq (⟨"LinearSearch$Lists", "goThrough", "(LLinearSearch$Program;I)J"⟩, 4) := ⟨⟨by decide +kernel, by decide +kernel⟩, List.mem_of_getElem? (i := 67) (by decide +kernel), List.mem_of_getElem? (i := 799) (by decide +kernel), List.mem_of_getElem? (i := 800) (by decide +kernel)⟩
theorem lw_p26 : lw_okq (⟨"LinearSearch$Lists", "swapLists", "()V"⟩, 4) := ⟨⟨by decide +kernel, by decide +kernel⟩, List.mem_of_getElem? (i := 67) (by decide +kernel), List.mem_of_getElem? (i := 812) (by decide +kernel), List.mem_of_getElem? (i := 813) (by decide +kernel)⟩
theorem lw_p27 : lw_okq (⟨"LinearSearch", "leftmostEndingAt", "(I)J"⟩, 14) := ⟨⟨by decide +kernel, by decide +kernel⟩, List.mem_of_getElem? (i := 22) (by decide +kernel), List.mem_of_getElem? (i := 820) (by decide +kernel), List.mem_of_getElem? (i := 821) (by decide +kernel)⟩
theorem lw_p28 : lw_okq (⟨"LinearSearch$Single", "goThrough", "(LLinearSearch$Program;II)V"⟩, 6) := ⟨⟨by decide +kernel, by decide +kernel⟩, List.mem_of_getElem? (i := 168) (by decide +kernel), List.mem_of_getElem? (i := 839) (by decide +kernel), List.mem_of_getElem? (i := 840) (by decide +kernel)⟩
theorem lw_p29 : lw_okq (⟨"LinearSearchModel", "read", "()Z"⟩, 45) := ⟨⟨by decide +kernel, by decide +kernel⟩, List.mem_of_getElem? (i := 865) (by decide +kernel), List.mem_of_getElem? (i := 1024) (by decide +kernel), List.mem_of_getElem? (i := 1025) (by decide +kernel)⟩
theorem lw_p30 : lw_okq (⟨"LinearSearchModel", "push", "(I)V"⟩, 45) := ⟨⟨by decide +kernel, by decide +kernel⟩, List.mem_of_getElem? (i := 865) (by decide +kernel), List.mem_of_getElem? (i := 1028) (by decide +kernel), List.mem_of_getElem? (i := 1029) (by decide +kernel)⟩
theorem lw_p31 : lw_okq (⟨"LinearSearchModel", "emit", "(III)V"⟩, 45) := ⟨⟨by decide +kernel, by decide +kernel⟩, List.mem_of_getElem? (i := 865) (by decide +kernel), List.mem_of_getElem? (i := 1032) (by decide +kernel), List.mem_of_getElem? (i := 1033) (by decide +kernel)⟩
def lw_privs_2 : List (MethodName × Nat) := [(⟨"LinearSearch$Marks", "mark", "(II)Z"⟩, 8), (⟨"LinearSearch$Marks", "step", "(IIJ)V"⟩, 8), (⟨"LinearSearch", "runAutomaton", "()V"⟩, 14), (⟨"LinearSearch$Automaton", "firstState", "(LLinearSearch$Program;)I"⟩, 8), (⟨"LinearSearch$Automaton", "keep", "(LLinearSearch$Program;Z)I"⟩, 8), (⟨"LinearSearch$Automaton", "stateAt", "(I)LLinearSearch$State;"⟩, 8), (⟨"LinearSearch$Automaton", "foundBehindLasts", "(LLinearSearch$Program;LLinearSearch$State;I)Z"⟩, 8), (⟨"LinearSearch$Automaton", "nextState", "(LLinearSearch$Program;II)I"⟩, 8), (⟨"LinearSearch", "runLists", "()V"⟩, 14), (⟨"LinearSearch$Lists", "goThrough", "(LLinearSearch$Program;I)J"⟩, 4), (⟨"LinearSearch$Lists", "swapLists", "()V"⟩, 4), (⟨"LinearSearch", "leftmostEndingAt", "(I)J"⟩, 14), (⟨"LinearSearch$Single", "goThrough", "(LLinearSearch$Program;II)V"⟩, 6), (⟨"LinearSearchModel", "read", "()Z"⟩, 45), (⟨"LinearSearchModel", "push", "(I)V"⟩, 45), (⟨"LinearSearchModel", "emit", "(III)V"⟩, 45)]
theorem lw_r2 : ∀ q ∈ lw_privs_2, lw_okq q := List.forall_mem_cons.mpr ⟨lw_p16, List.forall_mem_cons.mpr ⟨lw_p17, List.forall_mem_cons.mpr ⟨lw_p18, List.forall_mem_cons.mpr ⟨lw_p19, List.forall_mem_cons.mpr ⟨lw_p20, List.forall_mem_cons.mpr ⟨lw_p21, List.forall_mem_cons.mpr ⟨lw_p22, List.forall_mem_cons.mpr ⟨lw_p23, List.forall_mem_cons.mpr ⟨lw_p24, List.forall_mem_cons.mpr ⟨lw_p25, List.forall_mem_cons.mpr ⟨lw_p26, List.forall_mem_cons.mpr ⟨lw_p27, List.forall_mem_cons.mpr ⟨lw_p28, List.forall_mem_cons.mpr ⟨lw_p29, List.forall_mem_cons.mpr ⟨lw_p30, List.forall_mem_cons.mpr ⟨lw_p31, fun _ h => absurd h List.not_mem_nil⟩⟩⟩⟩⟩⟩⟩⟩⟩⟩⟩⟩⟩⟩⟩⟩
theorem lw_p32 : lw_okq (⟨"LinearSearchModel", "land", "(I)V"⟩, 45) := ⟨⟨by decide +kernel, by decide +kernel⟩, List.mem_of_getElem? (i := 865) (by decide +kernel), List.mem_of_getElem? (i := 1036) (by decide +kernel), List.mem_of_getElem? (i := 1037) (by decide +kernel)⟩
theorem lw_p33 : lw_okq (⟨"LinearSearchModel", "sign", "(I)V"⟩, 45) := ⟨⟨by decide +kernel, by decide +kernel⟩, List.mem_of_getElem? (i := 865) (by decide +kernel), List.mem_of_getElem? (i := 1040) (by decide +kernel), List.mem_of_getElem? (i := 1041) (by decide +kernel)⟩
theorem lw_p34 : lw_okq (⟨"LinearSearchModel", "peek", "()I"⟩, 45) := ⟨⟨by decide +kernel, by decide +kernel⟩, List.mem_of_getElem? (i := 865) (by decide +kernel), List.mem_of_getElem? (i := 1044) (by decide +kernel), List.mem_of_getElem? (i := 1045) (by decide +kernel)⟩
theorem lw_p35 : lw_okq (⟨"LinearSearchModel", "fail", "(I)I"⟩, 45) := ⟨⟨by decide +kernel, by decide +kernel⟩, List.mem_of_getElem? (i := 865) (by decide +kernel), List.mem_of_getElem? (i := 1051) (by decide +kernel), List.mem_of_getElem? (i := 1052) (by decide +kernel)⟩
theorem lw_p36 : lw_okq (⟨"LinearSearchModel", "noSearch", "()V"⟩, 45) := ⟨⟨by decide +kernel, by decide +kernel⟩, List.mem_of_getElem? (i := 865) (by decide +kernel), List.mem_of_getElem? (i := 1055) (by decide +kernel), List.mem_of_getElem? (i := 1056) (by decide +kernel)⟩
theorem lw_p37 : lw_okq (⟨"LinearSearchModel", "isSingle", "(I)Z"⟩, 45) := ⟨⟨by decide +kernel, by decide +kernel⟩, List.mem_of_getElem? (i := 865) (by decide +kernel), List.mem_of_getElem? (i := 1059) (by decide +kernel), List.mem_of_getElem? (i := 1060) (by decide +kernel)⟩
theorem lw_p38 : lw_okq (⟨"LinearSearchModel", "runLists", "(IZ)V"⟩, 45) := ⟨⟨by decide +kernel, by decide +kernel⟩, List.mem_of_getElem? (i := 865) (by decide +kernel), List.mem_of_getElem? (i := 1083) (by decide +kernel), List.mem_of_getElem? (i := 1084) (by decide +kernel)⟩
theorem lw_p39 : lw_okq (⟨"LinearSearchModel", "begin", "(I)V"⟩, 45) := ⟨⟨by decide +kernel, by decide +kernel⟩, List.mem_of_getElem? (i := 865) (by decide +kernel), List.mem_of_getElem? (i := 1087) (by decide +kernel), List.mem_of_getElem? (i := 1088) (by decide +kernel)⟩
theorem lw_p40 : lw_okq (⟨"LinearSearchModel", "follow", "(III)V"⟩, 45) := ⟨⟨by decide +kernel, by decide +kernel⟩, List.mem_of_getElem? (i := 865) (by decide +kernel), List.mem_of_getElem? (i := 1091) (by decide +kernel), List.mem_of_getElem? (i := 1092) (by decide +kernel)⟩
theorem lw_p41 : lw_okq (⟨"LinearSearchModel", "behind", "(II)I"⟩, 45) := ⟨⟨by decide +kernel, by decide +kernel⟩, List.mem_of_getElem? (i := 865) (by decide +kernel), List.mem_of_getElem? (i := 1095) (by decide +kernel), List.mem_of_getElem? (i := 1096) (by decide +kernel)⟩
theorem lw_p42 : lw_okq (⟨"LinearSearchModel", "otherWay", "(II)V"⟩, 45) := ⟨⟨by decide +kernel, by decide +kernel⟩, List.mem_of_getElem? (i := 865) (by decide +kernel), List.mem_of_getElem? (i := 1099) (by decide +kernel), List.mem_of_getElem? (i := 1100) (by decide +kernel)⟩
theorem lw_p43 : lw_okq (⟨"LinearSearchModel", "enter", "(II)V"⟩, 45) := ⟨⟨by decide +kernel, by decide +kernel⟩, List.mem_of_getElem? (i := 865) (by decide +kernel), List.mem_of_getElem? (i := 1103) (by decide +kernel), List.mem_of_getElem? (i := 1104) (by decide +kernel)⟩
theorem lw_p44 : lw_okq (⟨"LinearSearchModel", "back", "()I"⟩, 45) := ⟨⟨by decide +kernel, by decide +kernel⟩, List.mem_of_getElem? (i := 865) (by decide +kernel), List.mem_of_getElem? (i := 1107) (by decide +kernel), List.mem_of_getElem? (i := 1108) (by decide +kernel)⟩
theorem lw_p45 : lw_okq (⟨"LinearSearchModel", "go", "(II)V"⟩, 45) := ⟨⟨by decide +kernel, by decide +kernel⟩, List.mem_of_getElem? (i := 865) (by decide +kernel), List.mem_of_getElem? (i := 1111) (by decide +kernel), List.mem_of_getElem? (i := 1112) (by decide +kernel)⟩
theorem lw_p46 : lw_okq (⟨"LinearSearchModel", "take", "(I)V"⟩, 45) := ⟨⟨by decide +kernel, by decide +kernel⟩, List.mem_of_getElem? (i := 865) (by decide +kernel), List.mem_of_getElem? (i := 1115) (by decide +kernel), List.mem_of_getElem? (i := 1116) (by decide +kernel)⟩
theorem lw_p47 : lw_okq (⟨"LinearSearchModel", "note", "(I)V"⟩, 45) := ⟨⟨by decide +kernel, by decide +kernel⟩, List.mem_of_getElem? (i := 865) (by decide +kernel), List.mem_of_getElem? (i := 1119) (by decide +kernel), List.mem_of_getElem? (i := 1120) (by decide +kernel)⟩
def lw_privs_3 : List (MethodName × Nat) := [(⟨"LinearSearchModel", "land", "(I)V"⟩, 45), (⟨"LinearSearchModel", "sign", "(I)V"⟩, 45), (⟨"LinearSearchModel", "peek", "()I"⟩, 45), (⟨"LinearSearchModel", "fail", "(I)I"⟩, 45), (⟨"LinearSearchModel", "noSearch", "()V"⟩, 45), (⟨"LinearSearchModel", "isSingle", "(I)Z"⟩, 45), (⟨"LinearSearchModel", "runLists", "(IZ)V"⟩, 45), (⟨"LinearSearchModel", "begin", "(I)V"⟩, 45), (⟨"LinearSearchModel", "follow", "(III)V"⟩, 45), (⟨"LinearSearchModel", "behind", "(II)I"⟩, 45), (⟨"LinearSearchModel", "otherWay", "(II)V"⟩, 45), (⟨"LinearSearchModel", "enter", "(II)V"⟩, 45), (⟨"LinearSearchModel", "back", "()I"⟩, 45), (⟨"LinearSearchModel", "go", "(II)V"⟩, 45), (⟨"LinearSearchModel", "take", "(I)V"⟩, 45), (⟨"LinearSearchModel", "note", "(I)V"⟩, 45)]
theorem lw_r3 : ∀ q ∈ lw_privs_3, lw_okq q := List.forall_mem_cons.mpr ⟨lw_p32, List.forall_mem_cons.mpr ⟨lw_p33, List.forall_mem_cons.mpr ⟨lw_p34, List.forall_mem_cons.mpr ⟨lw_p35, List.forall_mem_cons.mpr ⟨lw_p36, List.forall_mem_cons.mpr ⟨lw_p37, List.forall_mem_cons.mpr ⟨lw_p38, List.forall_mem_cons.mpr ⟨lw_p39, List.forall_mem_cons.mpr ⟨lw_p40, List.forall_mem_cons.mpr ⟨lw_p41, List.forall_mem_cons.mpr ⟨lw_p42, List.forall_mem_cons.mpr ⟨lw_p43, List.forall_mem_cons.mpr ⟨lw_p44, List.forall_mem_cons.mpr ⟨lw_p45, List.forall_mem_cons.mpr ⟨lw_p46, List.forall_mem_cons.mpr ⟨lw_p47, fun _ h => absurd h List.not_mem_nil⟩⟩⟩⟩⟩⟩⟩⟩⟩⟩⟩⟩⟩⟩⟩⟩
theorem lw_p48 : lw_okq (⟨"LinearSearchModel", "isRight", "(II)Z"⟩, 45) := ⟨⟨by decide +kernel, by decide +kernel⟩, List.mem_of_getElem? (i := 865) (by decide +kernel), List.mem_of_getElem? (i := 1123) (by decide +kernel), List.mem_of_getElem? (i := 1124) (by decide +kernel)⟩
theorem lw_p49 : lw_okq (⟨"LinearSearchModel", "runMarks", "()V"⟩, 45) := ⟨⟨by decide +kernel, by decide +kernel⟩, List.mem_of_getElem? (i := 865) (by decide +kernel), List.mem_of_getElem? (i := 1127) (by decide +kernel), List.mem_of_getElem? (i := 1128) (by decide +kernel)⟩
theorem lw_p50 : lw_okq (⟨"LinearSearchModel", "runThread", "(I)V"⟩, 45) := ⟨⟨by decide +kernel, by decide +kernel⟩, List.mem_of_getElem? (i := 865) (by decide +kernel), List.mem_of_getElem? (i := 1131) (by decide +kernel), List.mem_of_getElem? (i := 1132) (by decide +kernel)⟩
theorem lw_p51 : lw_okq (⟨"LinearSearchModel", "runStates", "()V"⟩, 45) := ⟨⟨by decide +kernel, by decide +kernel⟩, List.mem_of_getElem? (i := 865) (by decide +kernel), List.mem_of_getElem? (i := 1135) (by decide +kernel), List.mem_of_getElem? (i := 1136) (by decide +kernel)⟩
theorem lw_p52 : lw_okq (⟨"LinearSearchModel", "endByStates", "()I"⟩, 45) := ⟨⟨by decide +kernel, by decide +kernel⟩, List.mem_of_getElem? (i := 865) (by decide +kernel), List.mem_of_getElem? (i := 1139) (by decide +kernel), List.mem_of_getElem? (i := 1140) (by decide +kernel)⟩
theorem lw_p53 : lw_okq (⟨"LinearSearchModel", "firstState", "()I"⟩, 45) := ⟨⟨by decide +kernel, by decide +kernel⟩, List.mem_of_getElem? (i := 865) (by decide +kernel), List.mem_of_getElem? (i := 1143) (by decide +kernel), List.mem_of_getElem? (i := 1144) (by decide +kernel)⟩
theorem lw_p54 : lw_okq (⟨"LinearSearchModel", "followRow", "(IZ)V"⟩, 45) := ⟨⟨by decide +kernel, by decide +kernel⟩, List.mem_of_getElem? (i := 865) (by decide +kernel), List.mem_of_getElem? (i := 1147) (by decide +kernel), List.mem_of_getElem? (i := 1148) (by decide +kernel)⟩
theorem lw_p55 : lw_okq (⟨"LinearSearchModel", "hasFound", "([III)Z"⟩, 45) := ⟨⟨by decide +kernel, by decide +kernel⟩, List.mem_of_getElem? (i := 865) (by decide +kernel), List.mem_of_getElem? (i := 1151) (by decide +kernel), List.mem_of_getElem? (i := 1152) (by decide +kernel)⟩
theorem lw_p56 : lw_okq (⟨"LinearSearchModel", "stateOf", "(Z)I"⟩, 45) := ⟨⟨by decide +kernel, by decide +kernel⟩, List.mem_of_getElem? (i := 865) (by decide +kernel), List.mem_of_getElem? (i := 1155) (by decide +kernel), List.mem_of_getElem? (i := 1156) (by decide +kernel)⟩
theorem lw_p57 : lw_okq (⟨"LinearSearchModel", "isRow", "(IZ)Z"⟩, 45) := ⟨⟨by decide +kernel, by decide +kernel⟩, List.mem_of_getElem? (i := 865) (by decide +kernel), List.mem_of_getElem? (i := 1159) (by decide +kernel), List.mem_of_getElem? (i := 1160) (by decide +kernel)⟩
theorem lw_p58 : lw_okq (⟨"LinearSearchModel", "isFinal", "(I)Z"⟩, 45) := ⟨⟨by decide +kernel, by decide +kernel⟩, List.mem_of_getElem? (i := 865) (by decide +kernel), List.mem_of_getElem? (i := 1163) (by decide +kernel), List.mem_of_getElem? (i := 1164) (by decide +kernel)⟩
theorem lw_p59 : lw_okq (⟨"LinearSearchModel", "endsBehind", "(I)Z"⟩, 45) := ⟨⟨by decide +kernel, by decide +kernel⟩, List.mem_of_getElem? (i := 865) (by decide +kernel), List.mem_of_getElem? (i := 1167) (by decide +kernel), List.mem_of_getElem? (i := 1168) (by decide +kernel)⟩
theorem lw_p60 : lw_okq (⟨"LinearSearchModel", "nextState", "(II)I"⟩, 45) := ⟨⟨by decide +kernel, by decide +kernel⟩, List.mem_of_getElem? (i := 865) (by decide +kernel), List.mem_of_getElem? (i := 1171) (by decide +kernel), List.mem_of_getElem? (i := 1172) (by decide +kernel)⟩
theorem lw_p61 : lw_okq (⟨"LinearSearchModel", "runSingle", "()V"⟩, 45) := ⟨⟨by decide +kernel, by decide +kernel⟩, List.mem_of_getElem? (i := 865) (by decide +kernel), List.mem_of_getElem? (i := 1175) (by decide +kernel), List.mem_of_getElem? (i := 1176) (by decide +kernel)⟩
def lw_privs_4 : List (MethodName × Nat) := [(⟨"LinearSearchModel", "isRight", "(II)Z"⟩, 45), (⟨"LinearSearchModel", "runMarks", "()V"⟩, 45), (⟨"LinearSearchModel", "runThread", "(I)V"⟩, 45), (⟨"LinearSearchModel", "runStates", "()V"⟩, 45), (⟨"LinearSearchModel", "endByStates", "()I"⟩, 45), (⟨"LinearSearchModel", "firstState", "()I"⟩, 45), (⟨"LinearSearchModel", "followRow", "(IZ)V"⟩, 45), (⟨"LinearSearchModel", "hasFound", "([III)Z"⟩, 45), (⟨"LinearSearchModel", "stateOf", "(Z)I"⟩, 45), (⟨"LinearSearchModel", "isRow", "(IZ)Z"⟩, 45), (⟨"LinearSearchModel", "isFinal", "(I)Z"⟩, 45), (⟨"LinearSearchModel", "endsBehind", "(I)Z"⟩, 45), (⟨"LinearSearchModel", "nextState", "(II)I"⟩, 45), (⟨"LinearSearchModel", "runSingle", "()V"⟩, 45)]
theorem lw_r4 : ∀ q ∈ lw_privs_4, lw_okq q := List.forall_mem_cons.mpr ⟨lw_p48, List.forall_mem_cons.mpr ⟨lw_p49, List.forall_mem_cons.mpr ⟨lw_p50, List.forall_mem_cons.mpr ⟨lw_p51, List.forall_mem_cons.mpr ⟨lw_p52, List.forall_mem_cons.mpr ⟨lw_p53, List.forall_mem_cons.mpr ⟨lw_p54, List.forall_mem_cons.mpr ⟨lw_p55, List.forall_mem_cons.mpr ⟨lw_p56, List.forall_mem_cons.mpr ⟨lw_p57, List.forall_mem_cons.mpr ⟨lw_p58, List.forall_mem_cons.mpr ⟨lw_p59, List.forall_mem_cons.mpr ⟨lw_p60, List.forall_mem_cons.mpr ⟨lw_p61, fun _ h => absurd h List.not_mem_nil⟩⟩⟩⟩⟩⟩⟩⟩⟩⟩⟩⟩⟩⟩
def lw_privs : List (MethodName × Nat) := lw_privs_1 ++ (lw_privs_2 ++ (lw_privs_3 ++ (lw_privs_4)))
def lw_tbl : List Cond := k2_sels lw_privs ++ tables_1
theorem lw_privs_ok : ∀ q ∈ lw_privs, lw_okq q := by
  show ∀ q ∈ lw_privs_1 ++ (lw_privs_2 ++ (lw_privs_3 ++ (lw_privs_4))), lw_okq q
  exact List.forall_mem_append.mpr ⟨lw_r1, List.forall_mem_append.mpr ⟨lw_r2, List.forall_mem_append.mpr ⟨lw_r3, lw_r4⟩⟩⟩
end
section
/-! NAMES, printed by wip/whole/gen_names.py out of the claim's own texts -/
def R_C : String := "LinearSearch"
def F_C : u_T := fun k => match k with
  | 0 => ("LinearSearch", "pattern", "[C", true)
  | 1 => ("LinearSearch", "patternLength", "I", false)
  | 2 => ("LinearSearch", "writer", "LLinearSearch$Writer;", true)
  | 3 => ("LinearSearch", "text", "LLinearSearch$Text;", true)
  | 4 => ("LinearSearch", "lists", "LLinearSearch$Lists;", true)
  | 5 => ("LinearSearch", "marks", "LLinearSearch$Marks;", true)
  | 6 => ("LinearSearch", "single", "LLinearSearch$Single;", true)
  | 7 => ("LinearSearch", "automaton", "LLinearSearch$Automaton;", true)
  | 8 => ("LinearSearch", "program", "LLinearSearch$Program;", false)
  | 9 => ("LinearSearch", "draft", "LLinearSearch$Program;", false)
  | 10 => ("LinearSearch", "fitsSingle", "Z", false)
  | 11 => ("LinearSearch", "match", "J", false)
  | 12 => ("LinearSearch", "latestWork", "I", false)
  | _ => ("LinearSearch", "latestMatcher", "I", false)
def t_C : Nat → FieldType := fun k => match k with
  | 0 => .array .char
  | 1 => .int
  | 2 => .object "LinearSearch$Writer"
  | 3 => .object "LinearSearch$Text"
  | 4 => .object "LinearSearch$Lists"
  | 5 => .object "LinearSearch$Marks"
  | 6 => .object "LinearSearch$Single"
  | 7 => .object "LinearSearch$Automaton"
  | 8 => .object "LinearSearch$Program"
  | 9 => .object "LinearSearch$Program"
  | 10 => .boolean
  | 11 => .long
  | 12 => .int
  | _ => .int
def R_Wr : String := "LinearSearch$Writer"
def F_Wr : u_T := fun k => match k with
  | 0 => ("LinearSearch$Writer", "source", "[C", false)
  | 1 => ("LinearSearch$Writer", "length", "I", false)
  | 2 => ("LinearSearch$Writer", "at", "I", false)
  | 3 => ("LinearSearch$Writer", "groups", "I", false)
  | _ => ("LinearSearch$Writer", "target", "LLinearSearch$Program;", false)
def t_Wr : Nat → FieldType := fun k => match k with
  | 0 => .array .char
  | 1 => .int
  | 2 => .int
  | 3 => .int
  | _ => .object "LinearSearch$Program"
def R_Tx : String := "LinearSearch$Text"
def F_Tx : u_T := fun k => match k with
  | 0 => ("LinearSearch$Text", "letters", "[I", true)
  | _ => ("LinearSearch$Text", "length", "I", false)
def t_Tx : Nat → FieldType := fun k => match k with
  | 0 => .array .int
  | _ => .int
def R_Ls : String := "LinearSearch$Lists"
def F_Ls : u_T := fun k => match k with
  | 0 => ("LinearSearch$Lists", "follower", "LLinearSearch$Follower;", true)
  | 1 => ("LinearSearch$Lists", "now", "LLinearSearch$ThreadList;", false)
  | 2 => ("LinearSearch$Lists", "next", "LLinearSearch$ThreadList;", false)
  | _ => ("LinearSearch$Lists", "passed", "I", false)
def t_Ls : Nat → FieldType := fun k => match k with
  | 0 => .object "LinearSearch$Follower"
  | 1 => .object "LinearSearch$ThreadList"
  | 2 => .object "LinearSearch$ThreadList"
  | _ => .int
def R_Fo : String := "LinearSearch$Follower"
def F_Fo : u_T := fun k => match k with
  | 0 => ("LinearSearch$Follower", "waiting", "[I", true)
  | 1 => ("LinearSearch$Follower", "waitingSlots", "[J", true)
  | 2 => ("LinearSearch$Follower", "waitingCount", "I", false)
  | 3 => ("LinearSearch$Follower", "marked", "J", false)
  | 4 => ("LinearSearch$Follower", "cameTwice", "Z", false)
  | 5 => ("LinearSearch$Follower", "program", "LLinearSearch$Program;", false)
  | 6 => ("LinearSearch$Follower", "list", "LLinearSearch$ThreadList;", false)
  | 7 => ("LinearSearch$Follower", "place", "I", false)
  | _ => ("LinearSearch$Follower", "lastRule", "I", false)
def t_Fo : Nat → FieldType := fun k => match k with
  | 0 => .array .int
  | 1 => .array .long
  | 2 => .int
  | 3 => .long
  | 4 => .boolean
  | 5 => .object "LinearSearch$Program"
  | 6 => .object "LinearSearch$ThreadList"
  | 7 => .int
  | _ => .int
def R_TL : String := "LinearSearch$ThreadList"
def F_TL : u_T := fun k => match k with
  | 0 => ("LinearSearch$ThreadList", "instructions", "[I", true)
  | 1 => ("LinearSearch$ThreadList", "slots", "[J", true)
  | _ => ("LinearSearch$ThreadList", "size", "I", false)
def t_TL : Nat → FieldType := fun k => match k with
  | 0 => .array .int
  | 1 => .array .long
  | _ => .int
def R_Ma : String := "LinearSearch$Marks"
def F_Ma : u_T := fun k => match k with
  | 0 => ("LinearSearch$Marks", "marked", "[J", true)
  | 1 => ("LinearSearch$Marks", "waiting", "[I", true)
  | 2 => ("LinearSearch$Marks", "waitingPlaces", "[I", true)
  | 3 => ("LinearSearch$Marks", "waitingSlots", "[J", true)
  | 4 => ("LinearSearch$Marks", "waitingCount", "I", false)
  | 5 => ("LinearSearch$Marks", "set", "I", false)
  | 6 => ("LinearSearch$Marks", "program", "LLinearSearch$Program;", false)
  | _ => ("LinearSearch$Marks", "text", "LLinearSearch$Text;", false)
def t_Ma : Nat → FieldType := fun k => match k with
  | 0 => .array .long
  | 1 => .array .int
  | 2 => .array .int
  | 3 => .array .long
  | 4 => .int
  | 5 => .int
  | 6 => .object "LinearSearch$Program"
  | _ => .object "LinearSearch$Text"
def R_Si : String := "LinearSearch$Single"
def F_Si : u_T := fun k => match k with
  | 0 => ("LinearSearch$Single", "follower", "LLinearSearch$Follower;", true)
  | 1 => ("LinearSearch$Single", "list", "LLinearSearch$ThreadList;", true)
  | 2 => ("LinearSearch$Single", "passed", "I", false)
  | 3 => ("LinearSearch$Single", "best", "J", false)
  | 4 => ("LinearSearch$Single", "goesOn", "I", false)
  | _ => ("LinearSearch$Single", "goesOnSlots", "J", false)
def t_Si : Nat → FieldType := fun k => match k with
  | 0 => .object "LinearSearch$Follower"
  | 1 => .object "LinearSearch$ThreadList"
  | 2 => .int
  | 3 => .long
  | 4 => .int
  | _ => .long
def R_Pr : String := "LinearSearch$Program"
def F_Pr : u_T := fun k => match k with
  | 0 => ("LinearSearch$Program", "kinds", "[I", true)
  | 1 => ("LinearSearch$Program", "xs", "[I", true)
  | 2 => ("LinearSearch$Program", "ys", "[I", true)
  | _ => ("LinearSearch$Program", "size", "I", false)
def t_Pr : Nat → FieldType := fun k => match k with
  | 0 => .array .int
  | 1 => .array .int
  | 2 => .array .int
  | _ => .int
def R_Au : String := "LinearSearch$Automaton"
def F_Au : u_T := fun k => match k with
  | 0 => ("LinearSearch$Automaton", "follower", "LLinearSearch$Follower;", true)
  | 1 => ("LinearSearch$Automaton", "list", "LLinearSearch$ThreadList;", true)
  | 2 => ("LinearSearch$Automaton", "row", "[LLinearSearch$State;", true)
  | 3 => ("LinearSearch$Automaton", "spare", "LLinearSearch$State;", false)
  | 4 => ("LinearSearch$Automaton", "kept", "I", false)
  | 5 => ("LinearSearch$Automaton", "flushed", "I", false)
  | 6 => ("LinearSearch$Automaton", "flushedInSearch", "I", false)
  | _ => ("LinearSearch$Automaton", "made", "I", false)
def t_Au : Nat → FieldType := fun k => match k with
  | 0 => .object "LinearSearch$Follower"
  | 1 => .object "LinearSearch$ThreadList"
  | 2 => .array (.object "LinearSearch$State")
  | 3 => .object "LinearSearch$State"
  | 4 => .int
  | 5 => .int
  | 6 => .int
  | _ => .int
def R_St : String := "LinearSearch$State"
def F_St : u_T := fun k => match k with
  | 0 => ("LinearSearch$State", "entries", "[I", true)
  | 1 => ("LinearSearch$State", "leads", "[I", true)
  | 2 => ("LinearSearch$State", "size", "I", false)
  | 3 => ("LinearSearch$State", "isOpen", "Z", false)
  | _ => ("LinearSearch$State", "hasFound", "Z", false)
def t_St : Nat → FieldType := fun k => match k with
  | 0 => .array .int
  | 1 => .array .int
  | 2 => .int
  | 3 => .boolean
  | _ => .boolean
def R_Mo : String := "LinearSearchModel"
def F_Mo : u_T := fun k => match k with
  | 0 => ("LinearSearchModel", "code", "I", false)
  | 1 => ("LinearSearchModel", "limit", "I", true)
  | 2 => ("LinearSearchModel", "typed", "I", false)
  | 3 => ("LinearSearchModel", "pattern", "[I", true)
  | 4 => ("LinearSearchModel", "fed", "I", false)
  | 5 => ("LinearSearchModel", "text", "[I", true)
  | 6 => ("LinearSearchModel", "length", "I", false)
  | 7 => ("LinearSearchModel", "kind", "[I", true)
  | 8 => ("LinearSearchModel", "x", "[I", true)
  | 9 => ("LinearSearchModel", "y", "[I", true)
  | 10 => ("LinearSearchModel", "written", "I", false)
  | 11 => ("LinearSearchModel", "newKind", "[I", true)
  | 12 => ("LinearSearchModel", "newX", "[I", true)
  | 13 => ("LinearSearchModel", "newY", "[I", true)
  | 14 => ("LinearSearchModel", "at", "I", false)
  | 15 => ("LinearSearchModel", "isSimple", "Z", false)
  | 16 => ("LinearSearchModel", "stamp", "I", false)
  | 17 => ("LinearSearchModel", "mark", "[I", true)
  | 18 => ("LinearSearchModel", "ways", "I", false)
  | 19 => ("LinearSearchModel", "wayAt", "[I", true)
  | 20 => ("LinearSearchModel", "wayPlace", "[I", true)
  | 21 => ("LinearSearchModel", "waySlots", "[I", true)
  | 22 => ("LinearSearchModel", "now", "[I", true)
  | 23 => ("LinearSearchModel", "many", "[I", true)
  | 24 => ("LinearSearchModel", "entry", "[I", true)
  | 25 => ("LinearSearchModel", "slots", "[I", true)
  | 26 => ("LinearSearchModel", "visited", "[Z", true)
  | 27 => ("LinearSearchModel", "kept", "I", false)
  | 28 => ("LinearSearchModel", "flushed", "I", false)
  | 29 => ("LinearSearchModel", "searchFlushes", "I", false)
  | 30 => ("LinearSearchModel", "size", "[I", true)
  | 31 => ("LinearSearchModel", "row", "[I", true)
  | 32 => ("LinearSearchModel", "open", "[Z", true)
  | 33 => ("LinearSearchModel", "leads", "[I", true)
  | 34 => ("LinearSearchModel", "fresh", "I", false)
  | 35 => ("LinearSearchModel", "freshRow", "[I", true)
  | 36 => ("LinearSearchModel", "count", "I", false)
  | 37 => ("LinearSearchModel", "done", "I", false)
  | 38 => ("LinearSearchModel", "work", "I", false)
  | 39 => ("LinearSearchModel", "found", "Z", false)
  | 40 => ("LinearSearchModel", "match", "[I", true)
  | 41 => ("LinearSearchModel", "sequence", "[I", true)
  | 42 => ("LinearSearchModel", "opened", "[I", true)
  | 43 => ("LinearSearchModel", "group", "[I", true)
  | _ => ("LinearSearchModel", "spare", "[I", true)
def t_Mo : Nat → FieldType := fun k => match k with
  | 0 => .int
  | 1 => .int
  | 2 => .int
  | 3 => .array .int
  | 4 => .int
  | 5 => .array .int
  | 6 => .int
  | 7 => .array .int
  | 8 => .array .int
  | 9 => .array .int
  | 10 => .int
  | 11 => .array .int
  | 12 => .array .int
  | 13 => .array .int
  | 14 => .int
  | 15 => .boolean
  | 16 => .int
  | 17 => .array .int
  | 18 => .int
  | 19 => .array .int
  | 20 => .array .int
  | 21 => .array .int
  | 22 => .array .int
  | 23 => .array .int
  | 24 => .array .int
  | 25 => .array .int
  | 26 => .array .boolean
  | 27 => .int
  | 28 => .int
  | 29 => .int
  | 30 => .array .int
  | 31 => .array .int
  | 32 => .array .boolean
  | 33 => .array .int
  | 34 => .int
  | 35 => .array .int
  | 36 => .int
  | 37 => .int
  | 38 => .int
  | 39 => .boolean
  | 40 => .array .int
  | 41 => .array .int
  | 42 => .array .int
  | 43 => .array .int
  | _ => .array .int
def lt_cl : List vw_C := [(R_C, F_C, 14), (R_Wr, F_Wr, 5), (R_Tx, F_Tx, 2), (R_Ls, F_Ls, 4), (R_Fo, F_Fo, 9), (R_TL, F_TL, 3), (R_Ma, F_Ma, 8), (R_Si, F_Si, 6), (R_Pr, F_Pr, 4), (R_Au, F_Au, 8), (R_St, F_St, 5), (R_Mo, F_Mo, 45)]
def lt_ty : Nat → Nat → FieldType := fun i => match i with
  | 0 => t_C
  | 1 => t_Wr
  | 2 => t_Tx
  | 3 => t_Ls
  | 4 => t_Fo
  | 5 => t_TL
  | 6 => t_Ma
  | 7 => t_Si
  | 8 => t_Pr
  | 9 => t_Au
  | 10 => t_St
  | _ => t_Mo
def lt_codes : List Nat := [0, 1, 2, 3, 20]
def lt_aty : Nat → FieldType := fun t => match t with
  | 0 => .int
  | 1 => .long
  | 2 => .char
  | 3 => .boolean
  | 4 => .byte
  | 5 => .short
  | _ => .object "LinearSearch$State"
def lt_T : List Cond := lw_tbl.filter goodWord
def lt_isN : Cond → Bool
  | .fieldLinkNest _ _ _ _ _ _ => true
  | .methodLinkNest _ _ _ _ => true
  | .arrayOver (.object _) => true
  | _ => false
def lt_N : List Cond := tables_1.filter lt_isN
theorem lt_N_ok : ∀ w ∈ lt_N, lt_isN w = true := fun w hw => (List.mem_filter.mp hw).2
theorem lt_T_good : ∀ w ∈ lt_T, goodWord w = true := fun w hw => (List.mem_filter.mp hw).2
theorem lt_memS {w : Cond} (i : Nat) (h : (k2_sels lw_privs)[i]? = some w) (hg : goodWord w = true) : w ∈ lt_T := List.mem_filter.mpr ⟨List.mem_append_left _ (List.mem_of_getElem? h), hg⟩

theorem lt_m1 {w : Cond} (i : Nat) (h : tables_1_1[i]? = some w) (hg : goodWord w = true) : w ∈ lt_T := List.mem_filter.mpr ⟨List.mem_append_right _ (List.mem_append_left _ (List.mem_of_getElem? h)), hg⟩
theorem lt_n1 {w : Cond} (i : Nat) (h : tables_1_1[i]? = some w) (hg : lt_isN w = true) : w ∈ lt_N := List.mem_filter.mpr ⟨(List.mem_append_left _ (List.mem_of_getElem? h)), hg⟩
theorem lt_m2 {w : Cond} (i : Nat) (h : tables_1_2[i]? = some w) (hg : goodWord w = true) : w ∈ lt_T := List.mem_filter.mpr ⟨List.mem_append_right _ (List.mem_append_right _ (List.mem_append_left _ (List.mem_of_getElem? h))), hg⟩
theorem lt_n2 {w : Cond} (i : Nat) (h : tables_1_2[i]? = some w) (hg : lt_isN w = true) : w ∈ lt_N := List.mem_filter.mpr ⟨(List.mem_append_right _ (List.mem_append_left _ (List.mem_of_getElem? h))), hg⟩
theorem lt_m3 {w : Cond} (i : Nat) (h : tables_1_3[i]? = some w) (hg : goodWord w = true) : w ∈ lt_T := List.mem_filter.mpr ⟨List.mem_append_right _ (List.mem_append_right _ (List.mem_append_right _ (List.mem_append_left _ (List.mem_of_getElem? h)))), hg⟩
theorem lt_n3 {w : Cond} (i : Nat) (h : tables_1_3[i]? = some w) (hg : lt_isN w = true) : w ∈ lt_N := List.mem_filter.mpr ⟨(List.mem_append_right _ (List.mem_append_right _ (List.mem_append_left _ (List.mem_of_getElem? h)))), hg⟩
theorem lt_m4 {w : Cond} (i : Nat) (h : tables_1_4[i]? = some w) (hg : goodWord w = true) : w ∈ lt_T := List.mem_filter.mpr ⟨List.mem_append_right _ (List.mem_append_right _ (List.mem_append_right _ (List.mem_append_right _ (List.mem_append_left _ (List.mem_of_getElem? h))))), hg⟩
theorem lt_n4 {w : Cond} (i : Nat) (h : tables_1_4[i]? = some w) (hg : lt_isN w = true) : w ∈ lt_N := List.mem_filter.mpr ⟨(List.mem_append_right _ (List.mem_append_right _ (List.mem_append_right _ (List.mem_append_left _ (List.mem_of_getElem? h))))), hg⟩
theorem lt_m5 {w : Cond} (i : Nat) (h : tables_1_5[i]? = some w) (hg : goodWord w = true) : w ∈ lt_T := List.mem_filter.mpr ⟨List.mem_append_right _ (List.mem_append_right _ (List.mem_append_right _ (List.mem_append_right _ (List.mem_append_right _ (List.mem_append_left _ (List.mem_of_getElem? h)))))), hg⟩
theorem lt_n5 {w : Cond} (i : Nat) (h : tables_1_5[i]? = some w) (hg : lt_isN w = true) : w ∈ lt_N := List.mem_filter.mpr ⟨(List.mem_append_right _ (List.mem_append_right _ (List.mem_append_right _ (List.mem_append_right _ (List.mem_append_left _ (List.mem_of_getElem? h)))))), hg⟩
theorem lt_m6 {w : Cond} (i : Nat) (h : tables_1_6[i]? = some w) (hg : goodWord w = true) : w ∈ lt_T := List.mem_filter.mpr ⟨List.mem_append_right _ (List.mem_append_right _ (List.mem_append_right _ (List.mem_append_right _ (List.mem_append_right _ (List.mem_append_right _ (List.mem_of_getElem? h)))))), hg⟩
theorem lt_n6 {w : Cond} (i : Nat) (h : tables_1_6[i]? = some w) (hg : lt_isN w = true) : w ∈ lt_N := List.mem_filter.mpr ⟨(List.mem_append_right _ (List.mem_append_right _ (List.mem_append_right _ (List.mem_append_right _ (List.mem_append_right _ (List.mem_of_getElem? h)))))), hg⟩
set_option maxRecDepth 10000 in
theorem i_C : ∀ w ∈ u_ws R_C F_C 14, w ∈ lt_T := by
  intro w hw
  obtain ⟨k, hk, rfl⟩ := List.mem_map.mp hw
  have hk := List.mem_range.mp hk
  match k, hk with
  | 0, _ => exact lt_m2 52 rfl rfl
  | 1, _ => exact lt_m2 54 rfl rfl
  | 2, _ => exact lt_m2 56 rfl rfl
  | 3, _ => exact lt_m2 58 rfl rfl
  | 4, _ => exact lt_m2 60 rfl rfl
  | 5, _ => exact lt_m2 62 rfl rfl
  | 6, _ => exact lt_m2 64 rfl rfl
  | 7, _ => exact lt_m2 66 rfl rfl
  | 8, _ => exact lt_m2 68 rfl rfl
  | 9, _ => exact lt_m2 70 rfl rfl
  | 10, _ => exact lt_m2 72 rfl rfl
  | 11, _ => exact lt_m2 74 rfl rfl
  | 12, _ => exact lt_m2 76 rfl rfl
  | 13, _ => exact lt_m2 78 rfl rfl
  | k + 14, h => exact absurd h (by omega)
theorem n_C : ∀ a, a < 14 → ∀ b, b < 14 → a ≠ b → (F_C a).2.1 ≠ (F_C b).2.1 := by decide +kernel
theorem ty_C : ∀ k, k < 14 → parseFieldDescriptor (F_C k).2.2.1 = some (t_C k) := by decide +kernel
set_option maxRecDepth 10000 in
theorem i_Wr : ∀ w ∈ u_ws R_Wr F_Wr 5, w ∈ lt_T := by
  intro w hw
  obtain ⟨k, hk, rfl⟩ := List.mem_map.mp hw
  have hk := List.mem_range.mp hk
  match k, hk with
  | 0, _ => exact lt_m1 40 rfl rfl
  | 1, _ => exact lt_m1 42 rfl rfl
  | 2, _ => exact lt_m1 44 rfl rfl
  | 3, _ => exact lt_m1 46 rfl rfl
  | 4, _ => exact lt_m1 48 rfl rfl
  | k + 5, h => exact absurd h (by omega)
theorem n_Wr : ∀ a, a < 5 → ∀ b, b < 5 → a ≠ b → (F_Wr a).2.1 ≠ (F_Wr b).2.1 := by decide +kernel
theorem ty_Wr : ∀ k, k < 5 → parseFieldDescriptor (F_Wr k).2.2.1 = some (t_Wr k) := by decide +kernel
set_option maxRecDepth 10000 in
theorem i_Tx : ∀ w ∈ u_ws R_Tx F_Tx 2, w ∈ lt_T := by
  intro w hw
  obtain ⟨k, hk, rfl⟩ := List.mem_map.mp hw
  have hk := List.mem_range.mp hk
  match k, hk with
  | 0, _ => exact lt_m1 60 rfl rfl
  | 1, _ => exact lt_m1 62 rfl rfl
  | k + 2, h => exact absurd h (by omega)
theorem n_Tx : ∀ a, a < 2 → ∀ b, b < 2 → a ≠ b → (F_Tx a).2.1 ≠ (F_Tx b).2.1 := by decide +kernel
theorem ty_Tx : ∀ k, k < 2 → parseFieldDescriptor (F_Tx k).2.2.1 = some (t_Tx k) := by decide +kernel
set_option maxRecDepth 10000 in
theorem i_Ls : ∀ w ∈ u_ws R_Ls F_Ls 4, w ∈ lt_T := by
  intro w hw
  obtain ⟨k, hk, rfl⟩ := List.mem_map.mp hw
  have hk := List.mem_range.mp hk
  match k, hk with
  | 0, _ => exact lt_m1 127 rfl rfl
  | 1, _ => exact lt_m1 129 rfl rfl
  | 2, _ => exact lt_m1 131 rfl rfl
  | 3, _ => exact lt_m1 133 rfl rfl
  | k + 4, h => exact absurd h (by omega)
theorem n_Ls : ∀ a, a < 4 → ∀ b, b < 4 → a ≠ b → (F_Ls a).2.1 ≠ (F_Ls b).2.1 := by decide +kernel
theorem ty_Ls : ∀ k, k < 4 → parseFieldDescriptor (F_Ls k).2.2.1 = some (t_Ls k) := by decide +kernel
set_option maxRecDepth 10000 in
theorem i_Fo : ∀ w ∈ u_ws R_Fo F_Fo 9, w ∈ lt_T := by
  intro w hw
  obtain ⟨k, hk, rfl⟩ := List.mem_map.mp hw
  have hk := List.mem_range.mp hk
  match k, hk with
  | 0, _ => exact lt_m1 87 rfl rfl
  | 1, _ => exact lt_m1 89 rfl rfl
  | 2, _ => exact lt_m1 91 rfl rfl
  | 3, _ => exact lt_m1 93 rfl rfl
  | 4, _ => exact lt_m1 95 rfl rfl
  | 5, _ => exact lt_m1 97 rfl rfl
  | 6, _ => exact lt_m1 99 rfl rfl
  | 7, _ => exact lt_m1 101 rfl rfl
  | 8, _ => exact lt_m1 103 rfl rfl
  | k + 9, h => exact absurd h (by omega)
theorem n_Fo : ∀ a, a < 9 → ∀ b, b < 9 → a ≠ b → (F_Fo a).2.1 ≠ (F_Fo b).2.1 := by decide +kernel
theorem ty_Fo : ∀ k, k < 9 → parseFieldDescriptor (F_Fo k).2.2.1 = some (t_Fo k) := by decide +kernel
set_option maxRecDepth 10000 in
theorem i_TL : ∀ w ∈ u_ws R_TL F_TL 3, w ∈ lt_T := by
  intro w hw
  obtain ⟨k, hk, rfl⟩ := List.mem_map.mp hw
  have hk := List.mem_range.mp hk
  match k, hk with
  | 0, _ => exact lt_m1 116 rfl rfl
  | 1, _ => exact lt_m1 118 rfl rfl
  | 2, _ => exact lt_m1 120 rfl rfl
  | k + 3, h => exact absurd h (by omega)
theorem n_TL : ∀ a, a < 3 → ∀ b, b < 3 → a ≠ b → (F_TL a).2.1 ≠ (F_TL b).2.1 := by decide +kernel
theorem ty_TL : ∀ k, k < 3 → parseFieldDescriptor (F_TL k).2.2.1 = some (t_TL k) := by decide +kernel
set_option maxRecDepth 10000 in
theorem i_Ma : ∀ w ∈ u_ws R_Ma F_Ma 8, w ∈ lt_T := by
  intro w hw
  obtain ⟨k, hk, rfl⟩ := List.mem_map.mp hw
  have hk := List.mem_range.mp hk
  match k, hk with
  | 0, _ => exact lt_m1 150 rfl rfl
  | 1, _ => exact lt_m1 152 rfl rfl
  | 2, _ => exact lt_m1 154 rfl rfl
  | 3, _ => exact lt_m1 156 rfl rfl
  | 4, _ => exact lt_m1 158 rfl rfl
  | 5, _ => exact lt_m1 160 rfl rfl
  | 6, _ => exact lt_m1 162 rfl rfl
  | 7, _ => exact lt_m1 164 rfl rfl
  | k + 8, h => exact absurd h (by omega)
theorem n_Ma : ∀ a, a < 8 → ∀ b, b < 8 → a ≠ b → (F_Ma a).2.1 ≠ (F_Ma b).2.1 := by decide +kernel
theorem ty_Ma : ∀ k, k < 8 → parseFieldDescriptor (F_Ma k).2.2.1 = some (t_Ma k) := by decide +kernel
set_option maxRecDepth 10000 in
theorem i_Si : ∀ w ∈ u_ws R_Si F_Si 6, w ∈ lt_T := by
  intro w hw
  obtain ⟨k, hk, rfl⟩ := List.mem_map.mp hw
  have hk := List.mem_range.mp hk
  match k, hk with
  | 0, _ => exact lt_m1 183 rfl rfl
  | 1, _ => exact lt_m1 185 rfl rfl
  | 2, _ => exact lt_m1 187 rfl rfl
  | 3, _ => exact lt_m1 189 rfl rfl
  | 4, _ => exact lt_m1 191 rfl rfl
  | 5, _ => exact lt_m1 193 rfl rfl
  | k + 6, h => exact absurd h (by omega)
theorem n_Si : ∀ a, a < 6 → ∀ b, b < 6 → a ≠ b → (F_Si a).2.1 ≠ (F_Si b).2.1 := by decide +kernel
theorem ty_Si : ∀ k, k < 6 → parseFieldDescriptor (F_Si k).2.2.1 = some (t_Si k) := by decide +kernel
set_option maxRecDepth 10000 in
theorem i_Pr : ∀ w ∈ u_ws R_Pr F_Pr 4, w ∈ lt_T := by
  intro w hw
  obtain ⟨k, hk, rfl⟩ := List.mem_map.mp hw
  have hk := List.mem_range.mp hk
  match k, hk with
  | 0, _ => exact lt_m1 206 rfl rfl
  | 1, _ => exact lt_m1 208 rfl rfl
  | 2, _ => exact lt_m1 210 rfl rfl
  | 3, _ => exact lt_m1 212 rfl rfl
  | k + 4, h => exact absurd h (by omega)
theorem n_Pr : ∀ a, a < 4 → ∀ b, b < 4 → a ≠ b → (F_Pr a).2.1 ≠ (F_Pr b).2.1 := by decide +kernel
theorem ty_Pr : ∀ k, k < 4 → parseFieldDescriptor (F_Pr k).2.2.1 = some (t_Pr k) := by decide +kernel
set_option maxRecDepth 10000 in
theorem i_Au : ∀ w ∈ u_ws R_Au F_Au 8, w ∈ lt_T := by
  intro w hw
  obtain ⟨k, hk, rfl⟩ := List.mem_map.mp hw
  have hk := List.mem_range.mp hk
  match k, hk with
  | 0, _ => exact lt_m2 21 rfl rfl
  | 1, _ => exact lt_m2 23 rfl rfl
  | 2, _ => exact lt_m2 25 rfl rfl
  | 3, _ => exact lt_m2 27 rfl rfl
  | 4, _ => exact lt_m2 29 rfl rfl
  | 5, _ => exact lt_m2 31 rfl rfl
  | 6, _ => exact lt_m2 33 rfl rfl
  | 7, _ => exact lt_m2 35 rfl rfl
  | k + 8, h => exact absurd h (by omega)
theorem n_Au : ∀ a, a < 8 → ∀ b, b < 8 → a ≠ b → (F_Au a).2.1 ≠ (F_Au b).2.1 := by decide +kernel
theorem ty_Au : ∀ k, k < 8 → parseFieldDescriptor (F_Au k).2.2.1 = some (t_Au k) := by decide +kernel
set_option maxRecDepth 10000 in
theorem i_St : ∀ w ∈ u_ws R_St F_St 5, w ∈ lt_T := by
  intro w hw
  obtain ⟨k, hk, rfl⟩ := List.mem_map.mp hw
  have hk := List.mem_range.mp hk
  match k, hk with
  | 0, _ => exact lt_m1 238 rfl rfl
  | 1, _ => exact lt_m2 0 rfl rfl
  | 2, _ => exact lt_m2 2 rfl rfl
  | 3, _ => exact lt_m2 4 rfl rfl
  | 4, _ => exact lt_m2 6 rfl rfl
  | k + 5, h => exact absurd h (by omega)
theorem n_St : ∀ a, a < 5 → ∀ b, b < 5 → a ≠ b → (F_St a).2.1 ≠ (F_St b).2.1 := by decide +kernel
theorem ty_St : ∀ k, k < 5 → parseFieldDescriptor (F_St k).2.2.1 = some (t_St k) := by decide +kernel
set_option maxRecDepth 10000 in
theorem i_Mo : ∀ w ∈ u_ws R_Mo F_Mo 45, w ∈ lt_T := by
  intro w hw
  obtain ⟨k, hk, rfl⟩ := List.mem_map.mp hw
  have hk := List.mem_range.mp hk
  match k, hk with
  | 0, _ => exact lt_m4 195 rfl rfl
  | 1, _ => exact lt_m4 197 rfl rfl
  | 2, _ => exact lt_m4 199 rfl rfl
  | 3, _ => exact lt_m4 201 rfl rfl
  | 4, _ => exact lt_m4 203 rfl rfl
  | 5, _ => exact lt_m4 205 rfl rfl
  | 6, _ => exact lt_m4 207 rfl rfl
  | 7, _ => exact lt_m4 209 rfl rfl
  | 8, _ => exact lt_m4 211 rfl rfl
  | 9, _ => exact lt_m4 213 rfl rfl
  | 10, _ => exact lt_m4 215 rfl rfl
  | 11, _ => exact lt_m4 217 rfl rfl
  | 12, _ => exact lt_m4 219 rfl rfl
  | 13, _ => exact lt_m4 221 rfl rfl
  | 14, _ => exact lt_m4 223 rfl rfl
  | 15, _ => exact lt_m4 225 rfl rfl
  | 16, _ => exact lt_m4 227 rfl rfl
  | 17, _ => exact lt_m4 229 rfl rfl
  | 18, _ => exact lt_m4 231 rfl rfl
  | 19, _ => exact lt_m4 233 rfl rfl
  | 20, _ => exact lt_m4 235 rfl rfl
  | 21, _ => exact lt_m4 237 rfl rfl
  | 22, _ => exact lt_m4 239 rfl rfl
  | 23, _ => exact lt_m5 1 rfl rfl
  | 24, _ => exact lt_m5 3 rfl rfl
  | 25, _ => exact lt_m5 5 rfl rfl
  | 26, _ => exact lt_m5 7 rfl rfl
  | 27, _ => exact lt_m5 9 rfl rfl
  | 28, _ => exact lt_m5 11 rfl rfl
  | 29, _ => exact lt_m5 13 rfl rfl
  | 30, _ => exact lt_m5 15 rfl rfl
  | 31, _ => exact lt_m5 17 rfl rfl
  | 32, _ => exact lt_m5 19 rfl rfl
  | 33, _ => exact lt_m5 21 rfl rfl
  | 34, _ => exact lt_m5 23 rfl rfl
  | 35, _ => exact lt_m5 25 rfl rfl
  | 36, _ => exact lt_m5 27 rfl rfl
  | 37, _ => exact lt_m5 29 rfl rfl
  | 38, _ => exact lt_m5 31 rfl rfl
  | 39, _ => exact lt_m5 33 rfl rfl
  | 40, _ => exact lt_m5 35 rfl rfl
  | 41, _ => exact lt_m5 37 rfl rfl
  | 42, _ => exact lt_m5 39 rfl rfl
  | 43, _ => exact lt_m5 41 rfl rfl
  | 44, _ => exact lt_m5 43 rfl rfl
  | k + 45, h => exact absurd h (by omega)
theorem n_Mo : ∀ a, a < 45 → ∀ b, b < 45 → a ≠ b → (F_Mo a).2.1 ≠ (F_Mo b).2.1 := by decide +kernel
theorem ty_Mo : ∀ k, k < 45 → parseFieldDescriptor (F_Mo k).2.2.1 = some (t_Mo k) := by decide +kernel
theorem lt_in {ci : Nat} {C : String} {T : u_T} {N : Nat} (h : lt_cl[ci]? = some (C, T, N)) : ∀ w ∈ u_ws C T N, w ∈ lt_T := by
  match ci, h with
  | 0, h => cases h; exact i_C
  | 1, h => cases h; exact i_Wr
  | 2, h => cases h; exact i_Tx
  | 3, h => cases h; exact i_Ls
  | 4, h => cases h; exact i_Fo
  | 5, h => cases h; exact i_TL
  | 6, h => cases h; exact i_Ma
  | 7, h => cases h; exact i_Si
  | 8, h => cases h; exact i_Pr
  | 9, h => cases h; exact i_Au
  | 10, h => cases h; exact i_St
  | 11, h => cases h; exact i_Mo
  | k + 12, h => exact absurd h (by simp [lt_cl])
theorem lt_nm {ci : Nat} {C : String} {T : u_T} {N : Nat} (h : lt_cl[ci]? = some (C, T, N)) : ∀ a, a < N → ∀ b, b < N → a ≠ b → (T a).2.1 ≠ (T b).2.1 := by
  match ci, h with
  | 0, h => cases h; exact n_C
  | 1, h => cases h; exact n_Wr
  | 2, h => cases h; exact n_Tx
  | 3, h => cases h; exact n_Ls
  | 4, h => cases h; exact n_Fo
  | 5, h => cases h; exact n_TL
  | 6, h => cases h; exact n_Ma
  | 7, h => cases h; exact n_Si
  | 8, h => cases h; exact n_Pr
  | 9, h => cases h; exact n_Au
  | 10, h => cases h; exact n_St
  | 11, h => cases h; exact n_Mo
  | k + 12, h => exact absurd h (by simp [lt_cl])
theorem lt_tyok {ci : Nat} {C : String} {T : u_T} {N : Nat} (h : lt_cl[ci]? = some (C, T, N)) : ∀ k, k < N → parseFieldDescriptor (T k).2.2.1 = some (lt_ty ci k) := by
  match ci, h with
  | 0, h => cases h; exact ty_C
  | 1, h => cases h; exact ty_Wr
  | 2, h => cases h; exact ty_Tx
  | 3, h => cases h; exact ty_Ls
  | 4, h => cases h; exact ty_Fo
  | 5, h => cases h; exact ty_TL
  | 6, h => cases h; exact ty_Ma
  | 7, h => cases h; exact ty_Si
  | 8, h => cases h; exact ty_Pr
  | 9, h => cases h; exact ty_Au
  | 10, h => cases h; exact ty_St
  | 11, h => cases h; exact ty_Mo
  | k + 12, h => exact absurd h (by simp [lt_cl])
end
section
/-! LEADS-TO: Lt says that the machine, at a point of a method (pc, locals, stack, heap view, room left), comes to a point where X holds. All of the machine stands behind it. -/
/-- the view of the heap: shapes, int-like, long and reference slots by address and place, and the next new address -/
abbrev hv_S : Type := (Nat → Option (Nat × Nat)) × (Nat → Nat → Int32) × (Nat → Nat → Int64) × (Nat → Nat → Option Nat) × Nat
abbrev hv_sh (σ : hv_S) : Nat → Option (Nat × Nat) := σ.1
abbrev hv_I (σ : hv_S) : Nat → Nat → Int32 := σ.2.1
abbrev hv_J (σ : hv_S) : Nat → Nat → Int64 := σ.2.2.1
abbrev hv_R (σ : hv_S) : Nat → Nat → Option Nat := σ.2.2.2.1
abbrev hv_n (σ : hv_S) : Nat := σ.2.2.2.2
/-- a value of type ty, read off the view -/
def hv_fv (ty : FieldType) (σ : hv_S) (a k : Nat) : Value := match ty with
  | .long => .long (hv_J σ a k)
  | .object _ => va_rf (hv_R σ a k)
  | .array _ => va_rf (hv_R σ a k)
  | _ => .int (hv_I σ a k)
def hv_u {α : Type} (f : Nat → Nat → α) (a k : Nat) (v : α) : Nat → Nat → α := fun b j => if j = k ∧ b = a then v else f b j
def hv_setI (σ : hv_S) (a k : Nat) (v : Int32) : hv_S := (hv_sh σ, hv_u (hv_I σ) a k v, hv_J σ, hv_R σ, hv_n σ)
def hv_setJ (σ : hv_S) (a k : Nat) (v : Int64) : hv_S := (hv_sh σ, hv_I σ, hv_u (hv_J σ) a k v, hv_R σ, hv_n σ)
def hv_setR (σ : hv_S) (a k : Nat) (v : Option Nat) : hv_S := (hv_sh σ, hv_I σ, hv_J σ, hv_u (hv_R σ) a k v, hv_n σ)
/-- a new cell, all zero -/
def hv_new (σ : hv_S) (x : Nat × Nat) : hv_S := (fun b => if b = hv_n σ then some x else hv_sh σ b, fun b j => if b = hv_n σ then 0 else hv_I σ b j, fun b j => if b = hv_n σ then 0 else hv_J σ b j, fun b j => if b = hv_n σ then none else hv_R σ b j, hv_n σ + 1)
def hv_zero : hv_S := (fun _ => none, fun _ _ => 0, fun _ _ => 0, fun _ _ => none, 0)
abbrev lt_G : Type := va_G × (Nat → ClassId)
abbrev lt_M : Type := MethodName × ByteArray × Nat × Option FieldType
/-- the cell of shape x at a: an object of class x.1, or (from 1000 on) an array of x.2 elements of the type with number x.1 - 1000 -/
def hv_at (G : lt_G) (σ : hv_S) (a : Nat) (x : Nat × Nat) (H : Heap) : Prop :=
  if x.1 < 1000 then ∃ r : vw_C, lt_cl[x.1]? = some r ∧ t_OB a (G.1.1 x.1) r.2.2 (G.1.2 x.1) H (fun k => hv_fv (lt_ty x.1 k) σ a k)
  else H[a]? = some (arrV (G.2 (x.1 - 1000)) x.2 (fun j => hv_fv (lt_aty (x.1 - 1000)) σ a j))
def hv_H (G : lt_G) (σ : hv_S) (H : Heap) : Prop := H.size = hv_n σ ∧ ∀ (a : Nat) (x : Nat × Nat), hv_sh σ a = some x → hv_at G σ a x H
def lt_tys (G : lt_G) : List (ClassId × FieldType) := lt_codes.map (fun t => (G.2 t, lt_aty t))
def lt_K (G : lt_G) (s : State) : Prop := va_K G.1 lt_cl (lt_tys G) s
def lt_C (G : lt_G) (μ : lt_M) (d : Nat) (p : Program) (R : Room) (s : State) (m : MethodId) (args : Array Value) (meth : Method) (c : Code) : Prop :=
  p.tables.exec = Jvm.exec ∧ c.code = μ.2.1 ∧ meth.sig.returnType = μ.2.2.2 ∧ c.maxLocals = μ.2.2.1 ∧ s.vm.findClass μ.1.cls = some m.cls ∧ (∀ w ∈ lt_T, w.before args s = true) ∧ (∀ w ∈ lt_N, va_Nw w s) ∧ lt_K G s ∧ meth.locks = false ∧ meth.name = μ.1.name ∧ d ≤ R.frames ∧ 64 * d ≤ R.locals
def lt_H (G : lt_G) (σ : hv_S) (s : State) (H : Heap) (locs : List Loc) (A : Nat → Prop) : Prop :=
  hv_H G σ H ∧ (∀ (a : Nat) (x : Nat × Nat), hv_sh σ a = some x → A a) ∧ va_S A s.heap H locs
def Lt (G : lt_G) (μ : lt_M) (d pc : Nat) (lo : List (Nat × Value)) (st : List Value) (σ : hv_S) (mc ms : Nat) (X : Nat → List (Nat × Value) → List Value → hv_S → Nat → Nat → Prop) : Prop :=
  ∀ (p : Program) (l : Launch) (e : Env) (R : Room) (s : State) (m : MethodId) (args : Array Value) (below : List Frame) (meth : Method) (c : Code), lt_C G μ d p R s m args meth c → ∀ (A : Nat → Prop), (∀ q : Nat, s.heap.size ≤ q → A q) → ∀ (Q : State → Prop),
  (∀ (pc' : Nat) (lo' : List (Nat × Value)) (st' : List Value) (σ' : hv_S) (mc' ms' : Nat) (H' : Heap) (locs' : List Loc) (cells' slots' : Nat) (ls' : Array Slot), X pc' lo' st' σ' mc' ms' → lv_has ls' μ.2.2.1 lo' → lt_H G σ' s H' locs' A → cells' + mc' ≤ R.cells → slots' + ms' ≤ R.slots → W p l e R s m args below meth c H' locs' cells' slots' Q (F0 m pc' ls' st')) →
  ∀ (H : Heap) (locs : List Loc) (cells slots : Nat) (ls : Array Slot), lv_has ls μ.2.2.1 lo → lt_H G σ s H locs A → cells + mc ≤ R.cells → slots + ms ≤ R.slots → W p l e R s m args below meth c H locs cells slots Q (F0 m pc ls st)
section LT
variable {G : lt_G} {μ : lt_M} {d pc : Nat} {lo lo' : List (Nat × Value)} {st : List Value} {σ : hv_S} {mc ms : Nat} {X : Nat → List (Nat × Value) → List Value → hv_S → Nat → Nat → Prop}
theorem Lt.stop (h : X pc lo st σ mc ms) : Lt G μ d pc lo st σ mc ms X := fun _ _ _ _ _ _ _ _ _ _ _ _ _ _ hX H locs cells slots ls hl hH h1 h2 => hX pc lo st σ mc ms H locs cells slots ls h hl hH h1 h2
theorem Lt.trans {Y : Nat → List (Nat × Value) → List Value → hv_S → Nat → Nat → Prop} (h : Lt G μ d pc lo st σ mc ms Y) (k : ∀ pc' lo' st' σ' mc' ms', Y pc' lo' st' σ' mc' ms' → Lt G μ d pc' lo' st' σ' mc' ms' X) : Lt G μ d pc lo st σ mc ms X :=
  fun p l e R s m args below meth c hC A hA Q hX H locs cells slots ls hl hH h1 h2 => h p l e R s m args below meth c hC A hA Q (fun pc' lo' st' σ' mc' ms' H' locs' cells' slots' ls' hy hl' hH' g1 g2 => k pc' lo' st' σ' mc' ms' hy p l e R s m args below meth c hC A hA Q hX H' locs' cells' slots' ls' hl' hH' g1 g2) H locs cells slots ls hl hH h1 h2
theorem Lt.less {mc' ms' : Nat} (hc : mc' ≤ mc) (hs : ms' ≤ ms) (h : Lt G μ d pc lo st σ mc' ms' X) : Lt G μ d pc lo st σ mc ms X :=
  fun p l e R s m args below meth c hC A hA Q hX H locs cells slots ls hl hH h1 h2 => h p l e R s m args below meth c hC A hA Q hX H locs cells slots ls hl hH (by omega) (by omega)
theorem Lt.sub (ks : List Nat) (hk : lv_pick lo ks = lo') (h : Lt G μ d pc lo' st σ mc ms X) : Lt G μ d pc lo st σ mc ms X :=
  fun p l e R s m args below meth c hC A hA Q hX H locs cells slots ls hl hH h1 h2 => h p l e R s m args below meth c hC A hA Q hX H locs cells slots ls (lv_sub hl ks hk) hH h1 h2
def ms_ld (lo : List (Nat × Value)) (i : Nat) : Option Value := match lo with
  | [] => none
  | q :: r => if q.1 = i then some q.2 else ms_ld r i
theorem ms_ld_mem : ∀ {lo : List (Nat × Value)} {i : Nat} {v : Value}, ms_ld lo i = some v → (i, v) ∈ lo
  | [], i, v, h => by simp [ms_ld] at h
  | q :: r, i, v, h => by
    unfold ms_ld at h
    split at h
    · next hq => cases h; subst hq; exact List.mem_cons_self
    · exact List.mem_cons_of_mem _ (ms_ld_mem h)
theorem ms_ld_at {ls : Array Slot} {nL : Nat} {lo : List (Nat × Value)} {i : Nat} {v : Value} (h : lv_has ls nL lo) (hi : ms_ld lo i = some v) : ls[i]? = some (.val v) := h.2.2 (i, v) (ms_ld_mem hi)
def ms_s1 (i : Nat) (v : Value) (lo : List (Nat × Value)) : List (Nat × Value) := (i, v) :: lo.filter (fun q => !(q.1 == i) && !(q.1 + 1 == i && q.2.category == 2))
def ms_s2 (i : Nat) (v : Value) (lo : List (Nat × Value)) : List (Nat × Value) := (i, v) :: lo.filter (fun q => !(q.1 == i) && (!(q.1 == i + 1) && !(q.1 + 1 == i && q.2.category == 2)))

theorem lt_iconst {n : Int} {v : Int32} (hd : decode μ.2.1 pc = .ok (.iconst n, 1)) (hv : Int32.ofInt n = v) (kk : Lt G μ d (pc + 1) lo (.int v :: st) σ mc ms X) : Lt G μ d pc lo (st) σ mc ms X :=
  fun p l e R s m args below meth c hC A hA Q hX H locs cells slots ls hl hH h1 h2 => lv_iconst hC.1 hC.2.1 hd hv (kk p l e R s m args below meth c hC A hA Q hX H locs cells slots ls hl hH h1 h2)
theorem lt_bipush {n : Int} {v : Int32} (hd : decode μ.2.1 pc = .ok (.bipush n, 2)) (hv : (Int8.ofInt n).toInt32 = v) (kk : Lt G μ d (pc + 2) lo (.int v :: st) σ mc ms X) : Lt G μ d pc lo (st) σ mc ms X :=
  fun p l e R s m args below meth c hC A hA Q hX H locs cells slots ls hl hH h1 h2 => lv_bipush hC.1 hC.2.1 hd hv (kk p l e R s m args below meth c hC A hA Q hX H locs cells slots ls hl hH h1 h2)
theorem lt_sipush {n : Int} {v : Int32} (hd : decode μ.2.1 pc = .ok (.sipush n, 3)) (hv : (Int16.ofInt n).toInt32 = v) (kk : Lt G μ d (pc + 3) lo (.int v :: st) σ mc ms X) : Lt G μ d pc lo (st) σ mc ms X :=
  fun p l e R s m args below meth c hC A hA Q hX H locs cells slots ls hl hH h1 h2 => lv_sipush hC.1 hC.2.1 hd hv (kk p l e R s m args below meth c hC A hA Q hX H locs cells slots ls hl hH h1 h2)
theorem lt_lconst {n : Fin 2} {v : Int64} (hd : decode μ.2.1 pc = .ok (.lconst n, 1)) (hv : Int64.ofNat (n : Nat) = v) (kk : Lt G μ d (pc + 1) lo (.long v :: st) σ mc ms X) : Lt G μ d pc lo (st) σ mc ms X :=
  fun p l e R s m args below meth c hC A hA Q hX H locs cells slots ls hl hH h1 h2 => lv_lconst hC.1 hC.2.1 hd hv (kk p l e R s m args below meth c hC A hA Q hX H locs cells slots ls hl hH h1 h2)
theorem lt_null  (hd : decode μ.2.1 pc = .ok (.aconst_null, 1)) (kk : Lt G μ d (pc + 1) lo (.null :: st) σ mc ms X) : Lt G μ d pc lo (st) σ mc ms X :=
  fun p l e R s m args below meth c hC A hA Q hX H locs cells slots ls hl hH h1 h2 => lv_null hC.1 hC.2.1 hd (kk p l e R s m args below meth c hC A hA Q hX H locs cells slots ls hl hH h1 h2)
theorem lt_iload {i : Nat} {x : Int32} (hd : decode μ.2.1 pc = .ok (.iload i, 2)) (hi : ms_ld lo i = some (.int x)) (kk : Lt G μ d (pc + 2) lo (.int x :: st) σ mc ms X) : Lt G μ d pc lo (st) σ mc ms X :=
  fun p l e R s m args below meth c hC A hA Q hX H locs cells slots ls hl hH h1 h2 => lv_iload hC.1 hC.2.1 hd (ms_ld_at hl hi) (kk p l e R s m args below meth c hC A hA Q hX H locs cells slots ls hl hH h1 h2)
theorem lt_iload_n {k : Fin 4} {x : Int32} (hd : decode μ.2.1 pc = .ok (.iload_n k, 1)) (hi : ms_ld lo (k : Nat) = some (.int x)) (kk : Lt G μ d (pc + 1) lo (.int x :: st) σ mc ms X) : Lt G μ d pc lo (st) σ mc ms X :=
  fun p l e R s m args below meth c hC A hA Q hX H locs cells slots ls hl hH h1 h2 => lv_iload_n hC.1 hC.2.1 hd rfl (ms_ld_at hl hi) (kk p l e R s m args below meth c hC A hA Q hX H locs cells slots ls hl hH h1 h2)
theorem lt_lload {i : Nat} {x : Int64} (hd : decode μ.2.1 pc = .ok (.lload i, 2)) (hi : ms_ld lo i = some (.long x)) (kk : Lt G μ d (pc + 2) lo (.long x :: st) σ mc ms X) : Lt G μ d pc lo (st) σ mc ms X :=
  fun p l e R s m args below meth c hC A hA Q hX H locs cells slots ls hl hH h1 h2 => lv_lload hC.1 hC.2.1 hd (ms_ld_at hl hi) (kk p l e R s m args below meth c hC A hA Q hX H locs cells slots ls hl hH h1 h2)
theorem lt_lload_n {k : Fin 4} {x : Int64} (hd : decode μ.2.1 pc = .ok (.lload_n k, 1)) (hi : ms_ld lo (k : Nat) = some (.long x)) (kk : Lt G μ d (pc + 1) lo (.long x :: st) σ mc ms X) : Lt G μ d pc lo (st) σ mc ms X :=
  fun p l e R s m args below meth c hC A hA Q hX H locs cells slots ls hl hH h1 h2 => lv_lload_n hC.1 hC.2.1 hd rfl (ms_ld_at hl hi) (kk p l e R s m args below meth c hC A hA Q hX H locs cells slots ls hl hH h1 h2)
theorem lt_aload {i : Nat} {x : Nat} (hd : decode μ.2.1 pc = .ok (.aload i, 2)) (hi : ms_ld lo i = some (.ref x)) (kk : Lt G μ d (pc + 2) lo (.ref x :: st) σ mc ms X) : Lt G μ d pc lo (st) σ mc ms X :=
  fun p l e R s m args below meth c hC A hA Q hX H locs cells slots ls hl hH h1 h2 => lv_aload hC.1 hC.2.1 hd (ms_ld_at hl hi) (kk p l e R s m args below meth c hC A hA Q hX H locs cells slots ls hl hH h1 h2)
theorem lt_aload_n {k : Fin 4} {x : Nat} (hd : decode μ.2.1 pc = .ok (.aload_n k, 1)) (hi : ms_ld lo (k : Nat) = some (.ref x)) (kk : Lt G μ d (pc + 1) lo (.ref x :: st) σ mc ms X) : Lt G μ d pc lo (st) σ mc ms X :=
  fun p l e R s m args below meth c hC A hA Q hX H locs cells slots ls hl hH h1 h2 => lv_aload_n hC.1 hC.2.1 hd rfl (ms_ld_at hl hi) (kk p l e R s m args below meth c hC A hA Q hX H locs cells slots ls hl hH h1 h2)
theorem lt_aloadN {i : Nat} (hd : decode μ.2.1 pc = .ok (.aload i, 2)) (hi : ms_ld lo i = some .null) (kk : Lt G μ d (pc + 2) lo (.null :: st) σ mc ms X) : Lt G μ d pc lo (st) σ mc ms X :=
  fun p l e R s m args below meth c hC A hA Q hX H locs cells slots ls hl hH h1 h2 => lv_aloadN hC.1 hC.2.1 hd (ms_ld_at hl hi) (kk p l e R s m args below meth c hC A hA Q hX H locs cells slots ls hl hH h1 h2)
theorem lt_aload_nN {k : Fin 4} (hd : decode μ.2.1 pc = .ok (.aload_n k, 1)) (hi : ms_ld lo (k : Nat) = some .null) (kk : Lt G μ d (pc + 1) lo (.null :: st) σ mc ms X) : Lt G μ d pc lo (st) σ mc ms X :=
  fun p l e R s m args below meth c hC A hA Q hX H locs cells slots ls hl hH h1 h2 => lv_aload_nN hC.1 hC.2.1 hd rfl (ms_ld_at hl hi) (kk p l e R s m args below meth c hC A hA Q hX H locs cells slots ls hl hH h1 h2)
theorem lt_istore {i : Nat} {x : Int32} (hd : decode μ.2.1 pc = .ok (.istore i, 2)) (hn : i < μ.2.2.1) (hs : ms_s1 i (.int x) lo = lo') (kk : Lt G μ d (pc + 2) lo' (st) σ mc ms X) : Lt G μ d pc lo (.int x :: st) σ mc ms X :=
  fun p l e R s m args below meth c hC A hA Q hX H locs cells slots ls hl hH h1 h2 => lv_istore hC.1 hC.2.1 hd hl hn hs (fun ls' hl' => kk p l e R s m args below meth c hC A hA Q hX H locs cells slots ls' hl' hH h1 h2)
theorem lt_istore_n {k : Fin 4} {x : Int32} (hd : decode μ.2.1 pc = .ok (.istore_n k, 1)) (hn : (k : Nat) < μ.2.2.1) (hs : ms_s1 (k : Nat) (.int x) lo = lo') (kk : Lt G μ d (pc + 1) lo' (st) σ mc ms X) : Lt G μ d pc lo (.int x :: st) σ mc ms X :=
  fun p l e R s m args below meth c hC A hA Q hX H locs cells slots ls hl hH h1 h2 => lv_istore_n hC.1 hC.2.1 hd rfl hl hn hs (fun ls' hl' => kk p l e R s m args below meth c hC A hA Q hX H locs cells slots ls' hl' hH h1 h2)
theorem lt_lstore {i : Nat} {x : Int64} (hd : decode μ.2.1 pc = .ok (.lstore i, 2)) (hn : i + 1 < μ.2.2.1) (hs : ms_s2 i (.long x) lo = lo') (kk : Lt G μ d (pc + 2) lo' (st) σ mc ms X) : Lt G μ d pc lo (.long x :: st) σ mc ms X :=
  fun p l e R s m args below meth c hC A hA Q hX H locs cells slots ls hl hH h1 h2 => lv_lstore hC.1 hC.2.1 hd hl hn hs (fun ls' hl' => kk p l e R s m args below meth c hC A hA Q hX H locs cells slots ls' hl' hH h1 h2)
theorem lt_lstore_n {k : Fin 4} {x : Int64} (hd : decode μ.2.1 pc = .ok (.lstore_n k, 1)) (hn : (k : Nat) + 1 < μ.2.2.1) (hs : ms_s2 (k : Nat) (.long x) lo = lo') (kk : Lt G μ d (pc + 1) lo' (st) σ mc ms X) : Lt G μ d pc lo (.long x :: st) σ mc ms X :=
  fun p l e R s m args below meth c hC A hA Q hX H locs cells slots ls hl hH h1 h2 => lv_lstore_n hC.1 hC.2.1 hd rfl hl hn hs (fun ls' hl' => kk p l e R s m args below meth c hC A hA Q hX H locs cells slots ls' hl' hH h1 h2)
theorem lt_astore {i : Nat} {x : Nat} (hd : decode μ.2.1 pc = .ok (.astore i, 2)) (hn : i < μ.2.2.1) (hs : ms_s1 i (.ref x) lo = lo') (kk : Lt G μ d (pc + 2) lo' (st) σ mc ms X) : Lt G μ d pc lo (.ref x :: st) σ mc ms X :=
  fun p l e R s m args below meth c hC A hA Q hX H locs cells slots ls hl hH h1 h2 => lv_astore hC.1 hC.2.1 hd hl hn hs (fun ls' hl' => kk p l e R s m args below meth c hC A hA Q hX H locs cells slots ls' hl' hH h1 h2)
theorem lt_astore_n {k : Fin 4} {x : Nat} (hd : decode μ.2.1 pc = .ok (.astore_n k, 1)) (hn : (k : Nat) < μ.2.2.1) (hs : ms_s1 (k : Nat) (.ref x) lo = lo') (kk : Lt G μ d (pc + 1) lo' (st) σ mc ms X) : Lt G μ d pc lo (.ref x :: st) σ mc ms X :=
  fun p l e R s m args below meth c hC A hA Q hX H locs cells slots ls hl hH h1 h2 => lv_astore_n hC.1 hC.2.1 hd rfl hl hn hs (fun ls' hl' => kk p l e R s m args below meth c hC A hA Q hX H locs cells slots ls' hl' hH h1 h2)
theorem lt_astoreN {i : Nat} (hd : decode μ.2.1 pc = .ok (.astore i, 2)) (hn : i < μ.2.2.1) (hs : ms_s1 i .null lo = lo') (kk : Lt G μ d (pc + 2) lo' (st) σ mc ms X) : Lt G μ d pc lo (.null :: st) σ mc ms X :=
  fun p l e R s m args below meth c hC A hA Q hX H locs cells slots ls hl hH h1 h2 => lv_astoreN hC.1 hC.2.1 hd hl hn hs (fun ls' hl' => kk p l e R s m args below meth c hC A hA Q hX H locs cells slots ls' hl' hH h1 h2)
theorem lt_astore_nN {k : Fin 4} (hd : decode μ.2.1 pc = .ok (.astore_n k, 1)) (hn : (k : Nat) < μ.2.2.1) (hs : ms_s1 (k : Nat) .null lo = lo') (kk : Lt G μ d (pc + 1) lo' (st) σ mc ms X) : Lt G μ d pc lo (.null :: st) σ mc ms X :=
  fun p l e R s m args below meth c hC A hA Q hX H locs cells slots ls hl hH h1 h2 => lv_astore_nN hC.1 hC.2.1 hd rfl hl hn hs (fun ls' hl' => kk p l e R s m args below meth c hC A hA Q hX H locs cells slots ls' hl' hH h1 h2)
theorem lt_iinc {i : Nat} {n : Int} {x v : Int32} (hd : decode μ.2.1 pc = .ok (.iinc i n, 3)) (hi : ms_ld lo i = some (.int x)) (hv : x + Int32.ofInt n = v) (hn : i < μ.2.2.1) (hs : ms_s1 i (.int v) lo = lo') (kk : Lt G μ d (pc + 3) lo' st σ mc ms X) : Lt G μ d pc lo st σ mc ms X :=
  fun p l e R s m args below meth c hC A hA Q hX H locs cells slots ls hl hH h1 h2 => by
    obtain ⟨k, hk⟩ := List.getElem?_of_mem (ms_ld_mem hi)
    exact lv_iinc hC.1 hC.2.1 hd hl hk hv hn hs (fun ls' hl' => kk p l e R s m args below meth c hC A hA Q hX H locs cells slots ls' hl' hH h1 h2)
theorem lt_iadd {x y : Int32} (hd : decode μ.2.1 pc = .ok (.iadd, 1)) (kk : Lt G μ d (pc + 1) lo (.int (x + y) :: st) σ mc ms X) : Lt G μ d pc lo (.int y :: .int x :: st) σ mc ms X :=
  fun p l e R s m args below meth c hC A hA Q hX H locs cells slots ls hl hH h1 h2 => lv_iadd hC.1 hC.2.1 hd (kk p l e R s m args below meth c hC A hA Q hX H locs cells slots ls hl hH h1 h2)
theorem lt_isub {x y : Int32} (hd : decode μ.2.1 pc = .ok (.isub, 1)) (kk : Lt G μ d (pc + 1) lo (.int (x - y) :: st) σ mc ms X) : Lt G μ d pc lo (.int y :: .int x :: st) σ mc ms X :=
  fun p l e R s m args below meth c hC A hA Q hX H locs cells slots ls hl hH h1 h2 => lv_isub hC.1 hC.2.1 hd (kk p l e R s m args below meth c hC A hA Q hX H locs cells slots ls hl hH h1 h2)
theorem lt_imul {x y : Int32} (hd : decode μ.2.1 pc = .ok (.imul, 1)) (kk : Lt G μ d (pc + 1) lo (.int (x * y) :: st) σ mc ms X) : Lt G μ d pc lo (.int y :: .int x :: st) σ mc ms X :=
  fun p l e R s m args below meth c hC A hA Q hX H locs cells slots ls hl hH h1 h2 => lv_imul hC.1 hC.2.1 hd (kk p l e R s m args below meth c hC A hA Q hX H locs cells slots ls hl hH h1 h2)
theorem lt_iand {x y : Int32} (hd : decode μ.2.1 pc = .ok (.iand, 1)) (kk : Lt G μ d (pc + 1) lo (.int (x &&& y) :: st) σ mc ms X) : Lt G μ d pc lo (.int y :: .int x :: st) σ mc ms X :=
  fun p l e R s m args below meth c hC A hA Q hX H locs cells slots ls hl hH h1 h2 => lv_iand hC.1 hC.2.1 hd (kk p l e R s m args below meth c hC A hA Q hX H locs cells slots ls hl hH h1 h2)
theorem lt_ior {x y : Int32} (hd : decode μ.2.1 pc = .ok (.ior, 1)) (kk : Lt G μ d (pc + 1) lo (.int (x ||| y) :: st) σ mc ms X) : Lt G μ d pc lo (.int y :: .int x :: st) σ mc ms X :=
  fun p l e R s m args below meth c hC A hA Q hX H locs cells slots ls hl hH h1 h2 => lv_ior hC.1 hC.2.1 hd (kk p l e R s m args below meth c hC A hA Q hX H locs cells slots ls hl hH h1 h2)
theorem lt_ixor {x y : Int32} (hd : decode μ.2.1 pc = .ok (.ixor, 1)) (kk : Lt G μ d (pc + 1) lo (.int (x ^^^ y) :: st) σ mc ms X) : Lt G μ d pc lo (.int y :: .int x :: st) σ mc ms X :=
  fun p l e R s m args below meth c hC A hA Q hX H locs cells slots ls hl hH h1 h2 => lv_ixor hC.1 hC.2.1 hd (kk p l e R s m args below meth c hC A hA Q hX H locs cells slots ls hl hH h1 h2)
theorem lt_ishl {x y : Int32} (hd : decode μ.2.1 pc = .ok (.ishl, 1)) (kk : Lt G μ d (pc + 1) lo (.int (x <<< (y &&& 31)) :: st) σ mc ms X) : Lt G μ d pc lo (.int y :: .int x :: st) σ mc ms X :=
  fun p l e R s m args below meth c hC A hA Q hX H locs cells slots ls hl hH h1 h2 => lv_ishl hC.1 hC.2.1 hd (kk p l e R s m args below meth c hC A hA Q hX H locs cells slots ls hl hH h1 h2)
theorem lt_ishr {x y : Int32} (hd : decode μ.2.1 pc = .ok (.ishr, 1)) (kk : Lt G μ d (pc + 1) lo (.int (x >>> (y &&& 31)) :: st) σ mc ms X) : Lt G μ d pc lo (.int y :: .int x :: st) σ mc ms X :=
  fun p l e R s m args below meth c hC A hA Q hX H locs cells slots ls hl hH h1 h2 => lv_ishr hC.1 hC.2.1 hd (kk p l e R s m args below meth c hC A hA Q hX H locs cells slots ls hl hH h1 h2)
theorem lt_ladd {x y : Int64} (hd : decode μ.2.1 pc = .ok (.ladd, 1)) (kk : Lt G μ d (pc + 1) lo (.long (x + y) :: st) σ mc ms X) : Lt G μ d pc lo (.long y :: .long x :: st) σ mc ms X :=
  fun p l e R s m args below meth c hC A hA Q hX H locs cells slots ls hl hH h1 h2 => lv_ladd hC.1 hC.2.1 hd (kk p l e R s m args below meth c hC A hA Q hX H locs cells slots ls hl hH h1 h2)
theorem lt_lsub {x y : Int64} (hd : decode μ.2.1 pc = .ok (.lsub, 1)) (kk : Lt G μ d (pc + 1) lo (.long (x - y) :: st) σ mc ms X) : Lt G μ d pc lo (.long y :: .long x :: st) σ mc ms X :=
  fun p l e R s m args below meth c hC A hA Q hX H locs cells slots ls hl hH h1 h2 => lv_lsub hC.1 hC.2.1 hd (kk p l e R s m args below meth c hC A hA Q hX H locs cells slots ls hl hH h1 h2)
theorem lt_lmul {x y : Int64} (hd : decode μ.2.1 pc = .ok (.lmul, 1)) (kk : Lt G μ d (pc + 1) lo (.long (x * y) :: st) σ mc ms X) : Lt G μ d pc lo (.long y :: .long x :: st) σ mc ms X :=
  fun p l e R s m args below meth c hC A hA Q hX H locs cells slots ls hl hH h1 h2 => lv_lmul hC.1 hC.2.1 hd (kk p l e R s m args below meth c hC A hA Q hX H locs cells slots ls hl hH h1 h2)
theorem lt_land {x y : Int64} (hd : decode μ.2.1 pc = .ok (.land, 1)) (kk : Lt G μ d (pc + 1) lo (.long (x &&& y) :: st) σ mc ms X) : Lt G μ d pc lo (.long y :: .long x :: st) σ mc ms X :=
  fun p l e R s m args below meth c hC A hA Q hX H locs cells slots ls hl hH h1 h2 => lv_land hC.1 hC.2.1 hd (kk p l e R s m args below meth c hC A hA Q hX H locs cells slots ls hl hH h1 h2)
theorem lt_lor {x y : Int64} (hd : decode μ.2.1 pc = .ok (.lor, 1)) (kk : Lt G μ d (pc + 1) lo (.long (x ||| y) :: st) σ mc ms X) : Lt G μ d pc lo (.long y :: .long x :: st) σ mc ms X :=
  fun p l e R s m args below meth c hC A hA Q hX H locs cells slots ls hl hH h1 h2 => lv_lor hC.1 hC.2.1 hd (kk p l e R s m args below meth c hC A hA Q hX H locs cells slots ls hl hH h1 h2)
theorem lt_lxor {x y : Int64} (hd : decode μ.2.1 pc = .ok (.lxor, 1)) (kk : Lt G μ d (pc + 1) lo (.long (x ^^^ y) :: st) σ mc ms X) : Lt G μ d pc lo (.long y :: .long x :: st) σ mc ms X :=
  fun p l e R s m args below meth c hC A hA Q hX H locs cells slots ls hl hH h1 h2 => lv_lxor hC.1 hC.2.1 hd (kk p l e R s m args below meth c hC A hA Q hX H locs cells slots ls hl hH h1 h2)
theorem lt_ineg {x : Int32} (hd : decode μ.2.1 pc = .ok (.ineg, 1)) (kk : Lt G μ d (pc + 1) lo (.int (-x) :: st) σ mc ms X) : Lt G μ d pc lo (.int x :: st) σ mc ms X :=
  fun p l e R s m args below meth c hC A hA Q hX H locs cells slots ls hl hH h1 h2 => lv_ineg hC.1 hC.2.1 hd (kk p l e R s m args below meth c hC A hA Q hX H locs cells slots ls hl hH h1 h2)
theorem lt_iushr {x y : Int32} (hd : decode μ.2.1 pc = .ok (.iushr, 1)) (kk : Lt G μ d (pc + 1) lo (.int (x.toUInt32 >>> (y.toUInt32 &&& Int32.toUInt32 31)).toInt32 :: st) σ mc ms X) : Lt G μ d pc lo (.int y :: .int x :: st) σ mc ms X :=
  fun p l e R s m args below meth c hC A hA Q hX H locs cells slots ls hl hH h1 h2 => lv_iushr hC.1 hC.2.1 hd rfl (kk p l e R s m args below meth c hC A hA Q hX H locs cells slots ls hl hH h1 h2)
theorem lt_lushr {x : Int64} {y : Int32} (hd : decode μ.2.1 pc = .ok (.lushr, 1)) (kk : Lt G μ d (pc + 1) lo (.long (x.toUInt64 >>> (y.toInt64.toUInt64 &&& Int64.toUInt64 63)).toInt64 :: st) σ mc ms X) : Lt G μ d pc lo (.int y :: .long x :: st) σ mc ms X :=
  fun p l e R s m args below meth c hC A hA Q hX H locs cells slots ls hl hH h1 h2 => lv_lushr hC.1 hC.2.1 hd rfl (kk p l e R s m args below meth c hC A hA Q hX H locs cells slots ls hl hH h1 h2)
theorem lt_lshl {x : Int64} {y : Int32} (hd : decode μ.2.1 pc = .ok (.lshl, 1)) (kk : Lt G μ d (pc + 1) lo (.long (x <<< (y.toInt64 &&& 63)) :: st) σ mc ms X) : Lt G μ d pc lo (.int y :: .long x :: st) σ mc ms X :=
  fun p l e R s m args below meth c hC A hA Q hX H locs cells slots ls hl hH h1 h2 => lv_lshl hC.1 hC.2.1 hd rfl (kk p l e R s m args below meth c hC A hA Q hX H locs cells slots ls hl hH h1 h2)
theorem lt_lshr {x : Int64} {y : Int32} (hd : decode μ.2.1 pc = .ok (.lshr, 1)) (kk : Lt G μ d (pc + 1) lo (.long (x >>> (y.toInt64 &&& 63)) :: st) σ mc ms X) : Lt G μ d pc lo (.int y :: .long x :: st) σ mc ms X :=
  fun p l e R s m args below meth c hC A hA Q hX H locs cells slots ls hl hH h1 h2 => lv_lshr hC.1 hC.2.1 hd rfl (kk p l e R s m args below meth c hC A hA Q hX H locs cells slots ls hl hH h1 h2)
theorem lt_idiv {x y : Int32} (hd : decode μ.2.1 pc = .ok (.idiv, 1)) (hne : ¬ y = 0) (kk : Lt G μ d (pc + 1) lo (.int (x / y) :: st) σ mc ms X) : Lt G μ d pc lo (.int y :: .int x :: st) σ mc ms X :=
  fun p l e R s m args below meth c hC A hA Q hX H locs cells slots ls hl hH h1 h2 => lv_idiv hC.1 hC.2.1 hd hne (kk p l e R s m args below meth c hC A hA Q hX H locs cells slots ls hl hH h1 h2)
theorem lt_irem {x y : Int32} (hd : decode μ.2.1 pc = .ok (.irem, 1)) (hne : ¬ y = 0) (kk : Lt G μ d (pc + 1) lo (.int (x - x / y * y) :: st) σ mc ms X) : Lt G μ d pc lo (.int y :: .int x :: st) σ mc ms X :=
  fun p l e R s m args below meth c hC A hA Q hX H locs cells slots ls hl hH h1 h2 => lv_irem hC.1 hC.2.1 hd hne (kk p l e R s m args below meth c hC A hA Q hX H locs cells slots ls hl hH h1 h2)
theorem lt_i2l {x : Int32} (hd : decode μ.2.1 pc = .ok (.i2l, 1)) (kk : Lt G μ d (pc + 1) lo (.long x.toInt64 :: st) σ mc ms X) : Lt G μ d pc lo (.int x :: st) σ mc ms X :=
  fun p l e R s m args below meth c hC A hA Q hX H locs cells slots ls hl hH h1 h2 => lv_i2l hC.1 hC.2.1 hd rfl (kk p l e R s m args below meth c hC A hA Q hX H locs cells slots ls hl hH h1 h2)
theorem lt_l2i {x : Int64} (hd : decode μ.2.1 pc = .ok (.l2i, 1)) (kk : Lt G μ d (pc + 1) lo (.int x.toInt32 :: st) σ mc ms X) : Lt G μ d pc lo (.long x :: st) σ mc ms X :=
  fun p l e R s m args below meth c hC A hA Q hX H locs cells slots ls hl hH h1 h2 => lv_l2i hC.1 hC.2.1 hd rfl (kk p l e R s m args below meth c hC A hA Q hX H locs cells slots ls hl hH h1 h2)
theorem lt_i2b {x : Int32} (hd : decode μ.2.1 pc = .ok (.i2b, 1)) (kk : Lt G μ d (pc + 1) lo (.int x.toInt8.toInt32 :: st) σ mc ms X) : Lt G μ d pc lo (.int x :: st) σ mc ms X :=
  fun p l e R s m args below meth c hC A hA Q hX H locs cells slots ls hl hH h1 h2 => lv_i2b hC.1 hC.2.1 hd rfl (kk p l e R s m args below meth c hC A hA Q hX H locs cells slots ls hl hH h1 h2)
theorem lt_i2s {x : Int32} (hd : decode μ.2.1 pc = .ok (.i2s, 1)) (kk : Lt G μ d (pc + 1) lo (.int x.toInt16.toInt32 :: st) σ mc ms X) : Lt G μ d pc lo (.int x :: st) σ mc ms X :=
  fun p l e R s m args below meth c hC A hA Q hX H locs cells slots ls hl hH h1 h2 => lv_i2s hC.1 hC.2.1 hd rfl (kk p l e R s m args below meth c hC A hA Q hX H locs cells slots ls hl hH h1 h2)
theorem lt_i2c {x : Int32} (hd : decode μ.2.1 pc = .ok (.i2c, 1)) (kk : Lt G μ d (pc + 1) lo (.int (x.toUInt32 % 65536).toInt32 :: st) σ mc ms X) : Lt G μ d pc lo (.int x :: st) σ mc ms X :=
  fun p l e R s m args below meth c hC A hA Q hX H locs cells slots ls hl hH h1 h2 => lv_i2c hC.1 hC.2.1 hd rfl (kk p l e R s m args below meth c hC A hA Q hX H locs cells slots ls hl hH h1 h2)
theorem lt_lcmp {x y : Int64} (hd : decode μ.2.1 pc = .ok (.lcmp, 1)) (kk : Lt G μ d (pc + 1) lo (.int (lg_cmp x y) :: st) σ mc ms X) : Lt G μ d pc lo (.long y :: .long x :: st) σ mc ms X :=
  fun p l e R s m args below meth c hC A hA Q hX H locs cells slots ls hl hH h1 h2 => W.lcmp hC.1 hC.2.1 hd (kk p l e R s m args below meth c hC A hA Q hX H locs cells slots ls hl hH h1 h2)
theorem lt_dup {a : Value} (hd : decode μ.2.1 pc = .ok (.dup, 1)) (ha : a.category = 1) (kk : Lt G μ d (pc + 1) lo (a :: a :: st) σ mc ms X) : Lt G μ d pc lo (a :: st) σ mc ms X :=
  fun p l e R s m args below meth c hC A hA Q hX H locs cells slots ls hl hH h1 h2 => lv_dup hC.1 hC.2.1 hd ha (kk p l e R s m args below meth c hC A hA Q hX H locs cells slots ls hl hH h1 h2)
theorem lt_pop {a : Value} (hd : decode μ.2.1 pc = .ok (.pop, 1)) (ha : a.category = 1) (kk : Lt G μ d (pc + 1) lo (st) σ mc ms X) : Lt G μ d pc lo (a :: st) σ mc ms X :=
  fun p l e R s m args below meth c hC A hA Q hX H locs cells slots ls hl hH h1 h2 => lv_pop hC.1 hC.2.1 hd ha (kk p l e R s m args below meth c hC A hA Q hX H locs cells slots ls hl hH h1 h2)
theorem lt_dup_x1 {a b : Value} (hd : decode μ.2.1 pc = .ok (.dup_x1, 1)) (ha : a.category = 1) (hb : b.category = 1) (kk : Lt G μ d (pc + 1) lo (a :: b :: a :: st) σ mc ms X) : Lt G μ d pc lo (a :: b :: st) σ mc ms X :=
  fun p l e R s m args below meth c hC A hA Q hX H locs cells slots ls hl hH h1 h2 => lv_dup_x1 hC.1 hC.2.1 hd ha hb (kk p l e R s m args below meth c hC A hA Q hX H locs cells slots ls hl hH h1 h2)
theorem lt_dup_x2 {a b c2 : Value} (hd : decode μ.2.1 pc = .ok (.dup_x2, 1)) (ha : a.category = 1) (hb : b.category = 1) (hc : c2.category = 1) (kk : Lt G μ d (pc + 1) lo (a :: b :: c2 :: a :: st) σ mc ms X) : Lt G μ d pc lo (a :: b :: c2 :: st) σ mc ms X :=
  fun p l e R s m args below meth c hC A hA Q hX H locs cells slots ls hl hH h1 h2 => lv_dup_x2 hC.1 hC.2.1 hd ha hb hc (kk p l e R s m args below meth c hC A hA Q hX H locs cells slots ls hl hH h1 h2)
theorem lt_dup2_11 {a b : Value} (hd : decode μ.2.1 pc = .ok (.dup2, 1)) (ha : a.category = 1) (hb : b.category = 1) (kk : Lt G μ d (pc + 1) lo (a :: b :: a :: b :: st) σ mc ms X) : Lt G μ d pc lo (a :: b :: st) σ mc ms X :=
  fun p l e R s m args below meth c hC A hA Q hX H locs cells slots ls hl hH h1 h2 => lv_dup2_11 hC.1 hC.2.1 hd ha hb (kk p l e R s m args below meth c hC A hA Q hX H locs cells slots ls hl hH h1 h2)
theorem lt_dup2_2 {a : Value} (hd : decode μ.2.1 pc = .ok (.dup2, 1)) (ha : a.category = 2) (kk : Lt G μ d (pc + 1) lo (a :: a :: st) σ mc ms X) : Lt G μ d pc lo (a :: st) σ mc ms X :=
  fun p l e R s m args below meth c hC A hA Q hX H locs cells slots ls hl hH h1 h2 => lv_dup2_2 hC.1 hC.2.1 hd ha (kk p l e R s m args below meth c hC A hA Q hX H locs cells slots ls hl hH h1 h2)
theorem lt_if_eq {x : Int32} {off : Int} {tgt : Nat} (hd : decode μ.2.1 pc = .ok (.ifCond .eq off, 3)) (ht : (pc : Int) + off = (tgt : Int)) (kt : x = 0 → Lt G μ d tgt lo st σ mc ms X) (kf : ¬ x = 0 → Lt G μ d (pc + 3) lo st σ mc ms X) : Lt G μ d pc lo (.int x :: st) σ mc ms X :=
  fun p l e R s m args below meth c hC A hA Q hX H locs cells slots ls hl hH h1 h2 => lv_if_eq hC.1 hC.2.1 hd ht (fun h => kt h p l e R s m args below meth c hC A hA Q hX H locs cells slots ls hl hH h1 h2) (fun h => kf h p l e R s m args below meth c hC A hA Q hX H locs cells slots ls hl hH h1 h2)
theorem lt_icmp_eq {x y : Int32} {off : Int} {tgt : Nat} (hd : decode μ.2.1 pc = .ok (.if_icmp .eq off, 3)) (ht : (pc : Int) + off = (tgt : Int)) (kt : x = y → Lt G μ d tgt lo st σ mc ms X) (kf : ¬ x = y → Lt G μ d (pc + 3) lo st σ mc ms X) : Lt G μ d pc lo (.int y :: .int x :: st) σ mc ms X :=
  fun p l e R s m args below meth c hC A hA Q hX H locs cells slots ls hl hH h1 h2 => lv_icmp_eq hC.1 hC.2.1 hd ht (fun h => kt h p l e R s m args below meth c hC A hA Q hX H locs cells slots ls hl hH h1 h2) (fun h => kf h p l e R s m args below meth c hC A hA Q hX H locs cells slots ls hl hH h1 h2)
theorem lt_if_ne {x : Int32} {off : Int} {tgt : Nat} (hd : decode μ.2.1 pc = .ok (.ifCond .ne off, 3)) (ht : (pc : Int) + off = (tgt : Int)) (kt : ¬ x = 0 → Lt G μ d tgt lo st σ mc ms X) (kf : x = 0 → Lt G μ d (pc + 3) lo st σ mc ms X) : Lt G μ d pc lo (.int x :: st) σ mc ms X :=
  fun p l e R s m args below meth c hC A hA Q hX H locs cells slots ls hl hH h1 h2 => lv_if_ne hC.1 hC.2.1 hd ht (fun h => kt h p l e R s m args below meth c hC A hA Q hX H locs cells slots ls hl hH h1 h2) (fun h => kf h p l e R s m args below meth c hC A hA Q hX H locs cells slots ls hl hH h1 h2)
theorem lt_icmp_ne {x y : Int32} {off : Int} {tgt : Nat} (hd : decode μ.2.1 pc = .ok (.if_icmp .ne off, 3)) (ht : (pc : Int) + off = (tgt : Int)) (kt : ¬ x = y → Lt G μ d tgt lo st σ mc ms X) (kf : x = y → Lt G μ d (pc + 3) lo st σ mc ms X) : Lt G μ d pc lo (.int y :: .int x :: st) σ mc ms X :=
  fun p l e R s m args below meth c hC A hA Q hX H locs cells slots ls hl hH h1 h2 => lv_icmp_ne hC.1 hC.2.1 hd ht (fun h => kt h p l e R s m args below meth c hC A hA Q hX H locs cells slots ls hl hH h1 h2) (fun h => kf h p l e R s m args below meth c hC A hA Q hX H locs cells slots ls hl hH h1 h2)
theorem lt_if_lt {x : Int32} {off : Int} {tgt : Nat} (hd : decode μ.2.1 pc = .ok (.ifCond .lt off, 3)) (ht : (pc : Int) + off = (tgt : Int)) (kt : x < 0 → Lt G μ d tgt lo st σ mc ms X) (kf : ¬ x < 0 → Lt G μ d (pc + 3) lo st σ mc ms X) : Lt G μ d pc lo (.int x :: st) σ mc ms X :=
  fun p l e R s m args below meth c hC A hA Q hX H locs cells slots ls hl hH h1 h2 => lv_if_lt hC.1 hC.2.1 hd ht (fun h => kt h p l e R s m args below meth c hC A hA Q hX H locs cells slots ls hl hH h1 h2) (fun h => kf h p l e R s m args below meth c hC A hA Q hX H locs cells slots ls hl hH h1 h2)
theorem lt_icmp_lt {x y : Int32} {off : Int} {tgt : Nat} (hd : decode μ.2.1 pc = .ok (.if_icmp .lt off, 3)) (ht : (pc : Int) + off = (tgt : Int)) (kt : x < y → Lt G μ d tgt lo st σ mc ms X) (kf : ¬ x < y → Lt G μ d (pc + 3) lo st σ mc ms X) : Lt G μ d pc lo (.int y :: .int x :: st) σ mc ms X :=
  fun p l e R s m args below meth c hC A hA Q hX H locs cells slots ls hl hH h1 h2 => lv_icmp_lt hC.1 hC.2.1 hd ht (fun h => kt h p l e R s m args below meth c hC A hA Q hX H locs cells slots ls hl hH h1 h2) (fun h => kf h p l e R s m args below meth c hC A hA Q hX H locs cells slots ls hl hH h1 h2)
theorem lt_if_ge {x : Int32} {off : Int} {tgt : Nat} (hd : decode μ.2.1 pc = .ok (.ifCond .ge off, 3)) (ht : (pc : Int) + off = (tgt : Int)) (kt : 0 ≤ x → Lt G μ d tgt lo st σ mc ms X) (kf : ¬ 0 ≤ x → Lt G μ d (pc + 3) lo st σ mc ms X) : Lt G μ d pc lo (.int x :: st) σ mc ms X :=
  fun p l e R s m args below meth c hC A hA Q hX H locs cells slots ls hl hH h1 h2 => lv_if_ge hC.1 hC.2.1 hd ht (fun h => kt h p l e R s m args below meth c hC A hA Q hX H locs cells slots ls hl hH h1 h2) (fun h => kf h p l e R s m args below meth c hC A hA Q hX H locs cells slots ls hl hH h1 h2)
theorem lt_icmp_ge {x y : Int32} {off : Int} {tgt : Nat} (hd : decode μ.2.1 pc = .ok (.if_icmp .ge off, 3)) (ht : (pc : Int) + off = (tgt : Int)) (kt : y ≤ x → Lt G μ d tgt lo st σ mc ms X) (kf : ¬ y ≤ x → Lt G μ d (pc + 3) lo st σ mc ms X) : Lt G μ d pc lo (.int y :: .int x :: st) σ mc ms X :=
  fun p l e R s m args below meth c hC A hA Q hX H locs cells slots ls hl hH h1 h2 => lv_icmp_ge hC.1 hC.2.1 hd ht (fun h => kt h p l e R s m args below meth c hC A hA Q hX H locs cells slots ls hl hH h1 h2) (fun h => kf h p l e R s m args below meth c hC A hA Q hX H locs cells slots ls hl hH h1 h2)
theorem lt_if_gt {x : Int32} {off : Int} {tgt : Nat} (hd : decode μ.2.1 pc = .ok (.ifCond .gt off, 3)) (ht : (pc : Int) + off = (tgt : Int)) (kt : 0 < x → Lt G μ d tgt lo st σ mc ms X) (kf : ¬ 0 < x → Lt G μ d (pc + 3) lo st σ mc ms X) : Lt G μ d pc lo (.int x :: st) σ mc ms X :=
  fun p l e R s m args below meth c hC A hA Q hX H locs cells slots ls hl hH h1 h2 => lv_if_gt hC.1 hC.2.1 hd ht (fun h => kt h p l e R s m args below meth c hC A hA Q hX H locs cells slots ls hl hH h1 h2) (fun h => kf h p l e R s m args below meth c hC A hA Q hX H locs cells slots ls hl hH h1 h2)
theorem lt_icmp_gt {x y : Int32} {off : Int} {tgt : Nat} (hd : decode μ.2.1 pc = .ok (.if_icmp .gt off, 3)) (ht : (pc : Int) + off = (tgt : Int)) (kt : y < x → Lt G μ d tgt lo st σ mc ms X) (kf : ¬ y < x → Lt G μ d (pc + 3) lo st σ mc ms X) : Lt G μ d pc lo (.int y :: .int x :: st) σ mc ms X :=
  fun p l e R s m args below meth c hC A hA Q hX H locs cells slots ls hl hH h1 h2 => lv_icmp_gt hC.1 hC.2.1 hd ht (fun h => kt h p l e R s m args below meth c hC A hA Q hX H locs cells slots ls hl hH h1 h2) (fun h => kf h p l e R s m args below meth c hC A hA Q hX H locs cells slots ls hl hH h1 h2)
theorem lt_if_le {x : Int32} {off : Int} {tgt : Nat} (hd : decode μ.2.1 pc = .ok (.ifCond .le off, 3)) (ht : (pc : Int) + off = (tgt : Int)) (kt : x ≤ 0 → Lt G μ d tgt lo st σ mc ms X) (kf : ¬ x ≤ 0 → Lt G μ d (pc + 3) lo st σ mc ms X) : Lt G μ d pc lo (.int x :: st) σ mc ms X :=
  fun p l e R s m args below meth c hC A hA Q hX H locs cells slots ls hl hH h1 h2 => lv_if_le hC.1 hC.2.1 hd ht (fun h => kt h p l e R s m args below meth c hC A hA Q hX H locs cells slots ls hl hH h1 h2) (fun h => kf h p l e R s m args below meth c hC A hA Q hX H locs cells slots ls hl hH h1 h2)
theorem lt_icmp_le {x y : Int32} {off : Int} {tgt : Nat} (hd : decode μ.2.1 pc = .ok (.if_icmp .le off, 3)) (ht : (pc : Int) + off = (tgt : Int)) (kt : x ≤ y → Lt G μ d tgt lo st σ mc ms X) (kf : ¬ x ≤ y → Lt G μ d (pc + 3) lo st σ mc ms X) : Lt G μ d pc lo (.int y :: .int x :: st) σ mc ms X :=
  fun p l e R s m args below meth c hC A hA Q hX H locs cells slots ls hl hH h1 h2 => lv_icmp_le hC.1 hC.2.1 hd ht (fun h => kt h p l e R s m args below meth c hC A hA Q hX H locs cells slots ls hl hH h1 h2) (fun h => kf h p l e R s m args below meth c hC A hA Q hX H locs cells slots ls hl hH h1 h2)
theorem lt_acmp_eq {rx ry : Option Nat} {vx vy : Value} {off : Int} {tgt : Nat} (hd : decode μ.2.1 pc = .ok (.if_acmp .eq off, 3)) (ht : (pc : Int) + off = (tgt : Int)) (ex : vx = va_rf rx) (ey : vy = va_rf ry) (kt : rx = ry → Lt G μ d tgt lo st σ mc ms X) (kf : ¬ rx = ry → Lt G μ d (pc + 3) lo st σ mc ms X) : Lt G μ d pc lo (vy :: vx :: st) σ mc ms X := by
  subst ex; subst ey
  exact fun p l e R s m args below meth c hC A hA Q hX H locs cells slots ls hl hH h1 h2 => lv_acmp_eq hC.1 hC.2.1 hd ht (fun h => kt h p l e R s m args below meth c hC A hA Q hX H locs cells slots ls hl hH h1 h2) (fun h => kf h p l e R s m args below meth c hC A hA Q hX H locs cells slots ls hl hH h1 h2)
theorem lt_acmp_ne {rx ry : Option Nat} {vx vy : Value} {off : Int} {tgt : Nat} (hd : decode μ.2.1 pc = .ok (.if_acmp .ne off, 3)) (ht : (pc : Int) + off = (tgt : Int)) (ex : vx = va_rf rx) (ey : vy = va_rf ry) (kt : ¬ rx = ry → Lt G μ d tgt lo st σ mc ms X) (kf : rx = ry → Lt G μ d (pc + 3) lo st σ mc ms X) : Lt G μ d pc lo (vy :: vx :: st) σ mc ms X := by
  subst ex; subst ey
  exact fun p l e R s m args below meth c hC A hA Q hX H locs cells slots ls hl hH h1 h2 => lv_acmp_ne hC.1 hC.2.1 hd ht (fun h => kt h p l e R s m args below meth c hC A hA Q hX H locs cells slots ls hl hH h1 h2) (fun h => kf h p l e R s m args below meth c hC A hA Q hX H locs cells slots ls hl hH h1 h2)
theorem lt_goto {off : Int} {tgt : Nat} (hd : decode μ.2.1 pc = .ok (.goto off, 3)) (ht : (pc : Int) + off = (tgt : Int)) (kk : Lt G μ d tgt lo st σ mc ms X) : Lt G μ d pc lo st σ mc ms X :=
  fun p l e R s m args below meth c hC A hA Q hX H locs cells slots ls hl hH h1 h2 => lv_goto hC.1 hC.2.1 hd ht (kk p l e R s m args below meth c hC A hA Q hX H locs cells slots ls hl hH h1 h2)
theorem lt_ifnonnull {x : Nat} {off : Int} {tgt : Nat} (hd : decode μ.2.1 pc = .ok (.ifnonnull off, 3)) (ht : (pc : Int) + off = (tgt : Int)) (kk : Lt G μ d tgt lo st σ mc ms X) : Lt G μ d pc lo (.ref x :: st) σ mc ms X :=
  fun p l e R s m args below meth c hC A hA Q hX H locs cells slots ls hl hH h1 h2 => lv_ifnonnull hC.1 hC.2.1 hd ht (kk p l e R s m args below meth c hC A hA Q hX H locs cells slots ls hl hH h1 h2)
theorem lt_ifnull {x : Nat} {off : Int} (hd : decode μ.2.1 pc = .ok (.ifnull off, 3)) (kk : Lt G μ d (pc + 3) lo st σ mc ms X) : Lt G μ d pc lo (.ref x :: st) σ mc ms X :=
  fun p l e R s m args below meth c hC A hA Q hX H locs cells slots ls hl hH h1 h2 => lv_ifnull hC.1 hC.2.1 hd (kk p l e R s m args below meth c hC A hA Q hX H locs cells slots ls hl hH h1 h2)
theorem lt_ifnullN {off : Int} {tgt : Nat} (hd : decode μ.2.1 pc = .ok (.ifnull off, 3)) (ht : (pc : Int) + off = (tgt : Int)) (kk : Lt G μ d tgt lo st σ mc ms X) : Lt G μ d pc lo (.null :: st) σ mc ms X :=
  fun p l e R s m args below meth c hC A hA Q hX H locs cells slots ls hl hH h1 h2 => lv_ifnullN hC.1 hC.2.1 hd ht (kk p l e R s m args below meth c hC A hA Q hX H locs cells slots ls hl hH h1 h2)
theorem lt_ifnonnullN {off : Int} (hd : decode μ.2.1 pc = .ok (.ifnonnull off, 3)) (kk : Lt G μ d (pc + 3) lo st σ mc ms X) : Lt G μ d pc lo (.null :: st) σ mc ms X :=
  fun p l e R s m args below meth c hC A hA Q hX H locs cells slots ls hl hH h1 h2 => lv_ifnonnullN hC.1 hC.2.1 hd (kk p l e R s m args below meth c hC A hA Q hX H locs cells slots ls hl hH h1 h2)
theorem lt_lookup {dflt : Int} {ps : Array (Int × Int)} {len : Nat} {x : Int32} {off : Int} {tgt : Nat} (hd : decode μ.2.1 pc = .ok (.lookupswitch dflt ps, len)) (hp : (ps.toList.zip (ps.toList.drop 1)).all (fun (a, next) => a.1 < next.1) = true) (ho : Op.lookupswitch.offset ps.toList dflt x.toInt = off) (ht : (pc : Int) + off = (tgt : Int)) (kk : Lt G μ d tgt lo st σ mc ms X) : Lt G μ d pc lo (.int x :: st) σ mc ms X :=
  fun p l e R s m args below meth c hC A hA Q hX H locs cells slots ls hl hH h1 h2 => lv_lookup hC.1 hC.2.1 hd hp ho ht (kk p l e R s m args below meth c hC A hA Q hX H locs cells slots ls hl hH h1 h2)
theorem lt_tableOut {dflt tl th : Int} {offs : Array Int} {len : Nat} {x : Int32} {tgt : Nat} (hd : decode μ.2.1 pc = .ok (.tableswitch dflt tl th offs, len)) (h : x.toInt < tl ∨ th < x.toInt) (ht : (pc : Int) + dflt = (tgt : Int)) (kk : Lt G μ d tgt lo st σ mc ms X) : Lt G μ d pc lo (.int x :: st) σ mc ms X :=
  fun p l e R s m args below meth c hC A hA Q hX H locs cells slots ls hl hH h1 h2 => lv_tableOut hC.1 hC.2.1 hd h ht (kk p l e R s m args below meth c hC A hA Q hX H locs cells slots ls hl hH h1 h2)
theorem lt_tableIn {dflt tl th : Int} {offs : Array Int} {len : Nat} {x : Int32} {off : Int} {tgt : Nat} (hd : decode μ.2.1 pc = .ok (.tableswitch dflt tl th offs, len)) (g1 : ¬ x.toInt < tl) (g2 : ¬ th < x.toInt) (ho : offs[(x.toInt - tl).toNat]? = some off) (ht : (pc : Int) + off = (tgt : Int)) (kk : Lt G μ d tgt lo st σ mc ms X) : Lt G μ d pc lo (.int x :: st) σ mc ms X :=
  fun p l e R s m args below meth c hC A hA Q hX H locs cells slots ls hl hH h1 h2 => lv_tableIn hC.1 hC.2.1 hd g1 g2 ho ht (kk p l e R s m args below meth c hC A hA Q hX H locs cells slots ls hl hH h1 h2)
theorem lt_ldc2 {idx : Nat} {v : Int64} (hc : Cond.constantLong μ.1.cls idx v ∈ lt_T) (hd : decode μ.2.1 pc = .ok (.ldc2_w idx, 3)) (kk : Lt G μ d (pc + 3) lo (.long v :: st) σ mc ms X) : Lt G μ d pc lo st σ mc ms X :=
  fun p l e R s m args below meth c hC A hA Q hX H locs cells slots ls hl hH h1 h2 => lv_ldc2 hC.1 hC.2.1 hC.2.2.2.2.1 (hC.2.2.2.2.2.1 _ hc) hd (kk p l e R s m args below meth c hC A hA Q hX H locs cells slots ls hl hH h1 h2)
theorem lt_ldc {idx : Nat} {v : Int32} (hc : Cond.constant μ.1.cls idx v ∈ lt_T) (hd : decode μ.2.1 pc = .ok (.ldc idx, 2)) (kk : Lt G μ d (pc + 2) lo (.int v :: st) σ mc ms X) : Lt G μ d pc lo st σ mc ms X :=
  fun p l e R s m args below meth c hC A hA Q hX H locs cells slots ls hl hH h1 h2 => lv_ldc hC.1 hC.2.1 hC.2.2.2.2.1 (hC.2.2.2.2.2.1 _ hc) hd (kk p l e R s m args below meth c hC A hA Q hX H locs cells slots ls hl hH h1 h2)
end LT
end
section
/-! THE HEAP ROWS of the leads-to judgement -/
def lt_lkF (own : String) (idx : Nat) (t : String × String × String × Bool) : Prop := (Cond.fieldLink own idx t.1 t.2.1 t.2.2.1 ∈ lt_T) ∨ ∃ host : String, Cond.fieldLinkNest own idx t.1 t.2.1 t.2.2.1 host ∈ lt_N
theorem hv_at.kept {G : lt_G} {σ σ' : hv_S} {a : Nat} {x : Nat × Nat} {H H1 : Heap} (h : hv_at G σ a x H) (hq : H1[a]? = H[a]?) (hf : ∀ ty k, hv_fv ty σ' a k = hv_fv ty σ a k) : hv_at G σ' a x H1 := by
  unfold hv_at at h ⊢
  by_cases hx : x.1 < 1000
  · rw [if_pos hx] at h ⊢
    obtain ⟨r, hr, ho⟩ := h
    exact ⟨r, hr, (ho.kept hq).to (fun k _ => (hf _ k).symm)⟩
  · rw [if_neg hx] at h ⊢
    rw [hq, h]
    exact congrArg (fun f => some (arrV (G.2 (x.1 - 1000)) x.2 f)) (funext fun j => (hf _ j).symm)
theorem hv_arr {G : lt_G} {σ : hv_S} {a t n : Nat} {H : Heap} (h : hv_at G σ a (1000 + t, n) H) : H[a]? = some (arrV (G.2 t) n (fun j => hv_fv (lt_aty t) σ a j)) := by
  unfold hv_at at h
  rw [if_neg (by show ¬ 1000 + t < 1000; omega)] at h
  have h : H[a]? = some (arrV (G.2 (1000 + t - 1000)) n (fun j => hv_fv (lt_aty (1000 + t - 1000)) σ a j)) := h
  rw [show 1000 + t - 1000 = t by omega] at h
  exact h
theorem hv_at.lt {G : lt_G} {σ : hv_S} {a : Nat} {x : Nat × Nat} {H : Heap} (h : hv_at G σ a x H) : a < H.size := by
  unfold hv_at at h
  by_cases hx : x.1 < 1000
  · rw [if_pos hx] at h
    obtain ⟨r, hr, cell, h1, -⟩ := h
    exact (Array.getElem?_eq_some_iff.mp h1).1
  · rw [if_neg hx] at h
    exact (Array.getElem?_eq_some_iff.mp h).1
/-- σ' is σ but for the slot k of the cell a -/
def hv_upd (σ σ' : hv_S) (a k : Nat) : Prop := (hv_sh σ' = hv_sh σ ∧ hv_n σ' = hv_n σ) ∧ ∀ (ty : FieldType) (b j : Nat), (b ≠ a ∨ j ≠ k) → hv_fv ty σ' b j = hv_fv ty σ b j
theorem hv_u_ne {α : Type} {f : Nat → Nat → α} {a k b j : Nat} {v : α} (h : b ≠ a ∨ j ≠ k) : hv_u f a k v b j = f b j := if_neg (fun q => h.elim (fun h => h q.2) (fun h => h q.1))
theorem hv_u_at {α : Type} {f : Nat → Nat → α} {a k : Nat} {v : α} : hv_u f a k v a k = v := if_pos ⟨rfl, rfl⟩
theorem hv_upd_I (σ : hv_S) (a k : Nat) (v : Int32) : hv_upd σ (hv_setI σ a k v) a k := ⟨⟨rfl, rfl⟩, fun ty b j h => by cases ty <;> simp [hv_fv, hv_setI, hv_I, hv_J, hv_R, hv_u_ne h]⟩
theorem hv_upd_J (σ : hv_S) (a k : Nat) (v : Int64) : hv_upd σ (hv_setJ σ a k v) a k := ⟨⟨rfl, rfl⟩, fun ty b j h => by cases ty <;> simp [hv_fv, hv_setJ, hv_I, hv_J, hv_R, hv_u_ne h]⟩
theorem hv_upd_R (σ : hv_S) (a k : Nat) (v : Option Nat) : hv_upd σ (hv_setR σ a k v) a k := ⟨⟨rfl, rfl⟩, fun ty b j h => by cases ty <;> simp [hv_fv, hv_setR, hv_I, hv_J, hv_R, hv_u_ne h]⟩
theorem lt_arr {G : lt_G} {s : State} (hK : lt_K G s) {t : Nat} (ht : t ∈ lt_codes) : ArrOfT s (G.2 t) (lt_aty t) ∧ va_RA s (G.2 t) (lt_aty t) := by
  have h : (G.2 t, lt_aty t) ∈ lt_tys G := List.mem_map.mpr ⟨t, ht, rfl⟩
  obtain ⟨k, hk⟩ := List.getElem?_of_mem h
  exact hK.2 k _ hk
/-- behind a write of one slot of an array -/
theorem lt_H.arr {G : lt_G} {σ σ' : hv_S} {s : State} {H H1 : Heap} {locs : List Loc} {A : Nat → Prop} {a t n k : Nat} {v : Value} (h : lt_H G σ s H locs A) (hsh : hv_sh σ a = some (1000 + t, n)) (hu : hv_upd σ σ' a k) (hv : hv_fv (lt_aty t) σ' a k = v)
    (e : H1[a]? = some ((arrV (G.2 t) n (fun j => hv_fv (lt_aty t) σ a j)).setSlot k v)) (z : H1.size = H.size) (oq : ∀ q : Nat, q ≠ a → H1[q]? = H[q]?) : lt_H G σ' s H1 (locs ++ [⟨a, k⟩]) A := by
  obtain ⟨g1, g2, g3⟩ := h
  refine ⟨⟨by rw [z, hu.1.2]; exact g1.1, fun b x hb => ?_⟩, fun b x hb => g2 b x (by rw [← hu.1.1]; exact hb), g3.put z oq (g2 a _ hsh)⟩
  rw [hu.1.1] at hb
  by_cases hba : b = a
  · subst hba
    cases hsh.symm.trans hb
    unfold hv_at
    rw [if_neg (by show ¬ 1000 + t < 1000; omega)]
    show H1[b]? = some (arrV (G.2 (1000 + t - 1000)) n (fun j => hv_fv (lt_aty (1000 + t - 1000)) σ' b j))
    rw [show 1000 + t - 1000 = t by omega, e, arrV_store]
    refine congrArg (fun f => some (arrV (G.2 t) n f)) (funext fun j => ?_)
    by_cases hj : j = k
    · subst hj
      rw [hv]
      exact if_pos rfl
    · rw [hu.2 _ b j (Or.inr hj)]
      exact if_neg hj
  · exact (g1.2 b x hb).kept (oq b hba) (fun ty j => hu.2 ty b j (Or.inl hba))
/-- behind a write of a field -/
theorem lt_H.obj {G : lt_G} {σ σ' : hv_S} {s : State} {H H1 : Heap} {locs : List Loc} {A : Nat → Prop} {a ci n k sl : Nat} {v : Value} {cell : Cell} {C : String} {T : u_T} {N : Nat} (h : lt_H G σ s H locs A) (hsh : hv_sh σ a = some (ci, n)) (hci : ci < 1000) (hcl : lt_cl[ci]? = some (C, T, N)) (hk : k < N) (hu : hv_upd σ σ' a k) (hv : hv_fv (lt_ty ci k) σ' a k = v)
    (hap : ∀ x y, x < N → y < N → x ≠ y → (G.1.2 ci) x ≠ (G.1.2 ci) y) (q2 : cell.cls = G.1.1 ci) (q3 : cell.vm = .none) (q4 : ∀ k, k < N → cell.slots[G.1.2 ci k]? = some (hv_fv (lt_ty ci k) σ a k))
    (e : H1[a]? = some (cell.setSlot (G.1.2 ci k) v)) (z : H1.size = H.size) (oq : ∀ q : Nat, q ≠ a → H1[q]? = H[q]?) : lt_H G σ' s H1 (locs ++ [⟨a, sl⟩]) A := by
  obtain ⟨g1, g2, g3⟩ := h
  refine ⟨⟨by rw [z, hu.1.2]; exact g1.1, fun b x hb => ?_⟩, fun b x hb => g2 b x (by rw [← hu.1.1]; exact hb), g3.put z oq (g2 a _ hsh)⟩
  rw [hu.1.1] at hb
  by_cases hba : b = a
  · subst hba
    cases hsh.symm.trans hb
    unfold hv_at
    rw [if_pos hci]
    refine ⟨_, hcl, t_OB.to (V := updV (fun k => hv_fv (lt_ty ci k) σ b k) k v) ⟨_, e, q2, q3, t_set q4 hap hk v⟩ (fun j _ => ?_)⟩
    show (if j = k then v else hv_fv (lt_ty ci j) σ b j) = hv_fv (lt_ty ci j) σ' b j
    by_cases hj : j = k
    · subst hj
      rw [if_pos rfl, hv]
    · rw [if_neg hj, hu.2 _ b j (Or.inr hj)]
  · exact (g1.2 b x hb).kept (oq b hba) (fun ty j => hu.2 ty b j (Or.inl hba))
section LTH
variable {G : lt_G} {μ : lt_M} {d pc : Nat} {lo lo' : List (Nat × Value)} {st : List Value} {σ : hv_S} {mc ms : Nat} {X : Nat → List (Nat × Value) → List Value → hv_S → Nat → Nat → Prop}
set_option maxHeartbeats 1000000 in
theorem lt_get {a ci n k idx : Nat} {C : String} {T : u_T} {N : Nat} {v : Value} (hd : decode μ.2.1 pc = .ok (.getfield idx, 3)) (hsh : hv_sh σ a = some (ci, n)) (hci : ci < 1000) (hcl : lt_cl[ci]? = some (C, T, N)) (hk : k < N) (hlk : lt_lkF μ.1.cls idx (T k)) (hv : hv_fv (lt_ty ci k) σ a k = v) (kk : Lt G μ d (pc + 3) lo (v :: st) σ mc ms X) : Lt G μ d pc lo (.ref a :: st) σ mc ms X := by
  intro p l e R s m args below meth c hC A hA Q hX H locs cells slots ls hl hH h1 h2
  have kk' := kk p l e R s m args below meth c hC A hA Q hX H locs cells slots ls hl hH h1 h2
  obtain ⟨hx, hb, -, -, hown, hts, hnw, hK, -⟩ := hC
  have hP := hH.1.2 a _ hsh
  unfold hv_at at hP
  rw [if_pos hci] at hP
  obtain ⟨r, hr, cell, q1, q2, q3, q4⟩ := hP
  cases hr.symm.trans hcl
  obtain ⟨hS, hfc, kC, hkC, hkind⟩ := hK.1 ci _ hcl
  obtain ⟨cf, kf, fi, f, hi, hsl⟩ := hS k hk
  have hst := (u_facts hfc hkC (u_lays hts (lt_in hcl) hk) hi).1
  have hval : cell.slots[f.slot]? = some v := by rw [hsl, q4 k hk]; exact congrArg some hv
  rcases hlk with h | ⟨host, h⟩
  · exact W.getf hx hb hown (hts _ h) hi hst q1 (by rw [q3]; exact fun h => by cases h) hval rfl rfl hd kk'
  · exact va_Wgetf hx hb hown (va_Nw.use rfl (hnw _ h)) hi hst q1 (by rw [q3]; exact fun h => by cases h) hval rfl rfl hd kk'
set_option maxHeartbeats 1000000 in
theorem lt_put {a ci n k idx : Nat} {C : String} {T : u_T} {N : Nat} {v : Value} {σ' : hv_S} (hd : decode μ.2.1 pc = .ok (.putfield idx, 3)) (hsh : hv_sh σ a = some (ci, n)) (hci : ci < 1000) (hcl : lt_cl[ci]? = some (C, T, N)) (hk : k < N) (hlk : lt_lkF μ.1.cls idx (T k)) (hfin : (T k).2.2.2 = false) (hn : narrow (lt_ty ci k) v = v) (hfit : fits (lt_ty ci k) v = true) (hu : hv_upd σ σ' a k) (hv : hv_fv (lt_ty ci k) σ' a k = v) (kk : Lt G μ d (pc + 3) lo st σ' mc ms X) : Lt G μ d pc lo (v :: .ref a :: st) σ mc ms X := by
  intro p l e R s m args below meth c hC A hA Q hX H locs cells slots ls hl hH h1 h2
  have kk' := fun H' locs' hH' => kk p l e R s m args below meth c hC A hA Q hX H' locs' cells slots ls hl hH' h1 h2
  obtain ⟨hx, hb, -, -, hown, hts, hnw, hK, -⟩ := hC
  have hP := hH.1.2 a _ hsh
  unfold hv_at at hP
  rw [if_pos hci] at hP
  obtain ⟨r, hr, cell, q1, q2, q3, q4⟩ := hP
  cases hr.symm.trans hcl
  have hap := va_apart (own := μ.1.cls) hts (lt_in hcl) (lt_ty ci) (lt_tyok hcl) (lt_nm hcl) hK hcl
  obtain ⟨hS, hfc, kC, hkC, hkind⟩ := hK.1 ci _ hcl
  obtain ⟨cf, kf, fi, f, hi, hsl⟩ := hS k hk
  have hst := (u_facts hfc hkC (u_lays hts (lt_in hcl) hk) hi).1
  have hlay := hts _ (lt_in hcl _ (u_in_lay hk))
  unfold u_lay at hlay
  rw [if_neg (by rw [hfin]; decide)] at hlay
  have h6 := u_store hfc hkC hkind hlay hi (lt_tyok hcl k hk) hn hfit
  rcases hlk with h | ⟨host, h⟩
  · refine W.putK hx hb (f := f) ⟨hown, hts _ h, ⟨_, _, _, hi⟩, hst⟩ (by rw [q2]; exact h6) q1 q3 (by rw [hsl]; exact k2_hasslot (q4 k hk)) rfl rfl hd fun H' e1 e2 e3 => ?_
    rw [hsl] at e1
    exact kk' H' _ (hH.obj hsh hci hcl hk hu hv hap q2 q3 q4 e1 e2 e3)
  · refine va_WputK hx hb (f := f) hown (va_Nw.use rfl (hnw _ h)) hi hst (by rw [q2]; exact h6) q1 q3 (by rw [hsl]; exact k2_hasslot (q4 k hk)) rfl rfl hd fun H' e1 e2 e3 => ?_
    rw [hsl] at e1
    exact kk' H' _ (hH.obj hsh hci hcl hk hu hv hap q2 q3 q4 e1 e2 e3)
set_option maxHeartbeats 1000000 in
/-- a final field, in its own constructor -/
theorem lt_putF {a ci n k idx : Nat} {C : String} {T : u_T} {N : Nat} {v : Value} {σ' : hv_S} (hd : decode μ.2.1 pc = .ok (.putfield idx, 3)) (hsh : hv_sh σ a = some (ci, n)) (hci : ci < 1000) (hcl : lt_cl[ci]? = some (C, T, N)) (hk : k < N) (hlk : Cond.fieldLink μ.1.cls idx (T k).1 (T k).2.1 (T k).2.2.1 ∈ lt_T) (hfin : (T k).2.2.2 = true) (hin2 : μ.1.name = "<init>") (hdecl : (T k).1 = μ.1.cls) (hn : narrow (lt_ty ci k) v = v) (hfit : fits (lt_ty ci k) v = true) (hu : hv_upd σ σ' a k) (hv : hv_fv (lt_ty ci k) σ' a k = v) (kk : Lt G μ d (pc + 3) lo st σ' mc ms X) : Lt G μ d pc lo (v :: .ref a :: st) σ mc ms X := by
  intro p l e R s m args below meth c hC A hA Q hX H locs cells slots ls hl hH h1 h2
  have kk' := fun H' locs' hH' => kk p l e R s m args below meth c hC A hA Q hX H' locs' cells slots ls hl hH' h1 h2
  obtain ⟨hx, hb, -, -, hown, hts, hnw, hK, -, hname, -⟩ := hC
  have hP := hH.1.2 a _ hsh
  unfold hv_at at hP
  rw [if_pos hci] at hP
  obtain ⟨r, hr, cell, q1, q2, q3, q4⟩ := hP
  cases hr.symm.trans hcl
  have hap := va_apart (own := μ.1.cls) hts (lt_in hcl) (lt_ty ci) (lt_tyok hcl) (lt_nm hcl) hK hcl
  obtain ⟨hS, hfc, kC, hkC, hkind⟩ := hK.1 ci _ hcl
  obtain ⟨cf, kf, fi, f, hi, hsl⟩ := hS k hk
  have hst := (u_facts hfc hkC (u_lays hts (lt_in hcl) hk) hi).1
  have hlay := hts _ (lt_in hcl _ (u_in_lay hk))
  unfold u_lay at hlay
  rw [if_pos hfin] at hlay
  have hcf : m.cls = cf := by
    obtain ⟨_, _, c', _, _, _, -, -, hf', -, -, -, hown2, -⟩ := Cond.laysFinal_spec hlay
    have e1 : c' = cf := by have := hi.symm.trans hf'; simp at this; exact this.1.symm
    rw [hdecl] at hown2
    rw [← e1]; exact Option.some.inj (hown.symm.trans hown2)
  have h6 := u_fits hfc hkC hkind (Or.inr hlay) hi (lt_tyok hcl k hk) hn hfit
  refine W.putFinK hx hb hown (hts _ hlk) hi hst hcf (hname.trans hin2) (by rw [q2]; exact h6) q1 q3 (by rw [hsl]; exact k2_hasslot (q4 k hk)) rfl rfl hd fun H' e1 e2 e3 => ?_
  rw [hsl] at e1
  exact kk' H' _ (hH.obj hsh hci hcl hk hu hv hap q2 q3 q4 e1 e2 e3)
theorem lt_iald {a n : Nat} {i : Int32} (hd : decode μ.2.1 pc = .ok (.iaload, 1)) (hsh : hv_sh σ a = some (1000, n)) (hin : vp_in i n) (kk : Lt G μ d (pc + 1) lo (.int (hv_I σ a i.toNatClampNeg) :: st) σ mc ms X) : Lt G μ d pc lo (.int i :: .ref a :: st) σ mc ms X := by
  intro p l e R s m args below meth c hC A hA Q hX H locs cells slots ls hl hH h1 h2
  have kk' := kk p l e R s m args below meth c hC A hA Q hX H locs cells slots ls hl hH h1 h2
  obtain ⟨hx, hb, -, -, hown, hts, hnw, hK, -⟩ := hC
  have hlt : i.toNatClampNeg < n := Nat.not_le.mp fun q => hin (Or.inr q)
  have hP : H[a]? = some (arrV (G.2 0) n (fun j => .int (hv_I σ a j))) := hv_arr (t := 0) (hH.1.2 a _ hsh)
  exact W.iald (v := .int (hv_I σ a i.toNatClampNeg)) hx hb hP ((lt_arr hK (t := 0) (by decide)).1 n _) (fun q => by cases q) (by rw [arrV_size]; exact hin) (by rw [arrV_read _ _ hlt]) rfl rfl hd kk'
theorem lt_lald {a n : Nat} {i : Int32} (hd : decode μ.2.1 pc = .ok (.laload, 1)) (hsh : hv_sh σ a = some (1001, n)) (hin : vp_in i n) (kk : Lt G μ d (pc + 1) lo (.long (hv_J σ a i.toNatClampNeg) :: st) σ mc ms X) : Lt G μ d pc lo (.int i :: .ref a :: st) σ mc ms X := by
  intro p l e R s m args below meth c hC A hA Q hX H locs cells slots ls hl hH h1 h2
  have kk' := kk p l e R s m args below meth c hC A hA Q hX H locs cells slots ls hl hH h1 h2
  obtain ⟨hx, hb, -, -, hown, hts, hnw, hK, -⟩ := hC
  have hlt : i.toNatClampNeg < n := Nat.not_le.mp fun q => hin (Or.inr q)
  have hP : H[a]? = some (arrV (G.2 1) n (fun j => .long (hv_J σ a j))) := hv_arr (t := 1) (hH.1.2 a _ hsh)
  exact W.lald (v := .long (hv_J σ a i.toNatClampNeg)) hx hb hP ((lt_arr hK (t := 1) (by decide)).1 n _) (fun q => by cases q) (by rw [arrV_size]; exact hin) (by rw [arrV_read _ _ hlt]) rfl rfl hd kk'
theorem lt_cald {a n : Nat} {i : Int32} (hd : decode μ.2.1 pc = .ok (.caload, 1)) (hsh : hv_sh σ a = some (1002, n)) (hin : vp_in i n) (kk : Lt G μ d (pc + 1) lo (.int (hv_I σ a i.toNatClampNeg) :: st) σ mc ms X) : Lt G μ d pc lo (.int i :: .ref a :: st) σ mc ms X := by
  intro p l e R s m args below meth c hC A hA Q hX H locs cells slots ls hl hH h1 h2
  have kk' := kk p l e R s m args below meth c hC A hA Q hX H locs cells slots ls hl hH h1 h2
  obtain ⟨hx, hb, -, -, hown, hts, hnw, hK, -⟩ := hC
  have hlt : i.toNatClampNeg < n := Nat.not_le.mp fun q => hin (Or.inr q)
  have hP : H[a]? = some (arrV (G.2 2) n (fun j => .int (hv_I σ a j))) := hv_arr (t := 2) (hH.1.2 a _ hsh)
  exact W.cald (v := .int (hv_I σ a i.toNatClampNeg)) hx hb hP ((lt_arr hK (t := 2) (by decide)).1 n _) (fun q => by cases q) (by rw [arrV_size]; exact hin) (by rw [arrV_read _ _ hlt]) rfl rfl hd kk'
theorem lt_zald {a n : Nat} {i : Int32} (hd : decode μ.2.1 pc = .ok (.baload, 1)) (hsh : hv_sh σ a = some (1003, n)) (hin : vp_in i n) (kk : Lt G μ d (pc + 1) lo (.int (hv_I σ a i.toNatClampNeg) :: st) σ mc ms X) : Lt G μ d pc lo (.int i :: .ref a :: st) σ mc ms X := by
  intro p l e R s m args below meth c hC A hA Q hX H locs cells slots ls hl hH h1 h2
  have kk' := kk p l e R s m args below meth c hC A hA Q hX H locs cells slots ls hl hH h1 h2
  obtain ⟨hx, hb, -, -, hown, hts, hnw, hK, -⟩ := hC
  have hlt : i.toNatClampNeg < n := Nat.not_le.mp fun q => hin (Or.inr q)
  have hP : H[a]? = some (arrV (G.2 3) n (fun j => .int (hv_I σ a j))) := hv_arr (t := 3) (hH.1.2 a _ hsh)
  exact W.zald (v := .int (hv_I σ a i.toNatClampNeg)) hx hb hP ((lt_arr hK (t := 3) (by decide)).1 n _) (fun q => by cases q) (by rw [arrV_size]; exact hin) (by rw [arrV_read _ _ hlt]) rfl rfl hd kk'
theorem lt_aald {a n t : Nat} {C : String} {i : Int32} {v : Value} (hd : decode μ.2.1 pc = .ok (.aaload, 1)) (hsh : hv_sh σ a = some (1000 + t, n)) (hT : lt_aty t = .object C) (ht : t ∈ lt_codes) (hin : vp_in i n) (hv : va_rf (hv_R σ a i.toNatClampNeg) = v) (kk : Lt G μ d (pc + 1) lo (v :: st) σ mc ms X) : Lt G μ d pc lo (.int i :: .ref a :: st) σ mc ms X := by
  intro p l e R s m args below meth c hC A hA Q hX H locs cells slots ls hl hH h1 h2
  have kk' := kk p l e R s m args below meth c hC A hA Q hX H locs cells slots ls hl hH h1 h2
  obtain ⟨hx, hb, -, -, hown, hts, hnw, hK, -⟩ := hC
  have hlt : i.toNatClampNeg < n := Nat.not_le.mp fun q => hin (Or.inr q)
  have hP := hH.1.2 a _ hsh
  unfold hv_at at hP
  rw [if_neg (by show ¬ 1000 + t < 1000; omega)] at hP
  have hP : H[a]? = some (arrV (G.2 (1000 + t - 1000)) n (fun j => hv_fv (lt_aty (1000 + t - 1000)) σ a j)) := hP
  rw [show 1000 + t - 1000 = t by omega, hT] at hP
  subst hv
  have hK1 := (lt_arr hK ht).1
  rw [hT] at hK1
  exact W.aald (v := va_rf (hv_R σ a i.toNatClampNeg)) (ty := .object C) hx hb hP (hK1 n _) rfl (fun q => by cases q) (by rw [arrV_size]; exact hin) (by rw [arrV_read _ _ hlt]; rfl) rfl rfl hd kk'
theorem lt_iast {a n : Nat} {i : Int32} {x : Int32} (hd : decode μ.2.1 pc = .ok (.iastore, 1)) (hsh : hv_sh σ a = some (1000, n)) (hin : vp_in i n) (kk : Lt G μ d (pc + 1) lo st (hv_setI σ a i.toNatClampNeg x) mc ms X) : Lt G μ d pc lo (.int x :: .int i :: .ref a :: st) σ mc ms X := by
  intro p l e R s m args below meth c hC A hA Q hX H locs cells slots ls hl hH h1 h2
  have kk' := fun H' locs' hH' => kk p l e R s m args below meth c hC A hA Q hX H' locs' cells slots ls hl hH' h1 h2
  obtain ⟨hx, hb, -, -, hown, hts, hnw, hK, -⟩ := hC
  have hP : H[a]? = some (arrV (G.2 0) n (fun j => .int (hv_I σ a j))) := hv_arr (t := 0) (hH.1.2 a _ hsh)
  refine W.iast hx hb hP ((lt_arr hK (t := 0) (by decide)).1 n _) (fun q => by cases q) (by rw [arrV_size]; exact hin) rfl rfl hd fun H' e1 e2 e3 => ?_
  · exact kk' H' _ (lt_H.arr (t := 0) hH hsh (hv_upd_I σ a i.toNatClampNeg x) (by show Value.int (hv_u _ _ _ _ _ _) = _; rw [hv_u_at]) e1 e2 e3)
theorem lt_last {a n : Nat} {i : Int32} {x : Int64} (hd : decode μ.2.1 pc = .ok (.lastore, 1)) (hsh : hv_sh σ a = some (1001, n)) (hin : vp_in i n) (kk : Lt G μ d (pc + 1) lo st (hv_setJ σ a i.toNatClampNeg x) mc ms X) : Lt G μ d pc lo (.long x :: .int i :: .ref a :: st) σ mc ms X := by
  intro p l e R s m args below meth c hC A hA Q hX H locs cells slots ls hl hH h1 h2
  have kk' := fun H' locs' hH' => kk p l e R s m args below meth c hC A hA Q hX H' locs' cells slots ls hl hH' h1 h2
  obtain ⟨hx, hb, -, -, hown, hts, hnw, hK, -⟩ := hC
  have hP : H[a]? = some (arrV (G.2 1) n (fun j => .long (hv_J σ a j))) := hv_arr (t := 1) (hH.1.2 a _ hsh)
  refine W.last hx hb hP ((lt_arr hK (t := 1) (by decide)).1 n _) (fun q => by cases q) (by rw [arrV_size]; exact hin) rfl rfl hd fun H' e1 e2 e3 => ?_
  · exact kk' H' _ (lt_H.arr (t := 1) hH hsh (hv_upd_J σ a i.toNatClampNeg x) (by show Value.long (hv_u _ _ _ _ _ _) = _; rw [hv_u_at]) e1 e2 e3)
theorem lt_cast {a n : Nat} {i : Int32} {x y : Int32} (hd : decode μ.2.1 pc = .ok (.castore, 1)) (hsh : hv_sh σ a = some (1002, n)) (hin : vp_in i n) (hy : narrow .char (.int x) = .int y) (kk : Lt G μ d (pc + 1) lo st (hv_setI σ a i.toNatClampNeg y) mc ms X) : Lt G μ d pc lo (.int x :: .int i :: .ref a :: st) σ mc ms X := by
  intro p l e R s m args below meth c hC A hA Q hX H locs cells slots ls hl hH h1 h2
  have kk' := fun H' locs' hH' => kk p l e R s m args below meth c hC A hA Q hX H' locs' cells slots ls hl hH' h1 h2
  obtain ⟨hx, hb, -, -, hown, hts, hnw, hK, -⟩ := hC
  have hP : H[a]? = some (arrV (G.2 2) n (fun j => .int (hv_I σ a j))) := hv_arr (t := 2) (hH.1.2 a _ hsh)
  refine W.cast hx hb hP ((lt_arr hK (t := 2) (by decide)).1 n _) (fun q => by cases q) (by rw [arrV_size]; exact hin) rfl rfl hd fun H' e1 e2 e3 => ?_
  · rw [hy] at e1
    exact kk' H' _ (lt_H.arr (t := 2) hH hsh (hv_upd_I σ a i.toNatClampNeg y) (by show Value.int (hv_u _ _ _ _ _ _) = _; rw [hv_u_at]) e1 e2 e3)
theorem lt_zast {a n : Nat} {i : Int32} {x y : Int32} (hd : decode μ.2.1 pc = .ok (.bastore, 1)) (hsh : hv_sh σ a = some (1003, n)) (hin : vp_in i n) (hy : narrow .boolean (.int x) = .int y) (kk : Lt G μ d (pc + 1) lo st (hv_setI σ a i.toNatClampNeg y) mc ms X) : Lt G μ d pc lo (.int x :: .int i :: .ref a :: st) σ mc ms X := by
  intro p l e R s m args below meth c hC A hA Q hX H locs cells slots ls hl hH h1 h2
  have kk' := fun H' locs' hH' => kk p l e R s m args below meth c hC A hA Q hX H' locs' cells slots ls hl hH' h1 h2
  obtain ⟨hx, hb, -, -, hown, hts, hnw, hK, -⟩ := hC
  have hP : H[a]? = some (arrV (G.2 3) n (fun j => .int (hv_I σ a j))) := hv_arr (t := 3) (hH.1.2 a _ hsh)
  refine W.zast hx hb hP ((lt_arr hK (t := 3) (by decide)).1 n _) (fun q => by cases q) (by rw [arrV_size]; exact hin) rfl rfl hd fun H' e1 e2 e3 => ?_
  · rw [hy] at e1
    exact kk' H' _ (lt_H.arr (t := 3) hH hsh (hv_upd_I σ a i.toNatClampNeg y) (by show Value.int (hv_u _ _ _ _ _ _) = _; rw [hv_u_at]) e1 e2 e3)
theorem lt_alen {a n t : Nat} (hd : decode μ.2.1 pc = .ok (.arraylength, 1)) (hsh : hv_sh σ a = some (1000 + t, n)) (ht : t ∈ lt_codes) (kk : Lt G μ d (pc + 1) lo (.int (nI n) :: st) σ mc ms X) : Lt G μ d pc lo (.ref a :: st) σ mc ms X := by
  intro p l e R s m args below meth c hC A hA Q hX H locs cells slots ls hl hH h1 h2
  have kk' := kk p l e R s m args below meth c hC A hA Q hX H locs cells slots ls hl hH h1 h2
  obtain ⟨hx, hb, -, -, hown, hts, hnw, hK, -⟩ := hC
  have hP := hH.1.2 a _ hsh
  unfold hv_at at hP
  rw [if_neg (by show ¬ 1000 + t < 1000; omega)] at hP
  have hP : H[a]? = some (arrV (G.2 (1000 + t - 1000)) n (fun j => hv_fv (lt_aty (1000 + t - 1000)) σ a j)) := hP
  rw [show 1000 + t - 1000 = t by omega] at hP
  exact W.alen hx hb hP ((lt_arr hK ht).1 n _) (by rw [arrV_size]; rfl) rfl rfl hd kk'
/-- a new cell beside the old ones -/
theorem lt_H.add {G : lt_G} {σ : hv_S} {s : State} {H H1 : Heap} {locs : List Loc} {A : Nat → Prop} {x : Nat × Nat} (h : lt_H G σ s H locs A) (hA : ∀ q : Nat, s.heap.size ≤ q → A q) (hn : hv_at G (hv_new σ x) (hv_n σ) x H1) (z : H1.size = H.size + 1) (o : ∀ q : Nat, q < H.size → H1[q]? = H[q]?) : lt_H G (hv_new σ x) s H1 locs A := by
  obtain ⟨g1, g2, g3⟩ := h
  refine ⟨⟨by rw [z, g1.1]; rfl, fun b y hb => ?_⟩, fun b y hb => ?_, ⟨Nat.le_trans g3.1 (by omega), fun q h1 h2 => (o q (Nat.lt_of_lt_of_le h1 g3.1)).trans (g3.2.1 q h1 h2), g3.2.2⟩⟩
  · by_cases hbq : b = hv_n σ
    · subst hbq
      have : hv_sh (hv_new σ x) (hv_n σ) = some x := if_pos rfl
      cases this.symm.trans hb
      exact hn
    · have h0 : hv_sh (hv_new σ x) b = hv_sh σ b := if_neg hbq
      rw [h0] at hb
      refine (g1.2 b y hb).kept (o b (g1.2 b y hb).lt) (fun ty k => ?_)
      cases ty <;> simp [hv_fv, hv_new, hv_I, hv_J, hv_R, hbq]
  · by_cases hbq : b = hv_n σ
    · subst hbq
      exact hA _ (by rw [← g1.1]; exact g3.1)
    · have h0 : hv_sh (hv_new σ x) b = hv_sh σ b := if_neg hbq
      rw [h0] at hb
      exact g2 b y hb
theorem hv_new_fv (σ : hv_S) (x : Nat × Nat) (ty : FieldType) (k : Nat) : hv_fv ty (hv_new σ x) (hv_n σ) k = hv_fv ty hv_zero 0 0 := by
  cases ty <;> simp [hv_fv, hv_new, hv_zero, hv_I, hv_J, hv_R]
set_option maxHeartbeats 1000000 in
theorem lt_new {ci idx : Nat} {C : String} {T : u_T} {N : Nat} (hd : decode μ.2.1 pc = .ok (.new idx, 3)) (hci : ci < 1000) (hcl : lt_cl[ci]? = some (C, T, N)) (hl1 : Cond.classLink μ.1.cls idx C ∈ lt_T) (hl2 : Cond.instantiable C N ∈ lt_T) (hl3 : Cond.initialized C ∈ lt_T)
    (hdef : ∀ j, j < N → defaultValue (lt_ty ci j) = hv_fv (lt_ty ci j) hv_zero 0 0) (hf : hv_sh σ (hv_n σ) = none → Lt G μ d (pc + 3) lo (.ref (hv_n σ) :: st) (hv_new σ (ci, 0)) mc ms X) : Lt G μ d pc lo st σ (mc + 1) (ms + N) X := by
  intro p l e R s m args below meth c hC A hA Q hX H locs cells slots ls hl hH h1 h2
  have hfresh : hv_sh σ (hv_n σ) = none := by
    cases hq : hv_sh σ (hv_n σ) with
    | none => rfl
    | some y => exact absurd (hH.1.2 _ y hq).lt (by rw [hH.1.1]; exact Nat.lt_irrefl _)
  have kk' := fun H' hH' => hf hfresh p l e R s m args below meth c hC A hA Q hX H' locs (cells + 1) (slots + N) ls hl hH' (by omega) (by omega)
  obtain ⟨hx, hb, -, -, hown, hts, hnw, hK, -⟩ := hC
  have hKn := hK.1 ci _ hcl
  refine W.newcK hx hb hown (hts _ hl1) (hts _ hl2) (hts _ hl3) rfl hd (by omega) (by omega) hKn.2.1 hH.1.1 fun H1 kC hkC e1 z1 o1 => ?_
  refine kk' H1 (hH.add hA ?_ (by rw [hH.1.1]; exact z1) (fun q hq => o1 q (by rw [← hH.1.1]; exact hq)))
  unfold hv_at
  rw [if_pos hci]
  refine ⟨_, hcl, (u_born (lt_ty ci) hts (lt_in hcl) hKn hkC e1 (lt_tyok hcl)).to (fun j hj => ?_)⟩
  rw [hdef j hj, hv_new_fv]
set_option maxHeartbeats 1000000 in
theorem lt_newarray {t : Nat} {atype : ArrayType} {n : Int32} {N : Nat} (hd : decode μ.2.1 pc = .ok (.newarray atype, 2)) (hw : Cond.arrayClass (newarray.typeOf atype) ∈ lt_T) (ht : t ∈ lt_codes) (hty : lt_aty t = newarray.typeOf atype) (hn : ¬ n < 0) (hN : n.toNatClampNeg = N) (hbytes : N * componentBytes (newarray.typeOf atype) ≤ 536870912)
    (hdef : defaultValue (lt_aty t) = hv_fv (lt_aty t) hv_zero 0 0) (hf : hv_sh σ (hv_n σ) = none → Lt G μ d (pc + 2) lo (.ref (hv_n σ) :: st) (hv_new σ (1000 + t, N)) mc ms X) : Lt G μ d pc lo (.int n :: st) σ (mc + 1) (ms + N) X := by
  intro p l e R s m args below meth c hC A hA Q hX H locs cells slots ls hl hH h1 h2
  have hfresh : hv_sh σ (hv_n σ) = none := by
    cases hq : hv_sh σ (hv_n σ) with
    | none => rfl
    | some y => exact absurd (hH.1.2 _ y hq).lt (by rw [hH.1.1]; exact Nat.lt_irrefl _)
  have kk' := fun H' hH' => hf hfresh p l e R s m args below meth c hC A hA Q hX H' locs (cells + 1) (slots + N) ls hl hH' (by omega) (by omega)
  obtain ⟨hx, hb, -, -, hown, hts, hnw, hK, -⟩ := hC
  refine va_newaK hx hb (hts _ hw) rfl hd rfl hn hN hbytes (by omega) (by omega) hH.1.1 fun H1 cA e1 z1 o1 hAr hNm => ?_
  have hcA : G.2 t = cA := by
    have h9 := (lt_arr hK ht).2
    rw [hty] at h9
    have h8 : s.vm.findClass ("[" ++ (newarray.typeOf atype).toString) = some (G.2 t) := by
      cases atype <;> exact h9
    exact Option.some.inj (h8.symm.trans hNm)
  refine kk' H1 (hH.add hA ?_ (by rw [hH.1.1]; exact z1) (fun q hq => o1 q (by rw [← hH.1.1]; exact hq)))
  unfold hv_at
  rw [if_neg (by show ¬ 1000 + t < 1000; omega)]
  show H1[hv_n σ]? = some (arrV (G.2 (1000 + t - 1000)) N (fun j => hv_fv (lt_aty (1000 + t - 1000)) (hv_new σ (1000 + t, N)) (hv_n σ) j))
  rw [show 1000 + t - 1000 = t by omega, e1, hcA]
  refine congrArg (fun f => some (arrV cA N f)) (funext fun j => ?_)
  rw [hv_new_fv, ← hty, hdef]
set_option maxHeartbeats 1000000 in
/-- an array of references -/
theorem lt_anew {t idx : Nat} {C : String} {n : Int32} {N : Nat} (hd : decode μ.2.1 pc = .ok (.anewarray idx, 3)) (hcl : Cond.classLink μ.1.cls idx C ∈ lt_T) (ht : t ∈ lt_codes) (hty : lt_aty t = .object C) (hw : Cond.arrayOver (.object C) ∈ lt_N) (hn : ¬ n < 0) (hN : n.toNatClampNeg = N) (hbytes : N * 4 ≤ 536870912)
    (hf : hv_sh σ (hv_n σ) = none → Lt G μ d (pc + 3) lo (.ref (hv_n σ) :: st) (hv_new σ (1000 + t, N)) mc ms X) : Lt G μ d pc lo (.int n :: st) σ (mc + 1) (ms + N) X := by
  intro p l e R s m args below meth c hC A hA Q hX H locs cells slots ls hl hH h1 h2
  have hfresh : hv_sh σ (hv_n σ) = none := by
    cases hq : hv_sh σ (hv_n σ) with
    | none => rfl
    | some y => exact absurd (hH.1.2 _ y hq).lt (by rw [hH.1.1]; exact Nat.lt_irrefl _)
  have kk' := fun H' hH' => hf hfresh p l e R s m args below meth c hC A hA Q hX H' locs (cells + 1) (slots + N) ls hl hH' (by omega) (by omega)
  obtain ⟨hx, hb, -, -, hown, hts, hnw, hK, -⟩ := hC
  subst hN
  refine W.anew hx hb hown (hts _ hcl) (va_AO.use (hnw _ hw)) rfl hd rfl hn hbytes (by omega) (by omega) fun cA kA comp f1 f2 f3 f4 => ?_
  have hcA : G.2 t = cA := by
    have h9 := (lt_arr hK ht).2
    rw [hty] at h9
    obtain ⟨_, _, -, -, -, h8⟩ := h9
    exact Option.some.inj (h8.symm.trans f1)
  have hsz := hH.1.1
  generalize hH1 : H.push ({ cls := cA, slots := Array.replicate n.toNatClampNeg .null, vm := .none } : Cell) = H1
  have z1 : H1.size = H.size + 1 := by rw [← hH1, Array.size_push]
  have e1 : H1[H.size]? = some (arrV cA n.toNatClampNeg (fun _ => .null)) := by rw [← hH1, Array.getElem?_push_size, ← arrV_new]
  have o1 : ∀ q : Nat, q < H.size → H1[q]? = H[q]? := fun q hq => by rw [← hH1, Array.getElem?_push, if_neg (Nat.ne_of_lt hq)]
  rw [hsz]
  refine kk' H1 (hH.add hA ?_ z1 o1)
  unfold hv_at
  rw [if_neg (by show ¬ 1000 + t < 1000; omega)]
  show H1[hv_n σ]? = some (arrV (G.2 (1000 + t - 1000)) n.toNatClampNeg (fun j => hv_fv (lt_aty (1000 + t - 1000)) (hv_new σ (1000 + t, n.toNatClampNeg)) (hv_n σ) j))
  rw [show 1000 + t - 1000 = t by omega, ← hsz, e1, hcA]
  refine congrArg (fun f => some (arrV cA n.toNatClampNeg f)) (funext fun j => ?_)
  rw [hsz, hv_new_fv, hty]
  rfl
set_option maxHeartbeats 1000000 in
/-- a reference into an array of references -/
theorem lt_aast {a v n t ci n2 : Nat} {C : String} {T : u_T} {N : Nat} {i : Int32} (hd : decode μ.2.1 pc = .ok (.aastore, 1)) (hsh : hv_sh σ a = some (1000 + t, n)) (ht : t ∈ lt_codes) (hty : lt_aty t = .object C) (hv : hv_sh σ v = some (ci, n2)) (hci : ci < 1000) (hcl : lt_cl[ci]? = some (C, T, N)) (hin : vp_in i n) (kk : Lt G μ d (pc + 1) lo st (hv_setR σ a i.toNatClampNeg (some v)) mc ms X) : Lt G μ d pc lo (.ref v :: .int i :: .ref a :: st) σ mc ms X := by
  intro p l e R s m args below meth c hC A hA Q hX H locs cells slots ls hl hH h1 h2
  have kk' := fun H' locs' hH' => kk p l e R s m args below meth c hC A hA Q hX H' locs' cells slots ls hl hH' h1 h2
  obtain ⟨hx, hb, -, -, hown, hts, hnw, hK, -⟩ := hC
  have hlt : i.toNatClampNeg < n := Nat.not_le.mp fun q => hin (Or.inr q)
  have h0 : ¬ i < 0 := fun q => hin (Or.inl q)
  have hV := hH.1.2 v _ hv
  unfold hv_at at hV
  rw [if_pos hci] at hV
  obtain ⟨r', hr', cellV, g1, g2, g3, -⟩ := hV
  have hP := hH.1.2 a _ hsh
  unfold hv_at at hP
  rw [if_neg (by show ¬ 1000 + t < 1000; omega)] at hP
  have hP : H[a]? = some (arrV (G.2 (1000 + t - 1000)) n (fun j => hv_fv (lt_aty (1000 + t - 1000)) σ a j)) := hP
  rw [show 1000 + t - 1000 = t by omega] at hP
  have hcls := (hK.1 ci _ hcl).2
  have hRA := (lt_arr hK ht).2
  rw [hty] at hRA
  obtain ⟨kA, comp, k1, k2, k3, -⟩ := hRA
  have hcomp : comp = G.1.1 ci := Option.some.inj (k3.symm.trans hcls.1)
  subst hcomp
  obtain ⟨kC, hkC, -⟩ := hcls.2
  refine W.aast hx hb hP (fun q h => by cases h) (fun h => by cases h) k1 k2 rfl hkC ⟨h0, by rw [arrV_size]; exact hlt⟩ g1 (fun q h => by rw [g3] at h; cases h) (by rw [g2]; exact hkC) (by rw [g2]; exact va_assign hcls) rfl rfl hd fun H' e1 e2 e3 => ?_
  exact kk' H' _ (lt_H.arr (t := t) hH hsh (hv_upd_R σ a i.toNatClampNeg (some v)) (by rw [hty]; show va_rf (hv_u _ _ _ _ _ _) = _; rw [hv_u_at]; rfl) e1 e2 e3)
end LTH
end
section
/-! CONTRACTS AND CALLS: Ct says of a method what Lt says of a point; the rows of the five kinds of call -/
def lt_ws (μ : lt_M) : List Cond := Cond.code μ.1 μ.2.1 μ.2.2.1 μ.2.2.2 :: lt_T
def lt_rm (d mc ms : Nat) : Room := { frames := d, cells := mc, slots := ms, locals := 64 * d }
def lt_A (σ : hv_S) : Nat → Prop := fun q => (hv_sh σ q).isSome = true ∨ hv_n σ ≤ q
def lt_Pc (G : lt_G) (as : List Value) (σ : hv_S) : Array Value → State → Prop := va_Pc as (fun U => hv_H G σ U.heap ∧ lt_K G U ∧ ∀ w ∈ lt_N, va_Nw w U)
def lt_Qc (G : lt_G) (σ : hv_S) (Qr : Option Value → hv_S → Prop) : Array Value → State → Outcome → State → Prop := fun _ s0 oc t =>
  (∃ (r : Option Value) (σ' : hv_S), oc = .returned r ∧ Qr r σ' ∧ hv_H G σ' t.heap ∧ ∀ (a : Nat) (x : Nat × Nat), hv_sh σ' a = some x → lt_A σ a) ∧ va_F (lt_A σ) s0 t
/-- the contract: from the view σ with the arguments as, within depth d, mc new cells of ms slots, the method returns r with the view σ', and Qr r σ' -/
def Ct (G : lt_G) (μ : lt_M) (d mc ms : Nat) (as : List Value) (σ : hv_S) (Qr : Option Value → hv_S → Prop) : Prop :=
  ∀ (l : Launch), Met l μ.1 (lt_ws μ) (lt_rm d mc ms) (lt_Pc G as σ) (lt_Qc G σ Qr) mc ms (lt_A σ)
/-- the points where a method returns -/
def lt_end (μ : lt_M) (Qr : Option Value → hv_S → Prop) : Nat → List (Nat × Value) → List Value → hv_S → Nat → Nat → Prop := fun pc _ st σ _ _ =>
  (decode μ.2.1 pc = .ok (.return_, 1) ∧ μ.2.2.2 = none ∧ st = [] ∧ Qr none σ) ∨
  (∃ (v : Int32) (ty : FieldType), decode μ.2.1 pc = .ok (.ireturn, 1) ∧ μ.2.2.2 = some ty ∧ narrow ty (.int v) = .int v ∧ st = [.int v] ∧ Qr (some (.int v)) σ) ∨
  (∃ v : Int64, decode μ.2.1 pc = .ok (.lreturn, 1) ∧ μ.2.2.2 = some .long ∧ st = [.long v] ∧ Qr (some (.long v)) σ) ∨
  (∃ (r : Option Nat) (rt : FieldType), decode μ.2.1 pc = .ok (.areturn, 1) ∧ μ.2.2.2 = some rt ∧ ((∃ n, rt = .object n) ∨ ∃ t, rt = .array t) ∧ st = [va_rf r] ∧ Qr (some (va_rf r)) σ)
theorem lt_Nmove {w : Cond} (hw : lt_isN w = true) {s U : State} (hW : s.WarmedH U.vm) (h : va_Nw w s) : va_Nw w U := by
  cases w <;> first | exact va_Nw.warmF hW h | exact va_Nw.warmM hW h | skip
  case arrayOver ty => cases ty <;> first | exact va_AO.moved hW.alike h | (simp [lt_isN] at hw)
  all_goals (simp [lt_isN] at hw)
theorem lt_Nsame {w : Cond} (hw : lt_isN w = true) {s U : State} (hv : s.vm = U.vm) (h : va_Nw w s) : va_Nw w U := by
  have hA : s.vm.Alike U.vm := by rw [hv]; exact Vm.Alike.refl _
  cases w <;> first | (exact va_Nw.same rfl hv h) | skip
  all_goals first | (simp [lt_isN] at hw; done) | skip
  case arrayOver ty => cases ty <;> first | exact va_AO.moved hA h | (simp [lt_isN] at hw)
theorem lt_blind (G : lt_G) (as : List Value) (σ : hv_S) : FrameBlind (lt_Pc G as σ) := by
  intro a U g mk h
  obtain ⟨h0, h2, h3, h4⟩ := h
  exact ⟨h0, h2, va_K.moved (u := U) (U := U.calling g mk a) (Vm.Alike.refl U.vm) h3, fun w hw => lt_Nsame (s := U) (lt_N_ok w hw) rfl (h4 w hw)⟩
theorem lt_good {μ : lt_M} (h : Cond.code μ.1 μ.2.1 μ.2.2.1 μ.2.2.2 ∈ lt_T) : GoodIn lt_T (lt_ws μ) := by
  intro w hw
  have hm : w ∈ lt_T := by
    rcases List.mem_cons.mp hw with e | hw
    · rw [e]; exact h
    · exact hw
  exact ⟨hm, good_of_word (lt_T_good w hm)⟩
set_option maxHeartbeats 2000000 in
theorem Ct.of {G : lt_G} {μ : lt_M} {d mc ms : Nat} {as : List Value} {σ : hv_S} {Qr : Option Value → hv_S → Prop} (hy : plainName μ.1.cls = true) (hlen : (lg_sl as).length ≤ μ.2.2.1) (h : Lt G μ d 0 (lv_args 0 as) [] σ mc ms (lt_end μ Qr)) : Ct G μ d mc ms as σ Qr := by
  intro l
  refine Met.ofW (cc := μ.2.1) (maxL := μ.2.2.1) (ret := μ.2.2.2) hy rfl ?_
  intro p e s m args below meth c s₁ B hml hv
  obtain ⟨rfl, hP, hK, hN⟩ := hv
  have hts := atoms_spec (ws := lt_ws μ) B.pre
  have hlocks := B.notSynchronized
  have hx := B.exec
  have hb := B.bytes
  have hr := B.returns
  have hC : lt_C G μ d p (headSpec (lt_ws μ) (lt_rm d mc ms)).room s m as.toArray meth c := ⟨B.exec, B.bytes, B.returns, hml, findClass_of_methodNamed B.named, fun w hw => hts w (List.mem_cons_of_mem _ hw), hN, hK, B.notSynchronized, (name_of_methodNamed B.named B.method).1, Nat.le_refl _, Nat.le_refl _⟩
  have hl := lv_entry as (n := μ.2.2.1) hlen
  rw [lg_entry_eq]
  refine h p l e _ s m _ below meth c hC (lt_A σ) (fun q hq => Or.inr (by rw [← hP.1]; exact hq)) _ ?_ s.heap [] 0 0 _ hl ⟨hP, fun a x hx => Or.inl (by rw [hx]; rfl), va_S.rf⟩ (by show 0 + mc ≤ mc; omega) (by show 0 + ms ≤ ms; omega)
  intro pc' lo' st' σ' mc' ms' H' locs' cells' slots' ls' hX hl' hH' g1 g2
  have g1 : cells' + mc' ≤ mc := g1
  have g2 : slots' + ms' ≤ ms := g2
  refine W.widen (k := mc) (n := ms) (by omega) (by omega) ?_
  rcases hX with ⟨hd, h1, rfl, hq⟩ | ⟨v, ty, hd, h1, hn, rfl, hq⟩ | ⟨v, hd, h1, rfl, hq⟩ | ⟨v, rt, hd, h1, hrt, rfl, hq⟩
  · exact W.vret hx hb (hr.trans h1) (fun t ht hW => ⟨⟨_, σ', rfl, hq, by rw [ht]; exact hH'.1, hH'.2.1⟩, hH'.2.2.F ht⟩) hH'.2.2.2.2 hd
  · exact W.zret hx hb (hr.trans h1) hn (fun t ht hW => ⟨⟨_, σ', rfl, hq, by rw [ht]; exact hH'.1, hH'.2.1⟩, hH'.2.2.F ht⟩) hH'.2.2.2.2 hd
  · exact W.lret hx hb (hr.trans h1) (fun t ht hW => ⟨⟨_, σ', rfl, hq, by rw [ht]; exact hH'.1, hH'.2.1⟩, hH'.2.2.F ht⟩) hH'.2.2.2.2 hd
  · exact W.aret hx hb (hr.trans h1) hrt (by cases v with | none => exact Or.inl rfl | some a => exact Or.inr ⟨a, rfl⟩) (fun t ht hW => ⟨⟨_, σ', rfl, hq, by rw [ht]; exact hH'.1, hH'.2.1⟩, hH'.2.2.F ht⟩) hH'.2.2.2.2 hd
theorem Ct.mono {G : lt_G} {μ : lt_M} {d mc ms : Nat} {as : List Value} {σ : hv_S} {Qr Qr' : Option Value → hv_S → Prop} (h : Ct G μ d mc ms as σ Qr) (k : ∀ r σ', Qr r σ' → Qr' r σ') : Ct G μ d mc ms as σ Qr' := by
  intro l p e ha hc hk s m args below hf happ hpre htr
  obtain ⟨n, o, h1, h2, h3, ⟨⟨⟨r, σ', q1, q2, q3⟩, q4⟩, q5⟩⟩   := h l p e ha hc hk s m args below hf happ hpre htr
  exact ⟨n, o, h1, h2, h3, ⟨⟨⟨r, σ', q1, k r σ' q2, q3⟩, q4⟩, q5⟩⟩
def lt_lkM (own : String) (idx : Nat) (y : MethodName) : Prop := (Cond.methodLink own idx y ∈ lt_T) ∨ ∃ host : String, Cond.methodLinkNest own idx y host ∈ lt_N
/-- what the tables say of a method that is called with n arguments -/
def lt_M0 (μ : lt_M) (n : Nat) : Prop := Cond.code μ.1 μ.2.1 μ.2.2.1 μ.2.2.2 ∈ lt_T ∧ Cond.initialized μ.1.cls ∈ lt_T ∧ (μ.1.cls ≠ "java/lang/invoke/MethodHandle" ∧ μ.1.cls ≠ "java/lang/invoke/VarHandle" ∧ (parseMethodDescriptor μ.1.desc).map (fun d => d.parameters.length) = some n) ∧ μ.2.2.1 ≤ 45
section LTC
variable {p : Program} {l : Launch} {e : Env} {R : Room} {s : State} {m : MethodId} {args : Array Value} {below : List Frame} {meth : Method} {c : Code} {H : Heap} {locs : List Loc} {cells slots : Nat} {Q : State → Prop}
/-- behind a call -/
theorem lt_ran {G : lt_G} {σ : hv_S} {Qr : Option Value → hv_S → Prop} {pc mc' ms' : Nat} {ls : Array Slot} {st0 rest : List Value} {a : Array Value} {A : Nat → Prop} (hA : ∀ q : Nat, s.heap.size ≤ q → A q) (hH : lt_H G σ s H locs A)
    (hr : va_Run p l e R s m args below meth c H locs cells slots mc' ms' (F0 m pc ls st0) rest (lt_Qc G σ Qr a) (lt_A σ))
    (kk : ∀ (r : Option Value) (σ' : hv_S) (H' : Heap) (locs' : List Loc), Qr r σ' → lt_H G σ' s H' locs' A → W p l e R s m args below meth c H' locs' (cells + mc') (slots + ms') Q (F0 m (pc + 3) ls (r.toList ++ rest))) : W p l e R s m args below meth c H locs cells slots Q (F0 m pc ls st0) := by
  intro T hT X
  obtain ⟨v, st₀, t, T', L, h0, X', hL, e1, e2, ⟨⟨r, σ', hv, hq, hH', hdom⟩, hz, hk⟩, st⟩ := hr T hT X
  cases hv
  rw [h0] at hz hk
  have hAA : ∀ q, lt_A σ q → A q := by
    intro q hq
    rcases hq with hq | hq
    · obtain ⟨x, hx⟩ := Option.isSome_iff_exists.mp hq
      exact hH.2.1 q x hx
    · exact hA q (Nat.le_trans hH.2.2.1 (by rw [hH.1.1]; exact hq))
  have hS := hH.2.2
  obtain ⟨t2, a1, b1⟩ := kk v σ' T'.heap (locs ++ L) hq ⟨by rw [e1]; exact hH', fun b x hx => hAA b (hdom b x hx),
    ⟨Nat.le_trans hS.1 (by rw [e1]; exact hz), fun q h1 h2 => by rw [e1, hk q (Nat.lt_of_lt_of_le h1 hS.1) (fun z => h2 (hAA q z))]; exact hS.2.1 q h1 h2, fun q hq => by
      rcases List.mem_append.mp hq with h | h
      · exact hS.2.2 q h
      · exact hAA _ (hL q h)⟩⟩ T' rfl X'
  exact ⟨t2, st t2 a1, b1⟩
theorem lt_pre {G : lt_G} {as : List Value} {σ : hv_S} {A : Nat → Prop} (hH : lt_H G σ s H locs A) (hK : lt_K G s) (hN : ∀ w ∈ lt_N, va_Nw w s) : ∀ U : State, U.heap = H → s.WarmedH U.vm → lt_Pc G as σ as.toArray U :=
  fun U hU hW => ⟨rfl, by rw [hU]; exact hH.1, va_K.moved hW.alike hK, fun w hw => lt_Nmove (lt_N_ok w hw) hW (hN w hw)⟩
end LTC
section LTD
variable {G : lt_G} {μ μ' : lt_M} {d d' pc : Nat} {lo lo' : List (Nat × Value)} {st0 rest as : List Value} {σ : hv_S} {mc ms mc' ms' : Nat} {X : Nat → List (Nat × Value) → List Value → hv_S → Nat → Nat → Prop} {Qr : Option Value → hv_S → Prop}
set_option maxHeartbeats 2000000 in
theorem lt_callV {b ci n idx : Nat} {C : String} {T : u_T} {N : Nat} (hd : decode μ.2.1 pc = .ok (.invokevirtual idx, 3)) (hct : Ct G μ' d' mc' ms' (.ref b :: as) σ Qr) (hdd : d' + 1 ≤ d) (hst : st0 = as.reverse ++ .ref b :: rest) (hM : lt_M0 μ' as.length) (hlk : lt_lkM μ.1.cls idx μ'.1) (hin : Cond.instanceMethod μ'.1 ∈ lt_T) (hse : Cond.selects C μ'.1 μ'.1 ∈ lt_T)
    (hsh : hv_sh σ b = some (ci, n)) (hci : ci < 1000) (hcl : lt_cl[ci]? = some (C, T, N)) (hcat : (rest.map fun v => v.category).sum ≤ 8)
    (kk : ∀ (r : Option Value) (σ' : hv_S), Qr r σ' → Lt G μ d (pc + 3) lo (r.toList ++ rest) σ' mc ms X) : Lt G μ d pc lo st0 σ (mc + mc') (ms + ms') X := by
  intro p l e R s m args below meth c hC A hA Q hX H locs cells slots ls hl hH h1 h2
  have kk' := fun r σ' hq H' locs' hH' => kk r σ' hq p l e R s m args below meth c hC A hA Q hX H' locs' (cells + mc') (slots + ms') ls hl hH' (by omega) (by omega)
  obtain ⟨hx, hb, -, hml, hown, hts, hnw, hK, -, -, hfr, hlo⟩ := hC
  obtain ⟨hcode, hini, hnm, hnL⟩ := hM
  have hP := hH.1.2 b _ hsh
  unfold hv_at at hP
  rw [if_pos hci] at hP
  obtain ⟨r, hr, cell, q1, q2, q3, q4⟩ := hP
  have hrecv : ∃ cellB : Cell, H[b]? = some cellB ∧ cellB.vm.isStatics = false ∧ s.vm.findClass C = some cellB.cls := ⟨cell, q1, by rw [q3]; rfl, by rw [q2]; exact (hK.1 ci _ hcl).2.1⟩
  have hG := lt_good hcode
  refine lt_ran (a := (Value.ref b :: as).toArray) hA hH ?_ (fun r σ' H' locs' hq hH' => kk' r σ' hq H' locs' hH')
  rcases hlk with h | ⟨host, h⟩
  · exact va_runV (As := as) (rest := rest) (n := as.length) ⟨hx, hb, hml, hown, hts⟩ (hct l) ⟨callB_of as.length hts hG rfl rfl rfl (hts _ hini) (hts _ h) hnm ⟨by show d' + 1 ≤ R.frames; omega, by show 8 + (μ'.2.2.1 + 11) + 64 * d' ≤ R.locals; omega⟩, hts _ hin, hts _ hse⟩ ⟨lt_blind G _ σ, hrecv, lt_pre hH hK hnw⟩ rfl rfl hl.1 hst (lv_room hcat) hd ⟨by omega, by omega⟩
  · exact va_runVN (As := as) (rest := rest) (n := as.length) ⟨hx, hb, hml, hown, hts⟩ (hct l) ⟨va_cnB as.length hts hG rfl rfl rfl (hnw _ h) (hts _ hini) hnm ⟨by show d' + 1 ≤ R.frames; omega, by show 8 + (μ'.2.2.1 + 11) + 64 * d' ≤ R.locals; omega⟩, hts _ hin, hts _ hse⟩ ⟨lt_blind G _ σ, hrecv, lt_pre hH hK hnw⟩ rfl rfl hl.1 hst (lv_room hcat) hd ⟨by omega, by omega⟩
set_option maxHeartbeats 2000000 in
theorem lt_callS {idx : Nat} (hd : decode μ.2.1 pc = .ok (.invokestatic idx, 3)) (hct : Ct G μ' d' mc' ms' as σ Qr) (hdd : d' + 1 ≤ d) (hst : st0 = as.reverse ++ rest) (hM : lt_M0 μ' as.length) (hlk : lt_lkM μ.1.cls idx μ'.1) (hstc : Cond.static μ'.1 ∈ lt_T) (hcat : (rest.map fun v => v.category).sum ≤ 8)
    (kk : ∀ (r : Option Value) (σ' : hv_S), Qr r σ' → Lt G μ d (pc + 3) lo (r.toList ++ rest) σ' mc ms X) : Lt G μ d pc lo st0 σ (mc + mc') (ms + ms') X := by
  intro p l e R s m args below meth c hC A hA Q hX H locs cells slots ls hl hH h1 h2
  have kk' := fun r σ' hq H' locs' hH' => kk r σ' hq p l e R s m args below meth c hC A hA Q hX H' locs' (cells + mc') (slots + ms') ls hl hH' (by omega) (by omega)
  obtain ⟨hx, hb, -, hml, hown, hts, hnw, hK, -, -, hfr, hlo⟩ := hC
  obtain ⟨hcode, hini, hnm, hnL⟩ := hM
  have hG := lt_good hcode
  refine lt_ran (a := as.toArray) hA hH ?_ (fun r σ' H' locs' hq hH' => kk' r σ' hq H' locs' hH')
  rcases hlk with h | ⟨host, h⟩
  · exact va_runS (As := as) (rest := rest) (n := as.length) ⟨hx, hb, hml, hown, hts⟩ (hct l) ⟨callB_of as.length hts hG rfl rfl rfl (hts _ hini) (hts _ h) hnm ⟨by show d' + 1 ≤ R.frames; omega, by show 8 + (μ'.2.2.1 + 11) + 64 * d' ≤ R.locals; omega⟩, hts _ hstc⟩ ⟨lt_blind G _ σ, lt_pre hH hK hnw⟩ rfl rfl hl.1 hst (lv_room hcat) hd ⟨by omega, by omega⟩
  · exact va_runSN (As := as) (rest := rest) (n := as.length) ⟨hx, hb, hml, hown, hts⟩ (hct l) ⟨va_cnB as.length hts hG rfl rfl rfl (hnw _ h) (hts _ hini) hnm ⟨by show d' + 1 ≤ R.frames; omega, by show 8 + (μ'.2.2.1 + 11) + 64 * d' ≤ R.locals; omega⟩, hts _ hstc, trivial⟩ ⟨lt_blind G _ σ, lt_pre hH hK hnw⟩ rfl rfl hl.1 hst (lv_room hcat) hd ⟨by omega, by omega⟩
set_option maxHeartbeats 2000000 in
theorem lt_callI {y : MethodName} {cc : ByteArray} {nL b idx : Nat} (hd : decode μ.2.1 pc = .ok (.invokespecial idx, 3)) (hct : Ct G (y, cc, nL, none) d' mc' ms' (.ref b :: as) σ Qr) (hdd : d' + 1 ≤ d) (hst : st0 = as.reverse ++ .ref b :: rest) (hM : lt_M0 (y, cc, nL, none) as.length) (hlk : lt_lkM μ.1.cls idx y) (hin : Cond.instanceMethod y ∈ lt_T) (hname : y.name = "<init>") (hcat : (rest.map fun v => v.category).sum ≤ 8)
    (kk : ∀ (r : Option Value) (σ' : hv_S), Qr r σ' → Lt G μ d (pc + 3) lo (r.toList ++ rest) σ' mc ms X) : Lt G μ d pc lo st0 σ (mc + mc') (ms + ms') X := by
  intro p l e R s m args below meth c hC A hA Q hX H locs cells slots ls hl hH h1 h2
  have kk' := fun r σ' hq H' locs' hH' => kk r σ' hq p l e R s m args below meth c hC A hA Q hX H' locs' (cells + mc') (slots + ms') ls hl hH' (by omega) (by omega)
  obtain ⟨hx, hb, -, hml, hown, hts, hnw, hK, -, -, hfr, hlo⟩ := hC
  obtain ⟨hcode, hini, hnm, hnL⟩ := hM
  have hG := lt_good hcode
  have hnL : nL ≤ 45 := hnL
  refine lt_ran (a := (Value.ref b :: as).toArray) hA hH ?_ (fun r σ' H' locs' hq hH' => kk' r σ' hq H' locs' hH')
  rcases hlk with h | ⟨host, h⟩
  · exact va_runI (As := as) (rest := rest) (n := as.length) ⟨hx, hb, hml, hown, hts⟩ (hct l) ⟨callB_of as.length hts hG rfl rfl rfl (hts _ hini) (hts _ h) hnm ⟨by show d' + 1 ≤ R.frames; omega, by show 8 + (nL + 11) + 64 * d' ≤ R.locals; omega⟩, hname, hts _ hin⟩ ⟨lt_blind G _ σ, lt_pre hH hK hnw⟩ rfl rfl hl.1 hst (lv_room hcat) hd ⟨by omega, by omega⟩
  · exact va_runIN (As := as) (rest := rest) (n := as.length) ⟨hx, hb, hml, hown, hts⟩ (hct l) ⟨va_cnB as.length hts hG rfl rfl rfl (hnw _ h) (hts _ hini) hnm ⟨by show d' + 1 ≤ R.frames; omega, by show 8 + (nL + 11) + 64 * d' ≤ R.locals; omega⟩, hname, hts _ hin⟩ ⟨lt_blind G _ σ, lt_pre hH hK hnw⟩ rfl rfl hl.1 hst (lv_room hcat) hd ⟨by omega, by omega⟩
/-- Object.<init> -/
theorem lt_objInit {b idx : Nat} (hd : decode μ.2.1 pc = .ok (.invokespecial idx, 3)) (hlk : Cond.methodLink μ.1.cls idx Lib.objectInit ∈ lt_T) (hin : Cond.instanceMethod Lib.objectInit ∈ lt_T) (hco : Cond.code Lib.objectInit ⟨#[0xb1]⟩ 1 none ∈ lt_T) (hdd : 1 ≤ d) (hcat : (rest.map fun v => v.category).sum ≤ 8) (kk : Lt G μ d (pc + 3) lo rest σ mc ms X) : Lt G μ d pc lo (.ref b :: rest) σ mc ms X := by
  intro p l e R s m args below meth c hC A hA Q hX H locs cells slots ls hl hH h1 h2
  have kk' := kk p l e R s m args below meth c hC A hA Q hX H locs cells slots ls hl hH h1 h2
  obtain ⟨hx, hb, -, hml, hown, hts, hnw, hK, -, -, hfr, hlo⟩ := hC
  exact W.objInit hx hb hown (hts _ hlk) (hts _ hin) (hts _ hco) rfl (by rw [hml]; exact hl.1) rfl hd (by omega) (by show 2 * 0 + _ + 12 ≤ R.locals; omega) kk'
end LTD
end
section
/-! MINI VALUES: an int, a long, a reference or null. Lk is Lt over them: all that a step looks at is then in constructors. -/
abbrev mV : Type := Int32 ⊕ Int64 ⊕ Option Nat
abbrev vI (x : Int32) : mV := .inl x
abbrev vJ (x : Int64) : mV := .inr (.inl x)
abbrev vR (r : Option Nat) : mV := .inr (.inr r)
def mv (v : mV) : Value := match v with
  | .inl x => .int x
  | .inr (.inl x) => .long x
  | .inr (.inr r) => va_rf r
def mcat (v : mV) : Nat := match v with
  | .inr (.inl _) => 2
  | _ => 1
theorem mv_cat (v : mV) : (mv v).category = mcat v := by
  match v with
  | .inl x => rfl
  | .inr (.inl x) => rfl
  | .inr (.inr none) => rfl
  | .inr (.inr (some a)) => rfl
def cv (q : Nat × mV) : Nat × Value := (q.1, mv q.2)
def mk_ld (lo : List (Nat × mV)) (i : Nat) : Option mV := match lo with
  | [] => none
  | q :: r => if q.1 = i then some q.2 else mk_ld r i
def mk_s1 (i : Nat) (v : mV) (lo : List (Nat × mV)) : List (Nat × mV) := (i, v) :: lo.filter (fun q => !(q.1 == i) && !(q.1 + 1 == i && mcat q.2 == 2))
def mk_s2 (i : Nat) (v : mV) (lo : List (Nat × mV)) : List (Nat × mV) := (i, v) :: lo.filter (fun q => !(q.1 == i) && (!(q.1 == i + 1) && !(q.1 + 1 == i && mcat q.2 == 2)))
theorem mk_ld_map : ∀ {lo : List (Nat × mV)} {i : Nat} {v : mV}, mk_ld lo i = some v → ms_ld (lo.map cv) i = some (mv v)
  | [], i, v, h => by simp [mk_ld] at h
  | q :: r, i, v, h => by
    show (if q.1 = i then some (mv q.2) else ms_ld (r.map cv) i) = some (mv v)
    unfold mk_ld at h
    by_cases hq : q.1 = i
    · rw [if_pos hq] at h ⊢
      cases h; rfl
    · rw [if_neg hq] at h ⊢
      exact mk_ld_map h
theorem mk_s1_map (i : Nat) (v : mV) (lo : List (Nat × mV)) : ms_s1 i (mv v) (lo.map cv) = (mk_s1 i v lo).map cv := by
  unfold ms_s1 mk_s1
  rw [List.map_cons, List.filter_map]
  have h : ((fun q : Nat × Value => !(q.1 == i) && !(q.1 + 1 == i && q.2.category == 2)) ∘ cv) = (fun q : Nat × mV => !(q.1 == i) && !(q.1 + 1 == i && mcat q.2 == 2)) := by
    funext q
    simp only [Function.comp, cv, mv_cat]
  rw [h]
  rfl
theorem mk_s2_map (i : Nat) (v : mV) (lo : List (Nat × mV)) : ms_s2 i (mv v) (lo.map cv) = (mk_s2 i v lo).map cv := by
  unfold ms_s2 mk_s2
  rw [List.map_cons, List.filter_map]
  have h : ((fun q : Nat × Value => !(q.1 == i) && (!(q.1 == i + 1) && !(q.1 + 1 == i && q.2.category == 2))) ∘ cv) = (fun q : Nat × mV => !(q.1 == i) && (!(q.1 == i + 1) && !(q.1 + 1 == i && mcat q.2 == 2))) := by
    funext q
    simp only [Function.comp, cv, mv_cat]
  rw [h]
  rfl
def Lk (G : lt_G) (μ : lt_M) (d pc : Nat) (lo : List (Nat × mV)) (st : List mV) (σ : hv_S) (mc ms : Nat) (X : Nat → List (Nat × mV) → List mV → hv_S → Nat → Nat → Prop) : Prop :=
  Lt G μ d pc (lo.map cv) (st.map mv) σ mc ms (fun pc' lo' st' σ' mc' ms' => ∃ (lo2 : List (Nat × mV)) (st2 : List mV), lo' = lo2.map cv ∧ st' = st2.map mv ∧ X pc' lo2 st2 σ' mc' ms')
def mk_sel (lo : List (Nat × mV)) : List Nat → Option (List (Nat × mV))
  | [] => some []
  | i :: is => match mk_ld lo i, mk_sel lo is with
    | some v, some l => some ((i, v) :: l)
    | _, _ => none
theorem mk_ld_mem : ∀ {lo : List (Nat × mV)} {i : Nat} {v : mV}, mk_ld lo i = some v → (i, v) ∈ lo
  | [], i, v, h => by simp [mk_ld] at h
  | q :: r, i, v, h => by
    unfold mk_ld at h
    by_cases hq : q.1 = i
    · rw [if_pos hq] at h
      cases h; subst hq; exact List.mem_cons_self
    · rw [if_neg hq] at h
      exact List.mem_cons_of_mem _ (mk_ld_mem h)
theorem mk_sel_mem : ∀ {is : List Nat} {lo l : List (Nat × mV)}, mk_sel lo is = some l → ∀ q ∈ l, q ∈ lo
  | [], lo, l, h, q, hq => by cases h; cases hq
  | i :: is, lo, l, h, q, hq => by
    unfold mk_sel at h
    split at h
    · next v l' h1 h2 =>
      cases h
      rcases List.mem_cons.mp hq with rfl | hq
      · exact mk_ld_mem h1
      · exact mk_sel_mem h2 q hq
    · cases h
section LK
variable {G : lt_G} {μ : lt_M} {d pc : Nat} {lo lo' : List (Nat × mV)} {st : List mV} {σ : hv_S} {mc ms : Nat} {X : Nat → List (Nat × mV) → List mV → hv_S → Nat → Nat → Prop}
theorem Lk.stop (h : X pc lo st σ mc ms) : Lk G μ d pc lo st σ mc ms X := Lt.stop ⟨lo, st, rfl, rfl, h⟩
theorem Lk.trans {Y : Nat → List (Nat × mV) → List mV → hv_S → Nat → Nat → Prop} (h : Lk G μ d pc lo st σ mc ms Y) (k : ∀ pc' lo' st' σ' mc' ms', Y pc' lo' st' σ' mc' ms' → Lk G μ d pc' lo' st' σ' mc' ms' X) : Lk G μ d pc lo st σ mc ms X :=
  Lt.trans h (fun pc' lo' st' σ' mc' ms' hy => by
    obtain ⟨lo2, st2, rfl, rfl, hy⟩ := hy
    exact k pc' lo2 st2 σ' mc' ms' hy)
theorem Lk.less {mc' ms' : Nat} (hc : mc' ≤ mc) (hs : ms' ≤ ms) (h : Lk G μ d pc lo st σ mc' ms' X) : Lk G μ d pc lo st σ mc ms X := Lt.less hc hs h
theorem Lk.sel (is : List Nat) (hk : mk_sel lo is = some lo') (h : Lk G μ d pc lo' st σ mc ms X) : Lk G μ d pc lo st σ mc ms X :=
  fun p l e R s m args below meth c hC A hA Q hX H locs cells slots ls hl hH h1 h2 => h p l e R s m args below meth c hC A hA Q hX H locs cells slots ls
    ⟨hl.1, hl.2.1, fun q hq => by
      obtain ⟨q0, hq0, rfl⟩ := List.mem_map.mp hq
      exact hl.2.2 _ (List.mem_map.mpr ⟨q0, mk_sel_mem hk q0 hq0, rfl⟩)⟩ hH h1 h2
theorem lk_iconst {n : Int} {v : Int32} (hd : decode μ.2.1 pc = .ok (.iconst n, 1)) (hv : Int32.ofInt n = v) (kk : Lk G μ d (pc + 1) lo (vI v :: st) σ mc ms X) : Lk G μ d pc lo (st) σ mc ms X := lt_iconst hd hv kk
theorem lk_bipush {n : Int} {v : Int32} (hd : decode μ.2.1 pc = .ok (.bipush n, 2)) (hv : (Int8.ofInt n).toInt32 = v) (kk : Lk G μ d (pc + 2) lo (vI v :: st) σ mc ms X) : Lk G μ d pc lo (st) σ mc ms X := lt_bipush hd hv kk
theorem lk_sipush {n : Int} {v : Int32} (hd : decode μ.2.1 pc = .ok (.sipush n, 3)) (hv : (Int16.ofInt n).toInt32 = v) (kk : Lk G μ d (pc + 3) lo (vI v :: st) σ mc ms X) : Lk G μ d pc lo (st) σ mc ms X := lt_sipush hd hv kk
theorem lk_lconst {n : Fin 2} {v : Int64} (hd : decode μ.2.1 pc = .ok (.lconst n, 1)) (hv : Int64.ofNat (n : Nat) = v) (kk : Lk G μ d (pc + 1) lo (vJ v :: st) σ mc ms X) : Lk G μ d pc lo (st) σ mc ms X := lt_lconst hd hv kk
theorem lk_null  (hd : decode μ.2.1 pc = .ok (.aconst_null, 1)) (kk : Lk G μ d (pc + 1) lo (vR none :: st) σ mc ms X) : Lk G μ d pc lo (st) σ mc ms X := lt_null hd kk
theorem lk_iload {i : Nat} {x : Int32} (hd : decode μ.2.1 pc = .ok (.iload i, 2)) (hi : mk_ld lo i = some (vI x)) (kk : Lk G μ d (pc + 2) lo (vI x :: st) σ mc ms X) : Lk G μ d pc lo (st) σ mc ms X := lt_iload hd (mk_ld_map hi) kk
theorem lk_iload_n {k : Fin 4} {x : Int32} (hd : decode μ.2.1 pc = .ok (.iload_n k, 1)) (hi : mk_ld lo (k : Nat) = some (vI x)) (kk : Lk G μ d (pc + 1) lo (vI x :: st) σ mc ms X) : Lk G μ d pc lo (st) σ mc ms X := lt_iload_n hd (mk_ld_map hi) kk
theorem lk_lload {i : Nat} {x : Int64} (hd : decode μ.2.1 pc = .ok (.lload i, 2)) (hi : mk_ld lo i = some (vJ x)) (kk : Lk G μ d (pc + 2) lo (vJ x :: st) σ mc ms X) : Lk G μ d pc lo (st) σ mc ms X := lt_lload hd (mk_ld_map hi) kk
theorem lk_lload_n {k : Fin 4} {x : Int64} (hd : decode μ.2.1 pc = .ok (.lload_n k, 1)) (hi : mk_ld lo (k : Nat) = some (vJ x)) (kk : Lk G μ d (pc + 1) lo (vJ x :: st) σ mc ms X) : Lk G μ d pc lo (st) σ mc ms X := lt_lload_n hd (mk_ld_map hi) kk
theorem lk_aload {i : Nat} {r : Option Nat} (hd : decode μ.2.1 pc = .ok (.aload i, 2)) (hi : mk_ld lo i = some (vR r)) (kk : Lk G μ d (pc + 2) lo (vR r :: st) σ mc ms X) : Lk G μ d pc lo st σ mc ms X := by
  have h := mk_ld_map hi
  cases r with
  | none => exact lt_aloadN hd h kk
  | some a => exact lt_aload hd h kk
theorem lk_aload_n {k : Fin 4} {r : Option Nat} (hd : decode μ.2.1 pc = .ok (.aload_n k, 1)) (hi : mk_ld lo (k : Nat) = some (vR r)) (kk : Lk G μ d (pc + 1) lo (vR r :: st) σ mc ms X) : Lk G μ d pc lo st σ mc ms X := by
  have h := mk_ld_map hi
  cases r with
  | none => exact lt_aload_nN hd h kk
  | some a => exact lt_aload_n hd h kk
theorem lk_istore {i : Nat} {x : Int32} (hd : decode μ.2.1 pc = .ok (.istore i, 2)) (hn : i < μ.2.2.1) (hs : mk_s1 i (vI x) lo = lo') (kk : Lk G μ d (pc + 2) lo' (st) σ mc ms X) : Lk G μ d pc lo (vI x :: st) σ mc ms X := by
  subst hs
  exact lt_istore hd hn (mk_s1_map i (vI x) lo) kk
theorem lk_istore_n {k : Fin 4} {x : Int32} (hd : decode μ.2.1 pc = .ok (.istore_n k, 1)) (hn : (k : Nat) < μ.2.2.1) (hs : mk_s1 (k : Nat) (vI x) lo = lo') (kk : Lk G μ d (pc + 1) lo' (st) σ mc ms X) : Lk G μ d pc lo (vI x :: st) σ mc ms X := by
  subst hs
  exact lt_istore_n hd hn (mk_s1_map (k : Nat) (vI x) lo) kk
theorem lk_lstore {i : Nat} {x : Int64} (hd : decode μ.2.1 pc = .ok (.lstore i, 2)) (hn : i + 1 < μ.2.2.1) (hs : mk_s2 i (vJ x) lo = lo') (kk : Lk G μ d (pc + 2) lo' (st) σ mc ms X) : Lk G μ d pc lo (vJ x :: st) σ mc ms X := by
  subst hs
  exact lt_lstore hd hn (mk_s2_map i (vJ x) lo) kk
theorem lk_lstore_n {k : Fin 4} {x : Int64} (hd : decode μ.2.1 pc = .ok (.lstore_n k, 1)) (hn : (k : Nat) + 1 < μ.2.2.1) (hs : mk_s2 (k : Nat) (vJ x) lo = lo') (kk : Lk G μ d (pc + 1) lo' (st) σ mc ms X) : Lk G μ d pc lo (vJ x :: st) σ mc ms X := by
  subst hs
  exact lt_lstore_n hd hn (mk_s2_map (k : Nat) (vJ x) lo) kk
theorem lk_astore {i : Nat} {r : Option Nat} (hd : decode μ.2.1 pc = .ok (.astore i, 2)) (hn : i < μ.2.2.1) (hs : mk_s1 i (vR r) lo = lo') (kk : Lk G μ d (pc + 2) lo' st σ mc ms X) : Lk G μ d pc lo (vR r :: st) σ mc ms X := by
  subst hs
  have h := mk_s1_map i (vR r) lo
  cases r with
  | none => exact lt_astoreN hd hn h kk
  | some a => exact lt_astore hd hn h kk
theorem lk_astore_n {k : Fin 4} {r : Option Nat} (hd : decode μ.2.1 pc = .ok (.astore_n k, 1)) (hn : (k : Nat) < μ.2.2.1) (hs : mk_s1 (k : Nat) (vR r) lo = lo') (kk : Lk G μ d (pc + 1) lo' st σ mc ms X) : Lk G μ d pc lo (vR r :: st) σ mc ms X := by
  subst hs
  have h := mk_s1_map (k : Nat) (vR r) lo
  cases r with
  | none => exact lt_astore_nN hd hn h kk
  | some a => exact lt_astore_n hd hn h kk
theorem lk_iinc {i : Nat} {n : Int} {x v : Int32} (hd : decode μ.2.1 pc = .ok (.iinc i n, 3)) (hi : mk_ld lo i = some (vI x)) (hv : x + Int32.ofInt n = v) (hn : i < μ.2.2.1) (hs : mk_s1 i (vI v) lo = lo') (kk : Lk G μ d (pc + 3) lo' st σ mc ms X) : Lk G μ d pc lo st σ mc ms X := by
  subst hs
  exact lt_iinc hd (mk_ld_map hi) hv hn (mk_s1_map i (vI v) lo) kk
theorem lk_iadd {x y : Int32} (hd : decode μ.2.1 pc = .ok (.iadd, 1)) (kk : Lk G μ d (pc + 1) lo (vI (x + y) :: st) σ mc ms X) : Lk G μ d pc lo (vI y :: vI x :: st) σ mc ms X := lt_iadd hd kk
theorem lk_isub {x y : Int32} (hd : decode μ.2.1 pc = .ok (.isub, 1)) (kk : Lk G μ d (pc + 1) lo (vI (x - y) :: st) σ mc ms X) : Lk G μ d pc lo (vI y :: vI x :: st) σ mc ms X := lt_isub hd kk
theorem lk_imul {x y : Int32} (hd : decode μ.2.1 pc = .ok (.imul, 1)) (kk : Lk G μ d (pc + 1) lo (vI (x * y) :: st) σ mc ms X) : Lk G μ d pc lo (vI y :: vI x :: st) σ mc ms X := lt_imul hd kk
theorem lk_iand {x y : Int32} (hd : decode μ.2.1 pc = .ok (.iand, 1)) (kk : Lk G μ d (pc + 1) lo (vI (x &&& y) :: st) σ mc ms X) : Lk G μ d pc lo (vI y :: vI x :: st) σ mc ms X := lt_iand hd kk
theorem lk_ior {x y : Int32} (hd : decode μ.2.1 pc = .ok (.ior, 1)) (kk : Lk G μ d (pc + 1) lo (vI (x ||| y) :: st) σ mc ms X) : Lk G μ d pc lo (vI y :: vI x :: st) σ mc ms X := lt_ior hd kk
theorem lk_ixor {x y : Int32} (hd : decode μ.2.1 pc = .ok (.ixor, 1)) (kk : Lk G μ d (pc + 1) lo (vI (x ^^^ y) :: st) σ mc ms X) : Lk G μ d pc lo (vI y :: vI x :: st) σ mc ms X := lt_ixor hd kk
theorem lk_ishl {x y : Int32} (hd : decode μ.2.1 pc = .ok (.ishl, 1)) (kk : Lk G μ d (pc + 1) lo (vI (x <<< (y &&& 31)) :: st) σ mc ms X) : Lk G μ d pc lo (vI y :: vI x :: st) σ mc ms X := lt_ishl hd kk
theorem lk_ishr {x y : Int32} (hd : decode μ.2.1 pc = .ok (.ishr, 1)) (kk : Lk G μ d (pc + 1) lo (vI (x >>> (y &&& 31)) :: st) σ mc ms X) : Lk G μ d pc lo (vI y :: vI x :: st) σ mc ms X := lt_ishr hd kk
theorem lk_ladd {x y : Int64} (hd : decode μ.2.1 pc = .ok (.ladd, 1)) (kk : Lk G μ d (pc + 1) lo (vJ (x + y) :: st) σ mc ms X) : Lk G μ d pc lo (vJ y :: vJ x :: st) σ mc ms X := lt_ladd hd kk
theorem lk_lsub {x y : Int64} (hd : decode μ.2.1 pc = .ok (.lsub, 1)) (kk : Lk G μ d (pc + 1) lo (vJ (x - y) :: st) σ mc ms X) : Lk G μ d pc lo (vJ y :: vJ x :: st) σ mc ms X := lt_lsub hd kk
theorem lk_lmul {x y : Int64} (hd : decode μ.2.1 pc = .ok (.lmul, 1)) (kk : Lk G μ d (pc + 1) lo (vJ (x * y) :: st) σ mc ms X) : Lk G μ d pc lo (vJ y :: vJ x :: st) σ mc ms X := lt_lmul hd kk
theorem lk_land {x y : Int64} (hd : decode μ.2.1 pc = .ok (.land, 1)) (kk : Lk G μ d (pc + 1) lo (vJ (x &&& y) :: st) σ mc ms X) : Lk G μ d pc lo (vJ y :: vJ x :: st) σ mc ms X := lt_land hd kk
theorem lk_lor {x y : Int64} (hd : decode μ.2.1 pc = .ok (.lor, 1)) (kk : Lk G μ d (pc + 1) lo (vJ (x ||| y) :: st) σ mc ms X) : Lk G μ d pc lo (vJ y :: vJ x :: st) σ mc ms X := lt_lor hd kk
theorem lk_lxor {x y : Int64} (hd : decode μ.2.1 pc = .ok (.lxor, 1)) (kk : Lk G μ d (pc + 1) lo (vJ (x ^^^ y) :: st) σ mc ms X) : Lk G μ d pc lo (vJ y :: vJ x :: st) σ mc ms X := lt_lxor hd kk
theorem lk_ineg {x : Int32} (hd : decode μ.2.1 pc = .ok (.ineg, 1)) (kk : Lk G μ d (pc + 1) lo (vI (-x) :: st) σ mc ms X) : Lk G μ d pc lo (vI x :: st) σ mc ms X := lt_ineg hd kk
theorem lk_iushr {x y : Int32} (hd : decode μ.2.1 pc = .ok (.iushr, 1)) (kk : Lk G μ d (pc + 1) lo (vI (x.toUInt32 >>> (y.toUInt32 &&& Int32.toUInt32 31)).toInt32 :: st) σ mc ms X) : Lk G μ d pc lo (vI y :: vI x :: st) σ mc ms X := lt_iushr hd kk
theorem lk_lushr {x : Int64} {y : Int32} (hd : decode μ.2.1 pc = .ok (.lushr, 1)) (kk : Lk G μ d (pc + 1) lo (vJ (x.toUInt64 >>> (y.toInt64.toUInt64 &&& Int64.toUInt64 63)).toInt64 :: st) σ mc ms X) : Lk G μ d pc lo (vI y :: vJ x :: st) σ mc ms X := lt_lushr hd kk
theorem lk_lshl {x : Int64} {y : Int32} (hd : decode μ.2.1 pc = .ok (.lshl, 1)) (kk : Lk G μ d (pc + 1) lo (vJ (x <<< (y.toInt64 &&& 63)) :: st) σ mc ms X) : Lk G μ d pc lo (vI y :: vJ x :: st) σ mc ms X := lt_lshl hd kk
theorem lk_i2l {x : Int32} (hd : decode μ.2.1 pc = .ok (.i2l, 1)) (kk : Lk G μ d (pc + 1) lo (vJ x.toInt64 :: st) σ mc ms X) : Lk G μ d pc lo (vI x :: st) σ mc ms X := lt_i2l hd kk
theorem lk_l2i {x : Int64} (hd : decode μ.2.1 pc = .ok (.l2i, 1)) (kk : Lk G μ d (pc + 1) lo (vI x.toInt32 :: st) σ mc ms X) : Lk G μ d pc lo (vJ x :: st) σ mc ms X := lt_l2i hd kk
theorem lk_i2c {x : Int32} (hd : decode μ.2.1 pc = .ok (.i2c, 1)) (kk : Lk G μ d (pc + 1) lo (vI (x.toUInt32 % 65536).toInt32 :: st) σ mc ms X) : Lk G μ d pc lo (vI x :: st) σ mc ms X := lt_i2c hd kk
theorem lk_lcmp {x y : Int64} (hd : decode μ.2.1 pc = .ok (.lcmp, 1)) (kk : Lk G μ d (pc + 1) lo (vI (lg_cmp x y) :: st) σ mc ms X) : Lk G μ d pc lo (vJ y :: vJ x :: st) σ mc ms X := lt_lcmp hd kk
theorem lk_dup {a : mV} (hd : decode μ.2.1 pc = .ok (.dup, 1)) (ha : mcat a = 1) (kk : Lk G μ d (pc + 1) lo (a :: a :: st) σ mc ms X) : Lk G μ d pc lo (a :: st) σ mc ms X := lt_dup hd ((mv_cat a).trans ha) kk
theorem lk_pop {a : mV} (hd : decode μ.2.1 pc = .ok (.pop, 1)) (ha : mcat a = 1) (kk : Lk G μ d (pc + 1) lo (st) σ mc ms X) : Lk G μ d pc lo (a :: st) σ mc ms X := lt_pop hd ((mv_cat a).trans ha) kk
theorem lk_dup_x1 {a b : mV} (hd : decode μ.2.1 pc = .ok (.dup_x1, 1)) (ha : mcat a = 1) (hb : mcat b = 1) (kk : Lk G μ d (pc + 1) lo (a :: b :: a :: st) σ mc ms X) : Lk G μ d pc lo (a :: b :: st) σ mc ms X := lt_dup_x1 hd ((mv_cat a).trans ha) ((mv_cat b).trans hb) kk
theorem lk_dup_x2 {a b c : mV} (hd : decode μ.2.1 pc = .ok (.dup_x2, 1)) (ha : mcat a = 1) (hb : mcat b = 1) (hc : mcat c = 1) (kk : Lk G μ d (pc + 1) lo (a :: b :: c :: a :: st) σ mc ms X) : Lk G μ d pc lo (a :: b :: c :: st) σ mc ms X := lt_dup_x2 hd ((mv_cat a).trans ha) ((mv_cat b).trans hb) ((mv_cat c).trans hc) kk
theorem lk_dup2_11 {a b : mV} (hd : decode μ.2.1 pc = .ok (.dup2, 1)) (ha : mcat a = 1) (hb : mcat b = 1) (kk : Lk G μ d (pc + 1) lo (a :: b :: a :: b :: st) σ mc ms X) : Lk G μ d pc lo (a :: b :: st) σ mc ms X := lt_dup2_11 hd ((mv_cat a).trans ha) ((mv_cat b).trans hb) kk
theorem lk_if_eq {x : Int32} {off : Int} {tgt : Nat} (hd : decode μ.2.1 pc = .ok (.ifCond .eq off, 3)) (ht : (pc : Int) + off = (tgt : Int)) (kt : x = 0 → Lk G μ d tgt lo st σ mc ms X) (kf : ¬ x = 0 → Lk G μ d (pc + 3) lo st σ mc ms X) : Lk G μ d pc lo (vI x :: st) σ mc ms X := lt_if_eq hd ht kt kf
theorem lk_icmp_eq {x y : Int32} {off : Int} {tgt : Nat} (hd : decode μ.2.1 pc = .ok (.if_icmp .eq off, 3)) (ht : (pc : Int) + off = (tgt : Int)) (kt : x = y → Lk G μ d tgt lo st σ mc ms X) (kf : ¬ x = y → Lk G μ d (pc + 3) lo st σ mc ms X) : Lk G μ d pc lo (vI y :: vI x :: st) σ mc ms X := lt_icmp_eq hd ht kt kf
theorem lk_if_ne {x : Int32} {off : Int} {tgt : Nat} (hd : decode μ.2.1 pc = .ok (.ifCond .ne off, 3)) (ht : (pc : Int) + off = (tgt : Int)) (kt : ¬ x = 0 → Lk G μ d tgt lo st σ mc ms X) (kf : x = 0 → Lk G μ d (pc + 3) lo st σ mc ms X) : Lk G μ d pc lo (vI x :: st) σ mc ms X := lt_if_ne hd ht kt kf
theorem lk_icmp_ne {x y : Int32} {off : Int} {tgt : Nat} (hd : decode μ.2.1 pc = .ok (.if_icmp .ne off, 3)) (ht : (pc : Int) + off = (tgt : Int)) (kt : ¬ x = y → Lk G μ d tgt lo st σ mc ms X) (kf : x = y → Lk G μ d (pc + 3) lo st σ mc ms X) : Lk G μ d pc lo (vI y :: vI x :: st) σ mc ms X := lt_icmp_ne hd ht kt kf
theorem lk_if_lt {x : Int32} {off : Int} {tgt : Nat} (hd : decode μ.2.1 pc = .ok (.ifCond .lt off, 3)) (ht : (pc : Int) + off = (tgt : Int)) (kt : x < 0 → Lk G μ d tgt lo st σ mc ms X) (kf : ¬ x < 0 → Lk G μ d (pc + 3) lo st σ mc ms X) : Lk G μ d pc lo (vI x :: st) σ mc ms X := lt_if_lt hd ht kt kf
theorem lk_icmp_lt {x y : Int32} {off : Int} {tgt : Nat} (hd : decode μ.2.1 pc = .ok (.if_icmp .lt off, 3)) (ht : (pc : Int) + off = (tgt : Int)) (kt : x < y → Lk G μ d tgt lo st σ mc ms X) (kf : ¬ x < y → Lk G μ d (pc + 3) lo st σ mc ms X) : Lk G μ d pc lo (vI y :: vI x :: st) σ mc ms X := lt_icmp_lt hd ht kt kf
theorem lk_if_ge {x : Int32} {off : Int} {tgt : Nat} (hd : decode μ.2.1 pc = .ok (.ifCond .ge off, 3)) (ht : (pc : Int) + off = (tgt : Int)) (kt : 0 ≤ x → Lk G μ d tgt lo st σ mc ms X) (kf : ¬ 0 ≤ x → Lk G μ d (pc + 3) lo st σ mc ms X) : Lk G μ d pc lo (vI x :: st) σ mc ms X := lt_if_ge hd ht kt kf
theorem lk_icmp_ge {x y : Int32} {off : Int} {tgt : Nat} (hd : decode μ.2.1 pc = .ok (.if_icmp .ge off, 3)) (ht : (pc : Int) + off = (tgt : Int)) (kt : y ≤ x → Lk G μ d tgt lo st σ mc ms X) (kf : ¬ y ≤ x → Lk G μ d (pc + 3) lo st σ mc ms X) : Lk G μ d pc lo (vI y :: vI x :: st) σ mc ms X := lt_icmp_ge hd ht kt kf
theorem lk_if_gt {x : Int32} {off : Int} {tgt : Nat} (hd : decode μ.2.1 pc = .ok (.ifCond .gt off, 3)) (ht : (pc : Int) + off = (tgt : Int)) (kt : 0 < x → Lk G μ d tgt lo st σ mc ms X) (kf : ¬ 0 < x → Lk G μ d (pc + 3) lo st σ mc ms X) : Lk G μ d pc lo (vI x :: st) σ mc ms X := lt_if_gt hd ht kt kf
theorem lk_icmp_gt {x y : Int32} {off : Int} {tgt : Nat} (hd : decode μ.2.1 pc = .ok (.if_icmp .gt off, 3)) (ht : (pc : Int) + off = (tgt : Int)) (kt : y < x → Lk G μ d tgt lo st σ mc ms X) (kf : ¬ y < x → Lk G μ d (pc + 3) lo st σ mc ms X) : Lk G μ d pc lo (vI y :: vI x :: st) σ mc ms X := lt_icmp_gt hd ht kt kf
theorem lk_if_le {x : Int32} {off : Int} {tgt : Nat} (hd : decode μ.2.1 pc = .ok (.ifCond .le off, 3)) (ht : (pc : Int) + off = (tgt : Int)) (kt : x ≤ 0 → Lk G μ d tgt lo st σ mc ms X) (kf : ¬ x ≤ 0 → Lk G μ d (pc + 3) lo st σ mc ms X) : Lk G μ d pc lo (vI x :: st) σ mc ms X := lt_if_le hd ht kt kf
theorem lk_icmp_le {x y : Int32} {off : Int} {tgt : Nat} (hd : decode μ.2.1 pc = .ok (.if_icmp .le off, 3)) (ht : (pc : Int) + off = (tgt : Int)) (kt : x ≤ y → Lk G μ d tgt lo st σ mc ms X) (kf : ¬ x ≤ y → Lk G μ d (pc + 3) lo st σ mc ms X) : Lk G μ d pc lo (vI y :: vI x :: st) σ mc ms X := lt_icmp_le hd ht kt kf
theorem lk_goto {off : Int} {tgt : Nat} (hd : decode μ.2.1 pc = .ok (.goto off, 3)) (ht : (pc : Int) + off = (tgt : Int)) (kk : Lk G μ d tgt lo st σ mc ms X) : Lk G μ d pc lo st σ mc ms X := lt_goto hd ht kk
theorem lk_ifnonnull {r : Option Nat} {off : Int} {tgt : Nat} (hd : decode μ.2.1 pc = .ok (.ifnonnull off, 3)) (ht : (pc : Int) + off = (tgt : Int)) (kt : ¬ r = none → Lk G μ d tgt lo st σ mc ms X) (kf : r = none → Lk G μ d (pc + 3) lo st σ mc ms X) : Lk G μ d pc lo (vR r :: st) σ mc ms X := by
  cases r with
  | none => exact lt_ifnonnullN hd (kf rfl)
  | some a => exact lt_ifnonnull hd ht (kt (fun h => by cases h))
theorem lk_ifnull {r : Option Nat} {off : Int} {tgt : Nat} (hd : decode μ.2.1 pc = .ok (.ifnull off, 3)) (ht : (pc : Int) + off = (tgt : Int)) (kt : r = none → Lk G μ d tgt lo st σ mc ms X) (kf : ¬ r = none → Lk G μ d (pc + 3) lo st σ mc ms X) : Lk G μ d pc lo (vR r :: st) σ mc ms X := by
  cases r with
  | none => exact lt_ifnullN hd ht (kt rfl)
  | some a => exact lt_ifnull hd (kf (fun h => by cases h))
theorem lk_lookup {dflt : Int} {ps : Array (Int × Int)} {len : Nat} {x : Int32} {off : Int} {tgt : Nat} (hd : decode μ.2.1 pc = .ok (.lookupswitch dflt ps, len)) (hp : (ps.toList.zip (ps.toList.drop 1)).all (fun (a, next) => a.1 < next.1) = true) (ho : Op.lookupswitch.offset ps.toList dflt x.toInt = off) (ht : (pc : Int) + off = (tgt : Int)) (kk : Lk G μ d tgt lo st σ mc ms X) : Lk G μ d pc lo (vI x :: st) σ mc ms X := lt_lookup hd hp ho ht kk
theorem lk_tableOut {dflt tl th : Int} {offs : Array Int} {len : Nat} {x : Int32} {tgt : Nat} (hd : decode μ.2.1 pc = .ok (.tableswitch dflt tl th offs, len)) (h : x.toInt < tl ∨ th < x.toInt) (ht : (pc : Int) + dflt = (tgt : Int)) (kk : Lk G μ d tgt lo st σ mc ms X) : Lk G μ d pc lo (vI x :: st) σ mc ms X := lt_tableOut hd h ht kk
theorem lk_tableIn {dflt tl th : Int} {offs : Array Int} {len : Nat} {x : Int32} {off : Int} {tgt : Nat} (hd : decode μ.2.1 pc = .ok (.tableswitch dflt tl th offs, len)) (g1 : ¬ x.toInt < tl) (g2 : ¬ th < x.toInt) (ho : offs[(x.toInt - tl).toNat]? = some off) (ht : (pc : Int) + off = (tgt : Int)) (kk : Lk G μ d tgt lo st σ mc ms X) : Lk G μ d pc lo (vI x :: st) σ mc ms X := lt_tableIn hd g1 g2 ho ht kk
theorem lk_ldc2 {idx : Nat} {v : Int64} (hd : decode μ.2.1 pc = .ok (.ldc2_w idx, 3)) (hc : Cond.constantLong μ.1.cls idx v ∈ lt_T) (kk : Lk G μ d (pc + 3) lo (vJ v :: st) σ mc ms X) : Lk G μ d pc lo st σ mc ms X := lt_ldc2 hc hd kk
end LK
/-! PARTIAL OPERATIONS on the view -/
/-- the address of an object of class ci -/
def x_ob (σ : hv_S) (ci : Nat) (r : Option Nat) : Option Nat := match r with
  | none => none
  | some a => if hv_sh σ a = some (ci, 0) then some a else none
/-- the address of an array of kind t, with its length -/
def x_ar (σ : hv_S) (t : Nat) (r : Option Nat) : Option (Nat × Nat) := match r with
  | none => none
  | some a => match hv_sh σ a with
    | none => none
    | some x => if x.1 = 1000 + t then some (a, x.2) else none
/-- a place in an array of n elements -/
def x_ix (n : Nat) (i : Int32) : Option Nat := if i < 0 ∨ n ≤ i.toNatClampNeg then none else some i.toNatClampNeg
theorem x_ob_some {σ : hv_S} {ci a : Nat} {r : Option Nat} (h : x_ob σ ci r = some a) : r = some a ∧ hv_sh σ a = some (ci, 0) := by
  unfold x_ob at h
  split at h
  · cases h
  · next b =>
    split at h
    · next hb => cases h; exact ⟨rfl, hb⟩
    · cases h
theorem x_ar_some {σ : hv_S} {t : Nat} {q : Nat × Nat} {r : Option Nat} (h : x_ar σ t r = some q) : r = some q.1 ∧ hv_sh σ q.1 = some (1000 + t, q.2) := by
  unfold x_ar at h
  split at h
  · cases h
  · next b =>
    split at h
    · cases h
    · next x hx =>
      split at h
      · next hxt =>
        cases h
        refine ⟨rfl, ?_⟩
        rw [hx, ← hxt]
      · cases h
theorem x_ix_some {n k : Nat} {i : Int32} (h : x_ix n i = some k) : vp_in i n ∧ i.toNatClampNeg = k := by
  unfold x_ix at h
  split at h
  · cases h
  · next hc => cases h; exact ⟨hc, rfl⟩
section LKH
variable {G : lt_G} {μ : lt_M} {d pc : Nat} {lo lo' : List (Nat × mV)} {st : List mV} {σ : hv_S} {mc ms : Nat} {X : Nat → List (Nat × mV) → List mV → hv_S → Nat → Nat → Prop}
theorem lk_get {a ci k idx : Nat} {r : Option Nat} {C : String} {T : u_T} {N : Nat} {v : mV} (hd : decode μ.2.1 pc = .ok (.getfield idx, 3)) (hx : x_ob σ ci r = some a) (hci : ci < 1000) (hcl : lt_cl[ci]? = some (C, T, N)) (hk : k < N) (hlk : lt_lkF μ.1.cls idx (T k)) (hv : hv_fv (lt_ty ci k) σ a k = mv v) (kk : Lk G μ d (pc + 3) lo (v :: st) σ mc ms X) : Lk G μ d pc lo (vR r :: st) σ mc ms X := by
  obtain ⟨rfl, hs⟩ := x_ob_some hx
  exact lt_get hd hs hci hcl hk hlk hv kk
theorem lk_putI {a ci k idx : Nat} {r : Option Nat} {C : String} {T : u_T} {N : Nat} {x : Int32} (hd : decode μ.2.1 pc = .ok (.putfield idx, 3)) (hx : x_ob σ ci r = some a) (hci : ci < 1000) (hcl : lt_cl[ci]? = some (C, T, N)) (hk : k < N) (hlk : lt_lkF μ.1.cls idx (T k)) (hfin : (T k).2.2.2 = false) (hty : lt_ty ci k = .int) (kk : Lk G μ d (pc + 3) lo st (hv_setI σ a k x) mc ms X) : Lk G μ d pc lo (vI x :: vR r :: st) σ mc ms X := by
  obtain ⟨rfl, hs⟩ := x_ob_some hx
  exact lt_put hd hs hci hcl hk hlk hfin (by rw [hty]; rfl) (by rw [hty]; rfl) (hv_upd_I σ a k x) (by rw [hty]; show Value.int (hv_u _ _ _ _ _ _) = _; rw [hv_u_at]; rfl) kk
/-- a boolean field: what is written is 0 or 1 -/
theorem lk_putZ {a ci k idx : Nat} {r : Option Nat} {C : String} {T : u_T} {N : Nat} {x : Int32} (hd : decode μ.2.1 pc = .ok (.putfield idx, 3)) (hx : x_ob σ ci r = some a) (hz : x = 0 ∨ x = 1) (hci : ci < 1000) (hcl : lt_cl[ci]? = some (C, T, N)) (hk : k < N) (hlk : lt_lkF μ.1.cls idx (T k)) (hfin : (T k).2.2.2 = false) (hty : lt_ty ci k = .boolean) (kk : Lk G μ d (pc + 3) lo st (hv_setI σ a k x) mc ms X) : Lk G μ d pc lo (vI x :: vR r :: st) σ mc ms X := by
  obtain ⟨rfl, hs⟩ := x_ob_some hx
  exact lt_put hd hs hci hcl hk hlk hfin (by rw [hty]; rcases hz with rfl | rfl <;> decide) (by rw [hty]; rcases hz with rfl | rfl <;> decide) (hv_upd_I σ a k x) (by rw [hty]; show Value.int (hv_u _ _ _ _ _ _) = _; rw [hv_u_at]; rfl) kk
theorem lk_putJ {a ci k idx : Nat} {r : Option Nat} {C : String} {T : u_T} {N : Nat} {x : Int64} (hd : decode μ.2.1 pc = .ok (.putfield idx, 3)) (hx : x_ob σ ci r = some a) (hci : ci < 1000) (hcl : lt_cl[ci]? = some (C, T, N)) (hk : k < N) (hlk : lt_lkF μ.1.cls idx (T k)) (hfin : (T k).2.2.2 = false) (hty : lt_ty ci k = .long) (kk : Lk G μ d (pc + 3) lo st (hv_setJ σ a k x) mc ms X) : Lk G μ d pc lo (vJ x :: vR r :: st) σ mc ms X := by
  obtain ⟨rfl, hs⟩ := x_ob_some hx
  exact lt_put hd hs hci hcl hk hlk hfin (by rw [hty]; rfl) (by rw [hty]; rfl) (hv_upd_J σ a k x) (by rw [hty]; show Value.long (hv_u _ _ _ _ _ _) = _; rw [hv_u_at]; rfl) kk
end LKH
end
section
/-! THE HEAP ROWS AND CALLS over mini values -/
section LKI
variable {G : lt_G} {μ : lt_M} {d pc : Nat} {lo lo' : List (Nat × mV)} {st : List mV} {σ : hv_S} {mc ms : Nat} {X : Nat → List (Nat × mV) → List mV → hv_S → Nat → Nat → Prop}
/-- a field that holds a reference -/
def lt_isR (ty : FieldType) : Bool := match ty with
  | .object _ => true
  | .array _ => true
  | _ => false
theorem lt_isR_n {ty : FieldType} (h : lt_isR ty = true) (r : Option Nat) : narrow ty (va_rf r) = va_rf r ∧ fits ty (va_rf r) = true := by
  cases ty <;> first | (simp [lt_isR] at h; done) | (cases r <;> exact ⟨rfl, rfl⟩)
theorem lt_isR_v {ty : FieldType} (h : lt_isR ty = true) (σ : hv_S) (a k : Nat) : hv_fv ty σ a k = va_rf (hv_R σ a k) := by
  cases ty <;> first | (simp [lt_isR] at h; done) | rfl
theorem lk_putR {a ci k idx : Nat} {r x : Option Nat} {C : String} {T : u_T} {N : Nat} (hd : decode μ.2.1 pc = .ok (.putfield idx, 3)) (hx : x_ob σ ci r = some a) (hci : ci < 1000) (hcl : lt_cl[ci]? = some (C, T, N)) (hk : k < N) (hlk : lt_lkF μ.1.cls idx (T k)) (hfin : (T k).2.2.2 = false) (hty : lt_isR (lt_ty ci k) = true) (kk : Lk G μ d (pc + 3) lo st (hv_setR σ a k x) mc ms X) : Lk G μ d pc lo (vR x :: vR r :: st) σ mc ms X := by
  obtain ⟨rfl, hs⟩ := x_ob_some hx
  exact lt_put hd hs hci hcl hk hlk hfin (lt_isR_n hty x).1 (lt_isR_n hty x).2 (hv_upd_R σ a k x) (by rw [lt_isR_v hty]; show va_rf (hv_u _ _ _ _ _ _) = _; rw [hv_u_at]; rfl) kk
theorem lk_putFR {a ci k idx : Nat} {r x : Option Nat} {C : String} {T : u_T} {N : Nat} (hd : decode μ.2.1 pc = .ok (.putfield idx, 3)) (hx : x_ob σ ci r = some a) (hci : ci < 1000) (hcl : lt_cl[ci]? = some (C, T, N)) (hk : k < N) (hlk : Cond.fieldLink μ.1.cls idx (T k).1 (T k).2.1 (T k).2.2.1 ∈ lt_T) (hfin : (T k).2.2.2 = true) (hin2 : μ.1.name = "<init>") (hdecl : (T k).1 = μ.1.cls) (hty : lt_isR (lt_ty ci k) = true) (kk : Lk G μ d (pc + 3) lo st (hv_setR σ a k x) mc ms X) : Lk G μ d pc lo (vR x :: vR r :: st) σ mc ms X := by
  obtain ⟨rfl, hs⟩ := x_ob_some hx
  exact lt_putF hd hs hci hcl hk hlk hfin hin2 hdecl (lt_isR_n hty x).1 (lt_isR_n hty x).2 (hv_upd_R σ a k x) (by rw [lt_isR_v hty]; show va_rf (hv_u _ _ _ _ _ _) = _; rw [hv_u_at]; rfl) kk
theorem lk_putFI {a ci k idx : Nat} {r : Option Nat} {x : Int32} {C : String} {T : u_T} {N : Nat} (hd : decode μ.2.1 pc = .ok (.putfield idx, 3)) (hx : x_ob σ ci r = some a) (hci : ci < 1000) (hcl : lt_cl[ci]? = some (C, T, N)) (hk : k < N) (hlk : Cond.fieldLink μ.1.cls idx (T k).1 (T k).2.1 (T k).2.2.1 ∈ lt_T) (hfin : (T k).2.2.2 = true) (hin2 : μ.1.name = "<init>") (hdecl : (T k).1 = μ.1.cls) (hty : lt_ty ci k = .int) (kk : Lk G μ d (pc + 3) lo st (hv_setI σ a k x) mc ms X) : Lk G μ d pc lo (vI x :: vR r :: st) σ mc ms X := by
  obtain ⟨rfl, hs⟩ := x_ob_some hx
  exact lt_putF hd hs hci hcl hk hlk hfin hin2 hdecl (by rw [hty]; rfl) (by rw [hty]; rfl) (hv_upd_I σ a k x) (by rw [hty]; show Value.int (hv_u _ _ _ _ _ _) = _; rw [hv_u_at]; rfl) kk
theorem lk_iald {q : Nat × Nat} {k : Nat} {r : Option Nat} {i : Int32} (hd : decode μ.2.1 pc = .ok (.iaload, 1)) (hx : x_ar σ 0 r = some q) (hi : x_ix q.2 i = some k) (kk : Lk G μ d (pc + 1) lo (vI (hv_I σ q.1 k) :: st) σ mc ms X) : Lk G μ d pc lo (vI i :: vR r :: st) σ mc ms X := by
  obtain ⟨rfl, hs⟩ := x_ar_some hx
  obtain ⟨hv, rfl⟩ := x_ix_some hi
  exact lt_iald hd hs hv kk
theorem lk_lald {q : Nat × Nat} {k : Nat} {r : Option Nat} {i : Int32} (hd : decode μ.2.1 pc = .ok (.laload, 1)) (hx : x_ar σ 1 r = some q) (hi : x_ix q.2 i = some k) (kk : Lk G μ d (pc + 1) lo (vJ (hv_J σ q.1 k) :: st) σ mc ms X) : Lk G μ d pc lo (vI i :: vR r :: st) σ mc ms X := by
  obtain ⟨rfl, hs⟩ := x_ar_some hx
  obtain ⟨hv, rfl⟩ := x_ix_some hi
  exact lt_lald hd hs hv kk
theorem lk_cald {q : Nat × Nat} {k : Nat} {r : Option Nat} {i : Int32} (hd : decode μ.2.1 pc = .ok (.caload, 1)) (hx : x_ar σ 2 r = some q) (hi : x_ix q.2 i = some k) (kk : Lk G μ d (pc + 1) lo (vI (hv_I σ q.1 k) :: st) σ mc ms X) : Lk G μ d pc lo (vI i :: vR r :: st) σ mc ms X := by
  obtain ⟨rfl, hs⟩ := x_ar_some hx
  obtain ⟨hv, rfl⟩ := x_ix_some hi
  exact lt_cald hd hs hv kk
theorem lk_zald {q : Nat × Nat} {k : Nat} {r : Option Nat} {i : Int32} (hd : decode μ.2.1 pc = .ok (.baload, 1)) (hx : x_ar σ 3 r = some q) (hi : x_ix q.2 i = some k) (kk : Lk G μ d (pc + 1) lo (vI (hv_I σ q.1 k) :: st) σ mc ms X) : Lk G μ d pc lo (vI i :: vR r :: st) σ mc ms X := by
  obtain ⟨rfl, hs⟩ := x_ar_some hx
  obtain ⟨hv, rfl⟩ := x_ix_some hi
  exact lt_zald hd hs hv kk
theorem lk_aald {t : Nat} {C : String} {q : Nat × Nat} {k : Nat} {r : Option Nat} {i : Int32} (hd : decode μ.2.1 pc = .ok (.aaload, 1)) (hx : x_ar σ t r = some q) (hi : x_ix q.2 i = some k) (hT : lt_aty t = .object C) (ht : t ∈ lt_codes) (kk : Lk G μ d (pc + 1) lo (vR (hv_R σ q.1 k) :: st) σ mc ms X) : Lk G μ d pc lo (vI i :: vR r :: st) σ mc ms X := by
  obtain ⟨rfl, hs⟩ := x_ar_some hx
  obtain ⟨hv, rfl⟩ := x_ix_some hi
  exact lt_aald hd hs hT ht hv rfl kk
theorem lk_iast {q : Nat × Nat} {k : Nat} {r : Option Nat} {i x : Int32} (hd : decode μ.2.1 pc = .ok (.iastore, 1)) (hx : x_ar σ 0 r = some q) (hi : x_ix q.2 i = some k) (kk : Lk G μ d (pc + 1) lo st (hv_setI σ q.1 k x) mc ms X) : Lk G μ d pc lo (vI x :: vI i :: vR r :: st) σ mc ms X := by
  obtain ⟨rfl, hs⟩ := x_ar_some hx
  obtain ⟨hv, rfl⟩ := x_ix_some hi
  exact lt_iast hd hs hv kk
theorem lk_last {q : Nat × Nat} {k : Nat} {r : Option Nat} {i : Int32} {x : Int64} (hd : decode μ.2.1 pc = .ok (.lastore, 1)) (hx : x_ar σ 1 r = some q) (hi : x_ix q.2 i = some k) (kk : Lk G μ d (pc + 1) lo st (hv_setJ σ q.1 k x) mc ms X) : Lk G μ d pc lo (vJ x :: vI i :: vR r :: st) σ mc ms X := by
  obtain ⟨rfl, hs⟩ := x_ar_some hx
  obtain ⟨hv, rfl⟩ := x_ix_some hi
  exact lt_last hd hs hv kk
theorem lk_cast {q : Nat × Nat} {k : Nat} {r : Option Nat} {i x : Int32} (hd : decode μ.2.1 pc = .ok (.castore, 1)) (hx : x_ar σ 2 r = some q) (hi : x_ix q.2 i = some k) (kk : Lk G μ d (pc + 1) lo st (hv_setI σ q.1 k (vp_nar .char x)) mc ms X) : Lk G μ d pc lo (vI x :: vI i :: vR r :: st) σ mc ms X := by
  obtain ⟨rfl, hs⟩ := x_ar_some hx
  obtain ⟨hv, rfl⟩ := x_ix_some hi
  exact lt_cast hd hs hv rfl kk
theorem lk_zast {q : Nat × Nat} {k : Nat} {r : Option Nat} {i x : Int32} (hd : decode μ.2.1 pc = .ok (.bastore, 1)) (hx : x_ar σ 3 r = some q) (hi : x_ix q.2 i = some k) (kk : Lk G μ d (pc + 1) lo st (hv_setI σ q.1 k (vp_nar .boolean x)) mc ms X) : Lk G μ d pc lo (vI x :: vI i :: vR r :: st) σ mc ms X := by
  obtain ⟨rfl, hs⟩ := x_ar_some hx
  obtain ⟨hv, rfl⟩ := x_ix_some hi
  exact lt_zast hd hs hv rfl kk
theorem lk_aast {t ci a2 : Nat} {C : String} {T : u_T} {N : Nat} {q : Nat × Nat} {k : Nat} {r r2 : Option Nat} {i : Int32} (hd : decode μ.2.1 pc = .ok (.aastore, 1)) (hx : x_ar σ t r = some q) (hi : x_ix q.2 i = some k) (hv : x_ob σ ci r2 = some a2) (hT : lt_aty t = .object C) (ht : t ∈ lt_codes) (hci : ci < 1000) (hcl : lt_cl[ci]? = some (C, T, N)) (kk : Lk G μ d (pc + 1) lo st (hv_setR σ q.1 k (some a2)) mc ms X) : Lk G μ d pc lo (vR r2 :: vI i :: vR r :: st) σ mc ms X := by
  obtain ⟨rfl, hs⟩ := x_ar_some hx
  obtain ⟨hvi, rfl⟩ := x_ix_some hi
  obtain ⟨rfl, hs2⟩ := x_ob_some hv
  exact lt_aast hd hs ht hT hs2 hci hcl hvi kk
theorem lk_alen {t : Nat} {q : Nat × Nat} {r : Option Nat} (hd : decode μ.2.1 pc = .ok (.arraylength, 1)) (hx : x_ar σ t r = some q) (ht : t ∈ lt_codes) (kk : Lk G μ d (pc + 1) lo (vI (nI q.2) :: st) σ mc ms X) : Lk G μ d pc lo (vR r :: st) σ mc ms X := by
  obtain ⟨rfl, hs⟩ := x_ar_some hx
  exact lt_alen hd hs ht kk
theorem lk_new {ci idx : Nat} {C : String} {T : u_T} {N : Nat} (hd : decode μ.2.1 pc = .ok (.new idx, 3)) (hci : ci < 1000) (hcl : lt_cl[ci]? = some (C, T, N)) (hl1 : Cond.classLink μ.1.cls idx C ∈ lt_T) (hl2 : Cond.instantiable C N ∈ lt_T) (hl3 : Cond.initialized C ∈ lt_T)
    (hdef : ∀ j, j < N → defaultValue (lt_ty ci j) = hv_fv (lt_ty ci j) hv_zero 0 0) (kk : hv_sh σ (hv_n σ) = none → Lk G μ d (pc + 3) lo (vR (some (hv_n σ)) :: st) (hv_new σ (ci, 0)) mc ms X) : Lk G μ d pc lo st σ (mc + 1) (ms + N) X := lt_new hd hci hcl hl1 hl2 hl3 hdef kk
theorem lk_newarray {t : Nat} {atype : ArrayType} {n : Int32} {N : Nat} (hd : decode μ.2.1 pc = .ok (.newarray atype, 2)) (hw : Cond.arrayClass (newarray.typeOf atype) ∈ lt_T) (ht : t ∈ lt_codes) (hty : lt_aty t = newarray.typeOf atype) (hn : ¬ n < 0) (hN : n.toNatClampNeg = N) (hbytes : N * componentBytes (newarray.typeOf atype) ≤ 536870912)
    (hdef : defaultValue (lt_aty t) = hv_fv (lt_aty t) hv_zero 0 0) (kk : hv_sh σ (hv_n σ) = none → Lk G μ d (pc + 2) lo (vR (some (hv_n σ)) :: st) (hv_new σ (1000 + t, N)) mc ms X) : Lk G μ d pc lo (vI n :: st) σ (mc + 1) (ms + N) X := lt_newarray hd hw ht hty hn hN hbytes hdef kk
theorem lk_anew {t idx : Nat} {C : String} {n : Int32} {N : Nat} (hd : decode μ.2.1 pc = .ok (.anewarray idx, 3)) (hcl : Cond.classLink μ.1.cls idx C ∈ lt_T) (ht : t ∈ lt_codes) (hty : lt_aty t = .object C) (hw : Cond.arrayOver (.object C) ∈ lt_N) (hn : ¬ n < 0) (hN : n.toNatClampNeg = N) (hbytes : N * 4 ≤ 536870912)
    (kk : hv_sh σ (hv_n σ) = none → Lk G μ d (pc + 3) lo (vR (some (hv_n σ)) :: st) (hv_new σ (1000 + t, N)) mc ms X) : Lk G μ d pc lo (vI n :: st) σ (mc + 1) (ms + N) X := lt_anew hd hcl ht hty hw hn hN hbytes kk
theorem lk_objInit {idx : Nat} {b : Nat} (hd : decode μ.2.1 pc = .ok (.invokespecial idx, 3)) (hlk : Cond.methodLink μ.1.cls idx Lib.objectInit ∈ lt_T) (hin : Cond.instanceMethod Lib.objectInit ∈ lt_T) (hco : Cond.code Lib.objectInit ⟨#[0xb1]⟩ 1 none ∈ lt_T) (hdd : 1 ≤ d) (hcat : (st.map mcat).sum ≤ 8) (kk : Lk G μ d (pc + 3) lo st σ mc ms X) : Lk G μ d pc lo (vR (some b) :: st) σ mc ms X := by
  refine lt_objInit hd hlk hin hco hdd ?_ kk
  rw [List.map_map]
  rw [show (fun v : Value => v.category) ∘ mv = mcat from funext mv_cat]
  exact hcat
end LKI
/-- a contract over mini values: the answer and the view behind it are told -/
def Ck (G : lt_G) (μ : lt_M) (d mc ms : Nat) (as : List mV) (σ : hv_S) (r : Option mV) (σ' : hv_S) : Prop :=
  Ct G μ d mc ms (as.map mv) σ (fun r' s => r' = r.map mv ∧ s = σ')
/-- the points where a method returns r with the view σ' -/
def lk_end (μ : lt_M) (r : Option mV) (σ' : hv_S) : Nat → List (Nat × mV) → List mV → hv_S → Nat → Nat → Prop := fun pc _ st σ _ _ => σ = σ' ∧
  ((decode μ.2.1 pc = .ok (.return_, 1) ∧ μ.2.2.2 = none ∧ st = [] ∧ r = none) ∨
  (∃ (v : Int32) (ty : FieldType), decode μ.2.1 pc = .ok (.ireturn, 1) ∧ μ.2.2.2 = some ty ∧ narrow ty (.int v) = .int v ∧ st = [vI v] ∧ r = some (vI v)) ∨
  (∃ v : Int64, decode μ.2.1 pc = .ok (.lreturn, 1) ∧ μ.2.2.2 = some .long ∧ st = [vJ v] ∧ r = some (vJ v)) ∨
  (∃ (v : Option Nat) (n : String), decode μ.2.1 pc = .ok (.areturn, 1) ∧ μ.2.2.2 = some (.object n) ∧ st = [vR v] ∧ r = some (vR v)))
theorem lk_lg_sl : ∀ (as : List mV), (lg_sl (as.map mv)).length = (as.map mcat).sum
  | [] => rfl
  | v :: as => by
    have h := lk_lg_sl as
    unfold lg_sl at h ⊢
    rw [List.map_cons, List.flatMap_cons, List.length_append, h, List.map_cons, List.sum_cons, mv_cat]
    match v with
    | .inl x => rfl
    | .inr (.inl x) => rfl
    | .inr (.inr r) => rfl
def mk_args : Nat → List mV → List (Nat × mV)
  | _, [] => []
  | i, v :: vs => (i, v) :: mk_args (if mcat v = 2 then i + 2 else i + 1) vs
theorem mk_args_map : ∀ (as : List mV) (i : Nat), lv_args i (as.map mv) = (mk_args i as).map cv
  | [], i => rfl
  | v :: as, i => by
    show (i, mv v) :: lv_args (if (mv v).category = 2 then i + 2 else i + 1) (as.map mv) = (i, mv v) :: (mk_args (if mcat v = 2 then i + 2 else i + 1) as).map cv
    rw [mv_cat, mk_args_map]
theorem Ck.of {G : lt_G} {μ : lt_M} {d mc ms : Nat} {as : List mV} {σ σ' : hv_S} {r : Option mV} (hy : plainName μ.1.cls = true) (hlen : (as.map mcat).sum ≤ μ.2.2.1) (h : Lk G μ d 0 (mk_args 0 as) [] σ mc ms (lk_end μ r σ')) : Ck G μ d mc ms as σ r σ' := by
  refine Ct.of hy (by rw [lk_lg_sl]; exact hlen) ?_
  rw [mk_args_map]
  refine Lt.trans h (fun pc' lo' st' σ1 mc' ms' hx => Lt.stop ?_)
  obtain ⟨lo2, st2, rfl, rfl, rfl, hx⟩ := hx
  rcases hx with ⟨h1, h2, rfl, rfl⟩ | ⟨v, ty, h1, h2, h3, rfl, rfl⟩ | ⟨v, h1, h2, rfl, rfl⟩ | ⟨v, n, h1, h2, rfl, rfl⟩
  · exact Or.inl ⟨h1, h2, rfl, rfl, rfl⟩
  · exact Or.inr (Or.inl ⟨v, ty, h1, h2, h3, rfl, rfl, rfl⟩)
  · exact Or.inr (Or.inr (Or.inl ⟨v, h1, h2, rfl, rfl, rfl⟩))
  · exact Or.inr (Or.inr (Or.inr ⟨v, _, h1, h2, Or.inl ⟨n, rfl⟩, rfl, rfl, rfl⟩))
section LKJ
variable {G : lt_G} {μ μ' : lt_M} {d d' pc : Nat} {lo lo' : List (Nat × mV)} {st0 st as : List mV} {σ σ1 : hv_S} {mc ms mc' ms' : Nat} {X : Nat → List (Nat × mV) → List mV → hv_S → Nat → Nat → Prop} {r : Option mV}
theorem mk_cats (l : List mV) : ((l.map mv).map fun v => v.category) = l.map mcat := by
  rw [List.map_map, show (fun v : Value => v.category) ∘ mv = mcat from funext mv_cat]
theorem mk_rest (r : Option mV) (l : List mV) : (r.map mv).toList ++ l.map mv = (r.toList ++ l).map mv := by
  cases r <;> simp
theorem lk_callV {ci b idx : Nat} {rr : Option Nat} {C : String} {T : u_T} {N : Nat} (hd : decode μ.2.1 pc = .ok (.invokevirtual idx, 3)) (hx : x_ob σ ci rr = some b) (hct : Ck G μ' d' mc' ms' (vR (some b) :: as) σ r σ1) (hdd : d' + 1 ≤ d) (hst : st0 = as.reverse ++ vR rr :: st) (hM : lt_M0 μ' as.length) (hlk : lt_lkM μ.1.cls idx μ'.1) (hin : Cond.instanceMethod μ'.1 ∈ lt_T) (hse : Cond.selects C μ'.1 μ'.1 ∈ lt_T)
    (hci : ci < 1000) (hcl : lt_cl[ci]? = some (C, T, N)) (hcat : (st.map mcat).sum ≤ 8) (kk : Lk G μ d (pc + 3) lo (r.toList ++ st) σ1 mc ms X) : Lk G μ d pc lo st0 σ (mc + mc') (ms + ms') X := by
  obtain ⟨rfl, hs⟩ := x_ob_some hx
  refine lt_callV (as := as.map mv) (rest := st.map mv) hd hct hdd (by rw [hst]; simp [mv, va_rf]) (by rw [List.length_map]; exact hM) hlk hin hse hs hci hcl (by rw [mk_cats]; exact hcat) (fun r' s hq => ?_)
  obtain ⟨rfl, rfl⟩ := hq
  rw [mk_rest]
  exact kk
theorem lk_callS {idx : Nat} (hd : decode μ.2.1 pc = .ok (.invokestatic idx, 3)) (hct : Ck G μ' d' mc' ms' as σ r σ1) (hdd : d' + 1 ≤ d) (hst : st0 = as.reverse ++ st) (hM : lt_M0 μ' as.length) (hlk : lt_lkM μ.1.cls idx μ'.1) (hstc : Cond.static μ'.1 ∈ lt_T)
    (hcat : (st.map mcat).sum ≤ 8) (kk : Lk G μ d (pc + 3) lo (r.toList ++ st) σ1 mc ms X) : Lk G μ d pc lo st0 σ (mc + mc') (ms + ms') X := by
  refine lt_callS (as := as.map mv) (rest := st.map mv) hd hct hdd (by rw [hst]; simp) (by rw [List.length_map]; exact hM) hlk hstc (by rw [mk_cats]; exact hcat) (fun r' s hq => ?_)
  obtain ⟨rfl, rfl⟩ := hq
  rw [mk_rest]
  exact kk
theorem lk_callI {y : MethodName} {cc : ByteArray} {nL b idx : Nat} (hd : decode μ.2.1 pc = .ok (.invokespecial idx, 3)) (hct : Ck G (y, cc, nL, none) d' mc' ms' (vR (some b) :: as) σ r σ1) (hdd : d' + 1 ≤ d) (hst : st0 = as.reverse ++ vR (some b) :: st) (hM : lt_M0 (y, cc, nL, none) as.length) (hlk : lt_lkM μ.1.cls idx y) (hin : Cond.instanceMethod y ∈ lt_T) (hname : y.name = "<init>")
    (hcat : (st.map mcat).sum ≤ 8) (kk : Lk G μ d (pc + 3) lo (r.toList ++ st) σ1 mc ms X) : Lk G μ d pc lo st0 σ (mc + mc') (ms + ms') X := by
  refine lt_callI (as := as.map mv) (rest := st.map mv) hd hct hdd (by rw [hst]; simp [mv, va_rf]) (by rw [List.length_map]; exact hM) hlk hin hname (by rw [mk_cats]; exact hcat) (fun r' s hq => ?_)
  obtain ⟨rfl, rfl⟩ := hq
  rw [mk_rest]
  exact kk
end LKJ
end
section
/-! METHODS: names, code, decode rows, words; printed by wip/whole/gen_methods.py -/
abbrev m_Tx_init : lt_M := (⟨"LinearSearch$Text", "<init>", "()V"⟩, prog_9_method_1_code, 1, none)
theorem d_Tx_init_0 : decode prog_9_method_1_code 0 = .ok (.aload_n 0, 1) := by decide +kernel
theorem d_Tx_init_1 : decode prog_9_method_1_code 1 = .ok (.invokespecial 3, 3) := by decide +kernel
theorem d_Tx_init_4 : decode prog_9_method_1_code 4 = .ok (.aload_n 0, 1) := by decide +kernel
theorem d_Tx_init_5 : decode prog_9_method_1_code 5 = .ok (.bipush 20, 2) := by decide +kernel
theorem d_Tx_init_7 : decode prog_9_method_1_code 7 = .ok (.newarray .int, 2) := by decide +kernel
theorem d_Tx_init_9 : decode prog_9_method_1_code 9 = .ok (.putfield 9, 3) := by decide +kernel
theorem d_Tx_init_12 : decode prog_9_method_1_code 12 = .ok (.return_, 1) := by decide +kernel
theorem M_Tx_init : lt_M0 m_Tx_init 0 := ⟨lt_m1 56 rfl rfl, lt_m1 3 rfl rfl, ⟨by decide +kernel, by decide +kernel, by decide +kernel⟩, by decide⟩
theorem in_Tx_init : Cond.instanceMethod m_Tx_init.1 ∈ lt_T := lt_m1 55 rfl rfl
abbrev m_Fo_init : lt_M := (⟨"LinearSearch$Follower", "<init>", "()V"⟩, prog_3_method_1_code, 1, none)
theorem d_Fo_init_0 : decode prog_3_method_1_code 0 = .ok (.aload_n 0, 1) := by decide +kernel
theorem d_Fo_init_1 : decode prog_3_method_1_code 1 = .ok (.invokespecial 3, 3) := by decide +kernel
theorem d_Fo_init_4 : decode prog_3_method_1_code 4 = .ok (.aload_n 0, 1) := by decide +kernel
theorem d_Fo_init_5 : decode prog_3_method_1_code 5 = .ok (.bipush 25, 2) := by decide +kernel
theorem d_Fo_init_7 : decode prog_3_method_1_code 7 = .ok (.newarray .int, 2) := by decide +kernel
theorem d_Fo_init_9 : decode prog_3_method_1_code 9 = .ok (.putfield 11, 3) := by decide +kernel
theorem d_Fo_init_12 : decode prog_3_method_1_code 12 = .ok (.aload_n 0, 1) := by decide +kernel
theorem d_Fo_init_13 : decode prog_3_method_1_code 13 = .ok (.bipush 25, 2) := by decide +kernel
theorem d_Fo_init_15 : decode prog_3_method_1_code 15 = .ok (.newarray .long, 2) := by decide +kernel
theorem d_Fo_init_17 : decode prog_3_method_1_code 17 = .ok (.putfield 15, 3) := by decide +kernel
theorem d_Fo_init_20 : decode prog_3_method_1_code 20 = .ok (.return_, 1) := by decide +kernel
theorem M_Fo_init : lt_M0 m_Fo_init 0 := ⟨lt_m1 76 rfl rfl, lt_m1 5 rfl rfl, ⟨by decide +kernel, by decide +kernel, by decide +kernel⟩, by decide⟩
theorem in_Fo_init : Cond.instanceMethod m_Fo_init.1 ∈ lt_T := lt_m1 75 rfl rfl
abbrev m_TL_init : lt_M := (⟨"LinearSearch$ThreadList", "<init>", "()V"⟩, prog_10_method_1_code, 1, none)
theorem d_TL_init_0 : decode prog_10_method_1_code 0 = .ok (.aload_n 0, 1) := by decide +kernel
theorem d_TL_init_1 : decode prog_10_method_1_code 1 = .ok (.invokespecial 3, 3) := by decide +kernel
theorem d_TL_init_4 : decode prog_10_method_1_code 4 = .ok (.aload_n 0, 1) := by decide +kernel
theorem d_TL_init_5 : decode prog_10_method_1_code 5 = .ok (.bipush 25, 2) := by decide +kernel
theorem d_TL_init_7 : decode prog_10_method_1_code 7 = .ok (.newarray .int, 2) := by decide +kernel
theorem d_TL_init_9 : decode prog_10_method_1_code 9 = .ok (.putfield 9, 3) := by decide +kernel
theorem d_TL_init_12 : decode prog_10_method_1_code 12 = .ok (.aload_n 0, 1) := by decide +kernel
theorem d_TL_init_13 : decode prog_10_method_1_code 13 = .ok (.bipush 25, 2) := by decide +kernel
theorem d_TL_init_15 : decode prog_10_method_1_code 15 = .ok (.newarray .long, 2) := by decide +kernel
theorem d_TL_init_17 : decode prog_10_method_1_code 17 = .ok (.putfield 15, 3) := by decide +kernel
theorem d_TL_init_20 : decode prog_10_method_1_code 20 = .ok (.return_, 1) := by decide +kernel
theorem M_TL_init : lt_M0 m_TL_init 0 := ⟨lt_m1 111 rfl rfl, lt_m1 6 rfl rfl, ⟨by decide +kernel, by decide +kernel, by decide +kernel⟩, by decide⟩
theorem in_TL_init : Cond.instanceMethod m_TL_init.1 ∈ lt_T := lt_m1 110 rfl rfl
abbrev m_Pr_init : lt_M := (⟨"LinearSearch$Program", "<init>", "()V"⟩, prog_6_method_1_code, 1, none)
theorem d_Pr_init_0 : decode prog_6_method_1_code 0 = .ok (.aload_n 0, 1) := by decide +kernel
theorem d_Pr_init_1 : decode prog_6_method_1_code 1 = .ok (.invokespecial 3, 3) := by decide +kernel
theorem d_Pr_init_4 : decode prog_6_method_1_code 4 = .ok (.aload_n 0, 1) := by decide +kernel
theorem d_Pr_init_5 : decode prog_6_method_1_code 5 = .ok (.bipush 49, 2) := by decide +kernel
theorem d_Pr_init_7 : decode prog_6_method_1_code 7 = .ok (.newarray .int, 2) := by decide +kernel
theorem d_Pr_init_9 : decode prog_6_method_1_code 9 = .ok (.putfield 9, 3) := by decide +kernel
theorem d_Pr_init_12 : decode prog_6_method_1_code 12 = .ok (.aload_n 0, 1) := by decide +kernel
theorem d_Pr_init_13 : decode prog_6_method_1_code 13 = .ok (.bipush 49, 2) := by decide +kernel
theorem d_Pr_init_15 : decode prog_6_method_1_code 15 = .ok (.newarray .int, 2) := by decide +kernel
theorem d_Pr_init_17 : decode prog_6_method_1_code 17 = .ok (.putfield 15, 3) := by decide +kernel
theorem d_Pr_init_20 : decode prog_6_method_1_code 20 = .ok (.aload_n 0, 1) := by decide +kernel
theorem d_Pr_init_21 : decode prog_6_method_1_code 21 = .ok (.bipush 49, 2) := by decide +kernel
theorem d_Pr_init_23 : decode prog_6_method_1_code 23 = .ok (.newarray .int, 2) := by decide +kernel
theorem d_Pr_init_25 : decode prog_6_method_1_code 25 = .ok (.putfield 18, 3) := by decide +kernel
theorem d_Pr_init_28 : decode prog_6_method_1_code 28 = .ok (.return_, 1) := by decide +kernel
theorem M_Pr_init : lt_M0 m_Pr_init 0 := ⟨lt_m1 200 rfl rfl, lt_m1 9 rfl rfl, ⟨by decide +kernel, by decide +kernel, by decide +kernel⟩, by decide⟩
theorem in_Pr_init : Cond.instanceMethod m_Pr_init.1 ∈ lt_T := lt_m1 199 rfl rfl
abbrev m_St_init : lt_M := (⟨"LinearSearch$State", "<init>", "()V"⟩, prog_8_method_1_code, 1, none)
theorem d_St_init_0 : decode prog_8_method_1_code 0 = .ok (.aload_n 0, 1) := by decide +kernel
theorem d_St_init_1 : decode prog_8_method_1_code 1 = .ok (.invokespecial 3, 3) := by decide +kernel
theorem d_St_init_4 : decode prog_8_method_1_code 4 = .ok (.aload_n 0, 1) := by decide +kernel
theorem d_St_init_5 : decode prog_8_method_1_code 5 = .ok (.bipush 25, 2) := by decide +kernel
theorem d_St_init_7 : decode prog_8_method_1_code 7 = .ok (.newarray .int, 2) := by decide +kernel
theorem d_St_init_9 : decode prog_8_method_1_code 9 = .ok (.putfield 9, 3) := by decide +kernel
theorem d_St_init_12 : decode prog_8_method_1_code 12 = .ok (.aload_n 0, 1) := by decide +kernel
theorem d_St_init_13 : decode prog_8_method_1_code 13 = .ok (.bipush 8, 2) := by decide +kernel
theorem d_St_init_15 : decode prog_8_method_1_code 15 = .ok (.newarray .int, 2) := by decide +kernel
theorem d_St_init_17 : decode prog_8_method_1_code 17 = .ok (.putfield 15, 3) := by decide +kernel
theorem d_St_init_20 : decode prog_8_method_1_code 20 = .ok (.return_, 1) := by decide +kernel
theorem M_St_init : lt_M0 m_St_init 0 := ⟨lt_m1 229 rfl rfl, lt_m1 11 rfl rfl, ⟨by decide +kernel, by decide +kernel, by decide +kernel⟩, by decide⟩
theorem in_St_init : Cond.instanceMethod m_St_init.1 ∈ lt_T := lt_m1 228 rfl rfl
abbrev m_Tx_add : lt_M := (⟨"LinearSearch$Text", "add", "(C)Z"⟩, prog_9_method_2_code, 3, (some .boolean))
theorem d_Tx_add_0 : decode prog_9_method_2_code 0 = .ok (.iload_n 1, 1) := by decide +kernel
theorem d_Tx_add_1 : decode prog_9_method_2_code 1 = .ok (.bipush 97, 2) := by decide +kernel
theorem d_Tx_add_3 : decode prog_9_method_2_code 3 = .ok (.isub, 1) := by decide +kernel
theorem d_Tx_add_4 : decode prog_9_method_2_code 4 = .ok (.istore_n 2, 1) := by decide +kernel
theorem d_Tx_add_5 : decode prog_9_method_2_code 5 = .ok (.iload_n 2, 1) := by decide +kernel
theorem d_Tx_add_6 : decode prog_9_method_2_code 6 = .ok (.ifCond .lt 28, 3) := by decide +kernel
theorem d_Tx_add_9 : decode prog_9_method_2_code 9 = .ok (.iload_n 2, 1) := by decide +kernel
theorem d_Tx_add_10 : decode prog_9_method_2_code 10 = .ok (.bipush 8, 2) := by decide +kernel
theorem d_Tx_add_12 : decode prog_9_method_2_code 12 = .ok (.if_icmp .ge 22, 3) := by decide +kernel
theorem d_Tx_add_15 : decode prog_9_method_2_code 15 = .ok (.aload_n 0, 1) := by decide +kernel
theorem d_Tx_add_16 : decode prog_9_method_2_code 16 = .ok (.getfield 15, 3) := by decide +kernel
theorem d_Tx_add_19 : decode prog_9_method_2_code 19 = .ok (.ifCond .lt 15, 3) := by decide +kernel
theorem d_Tx_add_22 : decode prog_9_method_2_code 22 = .ok (.aload_n 0, 1) := by decide +kernel
theorem d_Tx_add_23 : decode prog_9_method_2_code 23 = .ok (.getfield 15, 3) := by decide +kernel
theorem d_Tx_add_26 : decode prog_9_method_2_code 26 = .ok (.aload_n 0, 1) := by decide +kernel
theorem d_Tx_add_27 : decode prog_9_method_2_code 27 = .ok (.getfield 9, 3) := by decide +kernel
theorem d_Tx_add_30 : decode prog_9_method_2_code 30 = .ok (.arraylength, 1) := by decide +kernel
theorem d_Tx_add_31 : decode prog_9_method_2_code 31 = .ok (.if_icmp .lt 5, 3) := by decide +kernel
theorem d_Tx_add_34 : decode prog_9_method_2_code 34 = .ok (.iconst 0, 1) := by decide +kernel
theorem d_Tx_add_35 : decode prog_9_method_2_code 35 = .ok (.ireturn, 1) := by decide +kernel
theorem d_Tx_add_36 : decode prog_9_method_2_code 36 = .ok (.aload_n 0, 1) := by decide +kernel
theorem d_Tx_add_37 : decode prog_9_method_2_code 37 = .ok (.getfield 9, 3) := by decide +kernel
theorem d_Tx_add_40 : decode prog_9_method_2_code 40 = .ok (.aload_n 0, 1) := by decide +kernel
theorem d_Tx_add_41 : decode prog_9_method_2_code 41 = .ok (.getfield 15, 3) := by decide +kernel
theorem d_Tx_add_44 : decode prog_9_method_2_code 44 = .ok (.iload_n 2, 1) := by decide +kernel
theorem d_Tx_add_45 : decode prog_9_method_2_code 45 = .ok (.iastore, 1) := by decide +kernel
theorem d_Tx_add_46 : decode prog_9_method_2_code 46 = .ok (.aload_n 0, 1) := by decide +kernel
theorem d_Tx_add_47 : decode prog_9_method_2_code 47 = .ok (.dup, 1) := by decide +kernel
theorem d_Tx_add_48 : decode prog_9_method_2_code 48 = .ok (.getfield 15, 3) := by decide +kernel
theorem d_Tx_add_51 : decode prog_9_method_2_code 51 = .ok (.iconst 1, 1) := by decide +kernel
theorem d_Tx_add_52 : decode prog_9_method_2_code 52 = .ok (.iadd, 1) := by decide +kernel
theorem d_Tx_add_53 : decode prog_9_method_2_code 53 = .ok (.putfield 15, 3) := by decide +kernel
theorem d_Tx_add_56 : decode prog_9_method_2_code 56 = .ok (.iconst 1, 1) := by decide +kernel
theorem d_Tx_add_57 : decode prog_9_method_2_code 57 = .ok (.ireturn, 1) := by decide +kernel
theorem M_Tx_add : lt_M0 m_Tx_add 1 := ⟨lt_m2 96 rfl rfl, lt_m1 3 rfl rfl, ⟨by decide +kernel, by decide +kernel, by decide +kernel⟩, by decide⟩
theorem in_Tx_add : Cond.instanceMethod m_Tx_add.1 ∈ lt_T := lt_m2 94 rfl rfl
theorem se_Tx_add : Cond.selects "LinearSearch$Text" m_Tx_add.1 m_Tx_add.1 ∈ lt_T := lt_m2 95 rfl rfl
abbrev m_Tx_empty : lt_M := (⟨"LinearSearch$Text", "empty", "()V"⟩, prog_9_method_3_code, 1, none)
theorem d_Tx_empty_0 : decode prog_9_method_3_code 0 = .ok (.aload_n 0, 1) := by decide +kernel
theorem d_Tx_empty_1 : decode prog_9_method_3_code 1 = .ok (.iconst 0, 1) := by decide +kernel
theorem d_Tx_empty_2 : decode prog_9_method_3_code 2 = .ok (.putfield 15, 3) := by decide +kernel
theorem d_Tx_empty_5 : decode prog_9_method_3_code 5 = .ok (.return_, 1) := by decide +kernel
theorem M_Tx_empty : lt_M0 m_Tx_empty 0 := ⟨lt_m2 112 rfl rfl, lt_m1 3 rfl rfl, ⟨by decide +kernel, by decide +kernel, by decide +kernel⟩, by decide⟩
theorem in_Tx_empty : Cond.instanceMethod m_Tx_empty.1 ∈ lt_T := lt_m2 110 rfl rfl
theorem se_Tx_empty : Cond.selects "LinearSearch$Text" m_Tx_empty.1 m_Tx_empty.1 ∈ lt_T := lt_m2 111 rfl rfl
abbrev m_Pr_empty : lt_M := (⟨"LinearSearch$Program", "empty", "()V"⟩, prog_6_method_2_code, 1, none)
theorem d_Pr_empty_0 : decode prog_6_method_2_code 0 = .ok (.aload_n 0, 1) := by decide +kernel
theorem d_Pr_empty_1 : decode prog_6_method_2_code 1 = .ok (.iconst 0, 1) := by decide +kernel
theorem d_Pr_empty_2 : decode prog_6_method_2_code 2 = .ok (.putfield 21, 3) := by decide +kernel
theorem d_Pr_empty_5 : decode prog_6_method_2_code 5 = .ok (.return_, 1) := by decide +kernel
theorem M_Pr_empty : lt_M0 m_Pr_empty 0 := ⟨lt_m2 155 rfl rfl, lt_m1 9 rfl rfl, ⟨by decide +kernel, by decide +kernel, by decide +kernel⟩, by decide⟩
theorem in_Pr_empty : Cond.instanceMethod m_Pr_empty.1 ∈ lt_T := lt_m2 153 rfl rfl
theorem se_Pr_empty : Cond.selects "LinearSearch$Program" m_Pr_empty.1 m_Pr_empty.1 ∈ lt_T := lt_m2 154 rfl rfl
abbrev m_Pr_size : lt_M := (⟨"LinearSearch$Program", "size", "()I"⟩, prog_6_method_3_code, 1, (some .int))
theorem d_Pr_size_0 : decode prog_6_method_3_code 0 = .ok (.aload_n 0, 1) := by decide +kernel
theorem d_Pr_size_1 : decode prog_6_method_3_code 1 = .ok (.getfield 21, 3) := by decide +kernel
theorem d_Pr_size_4 : decode prog_6_method_3_code 4 = .ok (.ireturn, 1) := by decide +kernel
theorem M_Pr_size : lt_M0 m_Pr_size 0 := ⟨lt_m2 163 rfl rfl, lt_m1 9 rfl rfl, ⟨by decide +kernel, by decide +kernel, by decide +kernel⟩, by decide⟩
theorem in_Pr_size : Cond.instanceMethod m_Pr_size.1 ∈ lt_T := lt_m2 161 rfl rfl
theorem se_Pr_size : Cond.selects "LinearSearch$Program" m_Pr_size.1 m_Pr_size.1 ∈ lt_T := lt_m2 162 rfl rfl
abbrev m_Pr_add : lt_M := (⟨"LinearSearch$Program", "add", "(II)V"⟩, prog_6_method_9_code, 3, none)
theorem d_Pr_add_0 : decode prog_6_method_9_code 0 = .ok (.aload_n 0, 1) := by decide +kernel
theorem d_Pr_add_1 : decode prog_6_method_9_code 1 = .ok (.getfield 21, 3) := by decide +kernel
theorem d_Pr_add_4 : decode prog_6_method_9_code 4 = .ok (.ifCond .lt 52, 3) := by decide +kernel
theorem d_Pr_add_7 : decode prog_6_method_9_code 7 = .ok (.aload_n 0, 1) := by decide +kernel
theorem d_Pr_add_8 : decode prog_6_method_9_code 8 = .ok (.getfield 21, 3) := by decide +kernel
theorem d_Pr_add_11 : decode prog_6_method_9_code 11 = .ok (.bipush 49, 2) := by decide +kernel
theorem d_Pr_add_13 : decode prog_6_method_9_code 13 = .ok (.if_icmp .ge 43, 3) := by decide +kernel
theorem d_Pr_add_16 : decode prog_6_method_9_code 16 = .ok (.aload_n 0, 1) := by decide +kernel
theorem d_Pr_add_17 : decode prog_6_method_9_code 17 = .ok (.getfield 9, 3) := by decide +kernel
theorem d_Pr_add_20 : decode prog_6_method_9_code 20 = .ok (.aload_n 0, 1) := by decide +kernel
theorem d_Pr_add_21 : decode prog_6_method_9_code 21 = .ok (.getfield 21, 3) := by decide +kernel
theorem d_Pr_add_24 : decode prog_6_method_9_code 24 = .ok (.iload_n 1, 1) := by decide +kernel
theorem d_Pr_add_25 : decode prog_6_method_9_code 25 = .ok (.iastore, 1) := by decide +kernel
theorem d_Pr_add_26 : decode prog_6_method_9_code 26 = .ok (.aload_n 0, 1) := by decide +kernel
theorem d_Pr_add_27 : decode prog_6_method_9_code 27 = .ok (.getfield 15, 3) := by decide +kernel
theorem d_Pr_add_30 : decode prog_6_method_9_code 30 = .ok (.aload_n 0, 1) := by decide +kernel
theorem d_Pr_add_31 : decode prog_6_method_9_code 31 = .ok (.getfield 21, 3) := by decide +kernel
theorem d_Pr_add_34 : decode prog_6_method_9_code 34 = .ok (.iload_n 2, 1) := by decide +kernel
theorem d_Pr_add_35 : decode prog_6_method_9_code 35 = .ok (.iastore, 1) := by decide +kernel
theorem d_Pr_add_36 : decode prog_6_method_9_code 36 = .ok (.aload_n 0, 1) := by decide +kernel
theorem d_Pr_add_37 : decode prog_6_method_9_code 37 = .ok (.getfield 18, 3) := by decide +kernel
theorem d_Pr_add_40 : decode prog_6_method_9_code 40 = .ok (.aload_n 0, 1) := by decide +kernel
theorem d_Pr_add_41 : decode prog_6_method_9_code 41 = .ok (.getfield 21, 3) := by decide +kernel
theorem d_Pr_add_44 : decode prog_6_method_9_code 44 = .ok (.iconst 0, 1) := by decide +kernel
theorem d_Pr_add_45 : decode prog_6_method_9_code 45 = .ok (.iastore, 1) := by decide +kernel
theorem d_Pr_add_46 : decode prog_6_method_9_code 46 = .ok (.aload_n 0, 1) := by decide +kernel
theorem d_Pr_add_47 : decode prog_6_method_9_code 47 = .ok (.dup, 1) := by decide +kernel
theorem d_Pr_add_48 : decode prog_6_method_9_code 48 = .ok (.getfield 21, 3) := by decide +kernel
theorem d_Pr_add_51 : decode prog_6_method_9_code 51 = .ok (.iconst 1, 1) := by decide +kernel
theorem d_Pr_add_52 : decode prog_6_method_9_code 52 = .ok (.iadd, 1) := by decide +kernel
theorem d_Pr_add_53 : decode prog_6_method_9_code 53 = .ok (.putfield 21, 3) := by decide +kernel
theorem d_Pr_add_56 : decode prog_6_method_9_code 56 = .ok (.return_, 1) := by decide +kernel
theorem M_Pr_add : lt_M0 m_Pr_add 2 := ⟨lt_m2 183 rfl rfl, lt_m1 9 rfl rfl, ⟨by decide +kernel, by decide +kernel, by decide +kernel⟩, by decide⟩
theorem in_Pr_add : Cond.instanceMethod m_Pr_add.1 ∈ lt_T := lt_m2 181 rfl rfl
theorem se_Pr_add : Cond.selects "LinearSearch$Program" m_Pr_add.1 m_Pr_add.1 ∈ lt_T := lt_m2 182 rfl rfl
abbrev m_Pr_insertSplit : lt_M := (⟨"LinearSearch$Program", "insertSplit", "(I)V"⟩, prog_6_method_11_code, 5, none)
theorem d_Pr_insertSplit_0 : decode prog_6_method_11_code 0 = .ok (.iload_n 1, 1) := by decide +kernel
theorem d_Pr_insertSplit_1 : decode prog_6_method_11_code 1 = .ok (.ifCond .lt 20, 3) := by decide +kernel
theorem d_Pr_insertSplit_4 : decode prog_6_method_11_code 4 = .ok (.iload_n 1, 1) := by decide +kernel
theorem d_Pr_insertSplit_5 : decode prog_6_method_11_code 5 = .ok (.aload_n 0, 1) := by decide +kernel
theorem d_Pr_insertSplit_6 : decode prog_6_method_11_code 6 = .ok (.getfield 21, 3) := by decide +kernel
theorem d_Pr_insertSplit_9 : decode prog_6_method_11_code 9 = .ok (.if_icmp .gt 12, 3) := by decide +kernel
theorem d_Pr_insertSplit_12 : decode prog_6_method_11_code 12 = .ok (.aload_n 0, 1) := by decide +kernel
theorem d_Pr_insertSplit_13 : decode prog_6_method_11_code 13 = .ok (.getfield 21, 3) := by decide +kernel
theorem d_Pr_insertSplit_16 : decode prog_6_method_11_code 16 = .ok (.bipush 49, 2) := by decide +kernel
theorem d_Pr_insertSplit_18 : decode prog_6_method_11_code 18 = .ok (.if_icmp .lt 4, 3) := by decide +kernel
theorem d_Pr_insertSplit_21 : decode prog_6_method_11_code 21 = .ok (.return_, 1) := by decide +kernel
theorem d_Pr_insertSplit_22 : decode prog_6_method_11_code 22 = .ok (.aload_n 0, 1) := by decide +kernel
theorem d_Pr_insertSplit_23 : decode prog_6_method_11_code 23 = .ok (.getfield 21, 3) := by decide +kernel
theorem d_Pr_insertSplit_26 : decode prog_6_method_11_code 26 = .ok (.istore_n 2, 1) := by decide +kernel
theorem d_Pr_insertSplit_27 : decode prog_6_method_11_code 27 = .ok (.iload_n 2, 1) := by decide +kernel
theorem d_Pr_insertSplit_28 : decode prog_6_method_11_code 28 = .ok (.iload_n 1, 1) := by decide +kernel
theorem d_Pr_insertSplit_29 : decode prog_6_method_11_code 29 = .ok (.if_icmp .le 130, 3) := by decide +kernel
theorem d_Pr_insertSplit_32 : decode prog_6_method_11_code 32 = .ok (.aload_n 0, 1) := by decide +kernel
theorem d_Pr_insertSplit_33 : decode prog_6_method_11_code 33 = .ok (.getfield 9, 3) := by decide +kernel
theorem d_Pr_insertSplit_36 : decode prog_6_method_11_code 36 = .ok (.iload_n 2, 1) := by decide +kernel
theorem d_Pr_insertSplit_37 : decode prog_6_method_11_code 37 = .ok (.iconst 1, 1) := by decide +kernel
theorem d_Pr_insertSplit_38 : decode prog_6_method_11_code 38 = .ok (.isub, 1) := by decide +kernel
theorem d_Pr_insertSplit_39 : decode prog_6_method_11_code 39 = .ok (.iaload, 1) := by decide +kernel
theorem d_Pr_insertSplit_40 : decode prog_6_method_11_code 40 = .ok (.istore_n 3, 1) := by decide +kernel
theorem d_Pr_insertSplit_41 : decode prog_6_method_11_code 41 = .ok (.iload_n 3, 1) := by decide +kernel
theorem d_Pr_insertSplit_42 : decode prog_6_method_11_code 42 = .ok (.iconst 2, 1) := by decide +kernel
theorem d_Pr_insertSplit_43 : decode prog_6_method_11_code 43 = .ok (.if_icmp .eq 8, 3) := by decide +kernel
theorem d_Pr_insertSplit_46 : decode prog_6_method_11_code 46 = .ok (.iload_n 3, 1) := by decide +kernel
theorem d_Pr_insertSplit_47 : decode prog_6_method_11_code 47 = .ok (.iconst 3, 1) := by decide +kernel
theorem d_Pr_insertSplit_48 : decode prog_6_method_11_code 48 = .ok (.if_icmp .ne 7, 3) := by decide +kernel
theorem d_Pr_insertSplit_51 : decode prog_6_method_11_code 51 = .ok (.iconst 1, 1) := by decide +kernel
theorem d_Pr_insertSplit_52 : decode prog_6_method_11_code 52 = .ok (.goto 4, 3) := by decide +kernel
theorem d_Pr_insertSplit_55 : decode prog_6_method_11_code 55 = .ok (.iconst 0, 1) := by decide +kernel
theorem d_Pr_insertSplit_56 : decode prog_6_method_11_code 56 = .ok (.istore 4, 2) := by decide +kernel
theorem d_Pr_insertSplit_58 : decode prog_6_method_11_code 58 = .ok (.aload_n 0, 1) := by decide +kernel
theorem d_Pr_insertSplit_59 : decode prog_6_method_11_code 59 = .ok (.getfield 9, 3) := by decide +kernel
theorem d_Pr_insertSplit_62 : decode prog_6_method_11_code 62 = .ok (.iload_n 2, 1) := by decide +kernel
theorem d_Pr_insertSplit_63 : decode prog_6_method_11_code 63 = .ok (.iload_n 3, 1) := by decide +kernel
theorem d_Pr_insertSplit_64 : decode prog_6_method_11_code 64 = .ok (.iastore, 1) := by decide +kernel
theorem d_Pr_insertSplit_65 : decode prog_6_method_11_code 65 = .ok (.aload_n 0, 1) := by decide +kernel
theorem d_Pr_insertSplit_66 : decode prog_6_method_11_code 66 = .ok (.getfield 15, 3) := by decide +kernel
theorem d_Pr_insertSplit_69 : decode prog_6_method_11_code 69 = .ok (.iload_n 2, 1) := by decide +kernel
theorem d_Pr_insertSplit_70 : decode prog_6_method_11_code 70 = .ok (.iload 4, 2) := by decide +kernel
theorem d_Pr_insertSplit_72 : decode prog_6_method_11_code 72 = .ok (.ifCond .eq 28, 3) := by decide +kernel
theorem d_Pr_insertSplit_75 : decode prog_6_method_11_code 75 = .ok (.aload_n 0, 1) := by decide +kernel
theorem d_Pr_insertSplit_76 : decode prog_6_method_11_code 76 = .ok (.getfield 15, 3) := by decide +kernel
theorem d_Pr_insertSplit_79 : decode prog_6_method_11_code 79 = .ok (.iload_n 2, 1) := by decide +kernel
theorem d_Pr_insertSplit_80 : decode prog_6_method_11_code 80 = .ok (.iconst 1, 1) := by decide +kernel
theorem d_Pr_insertSplit_81 : decode prog_6_method_11_code 81 = .ok (.isub, 1) := by decide +kernel
theorem d_Pr_insertSplit_82 : decode prog_6_method_11_code 82 = .ok (.iaload, 1) := by decide +kernel
theorem d_Pr_insertSplit_83 : decode prog_6_method_11_code 83 = .ok (.iload_n 1, 1) := by decide +kernel
theorem d_Pr_insertSplit_84 : decode prog_6_method_11_code 84 = .ok (.if_icmp .lt 16, 3) := by decide +kernel
theorem d_Pr_insertSplit_87 : decode prog_6_method_11_code 87 = .ok (.aload_n 0, 1) := by decide +kernel
theorem d_Pr_insertSplit_88 : decode prog_6_method_11_code 88 = .ok (.getfield 15, 3) := by decide +kernel
theorem d_Pr_insertSplit_91 : decode prog_6_method_11_code 91 = .ok (.iload_n 2, 1) := by decide +kernel
theorem d_Pr_insertSplit_92 : decode prog_6_method_11_code 92 = .ok (.iconst 1, 1) := by decide +kernel
theorem d_Pr_insertSplit_93 : decode prog_6_method_11_code 93 = .ok (.isub, 1) := by decide +kernel
theorem d_Pr_insertSplit_94 : decode prog_6_method_11_code 94 = .ok (.iaload, 1) := by decide +kernel
theorem d_Pr_insertSplit_95 : decode prog_6_method_11_code 95 = .ok (.iconst 1, 1) := by decide +kernel
theorem d_Pr_insertSplit_96 : decode prog_6_method_11_code 96 = .ok (.iadd, 1) := by decide +kernel
theorem d_Pr_insertSplit_97 : decode prog_6_method_11_code 97 = .ok (.goto 11, 3) := by decide +kernel
theorem d_Pr_insertSplit_100 : decode prog_6_method_11_code 100 = .ok (.aload_n 0, 1) := by decide +kernel
theorem d_Pr_insertSplit_101 : decode prog_6_method_11_code 101 = .ok (.getfield 15, 3) := by decide +kernel
theorem d_Pr_insertSplit_104 : decode prog_6_method_11_code 104 = .ok (.iload_n 2, 1) := by decide +kernel
theorem d_Pr_insertSplit_105 : decode prog_6_method_11_code 105 = .ok (.iconst 1, 1) := by decide +kernel
theorem d_Pr_insertSplit_106 : decode prog_6_method_11_code 106 = .ok (.isub, 1) := by decide +kernel
theorem d_Pr_insertSplit_107 : decode prog_6_method_11_code 107 = .ok (.iaload, 1) := by decide +kernel
theorem d_Pr_insertSplit_108 : decode prog_6_method_11_code 108 = .ok (.iastore, 1) := by decide +kernel
theorem d_Pr_insertSplit_109 : decode prog_6_method_11_code 109 = .ok (.aload_n 0, 1) := by decide +kernel
theorem d_Pr_insertSplit_110 : decode prog_6_method_11_code 110 = .ok (.getfield 18, 3) := by decide +kernel
theorem d_Pr_insertSplit_113 : decode prog_6_method_11_code 113 = .ok (.iload_n 2, 1) := by decide +kernel
theorem d_Pr_insertSplit_114 : decode prog_6_method_11_code 114 = .ok (.iload_n 3, 1) := by decide +kernel
theorem d_Pr_insertSplit_115 : decode prog_6_method_11_code 115 = .ok (.iconst 2, 1) := by decide +kernel
theorem d_Pr_insertSplit_116 : decode prog_6_method_11_code 116 = .ok (.if_icmp .ne 28, 3) := by decide +kernel
theorem d_Pr_insertSplit_119 : decode prog_6_method_11_code 119 = .ok (.aload_n 0, 1) := by decide +kernel
theorem d_Pr_insertSplit_120 : decode prog_6_method_11_code 120 = .ok (.getfield 18, 3) := by decide +kernel
theorem d_Pr_insertSplit_123 : decode prog_6_method_11_code 123 = .ok (.iload_n 2, 1) := by decide +kernel
theorem d_Pr_insertSplit_124 : decode prog_6_method_11_code 124 = .ok (.iconst 1, 1) := by decide +kernel
theorem d_Pr_insertSplit_125 : decode prog_6_method_11_code 125 = .ok (.isub, 1) := by decide +kernel
theorem d_Pr_insertSplit_126 : decode prog_6_method_11_code 126 = .ok (.iaload, 1) := by decide +kernel
theorem d_Pr_insertSplit_127 : decode prog_6_method_11_code 127 = .ok (.iload_n 1, 1) := by decide +kernel
theorem d_Pr_insertSplit_128 : decode prog_6_method_11_code 128 = .ok (.if_icmp .lt 16, 3) := by decide +kernel
theorem d_Pr_insertSplit_131 : decode prog_6_method_11_code 131 = .ok (.aload_n 0, 1) := by decide +kernel
theorem d_Pr_insertSplit_132 : decode prog_6_method_11_code 132 = .ok (.getfield 18, 3) := by decide +kernel
theorem d_Pr_insertSplit_135 : decode prog_6_method_11_code 135 = .ok (.iload_n 2, 1) := by decide +kernel
theorem d_Pr_insertSplit_136 : decode prog_6_method_11_code 136 = .ok (.iconst 1, 1) := by decide +kernel
theorem d_Pr_insertSplit_137 : decode prog_6_method_11_code 137 = .ok (.isub, 1) := by decide +kernel
theorem d_Pr_insertSplit_138 : decode prog_6_method_11_code 138 = .ok (.iaload, 1) := by decide +kernel
theorem d_Pr_insertSplit_139 : decode prog_6_method_11_code 139 = .ok (.iconst 1, 1) := by decide +kernel
theorem d_Pr_insertSplit_140 : decode prog_6_method_11_code 140 = .ok (.iadd, 1) := by decide +kernel
theorem d_Pr_insertSplit_141 : decode prog_6_method_11_code 141 = .ok (.goto 11, 3) := by decide +kernel
theorem d_Pr_insertSplit_144 : decode prog_6_method_11_code 144 = .ok (.aload_n 0, 1) := by decide +kernel
theorem d_Pr_insertSplit_145 : decode prog_6_method_11_code 145 = .ok (.getfield 18, 3) := by decide +kernel
theorem d_Pr_insertSplit_148 : decode prog_6_method_11_code 148 = .ok (.iload_n 2, 1) := by decide +kernel
theorem d_Pr_insertSplit_149 : decode prog_6_method_11_code 149 = .ok (.iconst 1, 1) := by decide +kernel
theorem d_Pr_insertSplit_150 : decode prog_6_method_11_code 150 = .ok (.isub, 1) := by decide +kernel
theorem d_Pr_insertSplit_151 : decode prog_6_method_11_code 151 = .ok (.iaload, 1) := by decide +kernel
theorem d_Pr_insertSplit_152 : decode prog_6_method_11_code 152 = .ok (.iastore, 1) := by decide +kernel
theorem d_Pr_insertSplit_153 : decode prog_6_method_11_code 153 = .ok (.iinc 2 (-1), 3) := by decide +kernel
theorem d_Pr_insertSplit_156 : decode prog_6_method_11_code 156 = .ok (.goto (-129), 3) := by decide +kernel
theorem d_Pr_insertSplit_159 : decode prog_6_method_11_code 159 = .ok (.aload_n 0, 1) := by decide +kernel
theorem d_Pr_insertSplit_160 : decode prog_6_method_11_code 160 = .ok (.getfield 9, 3) := by decide +kernel
theorem d_Pr_insertSplit_163 : decode prog_6_method_11_code 163 = .ok (.iload_n 1, 1) := by decide +kernel
theorem d_Pr_insertSplit_164 : decode prog_6_method_11_code 164 = .ok (.iconst 2, 1) := by decide +kernel
theorem d_Pr_insertSplit_165 : decode prog_6_method_11_code 165 = .ok (.iastore, 1) := by decide +kernel
theorem d_Pr_insertSplit_166 : decode prog_6_method_11_code 166 = .ok (.aload_n 0, 1) := by decide +kernel
theorem d_Pr_insertSplit_167 : decode prog_6_method_11_code 167 = .ok (.dup, 1) := by decide +kernel
theorem d_Pr_insertSplit_168 : decode prog_6_method_11_code 168 = .ok (.getfield 21, 3) := by decide +kernel
theorem d_Pr_insertSplit_171 : decode prog_6_method_11_code 171 = .ok (.iconst 1, 1) := by decide +kernel
theorem d_Pr_insertSplit_172 : decode prog_6_method_11_code 172 = .ok (.iadd, 1) := by decide +kernel
theorem d_Pr_insertSplit_173 : decode prog_6_method_11_code 173 = .ok (.putfield 21, 3) := by decide +kernel
theorem d_Pr_insertSplit_176 : decode prog_6_method_11_code 176 = .ok (.return_, 1) := by decide +kernel
theorem M_Pr_insertSplit : lt_M0 m_Pr_insertSplit 1 := ⟨lt_m2 195 rfl rfl, lt_m1 9 rfl rfl, ⟨by decide +kernel, by decide +kernel, by decide +kernel⟩, by decide⟩
theorem in_Pr_insertSplit : Cond.instanceMethod m_Pr_insertSplit.1 ∈ lt_T := lt_m2 193 rfl rfl
theorem se_Pr_insertSplit : Cond.selects "LinearSearch$Program" m_Pr_insertSplit.1 m_Pr_insertSplit.1 ∈ lt_T := lt_m2 194 rfl rfl
abbrev m_Pr_aimSplit : lt_M := (⟨"LinearSearch$Program", "aimSplit", "(III)V"⟩, prog_6_method_12_code, 4, none)
theorem d_Pr_aimSplit_0 : decode prog_6_method_12_code 0 = .ok (.iload_n 1, 1) := by decide +kernel
theorem d_Pr_aimSplit_1 : decode prog_6_method_12_code 1 = .ok (.ifCond .lt 31, 3) := by decide +kernel
theorem d_Pr_aimSplit_4 : decode prog_6_method_12_code 4 = .ok (.iload_n 1, 1) := by decide +kernel
theorem d_Pr_aimSplit_5 : decode prog_6_method_12_code 5 = .ok (.aload_n 0, 1) := by decide +kernel
theorem d_Pr_aimSplit_6 : decode prog_6_method_12_code 6 = .ok (.getfield 21, 3) := by decide +kernel
theorem d_Pr_aimSplit_9 : decode prog_6_method_12_code 9 = .ok (.if_icmp .ge 23, 3) := by decide +kernel
theorem d_Pr_aimSplit_12 : decode prog_6_method_12_code 12 = .ok (.iload_n 1, 1) := by decide +kernel
theorem d_Pr_aimSplit_13 : decode prog_6_method_12_code 13 = .ok (.bipush 49, 2) := by decide +kernel
theorem d_Pr_aimSplit_15 : decode prog_6_method_12_code 15 = .ok (.if_icmp .ge 17, 3) := by decide +kernel
theorem d_Pr_aimSplit_18 : decode prog_6_method_12_code 18 = .ok (.aload_n 0, 1) := by decide +kernel
theorem d_Pr_aimSplit_19 : decode prog_6_method_12_code 19 = .ok (.getfield 15, 3) := by decide +kernel
theorem d_Pr_aimSplit_22 : decode prog_6_method_12_code 22 = .ok (.iload_n 1, 1) := by decide +kernel
theorem d_Pr_aimSplit_23 : decode prog_6_method_12_code 23 = .ok (.iload_n 2, 1) := by decide +kernel
theorem d_Pr_aimSplit_24 : decode prog_6_method_12_code 24 = .ok (.iastore, 1) := by decide +kernel
theorem d_Pr_aimSplit_25 : decode prog_6_method_12_code 25 = .ok (.aload_n 0, 1) := by decide +kernel
theorem d_Pr_aimSplit_26 : decode prog_6_method_12_code 26 = .ok (.getfield 18, 3) := by decide +kernel
theorem d_Pr_aimSplit_29 : decode prog_6_method_12_code 29 = .ok (.iload_n 1, 1) := by decide +kernel
theorem d_Pr_aimSplit_30 : decode prog_6_method_12_code 30 = .ok (.iload_n 3, 1) := by decide +kernel
theorem d_Pr_aimSplit_31 : decode prog_6_method_12_code 31 = .ok (.iastore, 1) := by decide +kernel
theorem d_Pr_aimSplit_32 : decode prog_6_method_12_code 32 = .ok (.return_, 1) := by decide +kernel
theorem M_Pr_aimSplit : lt_M0 m_Pr_aimSplit 3 := ⟨lt_m2 199 rfl rfl, lt_m1 9 rfl rfl, ⟨by decide +kernel, by decide +kernel, by decide +kernel⟩, by decide⟩
theorem in_Pr_aimSplit : Cond.instanceMethod m_Pr_aimSplit.1 ∈ lt_T := lt_m2 197 rfl rfl
theorem se_Pr_aimSplit : Cond.selects "LinearSearch$Program" m_Pr_aimSplit.1 m_Pr_aimSplit.1 ∈ lt_T := lt_m2 198 rfl rfl
abbrev m_Pr_addOpenGo : lt_M := (⟨"LinearSearch$Program", "addOpenGo", "()V"⟩, prog_6_method_10_code, 1, none)
theorem d_Pr_addOpenGo_0 : decode prog_6_method_10_code 0 = .ok (.aload_n 0, 1) := by decide +kernel
theorem d_Pr_addOpenGo_1 : decode prog_6_method_10_code 1 = .ok (.iconst 3, 1) := by decide +kernel
theorem d_Pr_addOpenGo_2 : decode prog_6_method_10_code 2 = .ok (.iconst (-1), 1) := by decide +kernel
theorem d_Pr_addOpenGo_3 : decode prog_6_method_10_code 3 = .ok (.invokevirtual 32, 3) := by decide +kernel
theorem d_Pr_addOpenGo_6 : decode prog_6_method_10_code 6 = .ok (.return_, 1) := by decide +kernel
theorem M_Pr_addOpenGo : lt_M0 m_Pr_addOpenGo 0 := ⟨lt_m2 203 rfl rfl, lt_m1 9 rfl rfl, ⟨by decide +kernel, by decide +kernel, by decide +kernel⟩, by decide⟩
theorem in_Pr_addOpenGo : Cond.instanceMethod m_Pr_addOpenGo.1 ∈ lt_T := lt_m2 201 rfl rfl
theorem se_Pr_addOpenGo : Cond.selects "LinearSearch$Program" m_Pr_addOpenGo.1 m_Pr_addOpenGo.1 ∈ lt_T := lt_m2 202 rfl rfl
abbrev m_Pr_closeChoice : lt_M := (⟨"LinearSearch$Program", "closeChoice", "(I)V"⟩, prog_6_method_13_code, 3, none)
theorem d_Pr_closeChoice_0 : decode prog_6_method_13_code 0 = .ok (.iload_n 1, 1) := by decide +kernel
theorem d_Pr_closeChoice_1 : decode prog_6_method_13_code 1 = .ok (.iconst 0, 1) := by decide +kernel
theorem d_Pr_closeChoice_2 : decode prog_6_method_13_code 2 = .ok (.invokestatic 36, 3) := by decide +kernel
theorem d_Pr_closeChoice_5 : decode prog_6_method_13_code 5 = .ok (.istore_n 2, 1) := by decide +kernel
theorem d_Pr_closeChoice_6 : decode prog_6_method_13_code 6 = .ok (.iload_n 2, 1) := by decide +kernel
theorem d_Pr_closeChoice_7 : decode prog_6_method_13_code 7 = .ok (.aload_n 0, 1) := by decide +kernel
theorem d_Pr_closeChoice_8 : decode prog_6_method_13_code 8 = .ok (.getfield 21, 3) := by decide +kernel
theorem d_Pr_closeChoice_11 : decode prog_6_method_13_code 11 = .ok (.if_icmp .ge 45, 3) := by decide +kernel
theorem d_Pr_closeChoice_14 : decode prog_6_method_13_code 14 = .ok (.iload_n 2, 1) := by decide +kernel
theorem d_Pr_closeChoice_15 : decode prog_6_method_13_code 15 = .ok (.bipush 49, 2) := by decide +kernel
theorem d_Pr_closeChoice_17 : decode prog_6_method_13_code 17 = .ok (.if_icmp .ge 39, 3) := by decide +kernel
theorem d_Pr_closeChoice_20 : decode prog_6_method_13_code 20 = .ok (.aload_n 0, 1) := by decide +kernel
theorem d_Pr_closeChoice_21 : decode prog_6_method_13_code 21 = .ok (.getfield 9, 3) := by decide +kernel
theorem d_Pr_closeChoice_24 : decode prog_6_method_13_code 24 = .ok (.iload_n 2, 1) := by decide +kernel
theorem d_Pr_closeChoice_25 : decode prog_6_method_13_code 25 = .ok (.iaload, 1) := by decide +kernel
theorem d_Pr_closeChoice_26 : decode prog_6_method_13_code 26 = .ok (.iconst 3, 1) := by decide +kernel
theorem d_Pr_closeChoice_27 : decode prog_6_method_13_code 27 = .ok (.if_icmp .ne 23, 3) := by decide +kernel
theorem d_Pr_closeChoice_30 : decode prog_6_method_13_code 30 = .ok (.aload_n 0, 1) := by decide +kernel
theorem d_Pr_closeChoice_31 : decode prog_6_method_13_code 31 = .ok (.getfield 15, 3) := by decide +kernel
theorem d_Pr_closeChoice_34 : decode prog_6_method_13_code 34 = .ok (.iload_n 2, 1) := by decide +kernel
theorem d_Pr_closeChoice_35 : decode prog_6_method_13_code 35 = .ok (.iaload, 1) := by decide +kernel
theorem d_Pr_closeChoice_36 : decode prog_6_method_13_code 36 = .ok (.iconst (-1), 1) := by decide +kernel
theorem d_Pr_closeChoice_37 : decode prog_6_method_13_code 37 = .ok (.if_icmp .ne 13, 3) := by decide +kernel
theorem d_Pr_closeChoice_40 : decode prog_6_method_13_code 40 = .ok (.aload_n 0, 1) := by decide +kernel
theorem d_Pr_closeChoice_41 : decode prog_6_method_13_code 41 = .ok (.getfield 15, 3) := by decide +kernel
theorem d_Pr_closeChoice_44 : decode prog_6_method_13_code 44 = .ok (.iload_n 2, 1) := by decide +kernel
theorem d_Pr_closeChoice_45 : decode prog_6_method_13_code 45 = .ok (.aload_n 0, 1) := by decide +kernel
theorem d_Pr_closeChoice_46 : decode prog_6_method_13_code 46 = .ok (.getfield 21, 3) := by decide +kernel
theorem d_Pr_closeChoice_49 : decode prog_6_method_13_code 49 = .ok (.iastore, 1) := by decide +kernel
theorem d_Pr_closeChoice_50 : decode prog_6_method_13_code 50 = .ok (.iinc 2 1, 3) := by decide +kernel
theorem d_Pr_closeChoice_53 : decode prog_6_method_13_code 53 = .ok (.goto (-47), 3) := by decide +kernel
theorem d_Pr_closeChoice_56 : decode prog_6_method_13_code 56 = .ok (.return_, 1) := by decide +kernel
theorem M_Pr_closeChoice : lt_M0 m_Pr_closeChoice 1 := ⟨lt_m2 208 rfl rfl, lt_m1 9 rfl rfl, ⟨by decide +kernel, by decide +kernel, by decide +kernel⟩, by decide⟩
theorem in_Pr_closeChoice : Cond.instanceMethod m_Pr_closeChoice.1 ∈ lt_T := lt_m2 206 rfl rfl
theorem se_Pr_closeChoice : Cond.selects "LinearSearch$Program" m_Pr_closeChoice.1 m_Pr_closeChoice.1 ∈ lt_T := lt_m2 207 rfl rfl
abbrev m_Pr_kindAt : lt_M := (⟨"LinearSearch$Program", "kindAt", "(I)I"⟩, prog_6_method_4_code, 2, (some .int))
theorem d_Pr_kindAt_0 : decode prog_6_method_4_code 0 = .ok (.iload_n 1, 1) := by decide +kernel
theorem d_Pr_kindAt_1 : decode prog_6_method_4_code 1 = .ok (.ifCond .lt 26, 3) := by decide +kernel
theorem d_Pr_kindAt_4 : decode prog_6_method_4_code 4 = .ok (.iload_n 1, 1) := by decide +kernel
theorem d_Pr_kindAt_5 : decode prog_6_method_4_code 5 = .ok (.aload_n 0, 1) := by decide +kernel
theorem d_Pr_kindAt_6 : decode prog_6_method_4_code 6 = .ok (.getfield 21, 3) := by decide +kernel
theorem d_Pr_kindAt_9 : decode prog_6_method_4_code 9 = .ok (.if_icmp .ge 18, 3) := by decide +kernel
theorem d_Pr_kindAt_12 : decode prog_6_method_4_code 12 = .ok (.iload_n 1, 1) := by decide +kernel
theorem d_Pr_kindAt_13 : decode prog_6_method_4_code 13 = .ok (.bipush 49, 2) := by decide +kernel
theorem d_Pr_kindAt_15 : decode prog_6_method_4_code 15 = .ok (.if_icmp .ge 12, 3) := by decide +kernel
theorem d_Pr_kindAt_18 : decode prog_6_method_4_code 18 = .ok (.aload_n 0, 1) := by decide +kernel
theorem d_Pr_kindAt_19 : decode prog_6_method_4_code 19 = .ok (.getfield 9, 3) := by decide +kernel
theorem d_Pr_kindAt_22 : decode prog_6_method_4_code 22 = .ok (.iload_n 1, 1) := by decide +kernel
theorem d_Pr_kindAt_23 : decode prog_6_method_4_code 23 = .ok (.iaload, 1) := by decide +kernel
theorem d_Pr_kindAt_24 : decode prog_6_method_4_code 24 = .ok (.goto 4, 3) := by decide +kernel
theorem d_Pr_kindAt_27 : decode prog_6_method_4_code 27 = .ok (.iconst (-1), 1) := by decide +kernel
theorem d_Pr_kindAt_28 : decode prog_6_method_4_code 28 = .ok (.ireturn, 1) := by decide +kernel
theorem M_Pr_kindAt : lt_M0 m_Pr_kindAt 1 := ⟨lt_m3 45 rfl rfl, lt_m1 9 rfl rfl, ⟨by decide +kernel, by decide +kernel, by decide +kernel⟩, by decide⟩
theorem in_Pr_kindAt : Cond.instanceMethod m_Pr_kindAt.1 ∈ lt_T := lt_m3 43 rfl rfl
theorem se_Pr_kindAt : Cond.selects "LinearSearch$Program" m_Pr_kindAt.1 m_Pr_kindAt.1 ∈ lt_T := lt_m3 44 rfl rfl
abbrev m_Pr_readsLetter : lt_M := (⟨"LinearSearch$Program", "readsLetter", "(I)Z"⟩, prog_6_method_8_code, 3, (some .boolean))
theorem d_Pr_readsLetter_0 : decode prog_6_method_8_code 0 = .ok (.aload_n 0, 1) := by decide +kernel
theorem d_Pr_readsLetter_1 : decode prog_6_method_8_code 1 = .ok (.iload_n 1, 1) := by decide +kernel
theorem d_Pr_readsLetter_2 : decode prog_6_method_8_code 2 = .ok (.invokevirtual 25, 3) := by decide +kernel
theorem d_Pr_readsLetter_5 : decode prog_6_method_8_code 5 = .ok (.istore_n 2, 1) := by decide +kernel
theorem d_Pr_readsLetter_6 : decode prog_6_method_8_code 6 = .ok (.iload_n 2, 1) := by decide +kernel
theorem d_Pr_readsLetter_7 : decode prog_6_method_8_code 7 = .ok (.ifCond .eq 8, 3) := by decide +kernel
theorem d_Pr_readsLetter_10 : decode prog_6_method_8_code 10 = .ok (.iload_n 2, 1) := by decide +kernel
theorem d_Pr_readsLetter_11 : decode prog_6_method_8_code 11 = .ok (.iconst 1, 1) := by decide +kernel
theorem d_Pr_readsLetter_12 : decode prog_6_method_8_code 12 = .ok (.if_icmp .ne 7, 3) := by decide +kernel
theorem d_Pr_readsLetter_15 : decode prog_6_method_8_code 15 = .ok (.iconst 1, 1) := by decide +kernel
theorem d_Pr_readsLetter_16 : decode prog_6_method_8_code 16 = .ok (.goto 4, 3) := by decide +kernel
theorem d_Pr_readsLetter_19 : decode prog_6_method_8_code 19 = .ok (.iconst 0, 1) := by decide +kernel
theorem d_Pr_readsLetter_20 : decode prog_6_method_8_code 20 = .ok (.ireturn, 1) := by decide +kernel
theorem M_Pr_readsLetter : lt_M0 m_Pr_readsLetter 1 := ⟨lt_m3 50 rfl rfl, lt_m1 9 rfl rfl, ⟨by decide +kernel, by decide +kernel, by decide +kernel⟩, by decide⟩
theorem in_Pr_readsLetter : Cond.instanceMethod m_Pr_readsLetter.1 ∈ lt_T := lt_m3 48 rfl rfl
theorem se_Pr_readsLetter : Cond.selects "LinearSearch$Program" m_Pr_readsLetter.1 m_Pr_readsLetter.1 ∈ lt_T := lt_m3 49 rfl rfl
abbrev m_Fo_begin : lt_M := (⟨"LinearSearch$Follower", "begin", "(LLinearSearch$Program;LLinearSearch$ThreadList;II)V"⟩, prog_3_method_2_code, 5, none)
theorem d_Fo_begin_0 : decode prog_3_method_2_code 0 = .ok (.aload_n 0, 1) := by decide +kernel
theorem d_Fo_begin_1 : decode prog_3_method_2_code 1 = .ok (.aload_n 1, 1) := by decide +kernel
theorem d_Fo_begin_2 : decode prog_3_method_2_code 2 = .ok (.putfield 19, 3) := by decide +kernel
theorem d_Fo_begin_5 : decode prog_3_method_2_code 5 = .ok (.aload_n 0, 1) := by decide +kernel
theorem d_Fo_begin_6 : decode prog_3_method_2_code 6 = .ok (.aload_n 2, 1) := by decide +kernel
theorem d_Fo_begin_7 : decode prog_3_method_2_code 7 = .ok (.putfield 23, 3) := by decide +kernel
theorem d_Fo_begin_10 : decode prog_3_method_2_code 10 = .ok (.aload_n 0, 1) := by decide +kernel
theorem d_Fo_begin_11 : decode prog_3_method_2_code 11 = .ok (.iload_n 3, 1) := by decide +kernel
theorem d_Fo_begin_12 : decode prog_3_method_2_code 12 = .ok (.putfield 27, 3) := by decide +kernel
theorem d_Fo_begin_15 : decode prog_3_method_2_code 15 = .ok (.aload_n 0, 1) := by decide +kernel
theorem d_Fo_begin_16 : decode prog_3_method_2_code 16 = .ok (.iload 4, 2) := by decide +kernel
theorem d_Fo_begin_18 : decode prog_3_method_2_code 18 = .ok (.putfield 31, 3) := by decide +kernel
theorem d_Fo_begin_21 : decode prog_3_method_2_code 21 = .ok (.aload_n 0, 1) := by decide +kernel
theorem d_Fo_begin_22 : decode prog_3_method_2_code 22 = .ok (.iconst 0, 1) := by decide +kernel
theorem d_Fo_begin_23 : decode prog_3_method_2_code 23 = .ok (.putfield 34, 3) := by decide +kernel
theorem d_Fo_begin_26 : decode prog_3_method_2_code 26 = .ok (.aload_n 0, 1) := by decide +kernel
theorem d_Fo_begin_27 : decode prog_3_method_2_code 27 = .ok (.lconst 0, 1) := by decide +kernel
theorem d_Fo_begin_28 : decode prog_3_method_2_code 28 = .ok (.putfield 37, 3) := by decide +kernel
theorem d_Fo_begin_31 : decode prog_3_method_2_code 31 = .ok (.aload_n 0, 1) := by decide +kernel
theorem d_Fo_begin_32 : decode prog_3_method_2_code 32 = .ok (.iconst 0, 1) := by decide +kernel
theorem d_Fo_begin_33 : decode prog_3_method_2_code 33 = .ok (.putfield 41, 3) := by decide +kernel
theorem d_Fo_begin_36 : decode prog_3_method_2_code 36 = .ok (.aload_n 0, 1) := by decide +kernel
theorem d_Fo_begin_37 : decode prog_3_method_2_code 37 = .ok (.getfield 23, 3) := by decide +kernel
theorem d_Fo_begin_40 : decode prog_3_method_2_code 40 = .ok (.ifnull 10, 3) := by decide +kernel
theorem d_Fo_begin_43 : decode prog_3_method_2_code 43 = .ok (.aload_n 0, 1) := by decide +kernel
theorem d_Fo_begin_44 : decode prog_3_method_2_code 44 = .ok (.getfield 23, 3) := by decide +kernel
theorem d_Fo_begin_47 : decode prog_3_method_2_code 47 = .ok (.invokevirtual 45, 3) := by decide +kernel
theorem d_Fo_begin_50 : decode prog_3_method_2_code 50 = .ok (.return_, 1) := by decide +kernel
theorem M_Fo_begin : lt_M0 m_Fo_begin 4 := ⟨lt_m3 59 rfl rfl, lt_m1 5 rfl rfl, ⟨by decide +kernel, by decide +kernel, by decide +kernel⟩, by decide⟩
theorem in_Fo_begin : Cond.instanceMethod m_Fo_begin.1 ∈ lt_T := lt_m3 57 rfl rfl
theorem se_Fo_begin : Cond.selects "LinearSearch$Follower" m_Fo_begin.1 m_Fo_begin.1 ∈ lt_T := lt_m3 58 rfl rfl
abbrev m_TL_empty : lt_M := (⟨"LinearSearch$ThreadList", "empty", "()V"⟩, prog_10_method_2_code, 1, none)
theorem d_TL_empty_0 : decode prog_10_method_2_code 0 = .ok (.aload_n 0, 1) := by decide +kernel
theorem d_TL_empty_1 : decode prog_10_method_2_code 1 = .ok (.iconst 0, 1) := by decide +kernel
theorem d_TL_empty_2 : decode prog_10_method_2_code 2 = .ok (.putfield 19, 3) := by decide +kernel
theorem d_TL_empty_5 : decode prog_10_method_2_code 5 = .ok (.return_, 1) := by decide +kernel
theorem M_TL_empty : lt_M0 m_TL_empty 0 := ⟨lt_m3 63 rfl rfl, lt_m1 6 rfl rfl, ⟨by decide +kernel, by decide +kernel, by decide +kernel⟩, by decide⟩
theorem in_TL_empty : Cond.instanceMethod m_TL_empty.1 ∈ lt_T := lt_m3 61 rfl rfl
theorem se_TL_empty : Cond.selects "LinearSearch$ThreadList" m_TL_empty.1 m_TL_empty.1 ∈ lt_T := lt_m3 62 rfl rfl
abbrev m_Fo_follow : lt_M := (⟨"LinearSearch$Follower", "follow", "(IJ)V"⟩, prog_3_method_5_code, 5, none)
theorem d_Fo_follow_0 : decode prog_3_method_5_code 0 = .ok (.aload_n 0, 1) := by decide +kernel
theorem d_Fo_follow_1 : decode prog_3_method_5_code 1 = .ok (.getfield 19, 3) := by decide +kernel
theorem d_Fo_follow_4 : decode prog_3_method_5_code 4 = .ok (.ifnull 10, 3) := by decide +kernel
theorem d_Fo_follow_7 : decode prog_3_method_5_code 7 = .ok (.aload_n 0, 1) := by decide +kernel
theorem d_Fo_follow_8 : decode prog_3_method_5_code 8 = .ok (.getfield 23, 3) := by decide +kernel
theorem d_Fo_follow_11 : decode prog_3_method_5_code 11 = .ok (.ifnonnull 4, 3) := by decide +kernel
theorem d_Fo_follow_14 : decode prog_3_method_5_code 14 = .ok (.return_, 1) := by decide +kernel
theorem d_Fo_follow_15 : decode prog_3_method_5_code 15 = .ok (.aload_n 0, 1) := by decide +kernel
theorem d_Fo_follow_16 : decode prog_3_method_5_code 16 = .ok (.iload_n 1, 1) := by decide +kernel
theorem d_Fo_follow_17 : decode prog_3_method_5_code 17 = .ok (.lload_n 2, 1) := by decide +kernel
theorem d_Fo_follow_18 : decode prog_3_method_5_code 18 = .ok (.invokevirtual 56, 3) := by decide +kernel
theorem d_Fo_follow_21 : decode prog_3_method_5_code 21 = .ok (.iconst 0, 1) := by decide +kernel
theorem d_Fo_follow_22 : decode prog_3_method_5_code 22 = .ok (.istore 4, 2) := by decide +kernel
theorem d_Fo_follow_24 : decode prog_3_method_5_code 24 = .ok (.iload 4, 2) := by decide +kernel
theorem d_Fo_follow_26 : decode prog_3_method_5_code 26 = .ok (.bipush 99, 2) := by decide +kernel
theorem d_Fo_follow_28 : decode prog_3_method_5_code 28 = .ok (.if_icmp .ge 57, 3) := by decide +kernel
theorem d_Fo_follow_31 : decode prog_3_method_5_code 31 = .ok (.aload_n 0, 1) := by decide +kernel
theorem d_Fo_follow_32 : decode prog_3_method_5_code 32 = .ok (.getfield 34, 3) := by decide +kernel
theorem d_Fo_follow_35 : decode prog_3_method_5_code 35 = .ok (.ifCond .le 50, 3) := by decide +kernel
theorem d_Fo_follow_38 : decode prog_3_method_5_code 38 = .ok (.aload_n 0, 1) := by decide +kernel
theorem d_Fo_follow_39 : decode prog_3_method_5_code 39 = .ok (.getfield 34, 3) := by decide +kernel
theorem d_Fo_follow_42 : decode prog_3_method_5_code 42 = .ok (.bipush 25, 2) := by decide +kernel
theorem d_Fo_follow_44 : decode prog_3_method_5_code 44 = .ok (.if_icmp .gt 41, 3) := by decide +kernel
theorem d_Fo_follow_47 : decode prog_3_method_5_code 47 = .ok (.aload_n 0, 1) := by decide +kernel
theorem d_Fo_follow_48 : decode prog_3_method_5_code 48 = .ok (.dup, 1) := by decide +kernel
theorem d_Fo_follow_49 : decode prog_3_method_5_code 49 = .ok (.getfield 34, 3) := by decide +kernel
theorem d_Fo_follow_52 : decode prog_3_method_5_code 52 = .ok (.iconst 1, 1) := by decide +kernel
theorem d_Fo_follow_53 : decode prog_3_method_5_code 53 = .ok (.isub, 1) := by decide +kernel
theorem d_Fo_follow_54 : decode prog_3_method_5_code 54 = .ok (.putfield 34, 3) := by decide +kernel
theorem d_Fo_follow_57 : decode prog_3_method_5_code 57 = .ok (.aload_n 0, 1) := by decide +kernel
theorem d_Fo_follow_58 : decode prog_3_method_5_code 58 = .ok (.aload_n 0, 1) := by decide +kernel
theorem d_Fo_follow_59 : decode prog_3_method_5_code 59 = .ok (.getfield 11, 3) := by decide +kernel
theorem d_Fo_follow_62 : decode prog_3_method_5_code 62 = .ok (.aload_n 0, 1) := by decide +kernel
theorem d_Fo_follow_63 : decode prog_3_method_5_code 63 = .ok (.getfield 34, 3) := by decide +kernel
theorem d_Fo_follow_66 : decode prog_3_method_5_code 66 = .ok (.iaload, 1) := by decide +kernel
theorem d_Fo_follow_67 : decode prog_3_method_5_code 67 = .ok (.aload_n 0, 1) := by decide +kernel
theorem d_Fo_follow_68 : decode prog_3_method_5_code 68 = .ok (.getfield 15, 3) := by decide +kernel
theorem d_Fo_follow_71 : decode prog_3_method_5_code 71 = .ok (.aload_n 0, 1) := by decide +kernel
theorem d_Fo_follow_72 : decode prog_3_method_5_code 72 = .ok (.getfield 34, 3) := by decide +kernel
theorem d_Fo_follow_75 : decode prog_3_method_5_code 75 = .ok (.laload, 1) := by decide +kernel
theorem d_Fo_follow_76 : decode prog_3_method_5_code 76 = .ok (.invokevirtual 60, 3) := by decide +kernel
theorem d_Fo_follow_79 : decode prog_3_method_5_code 79 = .ok (.iinc 4 1, 3) := by decide +kernel
theorem d_Fo_follow_82 : decode prog_3_method_5_code 82 = .ok (.goto (-58), 3) := by decide +kernel
theorem d_Fo_follow_85 : decode prog_3_method_5_code 85 = .ok (.return_, 1) := by decide +kernel
theorem M_Fo_follow : lt_M0 m_Fo_follow 2 := ⟨lt_m3 67 rfl rfl, lt_m1 5 rfl rfl, ⟨by decide +kernel, by decide +kernel, by decide +kernel⟩, by decide⟩
theorem in_Fo_follow : Cond.instanceMethod m_Fo_follow.1 ∈ lt_T := lt_m3 65 rfl rfl
theorem se_Fo_follow : Cond.selects "LinearSearch$Follower" m_Fo_follow.1 m_Fo_follow.1 ∈ lt_T := lt_m3 66 rfl rfl
abbrev m_Fo_push : lt_M := (⟨"LinearSearch$Follower", "push", "(IJ)V"⟩, prog_3_method_6_code, 4, none)
theorem d_Fo_push_0 : decode prog_3_method_6_code 0 = .ok (.iload_n 1, 1) := by decide +kernel
theorem d_Fo_push_1 : decode prog_3_method_6_code 1 = .ok (.ifCond .lt 55, 3) := by decide +kernel
theorem d_Fo_push_4 : decode prog_3_method_6_code 4 = .ok (.iload_n 1, 1) := by decide +kernel
theorem d_Fo_push_5 : decode prog_3_method_6_code 5 = .ok (.bipush 49, 2) := by decide +kernel
theorem d_Fo_push_7 : decode prog_3_method_6_code 7 = .ok (.if_icmp .ge 49, 3) := by decide +kernel
theorem d_Fo_push_10 : decode prog_3_method_6_code 10 = .ok (.aload_n 0, 1) := by decide +kernel
theorem d_Fo_push_11 : decode prog_3_method_6_code 11 = .ok (.getfield 34, 3) := by decide +kernel
theorem d_Fo_push_14 : decode prog_3_method_6_code 14 = .ok (.ifCond .lt 42, 3) := by decide +kernel
theorem d_Fo_push_17 : decode prog_3_method_6_code 17 = .ok (.aload_n 0, 1) := by decide +kernel
theorem d_Fo_push_18 : decode prog_3_method_6_code 18 = .ok (.getfield 34, 3) := by decide +kernel
theorem d_Fo_push_21 : decode prog_3_method_6_code 21 = .ok (.bipush 25, 2) := by decide +kernel
theorem d_Fo_push_23 : decode prog_3_method_6_code 23 = .ok (.if_icmp .ge 33, 3) := by decide +kernel
theorem d_Fo_push_26 : decode prog_3_method_6_code 26 = .ok (.aload_n 0, 1) := by decide +kernel
theorem d_Fo_push_27 : decode prog_3_method_6_code 27 = .ok (.getfield 11, 3) := by decide +kernel
theorem d_Fo_push_30 : decode prog_3_method_6_code 30 = .ok (.aload_n 0, 1) := by decide +kernel
theorem d_Fo_push_31 : decode prog_3_method_6_code 31 = .ok (.getfield 34, 3) := by decide +kernel
theorem d_Fo_push_34 : decode prog_3_method_6_code 34 = .ok (.iload_n 1, 1) := by decide +kernel
theorem d_Fo_push_35 : decode prog_3_method_6_code 35 = .ok (.iastore, 1) := by decide +kernel
theorem d_Fo_push_36 : decode prog_3_method_6_code 36 = .ok (.aload_n 0, 1) := by decide +kernel
theorem d_Fo_push_37 : decode prog_3_method_6_code 37 = .ok (.getfield 15, 3) := by decide +kernel
theorem d_Fo_push_40 : decode prog_3_method_6_code 40 = .ok (.aload_n 0, 1) := by decide +kernel
theorem d_Fo_push_41 : decode prog_3_method_6_code 41 = .ok (.getfield 34, 3) := by decide +kernel
theorem d_Fo_push_44 : decode prog_3_method_6_code 44 = .ok (.lload_n 2, 1) := by decide +kernel
theorem d_Fo_push_45 : decode prog_3_method_6_code 45 = .ok (.lastore, 1) := by decide +kernel
theorem d_Fo_push_46 : decode prog_3_method_6_code 46 = .ok (.aload_n 0, 1) := by decide +kernel
theorem d_Fo_push_47 : decode prog_3_method_6_code 47 = .ok (.dup, 1) := by decide +kernel
theorem d_Fo_push_48 : decode prog_3_method_6_code 48 = .ok (.getfield 34, 3) := by decide +kernel
theorem d_Fo_push_51 : decode prog_3_method_6_code 51 = .ok (.iconst 1, 1) := by decide +kernel
theorem d_Fo_push_52 : decode prog_3_method_6_code 52 = .ok (.iadd, 1) := by decide +kernel
theorem d_Fo_push_53 : decode prog_3_method_6_code 53 = .ok (.putfield 34, 3) := by decide +kernel
theorem d_Fo_push_56 : decode prog_3_method_6_code 56 = .ok (.return_, 1) := by decide +kernel
theorem M_Fo_push : lt_M0 m_Fo_push 2 := ⟨lt_m3 71 rfl rfl, lt_m1 5 rfl rfl, ⟨by decide +kernel, by decide +kernel, by decide +kernel⟩, by decide⟩
theorem in_Fo_push : Cond.instanceMethod m_Fo_push.1 ∈ lt_T := lt_m3 70 rfl rfl
theorem se_Fo_push : Cond.selects "LinearSearch$Follower" m_Fo_push.1 m_Fo_push.1 ∈ lt_T := lt_memS 11 rfl rfl
abbrev m_Fo_step : lt_M := (⟨"LinearSearch$Follower", "step", "(IJ)V"⟩, prog_3_method_7_code, 6, none)
theorem d_Fo_step_0 : decode prog_3_method_7_code 0 = .ok (.lconst 1, 1) := by decide +kernel
theorem d_Fo_step_1 : decode prog_3_method_7_code 1 = .ok (.iload_n 1, 1) := by decide +kernel
theorem d_Fo_step_2 : decode prog_3_method_7_code 2 = .ok (.lshl, 1) := by decide +kernel
theorem d_Fo_step_3 : decode prog_3_method_7_code 3 = .ok (.lstore 4, 2) := by decide +kernel
theorem d_Fo_step_5 : decode prog_3_method_7_code 5 = .ok (.aload_n 0, 1) := by decide +kernel
theorem d_Fo_step_6 : decode prog_3_method_7_code 6 = .ok (.getfield 37, 3) := by decide +kernel
theorem d_Fo_step_9 : decode prog_3_method_7_code 9 = .ok (.lload 4, 2) := by decide +kernel
theorem d_Fo_step_11 : decode prog_3_method_7_code 11 = .ok (.land, 1) := by decide +kernel
theorem d_Fo_step_12 : decode prog_3_method_7_code 12 = .ok (.lconst 0, 1) := by decide +kernel
theorem d_Fo_step_13 : decode prog_3_method_7_code 13 = .ok (.lcmp, 1) := by decide +kernel
theorem d_Fo_step_14 : decode prog_3_method_7_code 14 = .ok (.ifCond .eq 9, 3) := by decide +kernel
theorem d_Fo_step_17 : decode prog_3_method_7_code 17 = .ok (.aload_n 0, 1) := by decide +kernel
theorem d_Fo_step_18 : decode prog_3_method_7_code 18 = .ok (.iconst 1, 1) := by decide +kernel
theorem d_Fo_step_19 : decode prog_3_method_7_code 19 = .ok (.putfield 41, 3) := by decide +kernel
theorem d_Fo_step_22 : decode prog_3_method_7_code 22 = .ok (.return_, 1) := by decide +kernel
theorem d_Fo_step_23 : decode prog_3_method_7_code 23 = .ok (.aload_n 0, 1) := by decide +kernel
theorem d_Fo_step_24 : decode prog_3_method_7_code 24 = .ok (.dup, 1) := by decide +kernel
theorem d_Fo_step_25 : decode prog_3_method_7_code 25 = .ok (.getfield 37, 3) := by decide +kernel
theorem d_Fo_step_28 : decode prog_3_method_7_code 28 = .ok (.lload 4, 2) := by decide +kernel
theorem d_Fo_step_30 : decode prog_3_method_7_code 30 = .ok (.lor, 1) := by decide +kernel
theorem d_Fo_step_31 : decode prog_3_method_7_code 31 = .ok (.putfield 37, 3) := by decide +kernel
theorem d_Fo_step_34 : decode prog_3_method_7_code 34 = .ok (.aload_n 0, 1) := by decide +kernel
theorem d_Fo_step_35 : decode prog_3_method_7_code 35 = .ok (.getfield 19, 3) := by decide +kernel
theorem d_Fo_step_38 : decode prog_3_method_7_code 38 = .ok (.iload_n 1, 1) := by decide +kernel
theorem d_Fo_step_39 : decode prog_3_method_7_code 39 = .ok (.invokevirtual 63, 3) := by decide +kernel
theorem d_Fo_step_42 : decode prog_3_method_7_code 42 = .ok (.tableswitch 162 2 6 #[34, 63, 79, 105, 123], 34) := by decide +kernel
theorem d_Fo_step_76 : decode prog_3_method_7_code 76 = .ok (.aload_n 0, 1) := by decide +kernel
theorem d_Fo_step_77 : decode prog_3_method_7_code 77 = .ok (.aload_n 0, 1) := by decide +kernel
theorem d_Fo_step_78 : decode prog_3_method_7_code 78 = .ok (.getfield 19, 3) := by decide +kernel
theorem d_Fo_step_81 : decode prog_3_method_7_code 81 = .ok (.iload_n 1, 1) := by decide +kernel
theorem d_Fo_step_82 : decode prog_3_method_7_code 82 = .ok (.invokevirtual 69, 3) := by decide +kernel
theorem d_Fo_step_85 : decode prog_3_method_7_code 85 = .ok (.lload_n 2, 1) := by decide +kernel
theorem d_Fo_step_86 : decode prog_3_method_7_code 86 = .ok (.invokevirtual 56, 3) := by decide +kernel
theorem d_Fo_step_89 : decode prog_3_method_7_code 89 = .ok (.aload_n 0, 1) := by decide +kernel
theorem d_Fo_step_90 : decode prog_3_method_7_code 90 = .ok (.aload_n 0, 1) := by decide +kernel
theorem d_Fo_step_91 : decode prog_3_method_7_code 91 = .ok (.getfield 19, 3) := by decide +kernel
theorem d_Fo_step_94 : decode prog_3_method_7_code 94 = .ok (.iload_n 1, 1) := by decide +kernel
theorem d_Fo_step_95 : decode prog_3_method_7_code 95 = .ok (.invokevirtual 72, 3) := by decide +kernel
theorem d_Fo_step_98 : decode prog_3_method_7_code 98 = .ok (.lload_n 2, 1) := by decide +kernel
theorem d_Fo_step_99 : decode prog_3_method_7_code 99 = .ok (.invokevirtual 56, 3) := by decide +kernel
theorem d_Fo_step_102 : decode prog_3_method_7_code 102 = .ok (.goto 111, 3) := by decide +kernel
theorem d_Fo_step_105 : decode prog_3_method_7_code 105 = .ok (.aload_n 0, 1) := by decide +kernel
theorem d_Fo_step_106 : decode prog_3_method_7_code 106 = .ok (.aload_n 0, 1) := by decide +kernel
theorem d_Fo_step_107 : decode prog_3_method_7_code 107 = .ok (.getfield 19, 3) := by decide +kernel
theorem d_Fo_step_110 : decode prog_3_method_7_code 110 = .ok (.iload_n 1, 1) := by decide +kernel
theorem d_Fo_step_111 : decode prog_3_method_7_code 111 = .ok (.invokevirtual 72, 3) := by decide +kernel
theorem d_Fo_step_114 : decode prog_3_method_7_code 114 = .ok (.lload_n 2, 1) := by decide +kernel
theorem d_Fo_step_115 : decode prog_3_method_7_code 115 = .ok (.invokevirtual 56, 3) := by decide +kernel
theorem d_Fo_step_118 : decode prog_3_method_7_code 118 = .ok (.goto 95, 3) := by decide +kernel
theorem d_Fo_step_121 : decode prog_3_method_7_code 121 = .ok (.aload_n 0, 1) := by decide +kernel
theorem d_Fo_step_122 : decode prog_3_method_7_code 122 = .ok (.iload_n 1, 1) := by decide +kernel
theorem d_Fo_step_123 : decode prog_3_method_7_code 123 = .ok (.iconst 1, 1) := by decide +kernel
theorem d_Fo_step_124 : decode prog_3_method_7_code 124 = .ok (.iadd, 1) := by decide +kernel
theorem d_Fo_step_125 : decode prog_3_method_7_code 125 = .ok (.lload_n 2, 1) := by decide +kernel
theorem d_Fo_step_126 : decode prog_3_method_7_code 126 = .ok (.aload_n 0, 1) := by decide +kernel
theorem d_Fo_step_127 : decode prog_3_method_7_code 127 = .ok (.getfield 19, 3) := by decide +kernel
theorem d_Fo_step_130 : decode prog_3_method_7_code 130 = .ok (.iload_n 1, 1) := by decide +kernel
theorem d_Fo_step_131 : decode prog_3_method_7_code 131 = .ok (.invokevirtual 72, 3) := by decide +kernel
theorem d_Fo_step_134 : decode prog_3_method_7_code 134 = .ok (.aload_n 0, 1) := by decide +kernel
theorem d_Fo_step_135 : decode prog_3_method_7_code 135 = .ok (.getfield 27, 3) := by decide +kernel
theorem d_Fo_step_138 : decode prog_3_method_7_code 138 = .ok (.invokestatic 75, 3) := by decide +kernel
theorem d_Fo_step_141 : decode prog_3_method_7_code 141 = .ok (.invokevirtual 56, 3) := by decide +kernel
theorem d_Fo_step_144 : decode prog_3_method_7_code 144 = .ok (.goto 69, 3) := by decide +kernel
theorem d_Fo_step_147 : decode prog_3_method_7_code 147 = .ok (.aload_n 0, 1) := by decide +kernel
theorem d_Fo_step_148 : decode prog_3_method_7_code 148 = .ok (.getfield 27, 3) := by decide +kernel
theorem d_Fo_step_151 : decode prog_3_method_7_code 151 = .ok (.ifCond .ne 62, 3) := by decide +kernel
theorem d_Fo_step_154 : decode prog_3_method_7_code 154 = .ok (.aload_n 0, 1) := by decide +kernel
theorem d_Fo_step_155 : decode prog_3_method_7_code 155 = .ok (.iload_n 1, 1) := by decide +kernel
theorem d_Fo_step_156 : decode prog_3_method_7_code 156 = .ok (.iconst 1, 1) := by decide +kernel
theorem d_Fo_step_157 : decode prog_3_method_7_code 157 = .ok (.iadd, 1) := by decide +kernel
theorem d_Fo_step_158 : decode prog_3_method_7_code 158 = .ok (.lload_n 2, 1) := by decide +kernel
theorem d_Fo_step_159 : decode prog_3_method_7_code 159 = .ok (.invokevirtual 56, 3) := by decide +kernel
theorem d_Fo_step_162 : decode prog_3_method_7_code 162 = .ok (.goto 51, 3) := by decide +kernel
theorem d_Fo_step_165 : decode prog_3_method_7_code 165 = .ok (.aload_n 0, 1) := by decide +kernel
theorem d_Fo_step_166 : decode prog_3_method_7_code 166 = .ok (.getfield 31, 3) := by decide +kernel
theorem d_Fo_step_169 : decode prog_3_method_7_code 169 = .ok (.iconst 1, 1) := by decide +kernel
theorem d_Fo_step_170 : decode prog_3_method_7_code 170 = .ok (.if_icmp .ne 14, 3) := by decide +kernel
theorem d_Fo_step_173 : decode prog_3_method_7_code 173 = .ok (.aload_n 0, 1) := by decide +kernel
theorem d_Fo_step_174 : decode prog_3_method_7_code 174 = .ok (.iload_n 1, 1) := by decide +kernel
theorem d_Fo_step_175 : decode prog_3_method_7_code 175 = .ok (.iconst 1, 1) := by decide +kernel
theorem d_Fo_step_176 : decode prog_3_method_7_code 176 = .ok (.iadd, 1) := by decide +kernel
theorem d_Fo_step_177 : decode prog_3_method_7_code 177 = .ok (.lload_n 2, 1) := by decide +kernel
theorem d_Fo_step_178 : decode prog_3_method_7_code 178 = .ok (.invokevirtual 56, 3) := by decide +kernel
theorem d_Fo_step_181 : decode prog_3_method_7_code 181 = .ok (.goto 32, 3) := by decide +kernel
theorem d_Fo_step_184 : decode prog_3_method_7_code 184 = .ok (.aload_n 0, 1) := by decide +kernel
theorem d_Fo_step_185 : decode prog_3_method_7_code 185 = .ok (.getfield 31, 3) := by decide +kernel
theorem d_Fo_step_188 : decode prog_3_method_7_code 188 = .ok (.iconst 2, 1) := by decide +kernel
theorem d_Fo_step_189 : decode prog_3_method_7_code 189 = .ok (.if_icmp .ne 24, 3) := by decide +kernel
theorem d_Fo_step_192 : decode prog_3_method_7_code 192 = .ok (.aload_n 0, 1) := by decide +kernel
theorem d_Fo_step_193 : decode prog_3_method_7_code 193 = .ok (.getfield 23, 3) := by decide +kernel
theorem d_Fo_step_196 : decode prog_3_method_7_code 196 = .ok (.iload_n 1, 1) := by decide +kernel
theorem d_Fo_step_197 : decode prog_3_method_7_code 197 = .ok (.lload_n 2, 1) := by decide +kernel
theorem d_Fo_step_198 : decode prog_3_method_7_code 198 = .ok (.invokevirtual 79, 3) := by decide +kernel
theorem d_Fo_step_201 : decode prog_3_method_7_code 201 = .ok (.goto 12, 3) := by decide +kernel
theorem d_Fo_step_204 : decode prog_3_method_7_code 204 = .ok (.aload_n 0, 1) := by decide +kernel
theorem d_Fo_step_205 : decode prog_3_method_7_code 205 = .ok (.getfield 23, 3) := by decide +kernel
theorem d_Fo_step_208 : decode prog_3_method_7_code 208 = .ok (.iload_n 1, 1) := by decide +kernel
theorem d_Fo_step_209 : decode prog_3_method_7_code 209 = .ok (.lload_n 2, 1) := by decide +kernel
theorem d_Fo_step_210 : decode prog_3_method_7_code 210 = .ok (.invokevirtual 79, 3) := by decide +kernel
theorem d_Fo_step_213 : decode prog_3_method_7_code 213 = .ok (.return_, 1) := by decide +kernel
theorem M_Fo_step : lt_M0 m_Fo_step 2 := ⟨lt_m3 75 rfl rfl, lt_m1 5 rfl rfl, ⟨by decide +kernel, by decide +kernel, by decide +kernel⟩, by decide⟩
theorem in_Fo_step : Cond.instanceMethod m_Fo_step.1 ∈ lt_T := lt_m3 74 rfl rfl
theorem se_Fo_step : Cond.selects "LinearSearch$Follower" m_Fo_step.1 m_Fo_step.1 ∈ lt_T := lt_memS 12 rfl rfl
abbrev m_Pr_yAt : lt_M := (⟨"LinearSearch$Program", "yAt", "(I)I"⟩, prog_6_method_6_code, 2, (some .int))
theorem d_Pr_yAt_0 : decode prog_6_method_6_code 0 = .ok (.iload_n 1, 1) := by decide +kernel
theorem d_Pr_yAt_1 : decode prog_6_method_6_code 1 = .ok (.ifCond .lt 26, 3) := by decide +kernel
theorem d_Pr_yAt_4 : decode prog_6_method_6_code 4 = .ok (.iload_n 1, 1) := by decide +kernel
theorem d_Pr_yAt_5 : decode prog_6_method_6_code 5 = .ok (.aload_n 0, 1) := by decide +kernel
theorem d_Pr_yAt_6 : decode prog_6_method_6_code 6 = .ok (.getfield 21, 3) := by decide +kernel
theorem d_Pr_yAt_9 : decode prog_6_method_6_code 9 = .ok (.if_icmp .ge 18, 3) := by decide +kernel
theorem d_Pr_yAt_12 : decode prog_6_method_6_code 12 = .ok (.iload_n 1, 1) := by decide +kernel
theorem d_Pr_yAt_13 : decode prog_6_method_6_code 13 = .ok (.bipush 49, 2) := by decide +kernel
theorem d_Pr_yAt_15 : decode prog_6_method_6_code 15 = .ok (.if_icmp .ge 12, 3) := by decide +kernel
theorem d_Pr_yAt_18 : decode prog_6_method_6_code 18 = .ok (.aload_n 0, 1) := by decide +kernel
theorem d_Pr_yAt_19 : decode prog_6_method_6_code 19 = .ok (.getfield 18, 3) := by decide +kernel
theorem d_Pr_yAt_22 : decode prog_6_method_6_code 22 = .ok (.iload_n 1, 1) := by decide +kernel
theorem d_Pr_yAt_23 : decode prog_6_method_6_code 23 = .ok (.iaload, 1) := by decide +kernel
theorem d_Pr_yAt_24 : decode prog_6_method_6_code 24 = .ok (.goto 4, 3) := by decide +kernel
theorem d_Pr_yAt_27 : decode prog_6_method_6_code 27 = .ok (.iconst 0, 1) := by decide +kernel
theorem d_Pr_yAt_28 : decode prog_6_method_6_code 28 = .ok (.ireturn, 1) := by decide +kernel
theorem M_Pr_yAt : lt_M0 m_Pr_yAt 1 := ⟨lt_m3 80 rfl rfl, lt_m1 9 rfl rfl, ⟨by decide +kernel, by decide +kernel, by decide +kernel⟩, by decide⟩
theorem in_Pr_yAt : Cond.instanceMethod m_Pr_yAt.1 ∈ lt_T := lt_m3 78 rfl rfl
theorem se_Pr_yAt : Cond.selects "LinearSearch$Program" m_Pr_yAt.1 m_Pr_yAt.1 ∈ lt_T := lt_m3 79 rfl rfl
abbrev m_Pr_xAt : lt_M := (⟨"LinearSearch$Program", "xAt", "(I)I"⟩, prog_6_method_5_code, 2, (some .int))
theorem d_Pr_xAt_0 : decode prog_6_method_5_code 0 = .ok (.iload_n 1, 1) := by decide +kernel
theorem d_Pr_xAt_1 : decode prog_6_method_5_code 1 = .ok (.ifCond .lt 26, 3) := by decide +kernel
theorem d_Pr_xAt_4 : decode prog_6_method_5_code 4 = .ok (.iload_n 1, 1) := by decide +kernel
theorem d_Pr_xAt_5 : decode prog_6_method_5_code 5 = .ok (.aload_n 0, 1) := by decide +kernel
theorem d_Pr_xAt_6 : decode prog_6_method_5_code 6 = .ok (.getfield 21, 3) := by decide +kernel
theorem d_Pr_xAt_9 : decode prog_6_method_5_code 9 = .ok (.if_icmp .ge 18, 3) := by decide +kernel
theorem d_Pr_xAt_12 : decode prog_6_method_5_code 12 = .ok (.iload_n 1, 1) := by decide +kernel
theorem d_Pr_xAt_13 : decode prog_6_method_5_code 13 = .ok (.bipush 49, 2) := by decide +kernel
theorem d_Pr_xAt_15 : decode prog_6_method_5_code 15 = .ok (.if_icmp .ge 12, 3) := by decide +kernel
theorem d_Pr_xAt_18 : decode prog_6_method_5_code 18 = .ok (.aload_n 0, 1) := by decide +kernel
theorem d_Pr_xAt_19 : decode prog_6_method_5_code 19 = .ok (.getfield 15, 3) := by decide +kernel
theorem d_Pr_xAt_22 : decode prog_6_method_5_code 22 = .ok (.iload_n 1, 1) := by decide +kernel
theorem d_Pr_xAt_23 : decode prog_6_method_5_code 23 = .ok (.iaload, 1) := by decide +kernel
theorem d_Pr_xAt_24 : decode prog_6_method_5_code 24 = .ok (.goto 4, 3) := by decide +kernel
theorem d_Pr_xAt_27 : decode prog_6_method_5_code 27 = .ok (.iconst 0, 1) := by decide +kernel
theorem d_Pr_xAt_28 : decode prog_6_method_5_code 28 = .ok (.ireturn, 1) := by decide +kernel
theorem M_Pr_xAt : lt_M0 m_Pr_xAt 1 := ⟨lt_m3 84 rfl rfl, lt_m1 9 rfl rfl, ⟨by decide +kernel, by decide +kernel, by decide +kernel⟩, by decide⟩
theorem in_Pr_xAt : Cond.instanceMethod m_Pr_xAt.1 ∈ lt_T := lt_m3 82 rfl rfl
theorem se_Pr_xAt : Cond.selects "LinearSearch$Program" m_Pr_xAt.1 m_Pr_xAt.1 ∈ lt_T := lt_m3 83 rfl rfl
abbrev m_TL_add : lt_M := (⟨"LinearSearch$ThreadList", "add", "(IJ)V"⟩, prog_10_method_4_code, 4, none)
theorem d_TL_add_0 : decode prog_10_method_4_code 0 = .ok (.aload_n 0, 1) := by decide +kernel
theorem d_TL_add_1 : decode prog_10_method_4_code 1 = .ok (.getfield 19, 3) := by decide +kernel
theorem d_TL_add_4 : decode prog_10_method_4_code 4 = .ok (.ifCond .lt 42, 3) := by decide +kernel
theorem d_TL_add_7 : decode prog_10_method_4_code 7 = .ok (.aload_n 0, 1) := by decide +kernel
theorem d_TL_add_8 : decode prog_10_method_4_code 8 = .ok (.getfield 19, 3) := by decide +kernel
theorem d_TL_add_11 : decode prog_10_method_4_code 11 = .ok (.bipush 25, 2) := by decide +kernel
theorem d_TL_add_13 : decode prog_10_method_4_code 13 = .ok (.if_icmp .ge 33, 3) := by decide +kernel
theorem d_TL_add_16 : decode prog_10_method_4_code 16 = .ok (.aload_n 0, 1) := by decide +kernel
theorem d_TL_add_17 : decode prog_10_method_4_code 17 = .ok (.getfield 9, 3) := by decide +kernel
theorem d_TL_add_20 : decode prog_10_method_4_code 20 = .ok (.aload_n 0, 1) := by decide +kernel
theorem d_TL_add_21 : decode prog_10_method_4_code 21 = .ok (.getfield 19, 3) := by decide +kernel
theorem d_TL_add_24 : decode prog_10_method_4_code 24 = .ok (.iload_n 1, 1) := by decide +kernel
theorem d_TL_add_25 : decode prog_10_method_4_code 25 = .ok (.iastore, 1) := by decide +kernel
theorem d_TL_add_26 : decode prog_10_method_4_code 26 = .ok (.aload_n 0, 1) := by decide +kernel
theorem d_TL_add_27 : decode prog_10_method_4_code 27 = .ok (.getfield 15, 3) := by decide +kernel
theorem d_TL_add_30 : decode prog_10_method_4_code 30 = .ok (.aload_n 0, 1) := by decide +kernel
theorem d_TL_add_31 : decode prog_10_method_4_code 31 = .ok (.getfield 19, 3) := by decide +kernel
theorem d_TL_add_34 : decode prog_10_method_4_code 34 = .ok (.lload_n 2, 1) := by decide +kernel
theorem d_TL_add_35 : decode prog_10_method_4_code 35 = .ok (.lastore, 1) := by decide +kernel
theorem d_TL_add_36 : decode prog_10_method_4_code 36 = .ok (.aload_n 0, 1) := by decide +kernel
theorem d_TL_add_37 : decode prog_10_method_4_code 37 = .ok (.dup, 1) := by decide +kernel
theorem d_TL_add_38 : decode prog_10_method_4_code 38 = .ok (.getfield 19, 3) := by decide +kernel
theorem d_TL_add_41 : decode prog_10_method_4_code 41 = .ok (.iconst 1, 1) := by decide +kernel
theorem d_TL_add_42 : decode prog_10_method_4_code 42 = .ok (.iadd, 1) := by decide +kernel
theorem d_TL_add_43 : decode prog_10_method_4_code 43 = .ok (.putfield 19, 3) := by decide +kernel
theorem d_TL_add_46 : decode prog_10_method_4_code 46 = .ok (.return_, 1) := by decide +kernel
theorem M_TL_add : lt_M0 m_TL_add 2 := ⟨lt_m3 93 rfl rfl, lt_m1 6 rfl rfl, ⟨by decide +kernel, by decide +kernel, by decide +kernel⟩, by decide⟩
theorem in_TL_add : Cond.instanceMethod m_TL_add.1 ∈ lt_T := lt_m3 91 rfl rfl
theorem se_TL_add : Cond.selects "LinearSearch$ThreadList" m_TL_add.1 m_TL_add.1 ∈ lt_T := lt_m3 92 rfl rfl
abbrev m_Fo_cameTwice : lt_M := (⟨"LinearSearch$Follower", "cameTwice", "()Z"⟩, prog_3_method_4_code, 1, (some .boolean))
theorem d_Fo_cameTwice_0 : decode prog_3_method_4_code 0 = .ok (.aload_n 0, 1) := by decide +kernel
theorem d_Fo_cameTwice_1 : decode prog_3_method_4_code 1 = .ok (.getfield 41, 3) := by decide +kernel
theorem d_Fo_cameTwice_4 : decode prog_3_method_4_code 4 = .ok (.ireturn, 1) := by decide +kernel
theorem M_Fo_cameTwice : lt_M0 m_Fo_cameTwice 0 := ⟨lt_m3 97 rfl rfl, lt_m1 5 rfl rfl, ⟨by decide +kernel, by decide +kernel, by decide +kernel⟩, by decide⟩
theorem in_Fo_cameTwice : Cond.instanceMethod m_Fo_cameTwice.1 ∈ lt_T := lt_m3 95 rfl rfl
theorem se_Fo_cameTwice : Cond.selects "LinearSearch$Follower" m_Fo_cameTwice.1 m_Fo_cameTwice.1 ∈ lt_T := lt_m3 96 rfl rfl
abbrev m_TL_size : lt_M := (⟨"LinearSearch$ThreadList", "size", "()I"⟩, prog_10_method_3_code, 1, (some .int))
theorem d_TL_size_0 : decode prog_10_method_3_code 0 = .ok (.aload_n 0, 1) := by decide +kernel
theorem d_TL_size_1 : decode prog_10_method_3_code 1 = .ok (.getfield 19, 3) := by decide +kernel
theorem d_TL_size_4 : decode prog_10_method_3_code 4 = .ok (.ireturn, 1) := by decide +kernel
theorem M_TL_size : lt_M0 m_TL_size 0 := ⟨lt_m3 101 rfl rfl, lt_m1 6 rfl rfl, ⟨by decide +kernel, by decide +kernel, by decide +kernel⟩, by decide⟩
theorem in_TL_size : Cond.instanceMethod m_TL_size.1 ∈ lt_T := lt_m3 99 rfl rfl
theorem se_TL_size : Cond.selects "LinearSearch$ThreadList" m_TL_size.1 m_TL_size.1 ∈ lt_T := lt_m3 100 rfl rfl
abbrev m_TL_instructionAt : lt_M := (⟨"LinearSearch$ThreadList", "instructionAt", "(I)I"⟩, prog_10_method_5_code, 2, (some .int))
theorem d_TL_instructionAt_0 : decode prog_10_method_5_code 0 = .ok (.iload_n 1, 1) := by decide +kernel
theorem d_TL_instructionAt_1 : decode prog_10_method_5_code 1 = .ok (.ifCond .lt 26, 3) := by decide +kernel
theorem d_TL_instructionAt_4 : decode prog_10_method_5_code 4 = .ok (.iload_n 1, 1) := by decide +kernel
theorem d_TL_instructionAt_5 : decode prog_10_method_5_code 5 = .ok (.aload_n 0, 1) := by decide +kernel
theorem d_TL_instructionAt_6 : decode prog_10_method_5_code 6 = .ok (.getfield 19, 3) := by decide +kernel
theorem d_TL_instructionAt_9 : decode prog_10_method_5_code 9 = .ok (.if_icmp .ge 18, 3) := by decide +kernel
theorem d_TL_instructionAt_12 : decode prog_10_method_5_code 12 = .ok (.iload_n 1, 1) := by decide +kernel
theorem d_TL_instructionAt_13 : decode prog_10_method_5_code 13 = .ok (.bipush 25, 2) := by decide +kernel
theorem d_TL_instructionAt_15 : decode prog_10_method_5_code 15 = .ok (.if_icmp .ge 12, 3) := by decide +kernel
theorem d_TL_instructionAt_18 : decode prog_10_method_5_code 18 = .ok (.aload_n 0, 1) := by decide +kernel
theorem d_TL_instructionAt_19 : decode prog_10_method_5_code 19 = .ok (.getfield 9, 3) := by decide +kernel
theorem d_TL_instructionAt_22 : decode prog_10_method_5_code 22 = .ok (.iload_n 1, 1) := by decide +kernel
theorem d_TL_instructionAt_23 : decode prog_10_method_5_code 23 = .ok (.iaload, 1) := by decide +kernel
theorem d_TL_instructionAt_24 : decode prog_10_method_5_code 24 = .ok (.goto 4, 3) := by decide +kernel
theorem d_TL_instructionAt_27 : decode prog_10_method_5_code 27 = .ok (.iconst (-1), 1) := by decide +kernel
theorem d_TL_instructionAt_28 : decode prog_10_method_5_code 28 = .ok (.ireturn, 1) := by decide +kernel
theorem M_TL_instructionAt : lt_M0 m_TL_instructionAt 1 := ⟨lt_m3 105 rfl rfl, lt_m1 6 rfl rfl, ⟨by decide +kernel, by decide +kernel, by decide +kernel⟩, by decide⟩
theorem in_TL_instructionAt : Cond.instanceMethod m_TL_instructionAt.1 ∈ lt_T := lt_m3 103 rfl rfl
theorem se_TL_instructionAt : Cond.selects "LinearSearch$ThreadList" m_TL_instructionAt.1 m_TL_instructionAt.1 ∈ lt_T := lt_m3 104 rfl rfl
abbrev m_Tx_length : lt_M := (⟨"LinearSearch$Text", "length", "()I"⟩, prog_9_method_4_code, 1, (some .int))
theorem d_Tx_length_0 : decode prog_9_method_4_code 0 = .ok (.aload_n 0, 1) := by decide +kernel
theorem d_Tx_length_1 : decode prog_9_method_4_code 1 = .ok (.getfield 15, 3) := by decide +kernel
theorem d_Tx_length_4 : decode prog_9_method_4_code 4 = .ok (.ireturn, 1) := by decide +kernel
theorem M_Tx_length : lt_M0 m_Tx_length 0 := ⟨lt_m3 180 rfl rfl, lt_m1 3 rfl rfl, ⟨by decide +kernel, by decide +kernel, by decide +kernel⟩, by decide⟩
theorem in_Tx_length : Cond.instanceMethod m_Tx_length.1 ∈ lt_T := lt_m3 178 rfl rfl
theorem se_Tx_length : Cond.selects "LinearSearch$Text" m_Tx_length.1 m_Tx_length.1 ∈ lt_T := lt_m3 179 rfl rfl
abbrev m_Tx_letterAt : lt_M := (⟨"LinearSearch$Text", "letterAt", "(I)I"⟩, prog_9_method_5_code, 2, (some .int))
theorem d_Tx_letterAt_0 : decode prog_9_method_5_code 0 = .ok (.iload_n 1, 1) := by decide +kernel
theorem d_Tx_letterAt_1 : decode prog_9_method_5_code 1 = .ok (.ifCond .lt 29, 3) := by decide +kernel
theorem d_Tx_letterAt_4 : decode prog_9_method_5_code 4 = .ok (.iload_n 1, 1) := by decide +kernel
theorem d_Tx_letterAt_5 : decode prog_9_method_5_code 5 = .ok (.aload_n 0, 1) := by decide +kernel
theorem d_Tx_letterAt_6 : decode prog_9_method_5_code 6 = .ok (.getfield 15, 3) := by decide +kernel
theorem d_Tx_letterAt_9 : decode prog_9_method_5_code 9 = .ok (.if_icmp .ge 21, 3) := by decide +kernel
theorem d_Tx_letterAt_12 : decode prog_9_method_5_code 12 = .ok (.iload_n 1, 1) := by decide +kernel
theorem d_Tx_letterAt_13 : decode prog_9_method_5_code 13 = .ok (.aload_n 0, 1) := by decide +kernel
theorem d_Tx_letterAt_14 : decode prog_9_method_5_code 14 = .ok (.getfield 9, 3) := by decide +kernel
theorem d_Tx_letterAt_17 : decode prog_9_method_5_code 17 = .ok (.arraylength, 1) := by decide +kernel
theorem d_Tx_letterAt_18 : decode prog_9_method_5_code 18 = .ok (.if_icmp .ge 12, 3) := by decide +kernel
theorem d_Tx_letterAt_21 : decode prog_9_method_5_code 21 = .ok (.aload_n 0, 1) := by decide +kernel
theorem d_Tx_letterAt_22 : decode prog_9_method_5_code 22 = .ok (.getfield 9, 3) := by decide +kernel
theorem d_Tx_letterAt_25 : decode prog_9_method_5_code 25 = .ok (.iload_n 1, 1) := by decide +kernel
theorem d_Tx_letterAt_26 : decode prog_9_method_5_code 26 = .ok (.iaload, 1) := by decide +kernel
theorem d_Tx_letterAt_27 : decode prog_9_method_5_code 27 = .ok (.goto 4, 3) := by decide +kernel
theorem d_Tx_letterAt_30 : decode prog_9_method_5_code 30 = .ok (.iconst (-1), 1) := by decide +kernel
theorem d_Tx_letterAt_31 : decode prog_9_method_5_code 31 = .ok (.ireturn, 1) := by decide +kernel
theorem M_Tx_letterAt : lt_M0 m_Tx_letterAt 1 := ⟨lt_m3 216 rfl rfl, lt_m1 3 rfl rfl, ⟨by decide +kernel, by decide +kernel, by decide +kernel⟩, by decide⟩
theorem in_Tx_letterAt : Cond.instanceMethod m_Tx_letterAt.1 ∈ lt_T := lt_m3 214 rfl rfl
theorem se_Tx_letterAt : Cond.selects "LinearSearch$Text" m_Tx_letterAt.1 m_Tx_letterAt.1 ∈ lt_T := lt_m3 215 rfl rfl
abbrev m_Pr_takes : lt_M := (⟨"LinearSearch$Program", "takes", "(II)Z"⟩, prog_6_method_7_code, 4, (some .boolean))
theorem d_Pr_takes_0 : decode prog_6_method_7_code 0 = .ok (.aload_n 0, 1) := by decide +kernel
theorem d_Pr_takes_1 : decode prog_6_method_7_code 1 = .ok (.iload_n 1, 1) := by decide +kernel
theorem d_Pr_takes_2 : decode prog_6_method_7_code 2 = .ok (.invokevirtual 25, 3) := by decide +kernel
theorem d_Pr_takes_5 : decode prog_6_method_7_code 5 = .ok (.istore_n 3, 1) := by decide +kernel
theorem d_Pr_takes_6 : decode prog_6_method_7_code 6 = .ok (.iload_n 2, 1) := by decide +kernel
theorem d_Pr_takes_7 : decode prog_6_method_7_code 7 = .ok (.iconst (-1), 1) := by decide +kernel
theorem d_Pr_takes_8 : decode prog_6_method_7_code 8 = .ok (.if_icmp .eq 25, 3) := by decide +kernel
theorem d_Pr_takes_11 : decode prog_6_method_7_code 11 = .ok (.iload_n 3, 1) := by decide +kernel
theorem d_Pr_takes_12 : decode prog_6_method_7_code 12 = .ok (.iconst 1, 1) := by decide +kernel
theorem d_Pr_takes_13 : decode prog_6_method_7_code 13 = .ok (.if_icmp .eq 16, 3) := by decide +kernel
theorem d_Pr_takes_16 : decode prog_6_method_7_code 16 = .ok (.iload_n 3, 1) := by decide +kernel
theorem d_Pr_takes_17 : decode prog_6_method_7_code 17 = .ok (.ifCond .ne 16, 3) := by decide +kernel
theorem d_Pr_takes_20 : decode prog_6_method_7_code 20 = .ok (.aload_n 0, 1) := by decide +kernel
theorem d_Pr_takes_21 : decode prog_6_method_7_code 21 = .ok (.iload_n 1, 1) := by decide +kernel
theorem d_Pr_takes_22 : decode prog_6_method_7_code 22 = .ok (.invokevirtual 29, 3) := by decide +kernel
theorem d_Pr_takes_25 : decode prog_6_method_7_code 25 = .ok (.iload_n 2, 1) := by decide +kernel
theorem d_Pr_takes_26 : decode prog_6_method_7_code 26 = .ok (.if_icmp .ne 7, 3) := by decide +kernel
theorem d_Pr_takes_29 : decode prog_6_method_7_code 29 = .ok (.iconst 1, 1) := by decide +kernel
theorem d_Pr_takes_30 : decode prog_6_method_7_code 30 = .ok (.goto 4, 3) := by decide +kernel
theorem d_Pr_takes_33 : decode prog_6_method_7_code 33 = .ok (.iconst 0, 1) := by decide +kernel
theorem d_Pr_takes_34 : decode prog_6_method_7_code 34 = .ok (.ireturn, 1) := by decide +kernel
theorem M_Pr_takes : lt_M0 m_Pr_takes 2 := ⟨lt_m3 220 rfl rfl, lt_m1 9 rfl rfl, ⟨by decide +kernel, by decide +kernel, by decide +kernel⟩, by decide⟩
theorem in_Pr_takes : Cond.instanceMethod m_Pr_takes.1 ∈ lt_T := lt_m3 218 rfl rfl
theorem se_Pr_takes : Cond.selects "LinearSearch$Program" m_Pr_takes.1 m_Pr_takes.1 ∈ lt_T := lt_m3 219 rfl rfl
abbrev m_St_fill : lt_M := (⟨"LinearSearch$State", "fill", "(LLinearSearch$Program;LLinearSearch$ThreadList;Z)V"⟩, prog_8_method_2_code, 5, none)
theorem d_St_fill_0 : decode prog_8_method_2_code 0 = .ok (.aload_n 0, 1) := by decide +kernel
theorem d_St_fill_1 : decode prog_8_method_2_code 1 = .ok (.iconst 0, 1) := by decide +kernel
theorem d_St_fill_2 : decode prog_8_method_2_code 2 = .ok (.putfield 18, 3) := by decide +kernel
theorem d_St_fill_5 : decode prog_8_method_2_code 5 = .ok (.aload_n 0, 1) := by decide +kernel
theorem d_St_fill_6 : decode prog_8_method_2_code 6 = .ok (.iload_n 3, 1) := by decide +kernel
theorem d_St_fill_7 : decode prog_8_method_2_code 7 = .ok (.putfield 22, 3) := by decide +kernel
theorem d_St_fill_10 : decode prog_8_method_2_code 10 = .ok (.aload_n 0, 1) := by decide +kernel
theorem d_St_fill_11 : decode prog_8_method_2_code 11 = .ok (.iconst 0, 1) := by decide +kernel
theorem d_St_fill_12 : decode prog_8_method_2_code 12 = .ok (.putfield 26, 3) := by decide +kernel
theorem d_St_fill_15 : decode prog_8_method_2_code 15 = .ok (.aload_n 0, 1) := by decide +kernel
theorem d_St_fill_16 : decode prog_8_method_2_code 16 = .ok (.getfield 15, 3) := by decide +kernel
theorem d_St_fill_19 : decode prog_8_method_2_code 19 = .ok (.iconst (-1), 1) := by decide +kernel
theorem d_St_fill_20 : decode prog_8_method_2_code 20 = .ok (.invokestatic 29, 3) := by decide +kernel
theorem d_St_fill_23 : decode prog_8_method_2_code 23 = .ok (.iconst 0, 1) := by decide +kernel
theorem d_St_fill_24 : decode prog_8_method_2_code 24 = .ok (.istore 4, 2) := by decide +kernel
theorem d_St_fill_26 : decode prog_8_method_2_code 26 = .ok (.iload 4, 2) := by decide +kernel
theorem d_St_fill_28 : decode prog_8_method_2_code 28 = .ok (.aload_n 2, 1) := by decide +kernel
theorem d_St_fill_29 : decode prog_8_method_2_code 29 = .ok (.invokevirtual 35, 3) := by decide +kernel
theorem d_St_fill_32 : decode prog_8_method_2_code 32 = .ok (.if_icmp .ge 71, 3) := by decide +kernel
theorem d_St_fill_35 : decode prog_8_method_2_code 35 = .ok (.iload 4, 2) := by decide +kernel
theorem d_St_fill_37 : decode prog_8_method_2_code 37 = .ok (.bipush 25, 2) := by decide +kernel
theorem d_St_fill_39 : decode prog_8_method_2_code 39 = .ok (.if_icmp .ge 64, 3) := by decide +kernel
theorem d_St_fill_42 : decode prog_8_method_2_code 42 = .ok (.aload_n 0, 1) := by decide +kernel
theorem d_St_fill_43 : decode prog_8_method_2_code 43 = .ok (.getfield 26, 3) := by decide +kernel
theorem d_St_fill_46 : decode prog_8_method_2_code 46 = .ok (.ifCond .ne 57, 3) := by decide +kernel
theorem d_St_fill_49 : decode prog_8_method_2_code 49 = .ok (.aload_n 0, 1) := by decide +kernel
theorem d_St_fill_50 : decode prog_8_method_2_code 50 = .ok (.getfield 9, 3) := by decide +kernel
theorem d_St_fill_53 : decode prog_8_method_2_code 53 = .ok (.iload 4, 2) := by decide +kernel
theorem d_St_fill_55 : decode prog_8_method_2_code 55 = .ok (.aload_n 2, 1) := by decide +kernel
theorem d_St_fill_56 : decode prog_8_method_2_code 56 = .ok (.iload 4, 2) := by decide +kernel
theorem d_St_fill_58 : decode prog_8_method_2_code 58 = .ok (.invokevirtual 40, 3) := by decide +kernel
theorem d_St_fill_61 : decode prog_8_method_2_code 61 = .ok (.iastore, 1) := by decide +kernel
theorem d_St_fill_62 : decode prog_8_method_2_code 62 = .ok (.aload_n 0, 1) := by decide +kernel
theorem d_St_fill_63 : decode prog_8_method_2_code 63 = .ok (.aload_n 1, 1) := by decide +kernel
theorem d_St_fill_64 : decode prog_8_method_2_code 64 = .ok (.aload_n 0, 1) := by decide +kernel
theorem d_St_fill_65 : decode prog_8_method_2_code 65 = .ok (.getfield 9, 3) := by decide +kernel
theorem d_St_fill_68 : decode prog_8_method_2_code 68 = .ok (.iload 4, 2) := by decide +kernel
theorem d_St_fill_70 : decode prog_8_method_2_code 70 = .ok (.iaload, 1) := by decide +kernel
theorem d_St_fill_71 : decode prog_8_method_2_code 71 = .ok (.invokevirtual 44, 3) := by decide +kernel
theorem d_St_fill_74 : decode prog_8_method_2_code 74 = .ok (.bipush 7, 2) := by decide +kernel
theorem d_St_fill_76 : decode prog_8_method_2_code 76 = .ok (.if_icmp .ne 7, 3) := by decide +kernel
theorem d_St_fill_79 : decode prog_8_method_2_code 79 = .ok (.iconst 1, 1) := by decide +kernel
theorem d_St_fill_80 : decode prog_8_method_2_code 80 = .ok (.goto 4, 3) := by decide +kernel
theorem d_St_fill_83 : decode prog_8_method_2_code 83 = .ok (.iconst 0, 1) := by decide +kernel
theorem d_St_fill_84 : decode prog_8_method_2_code 84 = .ok (.putfield 26, 3) := by decide +kernel
theorem d_St_fill_87 : decode prog_8_method_2_code 87 = .ok (.aload_n 0, 1) := by decide +kernel
theorem d_St_fill_88 : decode prog_8_method_2_code 88 = .ok (.dup, 1) := by decide +kernel
theorem d_St_fill_89 : decode prog_8_method_2_code 89 = .ok (.getfield 18, 3) := by decide +kernel
theorem d_St_fill_92 : decode prog_8_method_2_code 92 = .ok (.iconst 1, 1) := by decide +kernel
theorem d_St_fill_93 : decode prog_8_method_2_code 93 = .ok (.iadd, 1) := by decide +kernel
theorem d_St_fill_94 : decode prog_8_method_2_code 94 = .ok (.putfield 18, 3) := by decide +kernel
theorem d_St_fill_97 : decode prog_8_method_2_code 97 = .ok (.iinc 4 1, 3) := by decide +kernel
theorem d_St_fill_100 : decode prog_8_method_2_code 100 = .ok (.goto (-74), 3) := by decide +kernel
theorem d_St_fill_103 : decode prog_8_method_2_code 103 = .ok (.return_, 1) := by decide +kernel
theorem M_St_fill : lt_M0 m_St_fill 3 := ⟨lt_m4 7 rfl rfl, lt_m1 11 rfl rfl, ⟨by decide +kernel, by decide +kernel, by decide +kernel⟩, by decide⟩
theorem in_St_fill : Cond.instanceMethod m_St_fill.1 ∈ lt_T := lt_m4 5 rfl rfl
theorem se_St_fill : Cond.selects "LinearSearch$State" m_St_fill.1 m_St_fill.1 ∈ lt_T := lt_m4 6 rfl rfl
abbrev m_St_isSameAs : lt_M := (⟨"LinearSearch$State", "isSameAs", "(LLinearSearch$State;)Z"⟩, prog_8_method_3_code, 3, (some .boolean))
theorem d_St_isSameAs_0 : decode prog_8_method_3_code 0 = .ok (.aload_n 0, 1) := by decide +kernel
theorem d_St_isSameAs_1 : decode prog_8_method_3_code 1 = .ok (.getfield 18, 3) := by decide +kernel
theorem d_St_isSameAs_4 : decode prog_8_method_3_code 4 = .ok (.aload_n 1, 1) := by decide +kernel
theorem d_St_isSameAs_5 : decode prog_8_method_3_code 5 = .ok (.getfield 18, 3) := by decide +kernel
theorem d_St_isSameAs_8 : decode prog_8_method_3_code 8 = .ok (.if_icmp .ne 14, 3) := by decide +kernel
theorem d_St_isSameAs_11 : decode prog_8_method_3_code 11 = .ok (.aload_n 0, 1) := by decide +kernel
theorem d_St_isSameAs_12 : decode prog_8_method_3_code 12 = .ok (.getfield 22, 3) := by decide +kernel
theorem d_St_isSameAs_15 : decode prog_8_method_3_code 15 = .ok (.aload_n 1, 1) := by decide +kernel
theorem d_St_isSameAs_16 : decode prog_8_method_3_code 16 = .ok (.getfield 22, 3) := by decide +kernel
theorem d_St_isSameAs_19 : decode prog_8_method_3_code 19 = .ok (.if_icmp .eq 5, 3) := by decide +kernel
theorem d_St_isSameAs_22 : decode prog_8_method_3_code 22 = .ok (.iconst 0, 1) := by decide +kernel
theorem d_St_isSameAs_23 : decode prog_8_method_3_code 23 = .ok (.ireturn, 1) := by decide +kernel
theorem d_St_isSameAs_24 : decode prog_8_method_3_code 24 = .ok (.iconst 0, 1) := by decide +kernel
theorem d_St_isSameAs_25 : decode prog_8_method_3_code 25 = .ok (.istore_n 2, 1) := by decide +kernel
theorem d_St_isSameAs_26 : decode prog_8_method_3_code 26 = .ok (.iload_n 2, 1) := by decide +kernel
theorem d_St_isSameAs_27 : decode prog_8_method_3_code 27 = .ok (.aload_n 0, 1) := by decide +kernel
theorem d_St_isSameAs_28 : decode prog_8_method_3_code 28 = .ok (.getfield 18, 3) := by decide +kernel
theorem d_St_isSameAs_31 : decode prog_8_method_3_code 31 = .ok (.if_icmp .ge 32, 3) := by decide +kernel
theorem d_St_isSameAs_34 : decode prog_8_method_3_code 34 = .ok (.iload_n 2, 1) := by decide +kernel
theorem d_St_isSameAs_35 : decode prog_8_method_3_code 35 = .ok (.bipush 25, 2) := by decide +kernel
theorem d_St_isSameAs_37 : decode prog_8_method_3_code 37 = .ok (.if_icmp .ge 26, 3) := by decide +kernel
theorem d_St_isSameAs_40 : decode prog_8_method_3_code 40 = .ok (.aload_n 0, 1) := by decide +kernel
theorem d_St_isSameAs_41 : decode prog_8_method_3_code 41 = .ok (.getfield 9, 3) := by decide +kernel
theorem d_St_isSameAs_44 : decode prog_8_method_3_code 44 = .ok (.iload_n 2, 1) := by decide +kernel
theorem d_St_isSameAs_45 : decode prog_8_method_3_code 45 = .ok (.iaload, 1) := by decide +kernel
theorem d_St_isSameAs_46 : decode prog_8_method_3_code 46 = .ok (.aload_n 1, 1) := by decide +kernel
theorem d_St_isSameAs_47 : decode prog_8_method_3_code 47 = .ok (.getfield 9, 3) := by decide +kernel
theorem d_St_isSameAs_50 : decode prog_8_method_3_code 50 = .ok (.iload_n 2, 1) := by decide +kernel
theorem d_St_isSameAs_51 : decode prog_8_method_3_code 51 = .ok (.iaload, 1) := by decide +kernel
theorem d_St_isSameAs_52 : decode prog_8_method_3_code 52 = .ok (.if_icmp .eq 5, 3) := by decide +kernel
theorem d_St_isSameAs_55 : decode prog_8_method_3_code 55 = .ok (.iconst 0, 1) := by decide +kernel
theorem d_St_isSameAs_56 : decode prog_8_method_3_code 56 = .ok (.ireturn, 1) := by decide +kernel
theorem d_St_isSameAs_57 : decode prog_8_method_3_code 57 = .ok (.iinc 2 1, 3) := by decide +kernel
theorem d_St_isSameAs_60 : decode prog_8_method_3_code 60 = .ok (.goto (-34), 3) := by decide +kernel
theorem d_St_isSameAs_63 : decode prog_8_method_3_code 63 = .ok (.iconst 1, 1) := by decide +kernel
theorem d_St_isSameAs_64 : decode prog_8_method_3_code 64 = .ok (.ireturn, 1) := by decide +kernel
theorem M_St_isSameAs : lt_M0 m_St_isSameAs 1 := ⟨lt_m4 17 rfl rfl, lt_m1 11 rfl rfl, ⟨by decide +kernel, by decide +kernel, by decide +kernel⟩, by decide⟩
theorem in_St_isSameAs : Cond.instanceMethod m_St_isSameAs.1 ∈ lt_T := lt_m4 15 rfl rfl
theorem se_St_isSameAs : Cond.selects "LinearSearch$State" m_St_isSameAs.1 m_St_isSameAs.1 ∈ lt_T := lt_m4 16 rfl rfl
abbrev m_St_entryAt : lt_M := (⟨"LinearSearch$State", "entryAt", "(I)I"⟩, prog_8_method_6_code, 2, (some .int))
theorem d_St_entryAt_0 : decode prog_8_method_6_code 0 = .ok (.iload_n 1, 1) := by decide +kernel
theorem d_St_entryAt_1 : decode prog_8_method_6_code 1 = .ok (.ifCond .lt 26, 3) := by decide +kernel
theorem d_St_entryAt_4 : decode prog_8_method_6_code 4 = .ok (.iload_n 1, 1) := by decide +kernel
theorem d_St_entryAt_5 : decode prog_8_method_6_code 5 = .ok (.aload_n 0, 1) := by decide +kernel
theorem d_St_entryAt_6 : decode prog_8_method_6_code 6 = .ok (.getfield 18, 3) := by decide +kernel
theorem d_St_entryAt_9 : decode prog_8_method_6_code 9 = .ok (.if_icmp .ge 18, 3) := by decide +kernel
theorem d_St_entryAt_12 : decode prog_8_method_6_code 12 = .ok (.iload_n 1, 1) := by decide +kernel
theorem d_St_entryAt_13 : decode prog_8_method_6_code 13 = .ok (.bipush 25, 2) := by decide +kernel
theorem d_St_entryAt_15 : decode prog_8_method_6_code 15 = .ok (.if_icmp .ge 12, 3) := by decide +kernel
theorem d_St_entryAt_18 : decode prog_8_method_6_code 18 = .ok (.aload_n 0, 1) := by decide +kernel
theorem d_St_entryAt_19 : decode prog_8_method_6_code 19 = .ok (.getfield 9, 3) := by decide +kernel
theorem d_St_entryAt_22 : decode prog_8_method_6_code 22 = .ok (.iload_n 1, 1) := by decide +kernel
theorem d_St_entryAt_23 : decode prog_8_method_6_code 23 = .ok (.iaload, 1) := by decide +kernel
theorem d_St_entryAt_24 : decode prog_8_method_6_code 24 = .ok (.goto 4, 3) := by decide +kernel
theorem d_St_entryAt_27 : decode prog_8_method_6_code 27 = .ok (.iconst (-1), 1) := by decide +kernel
theorem d_St_entryAt_28 : decode prog_8_method_6_code 28 = .ok (.ireturn, 1) := by decide +kernel
theorem M_St_entryAt : lt_M0 m_St_entryAt 1 := ⟨lt_m4 34 rfl rfl, lt_m1 11 rfl rfl, ⟨by decide +kernel, by decide +kernel, by decide +kernel⟩, by decide⟩
theorem in_St_entryAt : Cond.instanceMethod m_St_entryAt.1 ∈ lt_T := lt_m4 32 rfl rfl
theorem se_St_entryAt : Cond.selects "LinearSearch$State" m_St_entryAt.1 m_St_entryAt.1 ∈ lt_T := lt_m4 33 rfl rfl
abbrev m_St_isOver : lt_M := (⟨"LinearSearch$State", "isOver", "()Z"⟩, prog_8_method_4_code, 1, (some .boolean))
theorem d_St_isOver_0 : decode prog_8_method_4_code 0 = .ok (.aload_n 0, 1) := by decide +kernel
theorem d_St_isOver_1 : decode prog_8_method_4_code 1 = .ok (.getfield 22, 3) := by decide +kernel
theorem d_St_isOver_4 : decode prog_8_method_4_code 4 = .ok (.ifCond .ne 14, 3) := by decide +kernel
theorem d_St_isOver_7 : decode prog_8_method_4_code 7 = .ok (.aload_n 0, 1) := by decide +kernel
theorem d_St_isOver_8 : decode prog_8_method_4_code 8 = .ok (.getfield 18, 3) := by decide +kernel
theorem d_St_isOver_11 : decode prog_8_method_4_code 11 = .ok (.ifCond .ne 7, 3) := by decide +kernel
theorem d_St_isOver_14 : decode prog_8_method_4_code 14 = .ok (.iconst 1, 1) := by decide +kernel
theorem d_St_isOver_15 : decode prog_8_method_4_code 15 = .ok (.goto 4, 3) := by decide +kernel
theorem d_St_isOver_18 : decode prog_8_method_4_code 18 = .ok (.iconst 0, 1) := by decide +kernel
theorem d_St_isOver_19 : decode prog_8_method_4_code 19 = .ok (.ireturn, 1) := by decide +kernel
theorem M_St_isOver : lt_M0 m_St_isOver 0 := ⟨lt_m4 41 rfl rfl, lt_m1 11 rfl rfl, ⟨by decide +kernel, by decide +kernel, by decide +kernel⟩, by decide⟩
theorem in_St_isOver : Cond.instanceMethod m_St_isOver.1 ∈ lt_T := lt_m4 39 rfl rfl
theorem se_St_isOver : Cond.selects "LinearSearch$State" m_St_isOver.1 m_St_isOver.1 ∈ lt_T := lt_m4 40 rfl rfl
abbrev m_St_leadBy : lt_M := (⟨"LinearSearch$State", "leadBy", "(I)I"⟩, prog_8_method_7_code, 2, (some .int))
theorem d_St_leadBy_0 : decode prog_8_method_7_code 0 = .ok (.iload_n 1, 1) := by decide +kernel
theorem d_St_leadBy_1 : decode prog_8_method_7_code 1 = .ok (.ifCond .lt 18, 3) := by decide +kernel
theorem d_St_leadBy_4 : decode prog_8_method_7_code 4 = .ok (.iload_n 1, 1) := by decide +kernel
theorem d_St_leadBy_5 : decode prog_8_method_7_code 5 = .ok (.bipush 8, 2) := by decide +kernel
theorem d_St_leadBy_7 : decode prog_8_method_7_code 7 = .ok (.if_icmp .ge 12, 3) := by decide +kernel
theorem d_St_leadBy_10 : decode prog_8_method_7_code 10 = .ok (.aload_n 0, 1) := by decide +kernel
theorem d_St_leadBy_11 : decode prog_8_method_7_code 11 = .ok (.getfield 15, 3) := by decide +kernel
theorem d_St_leadBy_14 : decode prog_8_method_7_code 14 = .ok (.iload_n 1, 1) := by decide +kernel
theorem d_St_leadBy_15 : decode prog_8_method_7_code 15 = .ok (.iaload, 1) := by decide +kernel
theorem d_St_leadBy_16 : decode prog_8_method_7_code 16 = .ok (.goto 4, 3) := by decide +kernel
theorem d_St_leadBy_19 : decode prog_8_method_7_code 19 = .ok (.iconst (-1), 1) := by decide +kernel
theorem d_St_leadBy_20 : decode prog_8_method_7_code 20 = .ok (.ireturn, 1) := by decide +kernel
theorem M_St_leadBy : lt_M0 m_St_leadBy 1 := ⟨lt_m4 50 rfl rfl, lt_m1 11 rfl rfl, ⟨by decide +kernel, by decide +kernel, by decide +kernel⟩, by decide⟩
theorem in_St_leadBy : Cond.instanceMethod m_St_leadBy.1 ∈ lt_T := lt_m4 48 rfl rfl
theorem se_St_leadBy : Cond.selects "LinearSearch$State" m_St_leadBy.1 m_St_leadBy.1 ∈ lt_T := lt_m4 49 rfl rfl
abbrev m_St_opensNext : lt_M := (⟨"LinearSearch$State", "opensNext", "()Z"⟩, prog_8_method_5_code, 1, (some .boolean))
theorem d_St_opensNext_0 : decode prog_8_method_5_code 0 = .ok (.aload_n 0, 1) := by decide +kernel
theorem d_St_opensNext_1 : decode prog_8_method_5_code 1 = .ok (.getfield 22, 3) := by decide +kernel
theorem d_St_opensNext_4 : decode prog_8_method_5_code 4 = .ok (.ifCond .eq 14, 3) := by decide +kernel
theorem d_St_opensNext_7 : decode prog_8_method_5_code 7 = .ok (.aload_n 0, 1) := by decide +kernel
theorem d_St_opensNext_8 : decode prog_8_method_5_code 8 = .ok (.getfield 26, 3) := by decide +kernel
theorem d_St_opensNext_11 : decode prog_8_method_5_code 11 = .ok (.ifCond .ne 7, 3) := by decide +kernel
theorem d_St_opensNext_14 : decode prog_8_method_5_code 14 = .ok (.iconst 1, 1) := by decide +kernel
theorem d_St_opensNext_15 : decode prog_8_method_5_code 15 = .ok (.goto 4, 3) := by decide +kernel
theorem d_St_opensNext_18 : decode prog_8_method_5_code 18 = .ok (.iconst 0, 1) := by decide +kernel
theorem d_St_opensNext_19 : decode prog_8_method_5_code 19 = .ok (.ireturn, 1) := by decide +kernel
theorem M_St_opensNext : lt_M0 m_St_opensNext 0 := ⟨lt_m4 55 rfl rfl, lt_m1 11 rfl rfl, ⟨by decide +kernel, by decide +kernel, by decide +kernel⟩, by decide⟩
theorem in_St_opensNext : Cond.instanceMethod m_St_opensNext.1 ∈ lt_T := lt_m4 53 rfl rfl
theorem se_St_opensNext : Cond.selects "LinearSearch$State" m_St_opensNext.1 m_St_opensNext.1 ∈ lt_T := lt_m4 54 rfl rfl
abbrev m_St_setLead : lt_M := (⟨"LinearSearch$State", "setLead", "(II)V"⟩, prog_8_method_8_code, 3, none)
theorem d_St_setLead_0 : decode prog_8_method_8_code 0 = .ok (.iload_n 1, 1) := by decide +kernel
theorem d_St_setLead_1 : decode prog_8_method_8_code 1 = .ok (.ifCond .lt 16, 3) := by decide +kernel
theorem d_St_setLead_4 : decode prog_8_method_8_code 4 = .ok (.iload_n 1, 1) := by decide +kernel
theorem d_St_setLead_5 : decode prog_8_method_8_code 5 = .ok (.bipush 8, 2) := by decide +kernel
theorem d_St_setLead_7 : decode prog_8_method_8_code 7 = .ok (.if_icmp .ge 10, 3) := by decide +kernel
theorem d_St_setLead_10 : decode prog_8_method_8_code 10 = .ok (.aload_n 0, 1) := by decide +kernel
theorem d_St_setLead_11 : decode prog_8_method_8_code 11 = .ok (.getfield 15, 3) := by decide +kernel
theorem d_St_setLead_14 : decode prog_8_method_8_code 14 = .ok (.iload_n 1, 1) := by decide +kernel
theorem d_St_setLead_15 : decode prog_8_method_8_code 15 = .ok (.iload_n 2, 1) := by decide +kernel
theorem d_St_setLead_16 : decode prog_8_method_8_code 16 = .ok (.iastore, 1) := by decide +kernel
theorem d_St_setLead_17 : decode prog_8_method_8_code 17 = .ok (.return_, 1) := by decide +kernel
theorem M_St_setLead : lt_M0 m_St_setLead 2 := ⟨lt_m4 59 rfl rfl, lt_m1 11 rfl rfl, ⟨by decide +kernel, by decide +kernel, by decide +kernel⟩, by decide⟩
theorem in_St_setLead : Cond.instanceMethod m_St_setLead.1 ∈ lt_T := lt_m4 57 rfl rfl
theorem se_St_setLead : Cond.selects "LinearSearch$State" m_St_setLead.1 m_St_setLead.1 ∈ lt_T := lt_m4 58 rfl rfl
abbrev m_Fo_ruleAt : lt_M := (⟨"LinearSearch$Follower", "ruleAt", "(ILLinearSearch$Text;)I"⟩, prog_3_method_3_code, 2, (some .int))
theorem d_Fo_ruleAt_0 : decode prog_3_method_3_code 0 = .ok (.iload_n 0, 1) := by decide +kernel
theorem d_Fo_ruleAt_1 : decode prog_3_method_3_code 1 = .ok (.aload_n 1, 1) := by decide +kernel
theorem d_Fo_ruleAt_2 : decode prog_3_method_3_code 2 = .ok (.invokevirtual 50, 3) := by decide +kernel
theorem d_Fo_ruleAt_5 : decode prog_3_method_3_code 5 = .ok (.if_icmp .ne 7, 3) := by decide +kernel
theorem d_Fo_ruleAt_8 : decode prog_3_method_3_code 8 = .ok (.iconst 1, 1) := by decide +kernel
theorem d_Fo_ruleAt_9 : decode prog_3_method_3_code 9 = .ok (.goto 4, 3) := by decide +kernel
theorem d_Fo_ruleAt_12 : decode prog_3_method_3_code 12 = .ok (.iconst 0, 1) := by decide +kernel
theorem d_Fo_ruleAt_13 : decode prog_3_method_3_code 13 = .ok (.ireturn, 1) := by decide +kernel
theorem M_Fo_ruleAt : lt_M0 m_Fo_ruleAt 2 := ⟨lt_m4 71 rfl rfl, lt_m1 5 rfl rfl, ⟨by decide +kernel, by decide +kernel, by decide +kernel⟩, by decide⟩
theorem st_Fo_ruleAt : Cond.static m_Fo_ruleAt.1 ∈ lt_T := lt_m4 70 rfl rfl
abbrev m_TL_slotsAt : lt_M := (⟨"LinearSearch$ThreadList", "slotsAt", "(I)J"⟩, prog_10_method_6_code, 2, (some .long))
theorem d_TL_slotsAt_0 : decode prog_10_method_6_code 0 = .ok (.iload_n 1, 1) := by decide +kernel
theorem d_TL_slotsAt_1 : decode prog_10_method_6_code 1 = .ok (.ifCond .lt 26, 3) := by decide +kernel
theorem d_TL_slotsAt_4 : decode prog_10_method_6_code 4 = .ok (.iload_n 1, 1) := by decide +kernel
theorem d_TL_slotsAt_5 : decode prog_10_method_6_code 5 = .ok (.aload_n 0, 1) := by decide +kernel
theorem d_TL_slotsAt_6 : decode prog_10_method_6_code 6 = .ok (.getfield 19, 3) := by decide +kernel
theorem d_TL_slotsAt_9 : decode prog_10_method_6_code 9 = .ok (.if_icmp .ge 18, 3) := by decide +kernel
theorem d_TL_slotsAt_12 : decode prog_10_method_6_code 12 = .ok (.iload_n 1, 1) := by decide +kernel
theorem d_TL_slotsAt_13 : decode prog_10_method_6_code 13 = .ok (.bipush 25, 2) := by decide +kernel
theorem d_TL_slotsAt_15 : decode prog_10_method_6_code 15 = .ok (.if_icmp .ge 12, 3) := by decide +kernel
theorem d_TL_slotsAt_18 : decode prog_10_method_6_code 18 = .ok (.aload_n 0, 1) := by decide +kernel
theorem d_TL_slotsAt_19 : decode prog_10_method_6_code 19 = .ok (.getfield 15, 3) := by decide +kernel
theorem d_TL_slotsAt_22 : decode prog_10_method_6_code 22 = .ok (.iload_n 1, 1) := by decide +kernel
theorem d_TL_slotsAt_23 : decode prog_10_method_6_code 23 = .ok (.laload, 1) := by decide +kernel
theorem d_TL_slotsAt_24 : decode prog_10_method_6_code 24 = .ok (.goto 4, 3) := by decide +kernel
theorem d_TL_slotsAt_27 : decode prog_10_method_6_code 27 = .ok (.lconst 0, 1) := by decide +kernel
theorem d_TL_slotsAt_28 : decode prog_10_method_6_code 28 = .ok (.lreturn, 1) := by decide +kernel
theorem M_TL_slotsAt : lt_M0 m_TL_slotsAt 1 := ⟨lt_m4 88 rfl rfl, lt_m1 6 rfl rfl, ⟨by decide +kernel, by decide +kernel, by decide +kernel⟩, by decide⟩
theorem in_TL_slotsAt : Cond.instanceMethod m_TL_slotsAt.1 ∈ lt_T := lt_m4 86 rfl rfl
theorem se_TL_slotsAt : Cond.selects "LinearSearch$ThreadList" m_TL_slotsAt.1 m_TL_slotsAt.1 ∈ lt_T := lt_m4 87 rfl rfl
end
section
/-! METHODS: names, code, decode rows, words; printed by wip/whole/gen_methods.py -/
abbrev m_Ls_init : lt_M := (⟨"LinearSearch$Lists", "<init>", "()V"⟩, prog_4_method_1_code, 1, none)
theorem d_Ls_init_0 : decode prog_4_method_1_code 0 = .ok (.aload_n 0, 1) := by decide +kernel
theorem d_Ls_init_1 : decode prog_4_method_1_code 1 = .ok (.invokespecial 3, 3) := by decide +kernel
theorem d_Ls_init_4 : decode prog_4_method_1_code 4 = .ok (.aload_n 0, 1) := by decide +kernel
theorem d_Ls_init_5 : decode prog_4_method_1_code 5 = .ok (.new 9, 3) := by decide +kernel
theorem d_Ls_init_8 : decode prog_4_method_1_code 8 = .ok (.dup, 1) := by decide +kernel
theorem d_Ls_init_9 : decode prog_4_method_1_code 9 = .ok (.invokespecial 11, 3) := by decide +kernel
theorem d_Ls_init_12 : decode prog_4_method_1_code 12 = .ok (.putfield 12, 3) := by decide +kernel
theorem d_Ls_init_15 : decode prog_4_method_1_code 15 = .ok (.aload_n 0, 1) := by decide +kernel
theorem d_Ls_init_16 : decode prog_4_method_1_code 16 = .ok (.new 18, 3) := by decide +kernel
theorem d_Ls_init_19 : decode prog_4_method_1_code 19 = .ok (.dup, 1) := by decide +kernel
theorem d_Ls_init_20 : decode prog_4_method_1_code 20 = .ok (.invokespecial 20, 3) := by decide +kernel
theorem d_Ls_init_23 : decode prog_4_method_1_code 23 = .ok (.putfield 21, 3) := by decide +kernel
theorem d_Ls_init_26 : decode prog_4_method_1_code 26 = .ok (.aload_n 0, 1) := by decide +kernel
theorem d_Ls_init_27 : decode prog_4_method_1_code 27 = .ok (.new 18, 3) := by decide +kernel
theorem d_Ls_init_30 : decode prog_4_method_1_code 30 = .ok (.dup, 1) := by decide +kernel
theorem d_Ls_init_31 : decode prog_4_method_1_code 31 = .ok (.invokespecial 20, 3) := by decide +kernel
theorem d_Ls_init_34 : decode prog_4_method_1_code 34 = .ok (.putfield 25, 3) := by decide +kernel
theorem d_Ls_init_37 : decode prog_4_method_1_code 37 = .ok (.return_, 1) := by decide +kernel
theorem M_Ls_init : lt_M0 m_Ls_init 0 := ⟨lt_m1 70 rfl rfl, lt_m1 4 rfl rfl, ⟨by decide +kernel, by decide +kernel, by decide +kernel⟩, by decide⟩
theorem in_Ls_init : Cond.instanceMethod m_Ls_init.1 ∈ lt_T := lt_m1 69 rfl rfl
abbrev m_Ma_init : lt_M := (⟨"LinearSearch$Marks", "<init>", "()V"⟩, prog_5_method_1_code, 1, none)
theorem d_Ma_init_0 : decode prog_5_method_1_code 0 = .ok (.aload_n 0, 1) := by decide +kernel
theorem d_Ma_init_1 : decode prog_5_method_1_code 1 = .ok (.invokespecial 3, 3) := by decide +kernel
theorem d_Ma_init_4 : decode prog_5_method_1_code 4 = .ok (.aload_n 0, 1) := by decide +kernel
theorem d_Ma_init_5 : decode prog_5_method_1_code 5 = .ok (.bipush 21, 2) := by decide +kernel
theorem d_Ma_init_7 : decode prog_5_method_1_code 7 = .ok (.newarray .long, 2) := by decide +kernel
theorem d_Ma_init_9 : decode prog_5_method_1_code 9 = .ok (.putfield 9, 3) := by decide +kernel
theorem d_Ma_init_12 : decode prog_5_method_1_code 12 = .ok (.aload_n 0, 1) := by decide +kernel
theorem d_Ma_init_13 : decode prog_5_method_1_code 13 = .ok (.sipush 505, 3) := by decide +kernel
theorem d_Ma_init_16 : decode prog_5_method_1_code 16 = .ok (.newarray .int, 2) := by decide +kernel
theorem d_Ma_init_18 : decode prog_5_method_1_code 18 = .ok (.putfield 15, 3) := by decide +kernel
theorem d_Ma_init_21 : decode prog_5_method_1_code 21 = .ok (.aload_n 0, 1) := by decide +kernel
theorem d_Ma_init_22 : decode prog_5_method_1_code 22 = .ok (.sipush 505, 3) := by decide +kernel
theorem d_Ma_init_25 : decode prog_5_method_1_code 25 = .ok (.newarray .int, 2) := by decide +kernel
theorem d_Ma_init_27 : decode prog_5_method_1_code 27 = .ok (.putfield 19, 3) := by decide +kernel
theorem d_Ma_init_30 : decode prog_5_method_1_code 30 = .ok (.aload_n 0, 1) := by decide +kernel
theorem d_Ma_init_31 : decode prog_5_method_1_code 31 = .ok (.sipush 505, 3) := by decide +kernel
theorem d_Ma_init_34 : decode prog_5_method_1_code 34 = .ok (.newarray .long, 2) := by decide +kernel
theorem d_Ma_init_36 : decode prog_5_method_1_code 36 = .ok (.putfield 22, 3) := by decide +kernel
theorem d_Ma_init_39 : decode prog_5_method_1_code 39 = .ok (.return_, 1) := by decide +kernel
theorem M_Ma_init : lt_M0 m_Ma_init 0 := ⟨lt_m1 140 rfl rfl, lt_m1 7 rfl rfl, ⟨by decide +kernel, by decide +kernel, by decide +kernel⟩, by decide⟩
theorem in_Ma_init : Cond.instanceMethod m_Ma_init.1 ∈ lt_T := lt_m1 139 rfl rfl
abbrev m_Si_init : lt_M := (⟨"LinearSearch$Single", "<init>", "()V"⟩, prog_7_method_1_code, 1, none)
theorem d_Si_init_0 : decode prog_7_method_1_code 0 = .ok (.aload_n 0, 1) := by decide +kernel
theorem d_Si_init_1 : decode prog_7_method_1_code 1 = .ok (.invokespecial 3, 3) := by decide +kernel
theorem d_Si_init_4 : decode prog_7_method_1_code 4 = .ok (.aload_n 0, 1) := by decide +kernel
theorem d_Si_init_5 : decode prog_7_method_1_code 5 = .ok (.new 9, 3) := by decide +kernel
theorem d_Si_init_8 : decode prog_7_method_1_code 8 = .ok (.dup, 1) := by decide +kernel
theorem d_Si_init_9 : decode prog_7_method_1_code 9 = .ok (.invokespecial 11, 3) := by decide +kernel
theorem d_Si_init_12 : decode prog_7_method_1_code 12 = .ok (.putfield 12, 3) := by decide +kernel
theorem d_Si_init_15 : decode prog_7_method_1_code 15 = .ok (.aload_n 0, 1) := by decide +kernel
theorem d_Si_init_16 : decode prog_7_method_1_code 16 = .ok (.new 18, 3) := by decide +kernel
theorem d_Si_init_19 : decode prog_7_method_1_code 19 = .ok (.dup, 1) := by decide +kernel
theorem d_Si_init_20 : decode prog_7_method_1_code 20 = .ok (.invokespecial 20, 3) := by decide +kernel
theorem d_Si_init_23 : decode prog_7_method_1_code 23 = .ok (.putfield 21, 3) := by decide +kernel
theorem d_Si_init_26 : decode prog_7_method_1_code 26 = .ok (.return_, 1) := by decide +kernel
theorem M_Si_init : lt_M0 m_Si_init 0 := ⟨lt_m1 171 rfl rfl, lt_m1 8 rfl rfl, ⟨by decide +kernel, by decide +kernel, by decide +kernel⟩, by decide⟩
theorem in_Si_init : Cond.instanceMethod m_Si_init.1 ∈ lt_T := lt_m1 170 rfl rfl
abbrev m_Au_init : lt_M := (⟨"LinearSearch$Automaton", "<init>", "(I)V"⟩, prog_2_method_1_code, 3, none)
theorem d_Au_init_0 : decode prog_2_method_1_code 0 = .ok (.aload_n 0, 1) := by decide +kernel
theorem d_Au_init_1 : decode prog_2_method_1_code 1 = .ok (.invokespecial 3, 3) := by decide +kernel
theorem d_Au_init_4 : decode prog_2_method_1_code 4 = .ok (.aload_n 0, 1) := by decide +kernel
theorem d_Au_init_5 : decode prog_2_method_1_code 5 = .ok (.new 9, 3) := by decide +kernel
theorem d_Au_init_8 : decode prog_2_method_1_code 8 = .ok (.dup, 1) := by decide +kernel
theorem d_Au_init_9 : decode prog_2_method_1_code 9 = .ok (.invokespecial 11, 3) := by decide +kernel
theorem d_Au_init_12 : decode prog_2_method_1_code 12 = .ok (.putfield 12, 3) := by decide +kernel
theorem d_Au_init_15 : decode prog_2_method_1_code 15 = .ok (.aload_n 0, 1) := by decide +kernel
theorem d_Au_init_16 : decode prog_2_method_1_code 16 = .ok (.new 18, 3) := by decide +kernel
theorem d_Au_init_19 : decode prog_2_method_1_code 19 = .ok (.dup, 1) := by decide +kernel
theorem d_Au_init_20 : decode prog_2_method_1_code 20 = .ok (.invokespecial 20, 3) := by decide +kernel
theorem d_Au_init_23 : decode prog_2_method_1_code 23 = .ok (.putfield 21, 3) := by decide +kernel
theorem d_Au_init_26 : decode prog_2_method_1_code 26 = .ok (.aload_n 0, 1) := by decide +kernel
theorem d_Au_init_27 : decode prog_2_method_1_code 27 = .ok (.new 25, 3) := by decide +kernel
theorem d_Au_init_30 : decode prog_2_method_1_code 30 = .ok (.dup, 1) := by decide +kernel
theorem d_Au_init_31 : decode prog_2_method_1_code 31 = .ok (.invokespecial 27, 3) := by decide +kernel
theorem d_Au_init_34 : decode prog_2_method_1_code 34 = .ok (.putfield 28, 3) := by decide +kernel
theorem d_Au_init_37 : decode prog_2_method_1_code 37 = .ok (.aload_n 0, 1) := by decide +kernel
theorem d_Au_init_38 : decode prog_2_method_1_code 38 = .ok (.iload_n 1, 1) := by decide +kernel
theorem d_Au_init_39 : decode prog_2_method_1_code 39 = .ok (.iconst 1, 1) := by decide +kernel
theorem d_Au_init_40 : decode prog_2_method_1_code 40 = .ok (.invokestatic 32, 3) := by decide +kernel
theorem d_Au_init_43 : decode prog_2_method_1_code 43 = .ok (.anewarray 25, 3) := by decide +kernel
theorem d_Au_init_46 : decode prog_2_method_1_code 46 = .ok (.putfield 38, 3) := by decide +kernel
theorem d_Au_init_49 : decode prog_2_method_1_code 49 = .ok (.iconst 0, 1) := by decide +kernel
theorem d_Au_init_50 : decode prog_2_method_1_code 50 = .ok (.istore_n 2, 1) := by decide +kernel
theorem d_Au_init_51 : decode prog_2_method_1_code 51 = .ok (.iload_n 2, 1) := by decide +kernel
theorem d_Au_init_52 : decode prog_2_method_1_code 52 = .ok (.aload_n 0, 1) := by decide +kernel
theorem d_Au_init_53 : decode prog_2_method_1_code 53 = .ok (.getfield 38, 3) := by decide +kernel
theorem d_Au_init_56 : decode prog_2_method_1_code 56 = .ok (.arraylength, 1) := by decide +kernel
theorem d_Au_init_57 : decode prog_2_method_1_code 57 = .ok (.if_icmp .ge 22, 3) := by decide +kernel
theorem d_Au_init_60 : decode prog_2_method_1_code 60 = .ok (.aload_n 0, 1) := by decide +kernel
theorem d_Au_init_61 : decode prog_2_method_1_code 61 = .ok (.getfield 38, 3) := by decide +kernel
theorem d_Au_init_64 : decode prog_2_method_1_code 64 = .ok (.iload_n 2, 1) := by decide +kernel
theorem d_Au_init_65 : decode prog_2_method_1_code 65 = .ok (.new 25, 3) := by decide +kernel
theorem d_Au_init_68 : decode prog_2_method_1_code 68 = .ok (.dup, 1) := by decide +kernel
theorem d_Au_init_69 : decode prog_2_method_1_code 69 = .ok (.invokespecial 27, 3) := by decide +kernel
theorem d_Au_init_72 : decode prog_2_method_1_code 72 = .ok (.aastore, 1) := by decide +kernel
theorem d_Au_init_73 : decode prog_2_method_1_code 73 = .ok (.iinc 2 1, 3) := by decide +kernel
theorem d_Au_init_76 : decode prog_2_method_1_code 76 = .ok (.goto (-25), 3) := by decide +kernel
theorem d_Au_init_79 : decode prog_2_method_1_code 79 = .ok (.return_, 1) := by decide +kernel
theorem M_Au_init : lt_M0 m_Au_init 1 := ⟨lt_m1 219 rfl rfl, lt_m1 10 rfl rfl, ⟨by decide +kernel, by decide +kernel, by decide +kernel⟩, by decide⟩
theorem in_Au_init : Cond.instanceMethod m_Au_init.1 ∈ lt_T := lt_m1 218 rfl rfl
abbrev m_Au_keptCount : lt_M := (⟨"LinearSearch$Automaton", "keptCount", "()I"⟩, prog_2_method_3_code, 1, (some .int))
theorem d_Au_keptCount_0 : decode prog_2_method_3_code 0 = .ok (.aload_n 0, 1) := by decide +kernel
theorem d_Au_keptCount_1 : decode prog_2_method_3_code 1 = .ok (.getfield 42, 3) := by decide +kernel
theorem d_Au_keptCount_4 : decode prog_2_method_3_code 4 = .ok (.ireturn, 1) := by decide +kernel
theorem M_Au_keptCount : lt_M0 m_Au_keptCount 0 := ⟨lt_m2 128 rfl rfl, lt_m1 10 rfl rfl, ⟨by decide +kernel, by decide +kernel, by decide +kernel⟩, by decide⟩
theorem in_Au_keptCount : Cond.instanceMethod m_Au_keptCount.1 ∈ lt_T := lt_m2 126 rfl rfl
theorem se_Au_keptCount : Cond.selects "LinearSearch$Automaton" m_Au_keptCount.1 m_Au_keptCount.1 ∈ lt_T := lt_m2 127 rfl rfl
abbrev m_Au_flushCount : lt_M := (⟨"LinearSearch$Automaton", "flushCount", "()I"⟩, prog_2_method_4_code, 1, (some .int))
theorem d_Au_flushCount_0 : decode prog_2_method_4_code 0 = .ok (.aload_n 0, 1) := by decide +kernel
theorem d_Au_flushCount_1 : decode prog_2_method_4_code 1 = .ok (.getfield 46, 3) := by decide +kernel
theorem d_Au_flushCount_4 : decode prog_2_method_4_code 4 = .ok (.ireturn, 1) := by decide +kernel
theorem M_Au_flushCount : lt_M0 m_Au_flushCount 0 := ⟨lt_m2 136 rfl rfl, lt_m1 10 rfl rfl, ⟨by decide +kernel, by decide +kernel, by decide +kernel⟩, by decide⟩
theorem in_Au_flushCount : Cond.instanceMethod m_Au_flushCount.1 ∈ lt_T := lt_m2 134 rfl rfl
theorem se_Au_flushCount : Cond.selects "LinearSearch$Automaton" m_Au_flushCount.1 m_Au_flushCount.1 ∈ lt_T := lt_m2 135 rfl rfl
abbrev m_Si_fits : lt_M := (⟨"LinearSearch$Single", "fits", "(LLinearSearch$Program;)Z"⟩, prog_7_method_3_code, 3, (some .boolean))
theorem d_Si_fits_0 : decode prog_7_method_3_code 0 = .ok (.aload_n 1, 1) := by decide +kernel
theorem d_Si_fits_1 : decode prog_7_method_3_code 1 = .ok (.iconst 0, 1) := by decide +kernel
theorem d_Si_fits_2 : decode prog_7_method_3_code 2 = .ok (.invokevirtual 29, 3) := by decide +kernel
theorem d_Si_fits_5 : decode prog_7_method_3_code 5 = .ok (.iconst 5, 1) := by decide +kernel
theorem d_Si_fits_6 : decode prog_7_method_3_code 6 = .ok (.if_icmp .eq 5, 3) := by decide +kernel
theorem d_Si_fits_9 : decode prog_7_method_3_code 9 = .ok (.iconst 0, 1) := by decide +kernel
theorem d_Si_fits_10 : decode prog_7_method_3_code 10 = .ok (.ireturn, 1) := by decide +kernel
theorem d_Si_fits_11 : decode prog_7_method_3_code 11 = .ok (.iconst 0, 1) := by decide +kernel
theorem d_Si_fits_12 : decode prog_7_method_3_code 12 = .ok (.istore_n 2, 1) := by decide +kernel
theorem d_Si_fits_13 : decode prog_7_method_3_code 13 = .ok (.iload_n 2, 1) := by decide +kernel
theorem d_Si_fits_14 : decode prog_7_method_3_code 14 = .ok (.aload_n 1, 1) := by decide +kernel
theorem d_Si_fits_15 : decode prog_7_method_3_code 15 = .ok (.invokevirtual 35, 3) := by decide +kernel
theorem d_Si_fits_18 : decode prog_7_method_3_code 18 = .ok (.if_icmp .ge 34, 3) := by decide +kernel
theorem d_Si_fits_21 : decode prog_7_method_3_code 21 = .ok (.iload_n 2, 1) := by decide +kernel
theorem d_Si_fits_22 : decode prog_7_method_3_code 22 = .ok (.ifCond .eq 13, 3) := by decide +kernel
theorem d_Si_fits_25 : decode prog_7_method_3_code 25 = .ok (.aload_n 1, 1) := by decide +kernel
theorem d_Si_fits_26 : decode prog_7_method_3_code 26 = .ok (.iload_n 2, 1) := by decide +kernel
theorem d_Si_fits_27 : decode prog_7_method_3_code 27 = .ok (.iconst 1, 1) := by decide +kernel
theorem d_Si_fits_28 : decode prog_7_method_3_code 28 = .ok (.isub, 1) := by decide +kernel
theorem d_Si_fits_29 : decode prog_7_method_3_code 29 = .ok (.invokevirtual 39, 3) := by decide +kernel
theorem d_Si_fits_32 : decode prog_7_method_3_code 32 = .ok (.ifCond .eq 14, 3) := by decide +kernel
theorem d_Si_fits_35 : decode prog_7_method_3_code 35 = .ok (.aload_n 0, 1) := by decide +kernel
theorem d_Si_fits_36 : decode prog_7_method_3_code 36 = .ok (.aload_n 1, 1) := by decide +kernel
theorem d_Si_fits_37 : decode prog_7_method_3_code 37 = .ok (.iload_n 2, 1) := by decide +kernel
theorem d_Si_fits_38 : decode prog_7_method_3_code 38 = .ok (.invokevirtual 43, 3) := by decide +kernel
theorem d_Si_fits_41 : decode prog_7_method_3_code 41 = .ok (.ifCond .ne 5, 3) := by decide +kernel
theorem d_Si_fits_44 : decode prog_7_method_3_code 44 = .ok (.iconst 0, 1) := by decide +kernel
theorem d_Si_fits_45 : decode prog_7_method_3_code 45 = .ok (.ireturn, 1) := by decide +kernel
theorem d_Si_fits_46 : decode prog_7_method_3_code 46 = .ok (.iinc 2 1, 3) := by decide +kernel
theorem d_Si_fits_49 : decode prog_7_method_3_code 49 = .ok (.goto (-36), 3) := by decide +kernel
theorem d_Si_fits_52 : decode prog_7_method_3_code 52 = .ok (.iconst 1, 1) := by decide +kernel
theorem d_Si_fits_53 : decode prog_7_method_3_code 53 = .ok (.ireturn, 1) := by decide +kernel
theorem M_Si_fits : lt_M0 m_Si_fits 1 := ⟨lt_m3 41 rfl rfl, lt_m1 8 rfl rfl, ⟨by decide +kernel, by decide +kernel, by decide +kernel⟩, by decide⟩
theorem in_Si_fits : Cond.instanceMethod m_Si_fits.1 ∈ lt_T := lt_m3 39 rfl rfl
theorem se_Si_fits : Cond.selects "LinearSearch$Single" m_Si_fits.1 m_Si_fits.1 ∈ lt_T := lt_m3 40 rfl rfl
abbrev m_Si_isPlainFrom : lt_M := (⟨"LinearSearch$Single", "isPlainFrom", "(LLinearSearch$Program;I)Z"⟩, prog_7_method_4_code, 9, (some .boolean))
theorem d_Si_isPlainFrom_0 : decode prog_7_method_4_code 0 = .ok (.aload_n 0, 1) := by decide +kernel
theorem d_Si_isPlainFrom_1 : decode prog_7_method_4_code 1 = .ok (.getfield 12, 3) := by decide +kernel
theorem d_Si_isPlainFrom_4 : decode prog_7_method_4_code 4 = .ok (.aload_n 1, 1) := by decide +kernel
theorem d_Si_isPlainFrom_5 : decode prog_7_method_4_code 5 = .ok (.aload_n 0, 1) := by decide +kernel
theorem d_Si_isPlainFrom_6 : decode prog_7_method_4_code 6 = .ok (.getfield 21, 3) := by decide +kernel
theorem d_Si_isPlainFrom_9 : decode prog_7_method_4_code 9 = .ok (.iconst 0, 1) := by decide +kernel
theorem d_Si_isPlainFrom_10 : decode prog_7_method_4_code 10 = .ok (.iconst 1, 1) := by decide +kernel
theorem d_Si_isPlainFrom_11 : decode prog_7_method_4_code 11 = .ok (.invokevirtual 47, 3) := by decide +kernel
theorem d_Si_isPlainFrom_14 : decode prog_7_method_4_code 14 = .ok (.aload_n 0, 1) := by decide +kernel
theorem d_Si_isPlainFrom_15 : decode prog_7_method_4_code 15 = .ok (.getfield 12, 3) := by decide +kernel
theorem d_Si_isPlainFrom_18 : decode prog_7_method_4_code 18 = .ok (.iload_n 2, 1) := by decide +kernel
theorem d_Si_isPlainFrom_19 : decode prog_7_method_4_code 19 = .ok (.lconst 0, 1) := by decide +kernel
theorem d_Si_isPlainFrom_20 : decode prog_7_method_4_code 20 = .ok (.invokevirtual 51, 3) := by decide +kernel
theorem d_Si_isPlainFrom_23 : decode prog_7_method_4_code 23 = .ok (.aload_n 0, 1) := by decide +kernel
theorem d_Si_isPlainFrom_24 : decode prog_7_method_4_code 24 = .ok (.getfield 12, 3) := by decide +kernel
theorem d_Si_isPlainFrom_27 : decode prog_7_method_4_code 27 = .ok (.invokevirtual 55, 3) := by decide +kernel
theorem d_Si_isPlainFrom_30 : decode prog_7_method_4_code 30 = .ok (.ifCond .eq 5, 3) := by decide +kernel
theorem d_Si_isPlainFrom_33 : decode prog_7_method_4_code 33 = .ok (.iconst 0, 1) := by decide +kernel
theorem d_Si_isPlainFrom_34 : decode prog_7_method_4_code 34 = .ok (.ireturn, 1) := by decide +kernel
theorem d_Si_isPlainFrom_35 : decode prog_7_method_4_code 35 = .ok (.iconst 0, 1) := by decide +kernel
theorem d_Si_isPlainFrom_36 : decode prog_7_method_4_code 36 = .ok (.istore_n 3, 1) := by decide +kernel
theorem d_Si_isPlainFrom_37 : decode prog_7_method_4_code 37 = .ok (.iconst 0, 1) := by decide +kernel
theorem d_Si_isPlainFrom_38 : decode prog_7_method_4_code 38 = .ok (.istore 4, 2) := by decide +kernel
theorem d_Si_isPlainFrom_40 : decode prog_7_method_4_code 40 = .ok (.iconst 0, 1) := by decide +kernel
theorem d_Si_isPlainFrom_41 : decode prog_7_method_4_code 41 = .ok (.istore 5, 2) := by decide +kernel
theorem d_Si_isPlainFrom_43 : decode prog_7_method_4_code 43 = .ok (.iconst 0, 1) := by decide +kernel
theorem d_Si_isPlainFrom_44 : decode prog_7_method_4_code 44 = .ok (.istore 6, 2) := by decide +kernel
theorem d_Si_isPlainFrom_46 : decode prog_7_method_4_code 46 = .ok (.iload 6, 2) := by decide +kernel
theorem d_Si_isPlainFrom_48 : decode prog_7_method_4_code 48 = .ok (.aload_n 0, 1) := by decide +kernel
theorem d_Si_isPlainFrom_49 : decode prog_7_method_4_code 49 = .ok (.getfield 21, 3) := by decide +kernel
theorem d_Si_isPlainFrom_52 : decode prog_7_method_4_code 52 = .ok (.invokevirtual 59, 3) := by decide +kernel
theorem d_Si_isPlainFrom_55 : decode prog_7_method_4_code 55 = .ok (.if_icmp .ge 78, 3) := by decide +kernel
theorem d_Si_isPlainFrom_58 : decode prog_7_method_4_code 58 = .ok (.aload_n 0, 1) := by decide +kernel
theorem d_Si_isPlainFrom_59 : decode prog_7_method_4_code 59 = .ok (.getfield 21, 3) := by decide +kernel
theorem d_Si_isPlainFrom_62 : decode prog_7_method_4_code 62 = .ok (.iload 6, 2) := by decide +kernel
theorem d_Si_isPlainFrom_64 : decode prog_7_method_4_code 64 = .ok (.invokevirtual 60, 3) := by decide +kernel
theorem d_Si_isPlainFrom_67 : decode prog_7_method_4_code 67 = .ok (.istore 7, 2) := by decide +kernel
theorem d_Si_isPlainFrom_69 : decode prog_7_method_4_code 69 = .ok (.aload_n 1, 1) := by decide +kernel
theorem d_Si_isPlainFrom_70 : decode prog_7_method_4_code 70 = .ok (.iload 7, 2) := by decide +kernel
theorem d_Si_isPlainFrom_72 : decode prog_7_method_4_code 72 = .ok (.invokevirtual 39, 3) := by decide +kernel
theorem d_Si_isPlainFrom_75 : decode prog_7_method_4_code 75 = .ok (.ifCond .ne 6, 3) := by decide +kernel
theorem d_Si_isPlainFrom_78 : decode prog_7_method_4_code 78 = .ok (.goto 49, 3) := by decide +kernel
theorem d_Si_isPlainFrom_81 : decode prog_7_method_4_code 81 = .ok (.iinc 3 1, 3) := by decide +kernel
theorem d_Si_isPlainFrom_84 : decode prog_7_method_4_code 84 = .ok (.aload_n 1, 1) := by decide +kernel
theorem d_Si_isPlainFrom_85 : decode prog_7_method_4_code 85 = .ok (.iload 7, 2) := by decide +kernel
theorem d_Si_isPlainFrom_87 : decode prog_7_method_4_code 87 = .ok (.invokevirtual 29, 3) := by decide +kernel
theorem d_Si_isPlainFrom_90 : decode prog_7_method_4_code 90 = .ok (.iconst 1, 1) := by decide +kernel
theorem d_Si_isPlainFrom_91 : decode prog_7_method_4_code 91 = .ok (.if_icmp .ne 9, 3) := by decide +kernel
theorem d_Si_isPlainFrom_94 : decode prog_7_method_4_code 94 = .ok (.iinc 4 1, 3) := by decide +kernel
theorem d_Si_isPlainFrom_97 : decode prog_7_method_4_code 97 = .ok (.goto 30, 3) := by decide +kernel
theorem d_Si_isPlainFrom_100 : decode prog_7_method_4_code 100 = .ok (.iconst 1, 1) := by decide +kernel
theorem d_Si_isPlainFrom_101 : decode prog_7_method_4_code 101 = .ok (.aload_n 1, 1) := by decide +kernel
theorem d_Si_isPlainFrom_102 : decode prog_7_method_4_code 102 = .ok (.iload 7, 2) := by decide +kernel
theorem d_Si_isPlainFrom_104 : decode prog_7_method_4_code 104 = .ok (.invokevirtual 63, 3) := by decide +kernel
theorem d_Si_isPlainFrom_107 : decode prog_7_method_4_code 107 = .ok (.ishl, 1) := by decide +kernel
theorem d_Si_isPlainFrom_108 : decode prog_7_method_4_code 108 = .ok (.istore 8, 2) := by decide +kernel
theorem d_Si_isPlainFrom_110 : decode prog_7_method_4_code 110 = .ok (.iload 5, 2) := by decide +kernel
theorem d_Si_isPlainFrom_112 : decode prog_7_method_4_code 112 = .ok (.iload 8, 2) := by decide +kernel
theorem d_Si_isPlainFrom_114 : decode prog_7_method_4_code 114 = .ok (.iand, 1) := by decide +kernel
theorem d_Si_isPlainFrom_115 : decode prog_7_method_4_code 115 = .ok (.ifCond .eq 5, 3) := by decide +kernel
theorem d_Si_isPlainFrom_118 : decode prog_7_method_4_code 118 = .ok (.iconst 0, 1) := by decide +kernel
theorem d_Si_isPlainFrom_119 : decode prog_7_method_4_code 119 = .ok (.ireturn, 1) := by decide +kernel
theorem d_Si_isPlainFrom_120 : decode prog_7_method_4_code 120 = .ok (.iload 5, 2) := by decide +kernel
theorem d_Si_isPlainFrom_122 : decode prog_7_method_4_code 122 = .ok (.iload 8, 2) := by decide +kernel
theorem d_Si_isPlainFrom_124 : decode prog_7_method_4_code 124 = .ok (.ior, 1) := by decide +kernel
theorem d_Si_isPlainFrom_125 : decode prog_7_method_4_code 125 = .ok (.istore 5, 2) := by decide +kernel
theorem d_Si_isPlainFrom_127 : decode prog_7_method_4_code 127 = .ok (.iinc 6 1, 3) := by decide +kernel
theorem d_Si_isPlainFrom_130 : decode prog_7_method_4_code 130 = .ok (.goto (-84), 3) := by decide +kernel
theorem d_Si_isPlainFrom_133 : decode prog_7_method_4_code 133 = .ok (.iload 4, 2) := by decide +kernel
theorem d_Si_isPlainFrom_135 : decode prog_7_method_4_code 135 = .ok (.ifCond .eq 8, 3) := by decide +kernel
theorem d_Si_isPlainFrom_138 : decode prog_7_method_4_code 138 = .ok (.iload_n 3, 1) := by decide +kernel
theorem d_Si_isPlainFrom_139 : decode prog_7_method_4_code 139 = .ok (.iconst 1, 1) := by decide +kernel
theorem d_Si_isPlainFrom_140 : decode prog_7_method_4_code 140 = .ok (.if_icmp .ne 7, 3) := by decide +kernel
theorem d_Si_isPlainFrom_143 : decode prog_7_method_4_code 143 = .ok (.iconst 1, 1) := by decide +kernel
theorem d_Si_isPlainFrom_144 : decode prog_7_method_4_code 144 = .ok (.goto 4, 3) := by decide +kernel
theorem d_Si_isPlainFrom_147 : decode prog_7_method_4_code 147 = .ok (.iconst 0, 1) := by decide +kernel
theorem d_Si_isPlainFrom_148 : decode prog_7_method_4_code 148 = .ok (.ireturn, 1) := by decide +kernel
theorem M_Si_isPlainFrom : lt_M0 m_Si_isPlainFrom 2 := ⟨lt_m3 55 rfl rfl, lt_m1 8 rfl rfl, ⟨by decide +kernel, by decide +kernel, by decide +kernel⟩, by decide⟩
theorem in_Si_isPlainFrom : Cond.instanceMethod m_Si_isPlainFrom.1 ∈ lt_T := lt_m3 54 rfl rfl
theorem se_Si_isPlainFrom : Cond.selects "LinearSearch$Single" m_Si_isPlainFrom.1 m_Si_isPlainFrom.1 ∈ lt_T := lt_memS 10 rfl rfl
abbrev m_Au_reset : lt_M := (⟨"LinearSearch$Automaton", "reset", "()V"⟩, prog_2_method_2_code, 1, none)
theorem d_Au_reset_0 : decode prog_2_method_2_code 0 = .ok (.aload_n 0, 1) := by decide +kernel
theorem d_Au_reset_1 : decode prog_2_method_2_code 1 = .ok (.iconst 0, 1) := by decide +kernel
theorem d_Au_reset_2 : decode prog_2_method_2_code 2 = .ok (.putfield 42, 3) := by decide +kernel
theorem d_Au_reset_5 : decode prog_2_method_2_code 5 = .ok (.aload_n 0, 1) := by decide +kernel
theorem d_Au_reset_6 : decode prog_2_method_2_code 6 = .ok (.iconst 0, 1) := by decide +kernel
theorem d_Au_reset_7 : decode prog_2_method_2_code 7 = .ok (.putfield 46, 3) := by decide +kernel
theorem d_Au_reset_10 : decode prog_2_method_2_code 10 = .ok (.return_, 1) := by decide +kernel
theorem M_Au_reset : lt_M0 m_Au_reset 0 := ⟨lt_m3 110 rfl rfl, lt_m1 10 rfl rfl, ⟨by decide +kernel, by decide +kernel, by decide +kernel⟩, by decide⟩
theorem in_Au_reset : Cond.instanceMethod m_Au_reset.1 ∈ lt_T := lt_m3 108 rfl rfl
theorem se_Au_reset : Cond.selects "LinearSearch$Automaton" m_Au_reset.1 m_Au_reset.1 ∈ lt_T := lt_m3 109 rfl rfl
abbrev m_Ma_find : lt_M := (⟨"LinearSearch$Marks", "find", "(LLinearSearch$Program;LLinearSearch$Text;)J"⟩, prog_5_method_3_code, 6, (some .long))
theorem d_Ma_find_0 : decode prog_5_method_3_code 0 = .ok (.aload_n 0, 1) := by decide +kernel
theorem d_Ma_find_1 : decode prog_5_method_3_code 1 = .ok (.aload_n 1, 1) := by decide +kernel
theorem d_Ma_find_2 : decode prog_5_method_3_code 2 = .ok (.putfield 29, 3) := by decide +kernel
theorem d_Ma_find_5 : decode prog_5_method_3_code 5 = .ok (.aload_n 0, 1) := by decide +kernel
theorem d_Ma_find_6 : decode prog_5_method_3_code 6 = .ok (.aload_n 2, 1) := by decide +kernel
theorem d_Ma_find_7 : decode prog_5_method_3_code 7 = .ok (.putfield 33, 3) := by decide +kernel
theorem d_Ma_find_10 : decode prog_5_method_3_code 10 = .ok (.aload_n 0, 1) := by decide +kernel
theorem d_Ma_find_11 : decode prog_5_method_3_code 11 = .ok (.iconst 0, 1) := by decide +kernel
theorem d_Ma_find_12 : decode prog_5_method_3_code 12 = .ok (.putfield 25, 3) := by decide +kernel
theorem d_Ma_find_15 : decode prog_5_method_3_code 15 = .ok (.aload_n 0, 1) := by decide +kernel
theorem d_Ma_find_16 : decode prog_5_method_3_code 16 = .ok (.getfield 9, 3) := by decide +kernel
theorem d_Ma_find_19 : decode prog_5_method_3_code 19 = .ok (.lconst 0, 1) := by decide +kernel
theorem d_Ma_find_20 : decode prog_5_method_3_code 20 = .ok (.invokestatic 37, 3) := by decide +kernel
theorem d_Ma_find_23 : decode prog_5_method_3_code 23 = .ok (.iconst 0, 1) := by decide +kernel
theorem d_Ma_find_24 : decode prog_5_method_3_code 24 = .ok (.istore_n 3, 1) := by decide +kernel
theorem d_Ma_find_25 : decode prog_5_method_3_code 25 = .ok (.iload_n 3, 1) := by decide +kernel
theorem d_Ma_find_26 : decode prog_5_method_3_code 26 = .ok (.aload_n 0, 1) := by decide +kernel
theorem d_Ma_find_27 : decode prog_5_method_3_code 27 = .ok (.getfield 33, 3) := by decide +kernel
theorem d_Ma_find_30 : decode prog_5_method_3_code 30 = .ok (.invokevirtual 43, 3) := by decide +kernel
theorem d_Ma_find_33 : decode prog_5_method_3_code 33 = .ok (.if_icmp .gt 26, 3) := by decide +kernel
theorem d_Ma_find_36 : decode prog_5_method_3_code 36 = .ok (.aload_n 0, 1) := by decide +kernel
theorem d_Ma_find_37 : decode prog_5_method_3_code 37 = .ok (.iload_n 3, 1) := by decide +kernel
theorem d_Ma_find_38 : decode prog_5_method_3_code 38 = .ok (.invokevirtual 49, 3) := by decide +kernel
theorem d_Ma_find_41 : decode prog_5_method_3_code 41 = .ok (.lstore 4, 2) := by decide +kernel
theorem d_Ma_find_43 : decode prog_5_method_3_code 43 = .ok (.lload 4, 2) := by decide +kernel
theorem d_Ma_find_45 : decode prog_5_method_3_code 45 = .ok (.lconst 0, 1) := by decide +kernel
theorem d_Ma_find_46 : decode prog_5_method_3_code 46 = .ok (.lcmp, 1) := by decide +kernel
theorem d_Ma_find_47 : decode prog_5_method_3_code 47 = .ok (.ifCond .eq 6, 3) := by decide +kernel
theorem d_Ma_find_50 : decode prog_5_method_3_code 50 = .ok (.lload 4, 2) := by decide +kernel
theorem d_Ma_find_52 : decode prog_5_method_3_code 52 = .ok (.lreturn, 1) := by decide +kernel
theorem d_Ma_find_53 : decode prog_5_method_3_code 53 = .ok (.iinc 3 1, 3) := by decide +kernel
theorem d_Ma_find_56 : decode prog_5_method_3_code 56 = .ok (.goto (-31), 3) := by decide +kernel
theorem d_Ma_find_59 : decode prog_5_method_3_code 59 = .ok (.lconst 0, 1) := by decide +kernel
theorem d_Ma_find_60 : decode prog_5_method_3_code 60 = .ok (.lreturn, 1) := by decide +kernel
theorem M_Ma_find : lt_M0 m_Ma_find 2 := ⟨lt_m3 184 rfl rfl, lt_m1 7 rfl rfl, ⟨by decide +kernel, by decide +kernel, by decide +kernel⟩, by decide⟩
theorem in_Ma_find : Cond.instanceMethod m_Ma_find.1 ∈ lt_T := lt_m3 182 rfl rfl
theorem se_Ma_find : Cond.selects "LinearSearch$Marks" m_Ma_find.1 m_Ma_find.1 ∈ lt_T := lt_m3 183 rfl rfl
abbrev m_Ma_findFrom : lt_M := (⟨"LinearSearch$Marks", "findFrom", "(I)J"⟩, prog_5_method_4_code, 7, (some .long))
theorem d_Ma_findFrom_0 : decode prog_5_method_4_code 0 = .ok (.aload_n 0, 1) := by decide +kernel
theorem d_Ma_findFrom_1 : decode prog_5_method_4_code 1 = .ok (.iconst 0, 1) := by decide +kernel
theorem d_Ma_findFrom_2 : decode prog_5_method_4_code 2 = .ok (.putfield 53, 3) := by decide +kernel
theorem d_Ma_findFrom_5 : decode prog_5_method_4_code 5 = .ok (.aload_n 0, 1) := by decide +kernel
theorem d_Ma_findFrom_6 : decode prog_5_method_4_code 6 = .ok (.iconst 0, 1) := by decide +kernel
theorem d_Ma_findFrom_7 : decode prog_5_method_4_code 7 = .ok (.iload_n 1, 1) := by decide +kernel
theorem d_Ma_findFrom_8 : decode prog_5_method_4_code 8 = .ok (.iload_n 1, 1) := by decide +kernel
theorem d_Ma_findFrom_9 : decode prog_5_method_4_code 9 = .ok (.invokestatic 56, 3) := by decide +kernel
theorem d_Ma_findFrom_12 : decode prog_5_method_4_code 12 = .ok (.invokevirtual 59, 3) := by decide +kernel
theorem d_Ma_findFrom_15 : decode prog_5_method_4_code 15 = .ok (.iconst 0, 1) := by decide +kernel
theorem d_Ma_findFrom_16 : decode prog_5_method_4_code 16 = .ok (.istore_n 2, 1) := by decide +kernel
theorem d_Ma_findFrom_17 : decode prog_5_method_4_code 17 = .ok (.iload_n 2, 1) := by decide +kernel
theorem d_Ma_findFrom_18 : decode prog_5_method_4_code 18 = .ok (.sipush 2059, 3) := by decide +kernel
theorem d_Ma_findFrom_21 : decode prog_5_method_4_code 21 = .ok (.if_icmp .ge 112, 3) := by decide +kernel
theorem d_Ma_findFrom_24 : decode prog_5_method_4_code 24 = .ok (.aload_n 0, 1) := by decide +kernel
theorem d_Ma_findFrom_25 : decode prog_5_method_4_code 25 = .ok (.getfield 53, 3) := by decide +kernel
theorem d_Ma_findFrom_28 : decode prog_5_method_4_code 28 = .ok (.ifCond .le 105, 3) := by decide +kernel
theorem d_Ma_findFrom_31 : decode prog_5_method_4_code 31 = .ok (.aload_n 0, 1) := by decide +kernel
theorem d_Ma_findFrom_32 : decode prog_5_method_4_code 32 = .ok (.getfield 53, 3) := by decide +kernel
theorem d_Ma_findFrom_35 : decode prog_5_method_4_code 35 = .ok (.sipush 505, 3) := by decide +kernel
theorem d_Ma_findFrom_38 : decode prog_5_method_4_code 38 = .ok (.if_icmp .gt 95, 3) := by decide +kernel
theorem d_Ma_findFrom_41 : decode prog_5_method_4_code 41 = .ok (.aload_n 0, 1) := by decide +kernel
theorem d_Ma_findFrom_42 : decode prog_5_method_4_code 42 = .ok (.dup, 1) := by decide +kernel
theorem d_Ma_findFrom_43 : decode prog_5_method_4_code 43 = .ok (.getfield 53, 3) := by decide +kernel
theorem d_Ma_findFrom_46 : decode prog_5_method_4_code 46 = .ok (.iconst 1, 1) := by decide +kernel
theorem d_Ma_findFrom_47 : decode prog_5_method_4_code 47 = .ok (.isub, 1) := by decide +kernel
theorem d_Ma_findFrom_48 : decode prog_5_method_4_code 48 = .ok (.putfield 53, 3) := by decide +kernel
theorem d_Ma_findFrom_51 : decode prog_5_method_4_code 51 = .ok (.aload_n 0, 1) := by decide +kernel
theorem d_Ma_findFrom_52 : decode prog_5_method_4_code 52 = .ok (.getfield 15, 3) := by decide +kernel
theorem d_Ma_findFrom_55 : decode prog_5_method_4_code 55 = .ok (.aload_n 0, 1) := by decide +kernel
theorem d_Ma_findFrom_56 : decode prog_5_method_4_code 56 = .ok (.getfield 53, 3) := by decide +kernel
theorem d_Ma_findFrom_59 : decode prog_5_method_4_code 59 = .ok (.iaload, 1) := by decide +kernel
theorem d_Ma_findFrom_60 : decode prog_5_method_4_code 60 = .ok (.istore_n 3, 1) := by decide +kernel
theorem d_Ma_findFrom_61 : decode prog_5_method_4_code 61 = .ok (.aload_n 0, 1) := by decide +kernel
theorem d_Ma_findFrom_62 : decode prog_5_method_4_code 62 = .ok (.getfield 19, 3) := by decide +kernel
theorem d_Ma_findFrom_65 : decode prog_5_method_4_code 65 = .ok (.aload_n 0, 1) := by decide +kernel
theorem d_Ma_findFrom_66 : decode prog_5_method_4_code 66 = .ok (.getfield 53, 3) := by decide +kernel
theorem d_Ma_findFrom_69 : decode prog_5_method_4_code 69 = .ok (.iaload, 1) := by decide +kernel
theorem d_Ma_findFrom_70 : decode prog_5_method_4_code 70 = .ok (.istore 4, 2) := by decide +kernel
theorem d_Ma_findFrom_72 : decode prog_5_method_4_code 72 = .ok (.aload_n 0, 1) := by decide +kernel
theorem d_Ma_findFrom_73 : decode prog_5_method_4_code 73 = .ok (.getfield 22, 3) := by decide +kernel
theorem d_Ma_findFrom_76 : decode prog_5_method_4_code 76 = .ok (.aload_n 0, 1) := by decide +kernel
theorem d_Ma_findFrom_77 : decode prog_5_method_4_code 77 = .ok (.getfield 53, 3) := by decide +kernel
theorem d_Ma_findFrom_80 : decode prog_5_method_4_code 80 = .ok (.laload, 1) := by decide +kernel
theorem d_Ma_findFrom_81 : decode prog_5_method_4_code 81 = .ok (.lstore 5, 2) := by decide +kernel
theorem d_Ma_findFrom_83 : decode prog_5_method_4_code 83 = .ok (.aload_n 0, 1) := by decide +kernel
theorem d_Ma_findFrom_84 : decode prog_5_method_4_code 84 = .ok (.iload_n 3, 1) := by decide +kernel
theorem d_Ma_findFrom_85 : decode prog_5_method_4_code 85 = .ok (.iload 4, 2) := by decide +kernel
theorem d_Ma_findFrom_87 : decode prog_5_method_4_code 87 = .ok (.invokevirtual 63, 3) := by decide +kernel
theorem d_Ma_findFrom_90 : decode prog_5_method_4_code 90 = .ok (.ifCond .ne 6, 3) := by decide +kernel
theorem d_Ma_findFrom_93 : decode prog_5_method_4_code 93 = .ok (.goto 34, 3) := by decide +kernel
theorem d_Ma_findFrom_96 : decode prog_5_method_4_code 96 = .ok (.aload_n 0, 1) := by decide +kernel
theorem d_Ma_findFrom_97 : decode prog_5_method_4_code 97 = .ok (.getfield 29, 3) := by decide +kernel
theorem d_Ma_findFrom_100 : decode prog_5_method_4_code 100 = .ok (.iload_n 3, 1) := by decide +kernel
theorem d_Ma_findFrom_101 : decode prog_5_method_4_code 101 = .ok (.invokevirtual 67, 3) := by decide +kernel
theorem d_Ma_findFrom_104 : decode prog_5_method_4_code 104 = .ok (.bipush 7, 2) := by decide +kernel
theorem d_Ma_findFrom_106 : decode prog_5_method_4_code 106 = .ok (.if_icmp .ne 12, 3) := by decide +kernel
theorem d_Ma_findFrom_109 : decode prog_5_method_4_code 109 = .ok (.lload 5, 2) := by decide +kernel
theorem d_Ma_findFrom_111 : decode prog_5_method_4_code 111 = .ok (.iconst 1, 1) := by decide +kernel
theorem d_Ma_findFrom_112 : decode prog_5_method_4_code 112 = .ok (.iload 4, 2) := by decide +kernel
theorem d_Ma_findFrom_114 : decode prog_5_method_4_code 114 = .ok (.invokestatic 73, 3) := by decide +kernel
theorem d_Ma_findFrom_117 : decode prog_5_method_4_code 117 = .ok (.lreturn, 1) := by decide +kernel
theorem d_Ma_findFrom_118 : decode prog_5_method_4_code 118 = .ok (.aload_n 0, 1) := by decide +kernel
theorem d_Ma_findFrom_119 : decode prog_5_method_4_code 119 = .ok (.iload_n 3, 1) := by decide +kernel
theorem d_Ma_findFrom_120 : decode prog_5_method_4_code 120 = .ok (.iload 4, 2) := by decide +kernel
theorem d_Ma_findFrom_122 : decode prog_5_method_4_code 122 = .ok (.lload 5, 2) := by decide +kernel
theorem d_Ma_findFrom_124 : decode prog_5_method_4_code 124 = .ok (.invokevirtual 77, 3) := by decide +kernel
theorem d_Ma_findFrom_127 : decode prog_5_method_4_code 127 = .ok (.iinc 2 1, 3) := by decide +kernel
theorem d_Ma_findFrom_130 : decode prog_5_method_4_code 130 = .ok (.goto (-113), 3) := by decide +kernel
theorem d_Ma_findFrom_133 : decode prog_5_method_4_code 133 = .ok (.lconst 0, 1) := by decide +kernel
theorem d_Ma_findFrom_134 : decode prog_5_method_4_code 134 = .ok (.lreturn, 1) := by decide +kernel
theorem M_Ma_findFrom : lt_M0 m_Ma_findFrom 1 := ⟨lt_m3 192 rfl rfl, lt_m1 7 rfl rfl, ⟨by decide +kernel, by decide +kernel, by decide +kernel⟩, by decide⟩
theorem in_Ma_findFrom : Cond.instanceMethod m_Ma_findFrom.1 ∈ lt_T := lt_m3 191 rfl rfl
theorem se_Ma_findFrom : Cond.selects "LinearSearch$Marks" m_Ma_findFrom.1 m_Ma_findFrom.1 ∈ lt_T := lt_memS 14 rfl rfl
abbrev m_Ma_push : lt_M := (⟨"LinearSearch$Marks", "push", "(IIJ)V"⟩, prog_5_method_5_code, 5, none)
theorem d_Ma_push_0 : decode prog_5_method_5_code 0 = .ok (.aload_n 0, 1) := by decide +kernel
theorem d_Ma_push_1 : decode prog_5_method_5_code 1 = .ok (.getfield 53, 3) := by decide +kernel
theorem d_Ma_push_4 : decode prog_5_method_5_code 4 = .ok (.ifCond .lt 53, 3) := by decide +kernel
theorem d_Ma_push_7 : decode prog_5_method_5_code 7 = .ok (.aload_n 0, 1) := by decide +kernel
theorem d_Ma_push_8 : decode prog_5_method_5_code 8 = .ok (.getfield 53, 3) := by decide +kernel
theorem d_Ma_push_11 : decode prog_5_method_5_code 11 = .ok (.sipush 505, 3) := by decide +kernel
theorem d_Ma_push_14 : decode prog_5_method_5_code 14 = .ok (.if_icmp .ge 43, 3) := by decide +kernel
theorem d_Ma_push_17 : decode prog_5_method_5_code 17 = .ok (.aload_n 0, 1) := by decide +kernel
theorem d_Ma_push_18 : decode prog_5_method_5_code 18 = .ok (.getfield 15, 3) := by decide +kernel
theorem d_Ma_push_21 : decode prog_5_method_5_code 21 = .ok (.aload_n 0, 1) := by decide +kernel
theorem d_Ma_push_22 : decode prog_5_method_5_code 22 = .ok (.getfield 53, 3) := by decide +kernel
theorem d_Ma_push_25 : decode prog_5_method_5_code 25 = .ok (.iload_n 1, 1) := by decide +kernel
theorem d_Ma_push_26 : decode prog_5_method_5_code 26 = .ok (.iastore, 1) := by decide +kernel
theorem d_Ma_push_27 : decode prog_5_method_5_code 27 = .ok (.aload_n 0, 1) := by decide +kernel
theorem d_Ma_push_28 : decode prog_5_method_5_code 28 = .ok (.getfield 19, 3) := by decide +kernel
theorem d_Ma_push_31 : decode prog_5_method_5_code 31 = .ok (.aload_n 0, 1) := by decide +kernel
theorem d_Ma_push_32 : decode prog_5_method_5_code 32 = .ok (.getfield 53, 3) := by decide +kernel
theorem d_Ma_push_35 : decode prog_5_method_5_code 35 = .ok (.iload_n 2, 1) := by decide +kernel
theorem d_Ma_push_36 : decode prog_5_method_5_code 36 = .ok (.iastore, 1) := by decide +kernel
theorem d_Ma_push_37 : decode prog_5_method_5_code 37 = .ok (.aload_n 0, 1) := by decide +kernel
theorem d_Ma_push_38 : decode prog_5_method_5_code 38 = .ok (.getfield 22, 3) := by decide +kernel
theorem d_Ma_push_41 : decode prog_5_method_5_code 41 = .ok (.aload_n 0, 1) := by decide +kernel
theorem d_Ma_push_42 : decode prog_5_method_5_code 42 = .ok (.getfield 53, 3) := by decide +kernel
theorem d_Ma_push_45 : decode prog_5_method_5_code 45 = .ok (.lload_n 3, 1) := by decide +kernel
theorem d_Ma_push_46 : decode prog_5_method_5_code 46 = .ok (.lastore, 1) := by decide +kernel
theorem d_Ma_push_47 : decode prog_5_method_5_code 47 = .ok (.aload_n 0, 1) := by decide +kernel
theorem d_Ma_push_48 : decode prog_5_method_5_code 48 = .ok (.dup, 1) := by decide +kernel
theorem d_Ma_push_49 : decode prog_5_method_5_code 49 = .ok (.getfield 53, 3) := by decide +kernel
theorem d_Ma_push_52 : decode prog_5_method_5_code 52 = .ok (.iconst 1, 1) := by decide +kernel
theorem d_Ma_push_53 : decode prog_5_method_5_code 53 = .ok (.iadd, 1) := by decide +kernel
theorem d_Ma_push_54 : decode prog_5_method_5_code 54 = .ok (.putfield 53, 3) := by decide +kernel
theorem d_Ma_push_57 : decode prog_5_method_5_code 57 = .ok (.return_, 1) := by decide +kernel
theorem M_Ma_push : lt_M0 m_Ma_push 3 := ⟨lt_m3 200 rfl rfl, lt_m1 7 rfl rfl, ⟨by decide +kernel, by decide +kernel, by decide +kernel⟩, by decide⟩
theorem in_Ma_push : Cond.instanceMethod m_Ma_push.1 ∈ lt_T := lt_m3 199 rfl rfl
theorem se_Ma_push : Cond.selects "LinearSearch$Marks" m_Ma_push.1 m_Ma_push.1 ∈ lt_T := lt_memS 15 rfl rfl
abbrev m_Ma_mark : lt_M := (⟨"LinearSearch$Marks", "mark", "(II)Z"⟩, prog_5_method_6_code, 5, (some .boolean))
theorem d_Ma_mark_0 : decode prog_5_method_6_code 0 = .ok (.iload_n 2, 1) := by decide +kernel
theorem d_Ma_mark_1 : decode prog_5_method_6_code 1 = .ok (.ifCond .lt 9, 3) := by decide +kernel
theorem d_Ma_mark_4 : decode prog_5_method_6_code 4 = .ok (.iload_n 2, 1) := by decide +kernel
theorem d_Ma_mark_5 : decode prog_5_method_6_code 5 = .ok (.bipush 20, 2) := by decide +kernel
theorem d_Ma_mark_7 : decode prog_5_method_6_code 7 = .ok (.if_icmp .le 5, 3) := by decide +kernel
theorem d_Ma_mark_10 : decode prog_5_method_6_code 10 = .ok (.iconst 0, 1) := by decide +kernel
theorem d_Ma_mark_11 : decode prog_5_method_6_code 11 = .ok (.ireturn, 1) := by decide +kernel
theorem d_Ma_mark_12 : decode prog_5_method_6_code 12 = .ok (.lconst 1, 1) := by decide +kernel
theorem d_Ma_mark_13 : decode prog_5_method_6_code 13 = .ok (.iload_n 1, 1) := by decide +kernel
theorem d_Ma_mark_14 : decode prog_5_method_6_code 14 = .ok (.lshl, 1) := by decide +kernel
theorem d_Ma_mark_15 : decode prog_5_method_6_code 15 = .ok (.lstore_n 3, 1) := by decide +kernel
theorem d_Ma_mark_16 : decode prog_5_method_6_code 16 = .ok (.aload_n 0, 1) := by decide +kernel
theorem d_Ma_mark_17 : decode prog_5_method_6_code 17 = .ok (.getfield 9, 3) := by decide +kernel
theorem d_Ma_mark_20 : decode prog_5_method_6_code 20 = .ok (.iload_n 2, 1) := by decide +kernel
theorem d_Ma_mark_21 : decode prog_5_method_6_code 21 = .ok (.laload, 1) := by decide +kernel
theorem d_Ma_mark_22 : decode prog_5_method_6_code 22 = .ok (.lload_n 3, 1) := by decide +kernel
theorem d_Ma_mark_23 : decode prog_5_method_6_code 23 = .ok (.land, 1) := by decide +kernel
theorem d_Ma_mark_24 : decode prog_5_method_6_code 24 = .ok (.lconst 0, 1) := by decide +kernel
theorem d_Ma_mark_25 : decode prog_5_method_6_code 25 = .ok (.lcmp, 1) := by decide +kernel
theorem d_Ma_mark_26 : decode prog_5_method_6_code 26 = .ok (.ifCond .eq 5, 3) := by decide +kernel
theorem d_Ma_mark_29 : decode prog_5_method_6_code 29 = .ok (.iconst 0, 1) := by decide +kernel
theorem d_Ma_mark_30 : decode prog_5_method_6_code 30 = .ok (.ireturn, 1) := by decide +kernel
theorem d_Ma_mark_31 : decode prog_5_method_6_code 31 = .ok (.aload_n 0, 1) := by decide +kernel
theorem d_Ma_mark_32 : decode prog_5_method_6_code 32 = .ok (.getfield 9, 3) := by decide +kernel
theorem d_Ma_mark_35 : decode prog_5_method_6_code 35 = .ok (.iload_n 2, 1) := by decide +kernel
theorem d_Ma_mark_36 : decode prog_5_method_6_code 36 = .ok (.dup2, 1) := by decide +kernel
theorem d_Ma_mark_37 : decode prog_5_method_6_code 37 = .ok (.laload, 1) := by decide +kernel
theorem d_Ma_mark_38 : decode prog_5_method_6_code 38 = .ok (.lload_n 3, 1) := by decide +kernel
theorem d_Ma_mark_39 : decode prog_5_method_6_code 39 = .ok (.lor, 1) := by decide +kernel
theorem d_Ma_mark_40 : decode prog_5_method_6_code 40 = .ok (.lastore, 1) := by decide +kernel
theorem d_Ma_mark_41 : decode prog_5_method_6_code 41 = .ok (.aload_n 0, 1) := by decide +kernel
theorem d_Ma_mark_42 : decode prog_5_method_6_code 42 = .ok (.dup, 1) := by decide +kernel
theorem d_Ma_mark_43 : decode prog_5_method_6_code 43 = .ok (.getfield 25, 3) := by decide +kernel
theorem d_Ma_mark_46 : decode prog_5_method_6_code 46 = .ok (.iconst 1, 1) := by decide +kernel
theorem d_Ma_mark_47 : decode prog_5_method_6_code 47 = .ok (.iadd, 1) := by decide +kernel
theorem d_Ma_mark_48 : decode prog_5_method_6_code 48 = .ok (.putfield 25, 3) := by decide +kernel
theorem d_Ma_mark_51 : decode prog_5_method_6_code 51 = .ok (.iconst 1, 1) := by decide +kernel
theorem d_Ma_mark_52 : decode prog_5_method_6_code 52 = .ok (.ireturn, 1) := by decide +kernel
theorem M_Ma_mark : lt_M0 m_Ma_mark 2 := ⟨lt_m3 204 rfl rfl, lt_m1 7 rfl rfl, ⟨by decide +kernel, by decide +kernel, by decide +kernel⟩, by decide⟩
theorem in_Ma_mark : Cond.instanceMethod m_Ma_mark.1 ∈ lt_T := lt_m3 203 rfl rfl
theorem se_Ma_mark : Cond.selects "LinearSearch$Marks" m_Ma_mark.1 m_Ma_mark.1 ∈ lt_T := lt_memS 16 rfl rfl
abbrev m_Ma_step : lt_M := (⟨"LinearSearch$Marks", "step", "(IIJ)V"⟩, prog_5_method_7_code, 5, none)
theorem d_Ma_step_0 : decode prog_5_method_7_code 0 = .ok (.aload_n 0, 1) := by decide +kernel
theorem d_Ma_step_1 : decode prog_5_method_7_code 1 = .ok (.getfield 29, 3) := by decide +kernel
theorem d_Ma_step_4 : decode prog_5_method_7_code 4 = .ok (.iload_n 1, 1) := by decide +kernel
theorem d_Ma_step_5 : decode prog_5_method_7_code 5 = .ok (.invokevirtual 67, 3) := by decide +kernel
theorem d_Ma_step_8 : decode prog_5_method_7_code 8 = .ok (.tableswitch 147 2 6 #[36, 67, 84, 108, 124], 36) := by decide +kernel
theorem d_Ma_step_44 : decode prog_5_method_7_code 44 = .ok (.aload_n 0, 1) := by decide +kernel
theorem d_Ma_step_45 : decode prog_5_method_7_code 45 = .ok (.aload_n 0, 1) := by decide +kernel
theorem d_Ma_step_46 : decode prog_5_method_7_code 46 = .ok (.getfield 29, 3) := by decide +kernel
theorem d_Ma_step_49 : decode prog_5_method_7_code 49 = .ok (.iload_n 1, 1) := by decide +kernel
theorem d_Ma_step_50 : decode prog_5_method_7_code 50 = .ok (.invokevirtual 80, 3) := by decide +kernel
theorem d_Ma_step_53 : decode prog_5_method_7_code 53 = .ok (.iload_n 2, 1) := by decide +kernel
theorem d_Ma_step_54 : decode prog_5_method_7_code 54 = .ok (.lload_n 3, 1) := by decide +kernel
theorem d_Ma_step_55 : decode prog_5_method_7_code 55 = .ok (.invokevirtual 59, 3) := by decide +kernel
theorem d_Ma_step_58 : decode prog_5_method_7_code 58 = .ok (.aload_n 0, 1) := by decide +kernel
theorem d_Ma_step_59 : decode prog_5_method_7_code 59 = .ok (.aload_n 0, 1) := by decide +kernel
theorem d_Ma_step_60 : decode prog_5_method_7_code 60 = .ok (.getfield 29, 3) := by decide +kernel
theorem d_Ma_step_63 : decode prog_5_method_7_code 63 = .ok (.iload_n 1, 1) := by decide +kernel
theorem d_Ma_step_64 : decode prog_5_method_7_code 64 = .ok (.invokevirtual 83, 3) := by decide +kernel
theorem d_Ma_step_67 : decode prog_5_method_7_code 67 = .ok (.iload_n 2, 1) := by decide +kernel
theorem d_Ma_step_68 : decode prog_5_method_7_code 68 = .ok (.lload_n 3, 1) := by decide +kernel
theorem d_Ma_step_69 : decode prog_5_method_7_code 69 = .ok (.invokevirtual 59, 3) := by decide +kernel
theorem d_Ma_step_72 : decode prog_5_method_7_code 72 = .ok (.goto 113, 3) := by decide +kernel
theorem d_Ma_step_75 : decode prog_5_method_7_code 75 = .ok (.aload_n 0, 1) := by decide +kernel
theorem d_Ma_step_76 : decode prog_5_method_7_code 76 = .ok (.aload_n 0, 1) := by decide +kernel
theorem d_Ma_step_77 : decode prog_5_method_7_code 77 = .ok (.getfield 29, 3) := by decide +kernel
theorem d_Ma_step_80 : decode prog_5_method_7_code 80 = .ok (.iload_n 1, 1) := by decide +kernel
theorem d_Ma_step_81 : decode prog_5_method_7_code 81 = .ok (.invokevirtual 83, 3) := by decide +kernel
theorem d_Ma_step_84 : decode prog_5_method_7_code 84 = .ok (.iload_n 2, 1) := by decide +kernel
theorem d_Ma_step_85 : decode prog_5_method_7_code 85 = .ok (.lload_n 3, 1) := by decide +kernel
theorem d_Ma_step_86 : decode prog_5_method_7_code 86 = .ok (.invokevirtual 59, 3) := by decide +kernel
theorem d_Ma_step_89 : decode prog_5_method_7_code 89 = .ok (.goto 96, 3) := by decide +kernel
theorem d_Ma_step_92 : decode prog_5_method_7_code 92 = .ok (.aload_n 0, 1) := by decide +kernel
theorem d_Ma_step_93 : decode prog_5_method_7_code 93 = .ok (.iload_n 1, 1) := by decide +kernel
theorem d_Ma_step_94 : decode prog_5_method_7_code 94 = .ok (.iconst 1, 1) := by decide +kernel
theorem d_Ma_step_95 : decode prog_5_method_7_code 95 = .ok (.iadd, 1) := by decide +kernel
theorem d_Ma_step_96 : decode prog_5_method_7_code 96 = .ok (.iload_n 2, 1) := by decide +kernel
theorem d_Ma_step_97 : decode prog_5_method_7_code 97 = .ok (.lload_n 3, 1) := by decide +kernel
theorem d_Ma_step_98 : decode prog_5_method_7_code 98 = .ok (.aload_n 0, 1) := by decide +kernel
theorem d_Ma_step_99 : decode prog_5_method_7_code 99 = .ok (.getfield 29, 3) := by decide +kernel
theorem d_Ma_step_102 : decode prog_5_method_7_code 102 = .ok (.iload_n 1, 1) := by decide +kernel
theorem d_Ma_step_103 : decode prog_5_method_7_code 103 = .ok (.invokevirtual 83, 3) := by decide +kernel
theorem d_Ma_step_106 : decode prog_5_method_7_code 106 = .ok (.iload_n 2, 1) := by decide +kernel
theorem d_Ma_step_107 : decode prog_5_method_7_code 107 = .ok (.invokestatic 73, 3) := by decide +kernel
theorem d_Ma_step_110 : decode prog_5_method_7_code 110 = .ok (.invokevirtual 59, 3) := by decide +kernel
theorem d_Ma_step_113 : decode prog_5_method_7_code 113 = .ok (.goto 72, 3) := by decide +kernel
theorem d_Ma_step_116 : decode prog_5_method_7_code 116 = .ok (.iload_n 2, 1) := by decide +kernel
theorem d_Ma_step_117 : decode prog_5_method_7_code 117 = .ok (.ifCond .ne 68, 3) := by decide +kernel
theorem d_Ma_step_120 : decode prog_5_method_7_code 120 = .ok (.aload_n 0, 1) := by decide +kernel
theorem d_Ma_step_121 : decode prog_5_method_7_code 121 = .ok (.iload_n 1, 1) := by decide +kernel
theorem d_Ma_step_122 : decode prog_5_method_7_code 122 = .ok (.iconst 1, 1) := by decide +kernel
theorem d_Ma_step_123 : decode prog_5_method_7_code 123 = .ok (.iadd, 1) := by decide +kernel
theorem d_Ma_step_124 : decode prog_5_method_7_code 124 = .ok (.iload_n 2, 1) := by decide +kernel
theorem d_Ma_step_125 : decode prog_5_method_7_code 125 = .ok (.lload_n 3, 1) := by decide +kernel
theorem d_Ma_step_126 : decode prog_5_method_7_code 126 = .ok (.invokevirtual 59, 3) := by decide +kernel
theorem d_Ma_step_129 : decode prog_5_method_7_code 129 = .ok (.goto 56, 3) := by decide +kernel
theorem d_Ma_step_132 : decode prog_5_method_7_code 132 = .ok (.iload_n 2, 1) := by decide +kernel
theorem d_Ma_step_133 : decode prog_5_method_7_code 133 = .ok (.aload_n 0, 1) := by decide +kernel
theorem d_Ma_step_134 : decode prog_5_method_7_code 134 = .ok (.getfield 33, 3) := by decide +kernel
theorem d_Ma_step_137 : decode prog_5_method_7_code 137 = .ok (.invokevirtual 43, 3) := by decide +kernel
theorem d_Ma_step_140 : decode prog_5_method_7_code 140 = .ok (.if_icmp .ne 45, 3) := by decide +kernel
theorem d_Ma_step_143 : decode prog_5_method_7_code 143 = .ok (.aload_n 0, 1) := by decide +kernel
theorem d_Ma_step_144 : decode prog_5_method_7_code 144 = .ok (.iload_n 1, 1) := by decide +kernel
theorem d_Ma_step_145 : decode prog_5_method_7_code 145 = .ok (.iconst 1, 1) := by decide +kernel
theorem d_Ma_step_146 : decode prog_5_method_7_code 146 = .ok (.iadd, 1) := by decide +kernel
theorem d_Ma_step_147 : decode prog_5_method_7_code 147 = .ok (.iload_n 2, 1) := by decide +kernel
theorem d_Ma_step_148 : decode prog_5_method_7_code 148 = .ok (.lload_n 3, 1) := by decide +kernel
theorem d_Ma_step_149 : decode prog_5_method_7_code 149 = .ok (.invokevirtual 59, 3) := by decide +kernel
theorem d_Ma_step_152 : decode prog_5_method_7_code 152 = .ok (.goto 33, 3) := by decide +kernel
theorem d_Ma_step_155 : decode prog_5_method_7_code 155 = .ok (.aload_n 0, 1) := by decide +kernel
theorem d_Ma_step_156 : decode prog_5_method_7_code 156 = .ok (.getfield 29, 3) := by decide +kernel
theorem d_Ma_step_159 : decode prog_5_method_7_code 159 = .ok (.iload_n 1, 1) := by decide +kernel
theorem d_Ma_step_160 : decode prog_5_method_7_code 160 = .ok (.aload_n 0, 1) := by decide +kernel
theorem d_Ma_step_161 : decode prog_5_method_7_code 161 = .ok (.getfield 33, 3) := by decide +kernel
theorem d_Ma_step_164 : decode prog_5_method_7_code 164 = .ok (.iload_n 2, 1) := by decide +kernel
theorem d_Ma_step_165 : decode prog_5_method_7_code 165 = .ok (.invokevirtual 86, 3) := by decide +kernel
theorem d_Ma_step_168 : decode prog_5_method_7_code 168 = .ok (.invokevirtual 89, 3) := by decide +kernel
theorem d_Ma_step_171 : decode prog_5_method_7_code 171 = .ok (.ifCond .eq 14, 3) := by decide +kernel
theorem d_Ma_step_174 : decode prog_5_method_7_code 174 = .ok (.aload_n 0, 1) := by decide +kernel
theorem d_Ma_step_175 : decode prog_5_method_7_code 175 = .ok (.iload_n 1, 1) := by decide +kernel
theorem d_Ma_step_176 : decode prog_5_method_7_code 176 = .ok (.iconst 1, 1) := by decide +kernel
theorem d_Ma_step_177 : decode prog_5_method_7_code 177 = .ok (.iadd, 1) := by decide +kernel
theorem d_Ma_step_178 : decode prog_5_method_7_code 178 = .ok (.iload_n 2, 1) := by decide +kernel
theorem d_Ma_step_179 : decode prog_5_method_7_code 179 = .ok (.iconst 1, 1) := by decide +kernel
theorem d_Ma_step_180 : decode prog_5_method_7_code 180 = .ok (.iadd, 1) := by decide +kernel
theorem d_Ma_step_181 : decode prog_5_method_7_code 181 = .ok (.lload_n 3, 1) := by decide +kernel
theorem d_Ma_step_182 : decode prog_5_method_7_code 182 = .ok (.invokevirtual 59, 3) := by decide +kernel
theorem d_Ma_step_185 : decode prog_5_method_7_code 185 = .ok (.return_, 1) := by decide +kernel
theorem M_Ma_step : lt_M0 m_Ma_step 3 := ⟨lt_m3 210 rfl rfl, lt_m1 7 rfl rfl, ⟨by decide +kernel, by decide +kernel, by decide +kernel⟩, by decide⟩
theorem in_Ma_step : Cond.instanceMethod m_Ma_step.1 ∈ lt_T := lt_m3 209 rfl rfl
theorem se_Ma_step : Cond.selects "LinearSearch$Marks" m_Ma_step.1 m_Ma_step.1 ∈ lt_T := lt_memS 17 rfl rfl
abbrev m_Ma_marksSet : lt_M := (⟨"LinearSearch$Marks", "marksSet", "()I"⟩, prog_5_method_2_code, 1, (some .int))
theorem d_Ma_marksSet_0 : decode prog_5_method_2_code 0 = .ok (.aload_n 0, 1) := by decide +kernel
theorem d_Ma_marksSet_1 : decode prog_5_method_2_code 1 = .ok (.getfield 25, 3) := by decide +kernel
theorem d_Ma_marksSet_4 : decode prog_5_method_2_code 4 = .ok (.ireturn, 1) := by decide +kernel
theorem M_Ma_marksSet : lt_M0 m_Ma_marksSet 0 := ⟨lt_m3 225 rfl rfl, lt_m1 7 rfl rfl, ⟨by decide +kernel, by decide +kernel, by decide +kernel⟩, by decide⟩
theorem in_Ma_marksSet : Cond.instanceMethod m_Ma_marksSet.1 ∈ lt_T := lt_m3 223 rfl rfl
theorem se_Ma_marksSet : Cond.selects "LinearSearch$Marks" m_Ma_marksSet.1 m_Ma_marksSet.1 ∈ lt_T := lt_m3 224 rfl rfl
abbrev m_Au_lastEnd : lt_M := (⟨"LinearSearch$Automaton", "lastEnd", "(LLinearSearch$Program;LLinearSearch$Text;)I"⟩, prog_2_method_7_code, 7, (some .int))
theorem d_Au_lastEnd_0 : decode prog_2_method_7_code 0 = .ok (.aload_n 0, 1) := by decide +kernel
theorem d_Au_lastEnd_1 : decode prog_2_method_7_code 1 = .ok (.iconst 0, 1) := by decide +kernel
theorem d_Au_lastEnd_2 : decode prog_2_method_7_code 2 = .ok (.putfield 49, 3) := by decide +kernel
theorem d_Au_lastEnd_5 : decode prog_2_method_7_code 5 = .ok (.aload_n 0, 1) := by decide +kernel
theorem d_Au_lastEnd_6 : decode prog_2_method_7_code 6 = .ok (.iconst 0, 1) := by decide +kernel
theorem d_Au_lastEnd_7 : decode prog_2_method_7_code 7 = .ok (.putfield 52, 3) := by decide +kernel
theorem d_Au_lastEnd_10 : decode prog_2_method_7_code 10 = .ok (.iconst (-1), 1) := by decide +kernel
theorem d_Au_lastEnd_11 : decode prog_2_method_7_code 11 = .ok (.istore_n 3, 1) := by decide +kernel
theorem d_Au_lastEnd_12 : decode prog_2_method_7_code 12 = .ok (.aload_n 0, 1) := by decide +kernel
theorem d_Au_lastEnd_13 : decode prog_2_method_7_code 13 = .ok (.aload_n 1, 1) := by decide +kernel
theorem d_Au_lastEnd_14 : decode prog_2_method_7_code 14 = .ok (.invokevirtual 55, 3) := by decide +kernel
theorem d_Au_lastEnd_17 : decode prog_2_method_7_code 17 = .ok (.istore 4, 2) := by decide +kernel
theorem d_Au_lastEnd_19 : decode prog_2_method_7_code 19 = .ok (.iconst 0, 1) := by decide +kernel
theorem d_Au_lastEnd_20 : decode prog_2_method_7_code 20 = .ok (.istore 5, 2) := by decide +kernel
theorem d_Au_lastEnd_22 : decode prog_2_method_7_code 22 = .ok (.iload 5, 2) := by decide +kernel
theorem d_Au_lastEnd_24 : decode prog_2_method_7_code 24 = .ok (.aload_n 2, 1) := by decide +kernel
theorem d_Au_lastEnd_25 : decode prog_2_method_7_code 25 = .ok (.invokevirtual 59, 3) := by decide +kernel
theorem d_Au_lastEnd_28 : decode prog_2_method_7_code 28 = .ok (.if_icmp .gt 91, 3) := by decide +kernel
theorem d_Au_lastEnd_31 : decode prog_2_method_7_code 31 = .ok (.aload_n 0, 1) := by decide +kernel
theorem d_Au_lastEnd_32 : decode prog_2_method_7_code 32 = .ok (.iload 4, 2) := by decide +kernel
theorem d_Au_lastEnd_34 : decode prog_2_method_7_code 34 = .ok (.invokevirtual 65, 3) := by decide +kernel
theorem d_Au_lastEnd_37 : decode prog_2_method_7_code 37 = .ok (.astore 6, 2) := by decide +kernel
theorem d_Au_lastEnd_39 : decode prog_2_method_7_code 39 = .ok (.aload 6, 2) := by decide +kernel
theorem d_Au_lastEnd_41 : decode prog_2_method_7_code 41 = .ok (.ifnonnull 5, 3) := by decide +kernel
theorem d_Au_lastEnd_44 : decode prog_2_method_7_code 44 = .ok (.iconst (-1), 1) := by decide +kernel
theorem d_Au_lastEnd_45 : decode prog_2_method_7_code 45 = .ok (.ireturn, 1) := by decide +kernel
theorem d_Au_lastEnd_46 : decode prog_2_method_7_code 46 = .ok (.aload 6, 2) := by decide +kernel
theorem d_Au_lastEnd_48 : decode prog_2_method_7_code 48 = .ok (.getfield 69, 3) := by decide +kernel
theorem d_Au_lastEnd_51 : decode prog_2_method_7_code 51 = .ok (.ifCond .ne 24, 3) := by decide +kernel
theorem d_Au_lastEnd_54 : decode prog_2_method_7_code 54 = .ok (.iload 5, 2) := by decide +kernel
theorem d_Au_lastEnd_56 : decode prog_2_method_7_code 56 = .ok (.aload_n 2, 1) := by decide +kernel
theorem d_Au_lastEnd_57 : decode prog_2_method_7_code 57 = .ok (.invokevirtual 59, 3) := by decide +kernel
theorem d_Au_lastEnd_60 : decode prog_2_method_7_code 60 = .ok (.if_icmp .ne 18, 3) := by decide +kernel
theorem d_Au_lastEnd_63 : decode prog_2_method_7_code 63 = .ok (.aload_n 0, 1) := by decide +kernel
theorem d_Au_lastEnd_64 : decode prog_2_method_7_code 64 = .ok (.aload_n 1, 1) := by decide +kernel
theorem d_Au_lastEnd_65 : decode prog_2_method_7_code 65 = .ok (.aload 6, 2) := by decide +kernel
theorem d_Au_lastEnd_67 : decode prog_2_method_7_code 67 = .ok (.iload 5, 2) := by decide +kernel
theorem d_Au_lastEnd_69 : decode prog_2_method_7_code 69 = .ok (.invokevirtual 73, 3) := by decide +kernel
theorem d_Au_lastEnd_72 : decode prog_2_method_7_code 72 = .ok (.ifCond .eq 6, 3) := by decide +kernel
theorem d_Au_lastEnd_75 : decode prog_2_method_7_code 75 = .ok (.iload 5, 2) := by decide +kernel
theorem d_Au_lastEnd_77 : decode prog_2_method_7_code 77 = .ok (.istore_n 3, 1) := by decide +kernel
theorem d_Au_lastEnd_78 : decode prog_2_method_7_code 78 = .ok (.iload 5, 2) := by decide +kernel
theorem d_Au_lastEnd_80 : decode prog_2_method_7_code 80 = .ok (.aload_n 2, 1) := by decide +kernel
theorem d_Au_lastEnd_81 : decode prog_2_method_7_code 81 = .ok (.invokevirtual 59, 3) := by decide +kernel
theorem d_Au_lastEnd_84 : decode prog_2_method_7_code 84 = .ok (.if_icmp .eq 35, 3) := by decide +kernel
theorem d_Au_lastEnd_87 : decode prog_2_method_7_code 87 = .ok (.aload 6, 2) := by decide +kernel
theorem d_Au_lastEnd_89 : decode prog_2_method_7_code 89 = .ok (.invokevirtual 77, 3) := by decide +kernel
theorem d_Au_lastEnd_92 : decode prog_2_method_7_code 92 = .ok (.ifCond .eq 6, 3) := by decide +kernel
theorem d_Au_lastEnd_95 : decode prog_2_method_7_code 95 = .ok (.goto 24, 3) := by decide +kernel
theorem d_Au_lastEnd_98 : decode prog_2_method_7_code 98 = .ok (.aload_n 0, 1) := by decide +kernel
theorem d_Au_lastEnd_99 : decode prog_2_method_7_code 99 = .ok (.aload_n 1, 1) := by decide +kernel
theorem d_Au_lastEnd_100 : decode prog_2_method_7_code 100 = .ok (.iload 4, 2) := by decide +kernel
theorem d_Au_lastEnd_102 : decode prog_2_method_7_code 102 = .ok (.aload_n 2, 1) := by decide +kernel
theorem d_Au_lastEnd_103 : decode prog_2_method_7_code 103 = .ok (.iload 5, 2) := by decide +kernel
theorem d_Au_lastEnd_105 : decode prog_2_method_7_code 105 = .ok (.invokevirtual 81, 3) := by decide +kernel
theorem d_Au_lastEnd_108 : decode prog_2_method_7_code 108 = .ok (.invokevirtual 85, 3) := by decide +kernel
theorem d_Au_lastEnd_111 : decode prog_2_method_7_code 111 = .ok (.istore 4, 2) := by decide +kernel
theorem d_Au_lastEnd_113 : decode prog_2_method_7_code 113 = .ok (.iinc 5 1, 3) := by decide +kernel
theorem d_Au_lastEnd_116 : decode prog_2_method_7_code 116 = .ok (.goto (-94), 3) := by decide +kernel
theorem d_Au_lastEnd_119 : decode prog_2_method_7_code 119 = .ok (.iload_n 3, 1) := by decide +kernel
theorem d_Au_lastEnd_120 : decode prog_2_method_7_code 120 = .ok (.ireturn, 1) := by decide +kernel
theorem M_Au_lastEnd : lt_M0 m_Au_lastEnd 2 := ⟨lt_m3 233 rfl rfl, lt_m1 10 rfl rfl, ⟨by decide +kernel, by decide +kernel, by decide +kernel⟩, by decide⟩
theorem in_Au_lastEnd : Cond.instanceMethod m_Au_lastEnd.1 ∈ lt_T := lt_m3 231 rfl rfl
theorem se_Au_lastEnd : Cond.selects "LinearSearch$Automaton" m_Au_lastEnd.1 m_Au_lastEnd.1 ∈ lt_T := lt_m3 232 rfl rfl
abbrev m_Au_firstState : lt_M := (⟨"LinearSearch$Automaton", "firstState", "(LLinearSearch$Program;)I"⟩, prog_2_method_9_code, 2, (some .int))
theorem d_Au_firstState_0 : decode prog_2_method_9_code 0 = .ok (.aload_n 0, 1) := by decide +kernel
theorem d_Au_firstState_1 : decode prog_2_method_9_code 1 = .ok (.getfield 12, 3) := by decide +kernel
theorem d_Au_firstState_4 : decode prog_2_method_9_code 4 = .ok (.aload_n 1, 1) := by decide +kernel
theorem d_Au_firstState_5 : decode prog_2_method_9_code 5 = .ok (.aload_n 0, 1) := by decide +kernel
theorem d_Au_firstState_6 : decode prog_2_method_9_code 6 = .ok (.getfield 21, 3) := by decide +kernel
theorem d_Au_firstState_9 : decode prog_2_method_9_code 9 = .ok (.iconst 0, 1) := by decide +kernel
theorem d_Au_firstState_10 : decode prog_2_method_9_code 10 = .ok (.iconst 2, 1) := by decide +kernel
theorem d_Au_firstState_11 : decode prog_2_method_9_code 11 = .ok (.invokevirtual 89, 3) := by decide +kernel
theorem d_Au_firstState_14 : decode prog_2_method_9_code 14 = .ok (.aload_n 0, 1) := by decide +kernel
theorem d_Au_firstState_15 : decode prog_2_method_9_code 15 = .ok (.getfield 12, 3) := by decide +kernel
theorem d_Au_firstState_18 : decode prog_2_method_9_code 18 = .ok (.iconst 0, 1) := by decide +kernel
theorem d_Au_firstState_19 : decode prog_2_method_9_code 19 = .ok (.lconst 0, 1) := by decide +kernel
theorem d_Au_firstState_20 : decode prog_2_method_9_code 20 = .ok (.invokevirtual 93, 3) := by decide +kernel
theorem d_Au_firstState_23 : decode prog_2_method_9_code 23 = .ok (.aload_n 0, 1) := by decide +kernel
theorem d_Au_firstState_24 : decode prog_2_method_9_code 24 = .ok (.aload_n 1, 1) := by decide +kernel
theorem d_Au_firstState_25 : decode prog_2_method_9_code 25 = .ok (.iconst 1, 1) := by decide +kernel
theorem d_Au_firstState_26 : decode prog_2_method_9_code 26 = .ok (.invokevirtual 97, 3) := by decide +kernel
theorem d_Au_firstState_29 : decode prog_2_method_9_code 29 = .ok (.ireturn, 1) := by decide +kernel
theorem M_Au_firstState : lt_M0 m_Au_firstState 1 := ⟨lt_m3 237 rfl rfl, lt_m1 10 rfl rfl, ⟨by decide +kernel, by decide +kernel, by decide +kernel⟩, by decide⟩
theorem in_Au_firstState : Cond.instanceMethod m_Au_firstState.1 ∈ lt_T := lt_m3 236 rfl rfl
theorem se_Au_firstState : Cond.selects "LinearSearch$Automaton" m_Au_firstState.1 m_Au_firstState.1 ∈ lt_T := lt_memS 19 rfl rfl
abbrev m_Au_keep : lt_M := (⟨"LinearSearch$Automaton", "keep", "(LLinearSearch$Program;Z)I"⟩, prog_2_method_11_code, 5, (some .int))
theorem d_Au_keep_0 : decode prog_2_method_11_code 0 = .ok (.aload_n 0, 1) := by decide +kernel
theorem d_Au_keep_1 : decode prog_2_method_11_code 1 = .ok (.getfield 28, 3) := by decide +kernel
theorem d_Au_keep_4 : decode prog_2_method_11_code 4 = .ok (.astore_n 3, 1) := by decide +kernel
theorem d_Au_keep_5 : decode prog_2_method_11_code 5 = .ok (.aload_n 3, 1) := by decide +kernel
theorem d_Au_keep_6 : decode prog_2_method_11_code 6 = .ok (.aload_n 1, 1) := by decide +kernel
theorem d_Au_keep_7 : decode prog_2_method_11_code 7 = .ok (.aload_n 0, 1) := by decide +kernel
theorem d_Au_keep_8 : decode prog_2_method_11_code 8 = .ok (.getfield 21, 3) := by decide +kernel
theorem d_Au_keep_11 : decode prog_2_method_11_code 11 = .ok (.iload_n 2, 1) := by decide +kernel
theorem d_Au_keep_12 : decode prog_2_method_11_code 12 = .ok (.invokevirtual 123, 3) := by decide +kernel
theorem d_Au_keep_15 : decode prog_2_method_11_code 15 = .ok (.iconst 0, 1) := by decide +kernel
theorem d_Au_keep_16 : decode prog_2_method_11_code 16 = .ok (.istore 4, 2) := by decide +kernel
theorem d_Au_keep_18 : decode prog_2_method_11_code 18 = .ok (.iload 4, 2) := by decide +kernel
theorem d_Au_keep_20 : decode prog_2_method_11_code 20 = .ok (.aload_n 0, 1) := by decide +kernel
theorem d_Au_keep_21 : decode prog_2_method_11_code 21 = .ok (.getfield 42, 3) := by decide +kernel
theorem d_Au_keep_24 : decode prog_2_method_11_code 24 = .ok (.if_icmp .ge 36, 3) := by decide +kernel
theorem d_Au_keep_27 : decode prog_2_method_11_code 27 = .ok (.iload 4, 2) := by decide +kernel
theorem d_Au_keep_29 : decode prog_2_method_11_code 29 = .ok (.aload_n 0, 1) := by decide +kernel
theorem d_Au_keep_30 : decode prog_2_method_11_code 30 = .ok (.getfield 38, 3) := by decide +kernel
theorem d_Au_keep_33 : decode prog_2_method_11_code 33 = .ok (.arraylength, 1) := by decide +kernel
theorem d_Au_keep_34 : decode prog_2_method_11_code 34 = .ok (.if_icmp .ge 26, 3) := by decide +kernel
theorem d_Au_keep_37 : decode prog_2_method_11_code 37 = .ok (.aload_n 0, 1) := by decide +kernel
theorem d_Au_keep_38 : decode prog_2_method_11_code 38 = .ok (.getfield 38, 3) := by decide +kernel
theorem d_Au_keep_41 : decode prog_2_method_11_code 41 = .ok (.iload 4, 2) := by decide +kernel
theorem d_Au_keep_43 : decode prog_2_method_11_code 43 = .ok (.aaload, 1) := by decide +kernel
theorem d_Au_keep_44 : decode prog_2_method_11_code 44 = .ok (.aload_n 3, 1) := by decide +kernel
theorem d_Au_keep_45 : decode prog_2_method_11_code 45 = .ok (.invokevirtual 127, 3) := by decide +kernel
theorem d_Au_keep_48 : decode prog_2_method_11_code 48 = .ok (.ifCond .eq 6, 3) := by decide +kernel
theorem d_Au_keep_51 : decode prog_2_method_11_code 51 = .ok (.iload 4, 2) := by decide +kernel
theorem d_Au_keep_53 : decode prog_2_method_11_code 53 = .ok (.ireturn, 1) := by decide +kernel
theorem d_Au_keep_54 : decode prog_2_method_11_code 54 = .ok (.iinc 4 1, 3) := by decide +kernel
theorem d_Au_keep_57 : decode prog_2_method_11_code 57 = .ok (.goto (-39), 3) := by decide +kernel
theorem d_Au_keep_60 : decode prog_2_method_11_code 60 = .ok (.aload_n 0, 1) := by decide +kernel
theorem d_Au_keep_61 : decode prog_2_method_11_code 61 = .ok (.getfield 42, 3) := by decide +kernel
theorem d_Au_keep_64 : decode prog_2_method_11_code 64 = .ok (.ifCond .lt 15, 3) := by decide +kernel
theorem d_Au_keep_67 : decode prog_2_method_11_code 67 = .ok (.aload_n 0, 1) := by decide +kernel
theorem d_Au_keep_68 : decode prog_2_method_11_code 68 = .ok (.getfield 42, 3) := by decide +kernel
theorem d_Au_keep_71 : decode prog_2_method_11_code 71 = .ok (.aload_n 0, 1) := by decide +kernel
theorem d_Au_keep_72 : decode prog_2_method_11_code 72 = .ok (.getfield 38, 3) := by decide +kernel
theorem d_Au_keep_75 : decode prog_2_method_11_code 75 = .ok (.arraylength, 1) := by decide +kernel
theorem d_Au_keep_76 : decode prog_2_method_11_code 76 = .ok (.if_icmp .lt 37, 3) := by decide +kernel
theorem d_Au_keep_79 : decode prog_2_method_11_code 79 = .ok (.aload_n 0, 1) := by decide +kernel
theorem d_Au_keep_80 : decode prog_2_method_11_code 80 = .ok (.iconst 0, 1) := by decide +kernel
theorem d_Au_keep_81 : decode prog_2_method_11_code 81 = .ok (.putfield 42, 3) := by decide +kernel
theorem d_Au_keep_84 : decode prog_2_method_11_code 84 = .ok (.aload_n 0, 1) := by decide +kernel
theorem d_Au_keep_85 : decode prog_2_method_11_code 85 = .ok (.dup, 1) := by decide +kernel
theorem d_Au_keep_86 : decode prog_2_method_11_code 86 = .ok (.getfield 46, 3) := by decide +kernel
theorem d_Au_keep_89 : decode prog_2_method_11_code 89 = .ok (.iconst 1, 1) := by decide +kernel
theorem d_Au_keep_90 : decode prog_2_method_11_code 90 = .ok (.iadd, 1) := by decide +kernel
theorem d_Au_keep_91 : decode prog_2_method_11_code 91 = .ok (.putfield 46, 3) := by decide +kernel
theorem d_Au_keep_94 : decode prog_2_method_11_code 94 = .ok (.aload_n 0, 1) := by decide +kernel
theorem d_Au_keep_95 : decode prog_2_method_11_code 95 = .ok (.dup, 1) := by decide +kernel
theorem d_Au_keep_96 : decode prog_2_method_11_code 96 = .ok (.getfield 52, 3) := by decide +kernel
theorem d_Au_keep_99 : decode prog_2_method_11_code 99 = .ok (.iconst 1, 1) := by decide +kernel
theorem d_Au_keep_100 : decode prog_2_method_11_code 100 = .ok (.iadd, 1) := by decide +kernel
theorem d_Au_keep_101 : decode prog_2_method_11_code 101 = .ok (.putfield 52, 3) := by decide +kernel
theorem d_Au_keep_104 : decode prog_2_method_11_code 104 = .ok (.aload_n 0, 1) := by decide +kernel
theorem d_Au_keep_105 : decode prog_2_method_11_code 105 = .ok (.invokevirtual 131, 3) := by decide +kernel
theorem d_Au_keep_108 : decode prog_2_method_11_code 108 = .ok (.ifCond .eq 5, 3) := by decide +kernel
theorem d_Au_keep_111 : decode prog_2_method_11_code 111 = .ok (.iconst (-1), 1) := by decide +kernel
theorem d_Au_keep_112 : decode prog_2_method_11_code 112 = .ok (.ireturn, 1) := by decide +kernel
theorem d_Au_keep_113 : decode prog_2_method_11_code 113 = .ok (.aload_n 0, 1) := by decide +kernel
theorem d_Au_keep_114 : decode prog_2_method_11_code 114 = .ok (.aload_n 0, 1) := by decide +kernel
theorem d_Au_keep_115 : decode prog_2_method_11_code 115 = .ok (.getfield 38, 3) := by decide +kernel
theorem d_Au_keep_118 : decode prog_2_method_11_code 118 = .ok (.aload_n 0, 1) := by decide +kernel
theorem d_Au_keep_119 : decode prog_2_method_11_code 119 = .ok (.getfield 42, 3) := by decide +kernel
theorem d_Au_keep_122 : decode prog_2_method_11_code 122 = .ok (.aaload, 1) := by decide +kernel
theorem d_Au_keep_123 : decode prog_2_method_11_code 123 = .ok (.putfield 28, 3) := by decide +kernel
theorem d_Au_keep_126 : decode prog_2_method_11_code 126 = .ok (.aload_n 0, 1) := by decide +kernel
theorem d_Au_keep_127 : decode prog_2_method_11_code 127 = .ok (.getfield 38, 3) := by decide +kernel
theorem d_Au_keep_130 : decode prog_2_method_11_code 130 = .ok (.aload_n 0, 1) := by decide +kernel
theorem d_Au_keep_131 : decode prog_2_method_11_code 131 = .ok (.getfield 42, 3) := by decide +kernel
theorem d_Au_keep_134 : decode prog_2_method_11_code 134 = .ok (.aload_n 3, 1) := by decide +kernel
theorem d_Au_keep_135 : decode prog_2_method_11_code 135 = .ok (.aastore, 1) := by decide +kernel
theorem d_Au_keep_136 : decode prog_2_method_11_code 136 = .ok (.aload_n 0, 1) := by decide +kernel
theorem d_Au_keep_137 : decode prog_2_method_11_code 137 = .ok (.dup, 1) := by decide +kernel
theorem d_Au_keep_138 : decode prog_2_method_11_code 138 = .ok (.getfield 42, 3) := by decide +kernel
theorem d_Au_keep_141 : decode prog_2_method_11_code 141 = .ok (.iconst 1, 1) := by decide +kernel
theorem d_Au_keep_142 : decode prog_2_method_11_code 142 = .ok (.iadd, 1) := by decide +kernel
theorem d_Au_keep_143 : decode prog_2_method_11_code 143 = .ok (.putfield 42, 3) := by decide +kernel
theorem d_Au_keep_146 : decode prog_2_method_11_code 146 = .ok (.aload_n 0, 1) := by decide +kernel
theorem d_Au_keep_147 : decode prog_2_method_11_code 147 = .ok (.dup, 1) := by decide +kernel
theorem d_Au_keep_148 : decode prog_2_method_11_code 148 = .ok (.getfield 49, 3) := by decide +kernel
theorem d_Au_keep_151 : decode prog_2_method_11_code 151 = .ok (.iconst 1, 1) := by decide +kernel
theorem d_Au_keep_152 : decode prog_2_method_11_code 152 = .ok (.iadd, 1) := by decide +kernel
theorem d_Au_keep_153 : decode prog_2_method_11_code 153 = .ok (.putfield 49, 3) := by decide +kernel
theorem d_Au_keep_156 : decode prog_2_method_11_code 156 = .ok (.aload_n 0, 1) := by decide +kernel
theorem d_Au_keep_157 : decode prog_2_method_11_code 157 = .ok (.getfield 42, 3) := by decide +kernel
theorem d_Au_keep_160 : decode prog_2_method_11_code 160 = .ok (.iconst 1, 1) := by decide +kernel
theorem d_Au_keep_161 : decode prog_2_method_11_code 161 = .ok (.isub, 1) := by decide +kernel
theorem d_Au_keep_162 : decode prog_2_method_11_code 162 = .ok (.ireturn, 1) := by decide +kernel
theorem M_Au_keep : lt_M0 m_Au_keep 2 := ⟨lt_m4 3 rfl rfl, lt_m1 10 rfl rfl, ⟨by decide +kernel, by decide +kernel, by decide +kernel⟩, by decide⟩
theorem in_Au_keep : Cond.instanceMethod m_Au_keep.1 ∈ lt_T := lt_m4 2 rfl rfl
theorem se_Au_keep : Cond.selects "LinearSearch$Automaton" m_Au_keep.1 m_Au_keep.1 ∈ lt_T := lt_memS 20 rfl rfl
abbrev m_Au_gaveUp : lt_M := (⟨"LinearSearch$Automaton", "gaveUp", "()Z"⟩, prog_2_method_6_code, 1, (some .boolean))
theorem d_Au_gaveUp_0 : decode prog_2_method_6_code 0 = .ok (.aload_n 0, 1) := by decide +kernel
theorem d_Au_gaveUp_1 : decode prog_2_method_6_code 1 = .ok (.getfield 52, 3) := by decide +kernel
theorem d_Au_gaveUp_4 : decode prog_2_method_6_code 4 = .ok (.iconst 3, 1) := by decide +kernel
theorem d_Au_gaveUp_5 : decode prog_2_method_6_code 5 = .ok (.if_icmp .lt 7, 3) := by decide +kernel
theorem d_Au_gaveUp_8 : decode prog_2_method_6_code 8 = .ok (.iconst 1, 1) := by decide +kernel
theorem d_Au_gaveUp_9 : decode prog_2_method_6_code 9 = .ok (.goto 4, 3) := by decide +kernel
theorem d_Au_gaveUp_12 : decode prog_2_method_6_code 12 = .ok (.iconst 0, 1) := by decide +kernel
theorem d_Au_gaveUp_13 : decode prog_2_method_6_code 13 = .ok (.ireturn, 1) := by decide +kernel
theorem M_Au_gaveUp : lt_M0 m_Au_gaveUp 0 := ⟨lt_m4 21 rfl rfl, lt_m1 10 rfl rfl, ⟨by decide +kernel, by decide +kernel, by decide +kernel⟩, by decide⟩
theorem in_Au_gaveUp : Cond.instanceMethod m_Au_gaveUp.1 ∈ lt_T := lt_m4 19 rfl rfl
theorem se_Au_gaveUp : Cond.selects "LinearSearch$Automaton" m_Au_gaveUp.1 m_Au_gaveUp.1 ∈ lt_T := lt_m4 20 rfl rfl
abbrev m_Au_stateAt : lt_M := (⟨"LinearSearch$Automaton", "stateAt", "(I)LLinearSearch$State;"⟩, prog_2_method_8_code, 2, (some (.object "LinearSearch$State")))
theorem d_Au_stateAt_0 : decode prog_2_method_8_code 0 = .ok (.iload_n 1, 1) := by decide +kernel
theorem d_Au_stateAt_1 : decode prog_2_method_8_code 1 = .ok (.ifCond .lt 29, 3) := by decide +kernel
theorem d_Au_stateAt_4 : decode prog_2_method_8_code 4 = .ok (.iload_n 1, 1) := by decide +kernel
theorem d_Au_stateAt_5 : decode prog_2_method_8_code 5 = .ok (.aload_n 0, 1) := by decide +kernel
theorem d_Au_stateAt_6 : decode prog_2_method_8_code 6 = .ok (.getfield 42, 3) := by decide +kernel
theorem d_Au_stateAt_9 : decode prog_2_method_8_code 9 = .ok (.if_icmp .ge 21, 3) := by decide +kernel
theorem d_Au_stateAt_12 : decode prog_2_method_8_code 12 = .ok (.iload_n 1, 1) := by decide +kernel
theorem d_Au_stateAt_13 : decode prog_2_method_8_code 13 = .ok (.aload_n 0, 1) := by decide +kernel
theorem d_Au_stateAt_14 : decode prog_2_method_8_code 14 = .ok (.getfield 38, 3) := by decide +kernel
theorem d_Au_stateAt_17 : decode prog_2_method_8_code 17 = .ok (.arraylength, 1) := by decide +kernel
theorem d_Au_stateAt_18 : decode prog_2_method_8_code 18 = .ok (.if_icmp .ge 12, 3) := by decide +kernel
theorem d_Au_stateAt_21 : decode prog_2_method_8_code 21 = .ok (.aload_n 0, 1) := by decide +kernel
theorem d_Au_stateAt_22 : decode prog_2_method_8_code 22 = .ok (.getfield 38, 3) := by decide +kernel
theorem d_Au_stateAt_25 : decode prog_2_method_8_code 25 = .ok (.iload_n 1, 1) := by decide +kernel
theorem d_Au_stateAt_26 : decode prog_2_method_8_code 26 = .ok (.aaload, 1) := by decide +kernel
theorem d_Au_stateAt_27 : decode prog_2_method_8_code 27 = .ok (.goto 4, 3) := by decide +kernel
theorem d_Au_stateAt_30 : decode prog_2_method_8_code 30 = .ok (.aconst_null, 1) := by decide +kernel
theorem d_Au_stateAt_31 : decode prog_2_method_8_code 31 = .ok (.areturn, 1) := by decide +kernel
theorem M_Au_stateAt : lt_M0 m_Au_stateAt 1 := ⟨lt_m4 26 rfl rfl, lt_m1 10 rfl rfl, ⟨by decide +kernel, by decide +kernel, by decide +kernel⟩, by decide⟩
theorem in_Au_stateAt : Cond.instanceMethod m_Au_stateAt.1 ∈ lt_T := lt_m4 25 rfl rfl
theorem se_Au_stateAt : Cond.selects "LinearSearch$Automaton" m_Au_stateAt.1 m_Au_stateAt.1 ∈ lt_T := lt_memS 21 rfl rfl
abbrev m_Au_foundBehindLasts : lt_M := (⟨"LinearSearch$Automaton", "foundBehindLasts", "(LLinearSearch$Program;LLinearSearch$State;I)Z"⟩, prog_2_method_12_code, 5, (some .boolean))
theorem d_Au_foundBehindLasts_0 : decode prog_2_method_12_code 0 = .ok (.aload_n 0, 1) := by decide +kernel
theorem d_Au_foundBehindLasts_1 : decode prog_2_method_12_code 1 = .ok (.getfield 12, 3) := by decide +kernel
theorem d_Au_foundBehindLasts_4 : decode prog_2_method_12_code 4 = .ok (.aload_n 1, 1) := by decide +kernel
theorem d_Au_foundBehindLasts_5 : decode prog_2_method_12_code 5 = .ok (.aload_n 0, 1) := by decide +kernel
theorem d_Au_foundBehindLasts_6 : decode prog_2_method_12_code 6 = .ok (.getfield 21, 3) := by decide +kernel
theorem d_Au_foundBehindLasts_9 : decode prog_2_method_12_code 9 = .ok (.iload_n 3, 1) := by decide +kernel
theorem d_Au_foundBehindLasts_10 : decode prog_2_method_12_code 10 = .ok (.iconst 1, 1) := by decide +kernel
theorem d_Au_foundBehindLasts_11 : decode prog_2_method_12_code 11 = .ok (.invokevirtual 89, 3) := by decide +kernel
theorem d_Au_foundBehindLasts_14 : decode prog_2_method_12_code 14 = .ok (.iconst 0, 1) := by decide +kernel
theorem d_Au_foundBehindLasts_15 : decode prog_2_method_12_code 15 = .ok (.istore 4, 2) := by decide +kernel
theorem d_Au_foundBehindLasts_17 : decode prog_2_method_12_code 17 = .ok (.iload 4, 2) := by decide +kernel
theorem d_Au_foundBehindLasts_19 : decode prog_2_method_12_code 19 = .ok (.aload_n 2, 1) := by decide +kernel
theorem d_Au_foundBehindLasts_20 : decode prog_2_method_12_code 20 = .ok (.getfield 104, 3) := by decide +kernel
theorem d_Au_foundBehindLasts_23 : decode prog_2_method_12_code 23 = .ok (.if_icmp .ge 40, 3) := by decide +kernel
theorem d_Au_foundBehindLasts_26 : decode prog_2_method_12_code 26 = .ok (.aload_n 1, 1) := by decide +kernel
theorem d_Au_foundBehindLasts_27 : decode prog_2_method_12_code 27 = .ok (.aload_n 2, 1) := by decide +kernel
theorem d_Au_foundBehindLasts_28 : decode prog_2_method_12_code 28 = .ok (.iload 4, 2) := by decide +kernel
theorem d_Au_foundBehindLasts_30 : decode prog_2_method_12_code 30 = .ok (.invokevirtual 107, 3) := by decide +kernel
theorem d_Au_foundBehindLasts_33 : decode prog_2_method_12_code 33 = .ok (.invokevirtual 134, 3) := by decide +kernel
theorem d_Au_foundBehindLasts_36 : decode prog_2_method_12_code 36 = .ok (.bipush 6, 2) := by decide +kernel
theorem d_Au_foundBehindLasts_38 : decode prog_2_method_12_code 38 = .ok (.if_icmp .ne 19, 3) := by decide +kernel
theorem d_Au_foundBehindLasts_41 : decode prog_2_method_12_code 41 = .ok (.aload_n 0, 1) := by decide +kernel
theorem d_Au_foundBehindLasts_42 : decode prog_2_method_12_code 42 = .ok (.getfield 12, 3) := by decide +kernel
theorem d_Au_foundBehindLasts_45 : decode prog_2_method_12_code 45 = .ok (.aload_n 2, 1) := by decide +kernel
theorem d_Au_foundBehindLasts_46 : decode prog_2_method_12_code 46 = .ok (.iload 4, 2) := by decide +kernel
theorem d_Au_foundBehindLasts_48 : decode prog_2_method_12_code 48 = .ok (.invokevirtual 107, 3) := by decide +kernel
theorem d_Au_foundBehindLasts_51 : decode prog_2_method_12_code 51 = .ok (.iconst 1, 1) := by decide +kernel
theorem d_Au_foundBehindLasts_52 : decode prog_2_method_12_code 52 = .ok (.iadd, 1) := by decide +kernel
theorem d_Au_foundBehindLasts_53 : decode prog_2_method_12_code 53 = .ok (.lconst 0, 1) := by decide +kernel
theorem d_Au_foundBehindLasts_54 : decode prog_2_method_12_code 54 = .ok (.invokevirtual 93, 3) := by decide +kernel
theorem d_Au_foundBehindLasts_57 : decode prog_2_method_12_code 57 = .ok (.iinc 4 1, 3) := by decide +kernel
theorem d_Au_foundBehindLasts_60 : decode prog_2_method_12_code 60 = .ok (.goto (-43), 3) := by decide +kernel
theorem d_Au_foundBehindLasts_63 : decode prog_2_method_12_code 63 = .ok (.iconst 0, 1) := by decide +kernel
theorem d_Au_foundBehindLasts_64 : decode prog_2_method_12_code 64 = .ok (.istore 4, 2) := by decide +kernel
theorem d_Au_foundBehindLasts_66 : decode prog_2_method_12_code 66 = .ok (.iload 4, 2) := by decide +kernel
theorem d_Au_foundBehindLasts_68 : decode prog_2_method_12_code 68 = .ok (.aload_n 0, 1) := by decide +kernel
theorem d_Au_foundBehindLasts_69 : decode prog_2_method_12_code 69 = .ok (.getfield 21, 3) := by decide +kernel
theorem d_Au_foundBehindLasts_72 : decode prog_2_method_12_code 72 = .ok (.invokevirtual 137, 3) := by decide +kernel
theorem d_Au_foundBehindLasts_75 : decode prog_2_method_12_code 75 = .ok (.if_icmp .ge 29, 3) := by decide +kernel
theorem d_Au_foundBehindLasts_78 : decode prog_2_method_12_code 78 = .ok (.aload_n 1, 1) := by decide +kernel
theorem d_Au_foundBehindLasts_79 : decode prog_2_method_12_code 79 = .ok (.aload_n 0, 1) := by decide +kernel
theorem d_Au_foundBehindLasts_80 : decode prog_2_method_12_code 80 = .ok (.getfield 21, 3) := by decide +kernel
theorem d_Au_foundBehindLasts_83 : decode prog_2_method_12_code 83 = .ok (.iload 4, 2) := by decide +kernel
theorem d_Au_foundBehindLasts_85 : decode prog_2_method_12_code 85 = .ok (.invokevirtual 139, 3) := by decide +kernel
theorem d_Au_foundBehindLasts_88 : decode prog_2_method_12_code 88 = .ok (.invokevirtual 134, 3) := by decide +kernel
theorem d_Au_foundBehindLasts_91 : decode prog_2_method_12_code 91 = .ok (.bipush 7, 2) := by decide +kernel
theorem d_Au_foundBehindLasts_93 : decode prog_2_method_12_code 93 = .ok (.if_icmp .ne 5, 3) := by decide +kernel
theorem d_Au_foundBehindLasts_96 : decode prog_2_method_12_code 96 = .ok (.iconst 1, 1) := by decide +kernel
theorem d_Au_foundBehindLasts_97 : decode prog_2_method_12_code 97 = .ok (.ireturn, 1) := by decide +kernel
theorem d_Au_foundBehindLasts_98 : decode prog_2_method_12_code 98 = .ok (.iinc 4 1, 3) := by decide +kernel
theorem d_Au_foundBehindLasts_101 : decode prog_2_method_12_code 101 = .ok (.goto (-35), 3) := by decide +kernel
theorem d_Au_foundBehindLasts_104 : decode prog_2_method_12_code 104 = .ok (.iconst 0, 1) := by decide +kernel
theorem d_Au_foundBehindLasts_105 : decode prog_2_method_12_code 105 = .ok (.ireturn, 1) := by decide +kernel
theorem M_Au_foundBehindLasts : lt_M0 m_Au_foundBehindLasts 3 := ⟨lt_m4 30 rfl rfl, lt_m1 10 rfl rfl, ⟨by decide +kernel, by decide +kernel, by decide +kernel⟩, by decide⟩
theorem in_Au_foundBehindLasts : Cond.instanceMethod m_Au_foundBehindLasts.1 ∈ lt_T := lt_m4 29 rfl rfl
theorem se_Au_foundBehindLasts : Cond.selects "LinearSearch$Automaton" m_Au_foundBehindLasts.1 m_Au_foundBehindLasts.1 ∈ lt_T := lt_memS 22 rfl rfl
abbrev m_Au_nextState : lt_M := (⟨"LinearSearch$Automaton", "nextState", "(LLinearSearch$Program;II)I"⟩, prog_2_method_10_code, 9, (some .int))
theorem d_Au_nextState_0 : decode prog_2_method_10_code 0 = .ok (.aload_n 0, 1) := by decide +kernel
theorem d_Au_nextState_1 : decode prog_2_method_10_code 1 = .ok (.iload_n 2, 1) := by decide +kernel
theorem d_Au_nextState_2 : decode prog_2_method_10_code 2 = .ok (.invokevirtual 65, 3) := by decide +kernel
theorem d_Au_nextState_5 : decode prog_2_method_10_code 5 = .ok (.astore 4, 2) := by decide +kernel
theorem d_Au_nextState_7 : decode prog_2_method_10_code 7 = .ok (.aload 4, 2) := by decide +kernel
theorem d_Au_nextState_9 : decode prog_2_method_10_code 9 = .ok (.ifnonnull 5, 3) := by decide +kernel
theorem d_Au_nextState_12 : decode prog_2_method_10_code 12 = .ok (.iconst (-1), 1) := by decide +kernel
theorem d_Au_nextState_13 : decode prog_2_method_10_code 13 = .ok (.ireturn, 1) := by decide +kernel
theorem d_Au_nextState_14 : decode prog_2_method_10_code 14 = .ok (.aload 4, 2) := by decide +kernel
theorem d_Au_nextState_16 : decode prog_2_method_10_code 16 = .ok (.iload_n 3, 1) := by decide +kernel
theorem d_Au_nextState_17 : decode prog_2_method_10_code 17 = .ok (.invokevirtual 101, 3) := by decide +kernel
theorem d_Au_nextState_20 : decode prog_2_method_10_code 20 = .ok (.istore 5, 2) := by decide +kernel
theorem d_Au_nextState_22 : decode prog_2_method_10_code 22 = .ok (.iload 5, 2) := by decide +kernel
theorem d_Au_nextState_24 : decode prog_2_method_10_code 24 = .ok (.iconst (-1), 1) := by decide +kernel
theorem d_Au_nextState_25 : decode prog_2_method_10_code 25 = .ok (.if_icmp .eq 6, 3) := by decide +kernel
theorem d_Au_nextState_28 : decode prog_2_method_10_code 28 = .ok (.iload 5, 2) := by decide +kernel
theorem d_Au_nextState_30 : decode prog_2_method_10_code 30 = .ok (.ireturn, 1) := by decide +kernel
theorem d_Au_nextState_31 : decode prog_2_method_10_code 31 = .ok (.aload_n 0, 1) := by decide +kernel
theorem d_Au_nextState_32 : decode prog_2_method_10_code 32 = .ok (.getfield 12, 3) := by decide +kernel
theorem d_Au_nextState_35 : decode prog_2_method_10_code 35 = .ok (.aload_n 1, 1) := by decide +kernel
theorem d_Au_nextState_36 : decode prog_2_method_10_code 36 = .ok (.aload_n 0, 1) := by decide +kernel
theorem d_Au_nextState_37 : decode prog_2_method_10_code 37 = .ok (.getfield 21, 3) := by decide +kernel
theorem d_Au_nextState_40 : decode prog_2_method_10_code 40 = .ok (.iconst 1, 1) := by decide +kernel
theorem d_Au_nextState_41 : decode prog_2_method_10_code 41 = .ok (.iconst 2, 1) := by decide +kernel
theorem d_Au_nextState_42 : decode prog_2_method_10_code 42 = .ok (.invokevirtual 89, 3) := by decide +kernel
theorem d_Au_nextState_45 : decode prog_2_method_10_code 45 = .ok (.iconst 0, 1) := by decide +kernel
theorem d_Au_nextState_46 : decode prog_2_method_10_code 46 = .ok (.istore 6, 2) := by decide +kernel
theorem d_Au_nextState_48 : decode prog_2_method_10_code 48 = .ok (.iload 6, 2) := by decide +kernel
theorem d_Au_nextState_50 : decode prog_2_method_10_code 50 = .ok (.aload 4, 2) := by decide +kernel
theorem d_Au_nextState_52 : decode prog_2_method_10_code 52 = .ok (.getfield 104, 3) := by decide +kernel
theorem d_Au_nextState_55 : decode prog_2_method_10_code 55 = .ok (.if_icmp .ge 41, 3) := by decide +kernel
theorem d_Au_nextState_58 : decode prog_2_method_10_code 58 = .ok (.aload_n 1, 1) := by decide +kernel
theorem d_Au_nextState_59 : decode prog_2_method_10_code 59 = .ok (.aload 4, 2) := by decide +kernel
theorem d_Au_nextState_61 : decode prog_2_method_10_code 61 = .ok (.iload 6, 2) := by decide +kernel
theorem d_Au_nextState_63 : decode prog_2_method_10_code 63 = .ok (.invokevirtual 107, 3) := by decide +kernel
theorem d_Au_nextState_66 : decode prog_2_method_10_code 66 = .ok (.iload_n 3, 1) := by decide +kernel
theorem d_Au_nextState_67 : decode prog_2_method_10_code 67 = .ok (.invokevirtual 110, 3) := by decide +kernel
theorem d_Au_nextState_70 : decode prog_2_method_10_code 70 = .ok (.ifCond .eq 20, 3) := by decide +kernel
theorem d_Au_nextState_73 : decode prog_2_method_10_code 73 = .ok (.aload_n 0, 1) := by decide +kernel
theorem d_Au_nextState_74 : decode prog_2_method_10_code 74 = .ok (.getfield 12, 3) := by decide +kernel
theorem d_Au_nextState_77 : decode prog_2_method_10_code 77 = .ok (.aload 4, 2) := by decide +kernel
theorem d_Au_nextState_79 : decode prog_2_method_10_code 79 = .ok (.iload 6, 2) := by decide +kernel
theorem d_Au_nextState_81 : decode prog_2_method_10_code 81 = .ok (.invokevirtual 107, 3) := by decide +kernel
theorem d_Au_nextState_84 : decode prog_2_method_10_code 84 = .ok (.iconst 1, 1) := by decide +kernel
theorem d_Au_nextState_85 : decode prog_2_method_10_code 85 = .ok (.iadd, 1) := by decide +kernel
theorem d_Au_nextState_86 : decode prog_2_method_10_code 86 = .ok (.lconst 0, 1) := by decide +kernel
theorem d_Au_nextState_87 : decode prog_2_method_10_code 87 = .ok (.invokevirtual 93, 3) := by decide +kernel
theorem d_Au_nextState_90 : decode prog_2_method_10_code 90 = .ok (.iinc 6 1, 3) := by decide +kernel
theorem d_Au_nextState_93 : decode prog_2_method_10_code 93 = .ok (.goto (-45), 3) := by decide +kernel
theorem d_Au_nextState_96 : decode prog_2_method_10_code 96 = .ok (.aload 4, 2) := by decide +kernel
theorem d_Au_nextState_98 : decode prog_2_method_10_code 98 = .ok (.invokevirtual 116, 3) := by decide +kernel
theorem d_Au_nextState_101 : decode prog_2_method_10_code 101 = .ok (.istore 6, 2) := by decide +kernel
theorem d_Au_nextState_103 : decode prog_2_method_10_code 103 = .ok (.iload 6, 2) := by decide +kernel
theorem d_Au_nextState_105 : decode prog_2_method_10_code 105 = .ok (.ifCond .eq 12, 3) := by decide +kernel
theorem d_Au_nextState_108 : decode prog_2_method_10_code 108 = .ok (.aload_n 0, 1) := by decide +kernel
theorem d_Au_nextState_109 : decode prog_2_method_10_code 109 = .ok (.getfield 12, 3) := by decide +kernel
theorem d_Au_nextState_112 : decode prog_2_method_10_code 112 = .ok (.iconst 0, 1) := by decide +kernel
theorem d_Au_nextState_113 : decode prog_2_method_10_code 113 = .ok (.lconst 0, 1) := by decide +kernel
theorem d_Au_nextState_114 : decode prog_2_method_10_code 114 = .ok (.invokevirtual 93, 3) := by decide +kernel
theorem d_Au_nextState_117 : decode prog_2_method_10_code 117 = .ok (.aload_n 0, 1) := by decide +kernel
theorem d_Au_nextState_118 : decode prog_2_method_10_code 118 = .ok (.getfield 46, 3) := by decide +kernel
theorem d_Au_nextState_121 : decode prog_2_method_10_code 121 = .ok (.istore 7, 2) := by decide +kernel
theorem d_Au_nextState_123 : decode prog_2_method_10_code 123 = .ok (.aload_n 0, 1) := by decide +kernel
theorem d_Au_nextState_124 : decode prog_2_method_10_code 124 = .ok (.aload_n 1, 1) := by decide +kernel
theorem d_Au_nextState_125 : decode prog_2_method_10_code 125 = .ok (.iload 6, 2) := by decide +kernel
theorem d_Au_nextState_127 : decode prog_2_method_10_code 127 = .ok (.invokevirtual 97, 3) := by decide +kernel
theorem d_Au_nextState_130 : decode prog_2_method_10_code 130 = .ok (.istore 8, 2) := by decide +kernel
theorem d_Au_nextState_132 : decode prog_2_method_10_code 132 = .ok (.aload_n 0, 1) := by decide +kernel
theorem d_Au_nextState_133 : decode prog_2_method_10_code 133 = .ok (.getfield 46, 3) := by decide +kernel
theorem d_Au_nextState_136 : decode prog_2_method_10_code 136 = .ok (.iload 7, 2) := by decide +kernel
theorem d_Au_nextState_138 : decode prog_2_method_10_code 138 = .ok (.if_icmp .ne 11, 3) := by decide +kernel
theorem d_Au_nextState_141 : decode prog_2_method_10_code 141 = .ok (.aload 4, 2) := by decide +kernel
theorem d_Au_nextState_143 : decode prog_2_method_10_code 143 = .ok (.iload_n 3, 1) := by decide +kernel
theorem d_Au_nextState_144 : decode prog_2_method_10_code 144 = .ok (.iload 8, 2) := by decide +kernel
theorem d_Au_nextState_146 : decode prog_2_method_10_code 146 = .ok (.invokevirtual 119, 3) := by decide +kernel
theorem d_Au_nextState_149 : decode prog_2_method_10_code 149 = .ok (.iload 8, 2) := by decide +kernel
theorem d_Au_nextState_151 : decode prog_2_method_10_code 151 = .ok (.ireturn, 1) := by decide +kernel
theorem M_Au_nextState : lt_M0 m_Au_nextState 3 := ⟨lt_m4 46 rfl rfl, lt_m1 10 rfl rfl, ⟨by decide +kernel, by decide +kernel, by decide +kernel⟩, by decide⟩
theorem in_Au_nextState : Cond.instanceMethod m_Au_nextState.1 ∈ lt_T := lt_m4 45 rfl rfl
theorem se_Au_nextState : Cond.selects "LinearSearch$Automaton" m_Au_nextState.1 m_Au_nextState.1 ∈ lt_T := lt_memS 23 rfl rfl
abbrev m_Ls_find : lt_M := (⟨"LinearSearch$Lists", "find", "(LLinearSearch$Program;LLinearSearch$Text;IZ)J"⟩, prog_4_method_3_code, 11, (some .long))
theorem d_Ls_find_0 : decode prog_4_method_3_code 0 = .ok (.aload_n 0, 1) := by decide +kernel
theorem d_Ls_find_1 : decode prog_4_method_3_code 1 = .ok (.iconst 0, 1) := by decide +kernel
theorem d_Ls_find_2 : decode prog_4_method_3_code 2 = .ok (.putfield 28, 3) := by decide +kernel
theorem d_Ls_find_5 : decode prog_4_method_3_code 5 = .ok (.lconst 0, 1) := by decide +kernel
theorem d_Ls_find_6 : decode prog_4_method_3_code 6 = .ok (.lstore 5, 2) := by decide +kernel
theorem d_Ls_find_8 : decode prog_4_method_3_code 8 = .ok (.aload_n 0, 1) := by decide +kernel
theorem d_Ls_find_9 : decode prog_4_method_3_code 9 = .ok (.getfield 12, 3) := by decide +kernel
theorem d_Ls_find_12 : decode prog_4_method_3_code 12 = .ok (.aload_n 1, 1) := by decide +kernel
theorem d_Ls_find_13 : decode prog_4_method_3_code 13 = .ok (.aload_n 0, 1) := by decide +kernel
theorem d_Ls_find_14 : decode prog_4_method_3_code 14 = .ok (.getfield 21, 3) := by decide +kernel
theorem d_Ls_find_17 : decode prog_4_method_3_code 17 = .ok (.iload_n 3, 1) := by decide +kernel
theorem d_Ls_find_18 : decode prog_4_method_3_code 18 = .ok (.iload_n 3, 1) := by decide +kernel
theorem d_Ls_find_19 : decode prog_4_method_3_code 19 = .ok (.aload_n 2, 1) := by decide +kernel
theorem d_Ls_find_20 : decode prog_4_method_3_code 20 = .ok (.invokestatic 32, 3) := by decide +kernel
theorem d_Ls_find_23 : decode prog_4_method_3_code 23 = .ok (.invokevirtual 36, 3) := by decide +kernel
theorem d_Ls_find_26 : decode prog_4_method_3_code 26 = .ok (.aload_n 0, 1) := by decide +kernel
theorem d_Ls_find_27 : decode prog_4_method_3_code 27 = .ok (.getfield 12, 3) := by decide +kernel
theorem d_Ls_find_30 : decode prog_4_method_3_code 30 = .ok (.iconst 0, 1) := by decide +kernel
theorem d_Ls_find_31 : decode prog_4_method_3_code 31 = .ok (.iload_n 3, 1) := by decide +kernel
theorem d_Ls_find_32 : decode prog_4_method_3_code 32 = .ok (.invokestatic 40, 3) := by decide +kernel
theorem d_Ls_find_35 : decode prog_4_method_3_code 35 = .ok (.invokevirtual 44, 3) := by decide +kernel
theorem d_Ls_find_38 : decode prog_4_method_3_code 38 = .ok (.iload_n 3, 1) := by decide +kernel
theorem d_Ls_find_39 : decode prog_4_method_3_code 39 = .ok (.istore 7, 2) := by decide +kernel
theorem d_Ls_find_41 : decode prog_4_method_3_code 41 = .ok (.iload 7, 2) := by decide +kernel
theorem d_Ls_find_43 : decode prog_4_method_3_code 43 = .ok (.aload_n 2, 1) := by decide +kernel
theorem d_Ls_find_44 : decode prog_4_method_3_code 44 = .ok (.invokevirtual 48, 3) := by decide +kernel
theorem d_Ls_find_47 : decode prog_4_method_3_code 47 = .ok (.if_icmp .gt 133, 3) := by decide +kernel
theorem d_Ls_find_50 : decode prog_4_method_3_code 50 = .ok (.aload_n 0, 1) := by decide +kernel
theorem d_Ls_find_51 : decode prog_4_method_3_code 51 = .ok (.getfield 12, 3) := by decide +kernel
theorem d_Ls_find_54 : decode prog_4_method_3_code 54 = .ok (.aload_n 1, 1) := by decide +kernel
theorem d_Ls_find_55 : decode prog_4_method_3_code 55 = .ok (.aload_n 0, 1) := by decide +kernel
theorem d_Ls_find_56 : decode prog_4_method_3_code 56 = .ok (.getfield 25, 3) := by decide +kernel
theorem d_Ls_find_59 : decode prog_4_method_3_code 59 = .ok (.iload 7, 2) := by decide +kernel
theorem d_Ls_find_61 : decode prog_4_method_3_code 61 = .ok (.iconst 1, 1) := by decide +kernel
theorem d_Ls_find_62 : decode prog_4_method_3_code 62 = .ok (.iadd, 1) := by decide +kernel
theorem d_Ls_find_63 : decode prog_4_method_3_code 63 = .ok (.iload 7, 2) := by decide +kernel
theorem d_Ls_find_65 : decode prog_4_method_3_code 65 = .ok (.iconst 1, 1) := by decide +kernel
theorem d_Ls_find_66 : decode prog_4_method_3_code 66 = .ok (.iadd, 1) := by decide +kernel
theorem d_Ls_find_67 : decode prog_4_method_3_code 67 = .ok (.aload_n 2, 1) := by decide +kernel
theorem d_Ls_find_68 : decode prog_4_method_3_code 68 = .ok (.invokestatic 32, 3) := by decide +kernel
theorem d_Ls_find_71 : decode prog_4_method_3_code 71 = .ok (.invokevirtual 36, 3) := by decide +kernel
theorem d_Ls_find_74 : decode prog_4_method_3_code 74 = .ok (.aload_n 0, 1) := by decide +kernel
theorem d_Ls_find_75 : decode prog_4_method_3_code 75 = .ok (.aload_n 1, 1) := by decide +kernel
theorem d_Ls_find_76 : decode prog_4_method_3_code 76 = .ok (.aload_n 2, 1) := by decide +kernel
theorem d_Ls_find_77 : decode prog_4_method_3_code 77 = .ok (.iload 7, 2) := by decide +kernel
theorem d_Ls_find_79 : decode prog_4_method_3_code 79 = .ok (.invokevirtual 54, 3) := by decide +kernel
theorem d_Ls_find_82 : decode prog_4_method_3_code 82 = .ok (.invokevirtual 58, 3) := by decide +kernel
theorem d_Ls_find_85 : decode prog_4_method_3_code 85 = .ok (.lstore 8, 2) := by decide +kernel
theorem d_Ls_find_87 : decode prog_4_method_3_code 87 = .ok (.lload 8, 2) := by decide +kernel
theorem d_Ls_find_89 : decode prog_4_method_3_code 89 = .ok (.lconst 0, 1) := by decide +kernel
theorem d_Ls_find_90 : decode prog_4_method_3_code 90 = .ok (.lcmp, 1) := by decide +kernel
theorem d_Ls_find_91 : decode prog_4_method_3_code 91 = .ok (.ifCond .eq 13, 3) := by decide +kernel
theorem d_Ls_find_94 : decode prog_4_method_3_code 94 = .ok (.lload 8, 2) := by decide +kernel
theorem d_Ls_find_96 : decode prog_4_method_3_code 96 = .ok (.iconst 1, 1) := by decide +kernel
theorem d_Ls_find_97 : decode prog_4_method_3_code 97 = .ok (.iload 7, 2) := by decide +kernel
theorem d_Ls_find_99 : decode prog_4_method_3_code 99 = .ok (.invokestatic 62, 3) := by decide +kernel
theorem d_Ls_find_102 : decode prog_4_method_3_code 102 = .ok (.lstore 5, 2) := by decide +kernel
theorem d_Ls_find_104 : decode prog_4_method_3_code 104 = .ok (.iload 4, 2) := by decide +kernel
theorem d_Ls_find_106 : decode prog_4_method_3_code 106 = .ok (.ifCond .eq 14, 3) := by decide +kernel
theorem d_Ls_find_109 : decode prog_4_method_3_code 109 = .ok (.lload 5, 2) := by decide +kernel
theorem d_Ls_find_111 : decode prog_4_method_3_code 111 = .ok (.lconst 0, 1) := by decide +kernel
theorem d_Ls_find_112 : decode prog_4_method_3_code 112 = .ok (.lcmp, 1) := by decide +kernel
theorem d_Ls_find_113 : decode prog_4_method_3_code 113 = .ok (.ifCond .ne 7, 3) := by decide +kernel
theorem d_Ls_find_116 : decode prog_4_method_3_code 116 = .ok (.iconst 1, 1) := by decide +kernel
theorem d_Ls_find_117 : decode prog_4_method_3_code 117 = .ok (.goto 4, 3) := by decide +kernel
theorem d_Ls_find_120 : decode prog_4_method_3_code 120 = .ok (.iconst 0, 1) := by decide +kernel
theorem d_Ls_find_121 : decode prog_4_method_3_code 121 = .ok (.istore 10, 2) := by decide +kernel
theorem d_Ls_find_123 : decode prog_4_method_3_code 123 = .ok (.iload 10, 2) := by decide +kernel
theorem d_Ls_find_125 : decode prog_4_method_3_code 125 = .ok (.ifCond .eq 27, 3) := by decide +kernel
theorem d_Ls_find_128 : decode prog_4_method_3_code 128 = .ok (.iload 7, 2) := by decide +kernel
theorem d_Ls_find_130 : decode prog_4_method_3_code 130 = .ok (.aload_n 2, 1) := by decide +kernel
theorem d_Ls_find_131 : decode prog_4_method_3_code 131 = .ok (.invokevirtual 48, 3) := by decide +kernel
theorem d_Ls_find_134 : decode prog_4_method_3_code 134 = .ok (.if_icmp .ge 18, 3) := by decide +kernel
theorem d_Ls_find_137 : decode prog_4_method_3_code 137 = .ok (.aload_n 0, 1) := by decide +kernel
theorem d_Ls_find_138 : decode prog_4_method_3_code 138 = .ok (.getfield 12, 3) := by decide +kernel
theorem d_Ls_find_141 : decode prog_4_method_3_code 141 = .ok (.iconst 0, 1) := by decide +kernel
theorem d_Ls_find_142 : decode prog_4_method_3_code 142 = .ok (.iload 7, 2) := by decide +kernel
theorem d_Ls_find_144 : decode prog_4_method_3_code 144 = .ok (.iconst 1, 1) := by decide +kernel
theorem d_Ls_find_145 : decode prog_4_method_3_code 145 = .ok (.iadd, 1) := by decide +kernel
theorem d_Ls_find_146 : decode prog_4_method_3_code 146 = .ok (.invokestatic 40, 3) := by decide +kernel
theorem d_Ls_find_149 : decode prog_4_method_3_code 149 = .ok (.invokevirtual 44, 3) := by decide +kernel
theorem d_Ls_find_152 : decode prog_4_method_3_code 152 = .ok (.aload_n 0, 1) := by decide +kernel
theorem d_Ls_find_153 : decode prog_4_method_3_code 153 = .ok (.invokevirtual 66, 3) := by decide +kernel
theorem d_Ls_find_156 : decode prog_4_method_3_code 156 = .ok (.iload 10, 2) := by decide +kernel
theorem d_Ls_find_158 : decode prog_4_method_3_code 158 = .ok (.ifCond .ne 16, 3) := by decide +kernel
theorem d_Ls_find_161 : decode prog_4_method_3_code 161 = .ok (.aload_n 0, 1) := by decide +kernel
theorem d_Ls_find_162 : decode prog_4_method_3_code 162 = .ok (.getfield 21, 3) := by decide +kernel
theorem d_Ls_find_165 : decode prog_4_method_3_code 165 = .ok (.invokevirtual 69, 3) := by decide +kernel
theorem d_Ls_find_168 : decode prog_4_method_3_code 168 = .ok (.ifCond .ne 6, 3) := by decide +kernel
theorem d_Ls_find_171 : decode prog_4_method_3_code 171 = .ok (.goto 9, 3) := by decide +kernel
theorem d_Ls_find_174 : decode prog_4_method_3_code 174 = .ok (.iinc 7 1, 3) := by decide +kernel
theorem d_Ls_find_177 : decode prog_4_method_3_code 177 = .ok (.goto (-136), 3) := by decide +kernel
theorem d_Ls_find_180 : decode prog_4_method_3_code 180 = .ok (.lload 5, 2) := by decide +kernel
theorem d_Ls_find_182 : decode prog_4_method_3_code 182 = .ok (.lreturn, 1) := by decide +kernel
theorem M_Ls_find : lt_M0 m_Ls_find 4 := ⟨lt_m4 68 rfl rfl, lt_m1 4 rfl rfl, ⟨by decide +kernel, by decide +kernel, by decide +kernel⟩, by decide⟩
theorem in_Ls_find : Cond.instanceMethod m_Ls_find.1 ∈ lt_T := lt_m4 66 rfl rfl
theorem se_Ls_find : Cond.selects "LinearSearch$Lists" m_Ls_find.1 m_Ls_find.1 ∈ lt_T := lt_m4 67 rfl rfl
abbrev m_Ls_goThrough : lt_M := (⟨"LinearSearch$Lists", "goThrough", "(LLinearSearch$Program;I)J"⟩, prog_4_method_4_code, 5, (some .long))
theorem d_Ls_goThrough_0 : decode prog_4_method_4_code 0 = .ok (.iconst 0, 1) := by decide +kernel
theorem d_Ls_goThrough_1 : decode prog_4_method_4_code 1 = .ok (.istore_n 3, 1) := by decide +kernel
theorem d_Ls_goThrough_2 : decode prog_4_method_4_code 2 = .ok (.iload_n 3, 1) := by decide +kernel
theorem d_Ls_goThrough_3 : decode prog_4_method_4_code 3 = .ok (.aload_n 0, 1) := by decide +kernel
theorem d_Ls_goThrough_4 : decode prog_4_method_4_code 4 = .ok (.getfield 21, 3) := by decide +kernel
theorem d_Ls_goThrough_7 : decode prog_4_method_4_code 7 = .ok (.invokevirtual 69, 3) := by decide +kernel
theorem d_Ls_goThrough_10 : decode prog_4_method_4_code 10 = .ok (.if_icmp .ge 78, 3) := by decide +kernel
theorem d_Ls_goThrough_13 : decode prog_4_method_4_code 13 = .ok (.aload_n 0, 1) := by decide +kernel
theorem d_Ls_goThrough_14 : decode prog_4_method_4_code 14 = .ok (.dup, 1) := by decide +kernel
theorem d_Ls_goThrough_15 : decode prog_4_method_4_code 15 = .ok (.getfield 28, 3) := by decide +kernel
theorem d_Ls_goThrough_18 : decode prog_4_method_4_code 18 = .ok (.iconst 1, 1) := by decide +kernel
theorem d_Ls_goThrough_19 : decode prog_4_method_4_code 19 = .ok (.iadd, 1) := by decide +kernel
theorem d_Ls_goThrough_20 : decode prog_4_method_4_code 20 = .ok (.putfield 28, 3) := by decide +kernel
theorem d_Ls_goThrough_23 : decode prog_4_method_4_code 23 = .ok (.aload_n 0, 1) := by decide +kernel
theorem d_Ls_goThrough_24 : decode prog_4_method_4_code 24 = .ok (.getfield 21, 3) := by decide +kernel
theorem d_Ls_goThrough_27 : decode prog_4_method_4_code 27 = .ok (.iload_n 3, 1) := by decide +kernel
theorem d_Ls_goThrough_28 : decode prog_4_method_4_code 28 = .ok (.invokevirtual 72, 3) := by decide +kernel
theorem d_Ls_goThrough_31 : decode prog_4_method_4_code 31 = .ok (.istore 4, 2) := by decide +kernel
theorem d_Ls_goThrough_33 : decode prog_4_method_4_code 33 = .ok (.aload_n 1, 1) := by decide +kernel
theorem d_Ls_goThrough_34 : decode prog_4_method_4_code 34 = .ok (.iload 4, 2) := by decide +kernel
theorem d_Ls_goThrough_36 : decode prog_4_method_4_code 36 = .ok (.invokevirtual 75, 3) := by decide +kernel
theorem d_Ls_goThrough_39 : decode prog_4_method_4_code 39 = .ok (.bipush 7, 2) := by decide +kernel
theorem d_Ls_goThrough_41 : decode prog_4_method_4_code 41 = .ok (.if_icmp .ne 12, 3) := by decide +kernel
theorem d_Ls_goThrough_44 : decode prog_4_method_4_code 44 = .ok (.aload_n 0, 1) := by decide +kernel
theorem d_Ls_goThrough_45 : decode prog_4_method_4_code 45 = .ok (.getfield 21, 3) := by decide +kernel
theorem d_Ls_goThrough_48 : decode prog_4_method_4_code 48 = .ok (.iload_n 3, 1) := by decide +kernel
theorem d_Ls_goThrough_49 : decode prog_4_method_4_code 49 = .ok (.invokevirtual 80, 3) := by decide +kernel
theorem d_Ls_goThrough_52 : decode prog_4_method_4_code 52 = .ok (.lreturn, 1) := by decide +kernel
theorem d_Ls_goThrough_53 : decode prog_4_method_4_code 53 = .ok (.aload_n 1, 1) := by decide +kernel
theorem d_Ls_goThrough_54 : decode prog_4_method_4_code 54 = .ok (.iload 4, 2) := by decide +kernel
theorem d_Ls_goThrough_56 : decode prog_4_method_4_code 56 = .ok (.iload_n 2, 1) := by decide +kernel
theorem d_Ls_goThrough_57 : decode prog_4_method_4_code 57 = .ok (.invokevirtual 83, 3) := by decide +kernel
theorem d_Ls_goThrough_60 : decode prog_4_method_4_code 60 = .ok (.ifCond .eq 22, 3) := by decide +kernel
theorem d_Ls_goThrough_63 : decode prog_4_method_4_code 63 = .ok (.aload_n 0, 1) := by decide +kernel
theorem d_Ls_goThrough_64 : decode prog_4_method_4_code 64 = .ok (.getfield 12, 3) := by decide +kernel
theorem d_Ls_goThrough_67 : decode prog_4_method_4_code 67 = .ok (.iload 4, 2) := by decide +kernel
theorem d_Ls_goThrough_69 : decode prog_4_method_4_code 69 = .ok (.iconst 1, 1) := by decide +kernel
theorem d_Ls_goThrough_70 : decode prog_4_method_4_code 70 = .ok (.iadd, 1) := by decide +kernel
theorem d_Ls_goThrough_71 : decode prog_4_method_4_code 71 = .ok (.aload_n 0, 1) := by decide +kernel
theorem d_Ls_goThrough_72 : decode prog_4_method_4_code 72 = .ok (.getfield 21, 3) := by decide +kernel
theorem d_Ls_goThrough_75 : decode prog_4_method_4_code 75 = .ok (.iload_n 3, 1) := by decide +kernel
theorem d_Ls_goThrough_76 : decode prog_4_method_4_code 76 = .ok (.invokevirtual 80, 3) := by decide +kernel
theorem d_Ls_goThrough_79 : decode prog_4_method_4_code 79 = .ok (.invokevirtual 44, 3) := by decide +kernel
theorem d_Ls_goThrough_82 : decode prog_4_method_4_code 82 = .ok (.iinc 3 1, 3) := by decide +kernel
theorem d_Ls_goThrough_85 : decode prog_4_method_4_code 85 = .ok (.goto (-83), 3) := by decide +kernel
theorem d_Ls_goThrough_88 : decode prog_4_method_4_code 88 = .ok (.lconst 0, 1) := by decide +kernel
theorem d_Ls_goThrough_89 : decode prog_4_method_4_code 89 = .ok (.lreturn, 1) := by decide +kernel
theorem M_Ls_goThrough : lt_M0 m_Ls_goThrough 2 := ⟨lt_m4 81 rfl rfl, lt_m1 4 rfl rfl, ⟨by decide +kernel, by decide +kernel, by decide +kernel⟩, by decide⟩
theorem in_Ls_goThrough : Cond.instanceMethod m_Ls_goThrough.1 ∈ lt_T := lt_m4 80 rfl rfl
theorem se_Ls_goThrough : Cond.selects "LinearSearch$Lists" m_Ls_goThrough.1 m_Ls_goThrough.1 ∈ lt_T := lt_memS 25 rfl rfl
abbrev m_Ls_swapLists : lt_M := (⟨"LinearSearch$Lists", "swapLists", "()V"⟩, prog_4_method_5_code, 2, none)
theorem d_Ls_swapLists_0 : decode prog_4_method_5_code 0 = .ok (.aload_n 0, 1) := by decide +kernel
theorem d_Ls_swapLists_1 : decode prog_4_method_5_code 1 = .ok (.getfield 21, 3) := by decide +kernel
theorem d_Ls_swapLists_4 : decode prog_4_method_5_code 4 = .ok (.astore_n 1, 1) := by decide +kernel
theorem d_Ls_swapLists_5 : decode prog_4_method_5_code 5 = .ok (.aload_n 0, 1) := by decide +kernel
theorem d_Ls_swapLists_6 : decode prog_4_method_5_code 6 = .ok (.aload_n 0, 1) := by decide +kernel
theorem d_Ls_swapLists_7 : decode prog_4_method_5_code 7 = .ok (.getfield 25, 3) := by decide +kernel
theorem d_Ls_swapLists_10 : decode prog_4_method_5_code 10 = .ok (.putfield 21, 3) := by decide +kernel
theorem d_Ls_swapLists_13 : decode prog_4_method_5_code 13 = .ok (.aload_n 0, 1) := by decide +kernel
theorem d_Ls_swapLists_14 : decode prog_4_method_5_code 14 = .ok (.aload_n 1, 1) := by decide +kernel
theorem d_Ls_swapLists_15 : decode prog_4_method_5_code 15 = .ok (.putfield 25, 3) := by decide +kernel
theorem d_Ls_swapLists_18 : decode prog_4_method_5_code 18 = .ok (.return_, 1) := by decide +kernel
theorem M_Ls_swapLists : lt_M0 m_Ls_swapLists 0 := ⟨lt_m4 94 rfl rfl, lt_m1 4 rfl rfl, ⟨by decide +kernel, by decide +kernel, by decide +kernel⟩, by decide⟩
theorem in_Ls_swapLists : Cond.instanceMethod m_Ls_swapLists.1 ∈ lt_T := lt_m4 93 rfl rfl
theorem se_Ls_swapLists : Cond.selects "LinearSearch$Lists" m_Ls_swapLists.1 m_Ls_swapLists.1 ∈ lt_T := lt_memS 26 rfl rfl
abbrev m_Ls_entriesPassed : lt_M := (⟨"LinearSearch$Lists", "entriesPassed", "()I"⟩, prog_4_method_2_code, 1, (some .int))
theorem d_Ls_entriesPassed_0 : decode prog_4_method_2_code 0 = .ok (.aload_n 0, 1) := by decide +kernel
theorem d_Ls_entriesPassed_1 : decode prog_4_method_2_code 1 = .ok (.getfield 28, 3) := by decide +kernel
theorem d_Ls_entriesPassed_4 : decode prog_4_method_2_code 4 = .ok (.ireturn, 1) := by decide +kernel
theorem M_Ls_entriesPassed : lt_M0 m_Ls_entriesPassed 0 := ⟨lt_m4 98 rfl rfl, lt_m1 4 rfl rfl, ⟨by decide +kernel, by decide +kernel, by decide +kernel⟩, by decide⟩
theorem in_Ls_entriesPassed : Cond.instanceMethod m_Ls_entriesPassed.1 ∈ lt_T := lt_m4 96 rfl rfl
theorem se_Ls_entriesPassed : Cond.selects "LinearSearch$Lists" m_Ls_entriesPassed.1 m_Ls_entriesPassed.1 ∈ lt_T := lt_m4 97 rfl rfl
abbrev m_Au_statesMade : lt_M := (⟨"LinearSearch$Automaton", "statesMade", "()I"⟩, prog_2_method_5_code, 1, (some .int))
theorem d_Au_statesMade_0 : decode prog_2_method_5_code 0 = .ok (.aload_n 0, 1) := by decide +kernel
theorem d_Au_statesMade_1 : decode prog_2_method_5_code 1 = .ok (.getfield 49, 3) := by decide +kernel
theorem d_Au_statesMade_4 : decode prog_2_method_5_code 4 = .ok (.ireturn, 1) := by decide +kernel
theorem M_Au_statesMade : lt_M0 m_Au_statesMade 0 := ⟨lt_m4 109 rfl rfl, lt_m1 10 rfl rfl, ⟨by decide +kernel, by decide +kernel, by decide +kernel⟩, by decide⟩
theorem in_Au_statesMade : Cond.instanceMethod m_Au_statesMade.1 ∈ lt_T := lt_m4 107 rfl rfl
theorem se_Au_statesMade : Cond.selects "LinearSearch$Automaton" m_Au_statesMade.1 m_Au_statesMade.1 ∈ lt_T := lt_m4 108 rfl rfl
abbrev m_Si_find : lt_M := (⟨"LinearSearch$Single", "find", "(LLinearSearch$Program;LLinearSearch$Text;)J"⟩, prog_7_method_5_code, 4, (some .long))
theorem d_Si_find_0 : decode prog_7_method_5_code 0 = .ok (.aload_n 0, 1) := by decide +kernel
theorem d_Si_find_1 : decode prog_7_method_5_code 1 = .ok (.iconst 0, 1) := by decide +kernel
theorem d_Si_find_2 : decode prog_7_method_5_code 2 = .ok (.putfield 25, 3) := by decide +kernel
theorem d_Si_find_5 : decode prog_7_method_5_code 5 = .ok (.aload_n 0, 1) := by decide +kernel
theorem d_Si_find_6 : decode prog_7_method_5_code 6 = .ok (.lconst 0, 1) := by decide +kernel
theorem d_Si_find_7 : decode prog_7_method_5_code 7 = .ok (.putfield 66, 3) := by decide +kernel
theorem d_Si_find_10 : decode prog_7_method_5_code 10 = .ok (.aload_n 0, 1) := by decide +kernel
theorem d_Si_find_11 : decode prog_7_method_5_code 11 = .ok (.iconst 0, 1) := by decide +kernel
theorem d_Si_find_12 : decode prog_7_method_5_code 12 = .ok (.putfield 70, 3) := by decide +kernel
theorem d_Si_find_15 : decode prog_7_method_5_code 15 = .ok (.aload_n 0, 1) := by decide +kernel
theorem d_Si_find_16 : decode prog_7_method_5_code 16 = .ok (.iconst 0, 1) := by decide +kernel
theorem d_Si_find_17 : decode prog_7_method_5_code 17 = .ok (.invokestatic 73, 3) := by decide +kernel
theorem d_Si_find_20 : decode prog_7_method_5_code 20 = .ok (.putfield 77, 3) := by decide +kernel
theorem d_Si_find_23 : decode prog_7_method_5_code 23 = .ok (.iconst 0, 1) := by decide +kernel
theorem d_Si_find_24 : decode prog_7_method_5_code 24 = .ok (.istore_n 3, 1) := by decide +kernel
theorem d_Si_find_25 : decode prog_7_method_5_code 25 = .ok (.iload_n 3, 1) := by decide +kernel
theorem d_Si_find_26 : decode prog_7_method_5_code 26 = .ok (.aload_n 2, 1) := by decide +kernel
theorem d_Si_find_27 : decode prog_7_method_5_code 27 = .ok (.invokevirtual 80, 3) := by decide +kernel
theorem d_Si_find_30 : decode prog_7_method_5_code 30 = .ok (.if_icmp .gt 79, 3) := by decide +kernel
theorem d_Si_find_33 : decode prog_7_method_5_code 33 = .ok (.aload_n 0, 1) := by decide +kernel
theorem d_Si_find_34 : decode prog_7_method_5_code 34 = .ok (.getfield 12, 3) := by decide +kernel
theorem d_Si_find_37 : decode prog_7_method_5_code 37 = .ok (.aload_n 1, 1) := by decide +kernel
theorem d_Si_find_38 : decode prog_7_method_5_code 38 = .ok (.aload_n 0, 1) := by decide +kernel
theorem d_Si_find_39 : decode prog_7_method_5_code 39 = .ok (.getfield 21, 3) := by decide +kernel
theorem d_Si_find_42 : decode prog_7_method_5_code 42 = .ok (.iload_n 3, 1) := by decide +kernel
theorem d_Si_find_43 : decode prog_7_method_5_code 43 = .ok (.iload_n 3, 1) := by decide +kernel
theorem d_Si_find_44 : decode prog_7_method_5_code 44 = .ok (.aload_n 2, 1) := by decide +kernel
theorem d_Si_find_45 : decode prog_7_method_5_code 45 = .ok (.invokestatic 85, 3) := by decide +kernel
theorem d_Si_find_48 : decode prog_7_method_5_code 48 = .ok (.invokevirtual 47, 3) := by decide +kernel
theorem d_Si_find_51 : decode prog_7_method_5_code 51 = .ok (.aload_n 0, 1) := by decide +kernel
theorem d_Si_find_52 : decode prog_7_method_5_code 52 = .ok (.getfield 12, 3) := by decide +kernel
theorem d_Si_find_55 : decode prog_7_method_5_code 55 = .ok (.aload_n 0, 1) := by decide +kernel
theorem d_Si_find_56 : decode prog_7_method_5_code 56 = .ok (.getfield 70, 3) := by decide +kernel
theorem d_Si_find_59 : decode prog_7_method_5_code 59 = .ok (.aload_n 0, 1) := by decide +kernel
theorem d_Si_find_60 : decode prog_7_method_5_code 60 = .ok (.getfield 77, 3) := by decide +kernel
theorem d_Si_find_63 : decode prog_7_method_5_code 63 = .ok (.invokevirtual 51, 3) := by decide +kernel
theorem d_Si_find_66 : decode prog_7_method_5_code 66 = .ok (.aload_n 0, 1) := by decide +kernel
theorem d_Si_find_67 : decode prog_7_method_5_code 67 = .ok (.iconst (-1), 1) := by decide +kernel
theorem d_Si_find_68 : decode prog_7_method_5_code 68 = .ok (.putfield 70, 3) := by decide +kernel
theorem d_Si_find_71 : decode prog_7_method_5_code 71 = .ok (.aload_n 0, 1) := by decide +kernel
theorem d_Si_find_72 : decode prog_7_method_5_code 72 = .ok (.aload_n 1, 1) := by decide +kernel
theorem d_Si_find_73 : decode prog_7_method_5_code 73 = .ok (.aload_n 2, 1) := by decide +kernel
theorem d_Si_find_74 : decode prog_7_method_5_code 74 = .ok (.iload_n 3, 1) := by decide +kernel
theorem d_Si_find_75 : decode prog_7_method_5_code 75 = .ok (.invokevirtual 89, 3) := by decide +kernel
theorem d_Si_find_78 : decode prog_7_method_5_code 78 = .ok (.iload_n 3, 1) := by decide +kernel
theorem d_Si_find_79 : decode prog_7_method_5_code 79 = .ok (.invokevirtual 92, 3) := by decide +kernel
theorem d_Si_find_82 : decode prog_7_method_5_code 82 = .ok (.aload_n 0, 1) := by decide +kernel
theorem d_Si_find_83 : decode prog_7_method_5_code 83 = .ok (.getfield 70, 3) := by decide +kernel
theorem d_Si_find_86 : decode prog_7_method_5_code 86 = .ok (.iconst (-1), 1) := by decide +kernel
theorem d_Si_find_87 : decode prog_7_method_5_code 87 = .ok (.if_icmp .ne 6, 3) := by decide +kernel
theorem d_Si_find_90 : decode prog_7_method_5_code 90 = .ok (.goto 19, 3) := by decide +kernel
theorem d_Si_find_93 : decode prog_7_method_5_code 93 = .ok (.aload_n 0, 1) := by decide +kernel
theorem d_Si_find_94 : decode prog_7_method_5_code 94 = .ok (.dup, 1) := by decide +kernel
theorem d_Si_find_95 : decode prog_7_method_5_code 95 = .ok (.getfield 25, 3) := by decide +kernel
theorem d_Si_find_98 : decode prog_7_method_5_code 98 = .ok (.iconst 1, 1) := by decide +kernel
theorem d_Si_find_99 : decode prog_7_method_5_code 99 = .ok (.iadd, 1) := by decide +kernel
theorem d_Si_find_100 : decode prog_7_method_5_code 100 = .ok (.putfield 25, 3) := by decide +kernel
theorem d_Si_find_103 : decode prog_7_method_5_code 103 = .ok (.iinc 3 1, 3) := by decide +kernel
theorem d_Si_find_106 : decode prog_7_method_5_code 106 = .ok (.goto (-81), 3) := by decide +kernel
theorem d_Si_find_109 : decode prog_7_method_5_code 109 = .ok (.aload_n 0, 1) := by decide +kernel
theorem d_Si_find_110 : decode prog_7_method_5_code 110 = .ok (.getfield 66, 3) := by decide +kernel
theorem d_Si_find_113 : decode prog_7_method_5_code 113 = .ok (.lreturn, 1) := by decide +kernel
theorem M_Si_find : lt_M0 m_Si_find 2 := ⟨lt_m4 113 rfl rfl, lt_m1 8 rfl rfl, ⟨by decide +kernel, by decide +kernel, by decide +kernel⟩, by decide⟩
theorem in_Si_find : Cond.instanceMethod m_Si_find.1 ∈ lt_T := lt_m4 111 rfl rfl
theorem se_Si_find : Cond.selects "LinearSearch$Single" m_Si_find.1 m_Si_find.1 ∈ lt_T := lt_m4 112 rfl rfl
abbrev m_Si_goThrough : lt_M := (⟨"LinearSearch$Single", "goThrough", "(LLinearSearch$Program;II)V"⟩, prog_7_method_6_code, 6, none)
theorem d_Si_goThrough_0 : decode prog_7_method_6_code 0 = .ok (.iconst 0, 1) := by decide +kernel
theorem d_Si_goThrough_1 : decode prog_7_method_6_code 1 = .ok (.istore 4, 2) := by decide +kernel
theorem d_Si_goThrough_3 : decode prog_7_method_6_code 3 = .ok (.iload 4, 2) := by decide +kernel
theorem d_Si_goThrough_5 : decode prog_7_method_6_code 5 = .ok (.aload_n 0, 1) := by decide +kernel
theorem d_Si_goThrough_6 : decode prog_7_method_6_code 6 = .ok (.getfield 21, 3) := by decide +kernel
theorem d_Si_goThrough_9 : decode prog_7_method_6_code 9 = .ok (.invokevirtual 59, 3) := by decide +kernel
theorem d_Si_goThrough_12 : decode prog_7_method_6_code 12 = .ok (.if_icmp .ge 81, 3) := by decide +kernel
theorem d_Si_goThrough_15 : decode prog_7_method_6_code 15 = .ok (.aload_n 0, 1) := by decide +kernel
theorem d_Si_goThrough_16 : decode prog_7_method_6_code 16 = .ok (.getfield 21, 3) := by decide +kernel
theorem d_Si_goThrough_19 : decode prog_7_method_6_code 19 = .ok (.iload 4, 2) := by decide +kernel
theorem d_Si_goThrough_21 : decode prog_7_method_6_code 21 = .ok (.invokevirtual 60, 3) := by decide +kernel
theorem d_Si_goThrough_24 : decode prog_7_method_6_code 24 = .ok (.istore 5, 2) := by decide +kernel
theorem d_Si_goThrough_26 : decode prog_7_method_6_code 26 = .ok (.aload_n 1, 1) := by decide +kernel
theorem d_Si_goThrough_27 : decode prog_7_method_6_code 27 = .ok (.iload 5, 2) := by decide +kernel
theorem d_Si_goThrough_29 : decode prog_7_method_6_code 29 = .ok (.invokevirtual 29, 3) := by decide +kernel
theorem d_Si_goThrough_32 : decode prog_7_method_6_code 32 = .ok (.bipush 7, 2) := by decide +kernel
theorem d_Si_goThrough_34 : decode prog_7_method_6_code 34 = .ok (.if_icmp .ne 22, 3) := by decide +kernel
theorem d_Si_goThrough_37 : decode prog_7_method_6_code 37 = .ok (.aload_n 0, 1) := by decide +kernel
theorem d_Si_goThrough_38 : decode prog_7_method_6_code 38 = .ok (.aload_n 0, 1) := by decide +kernel
theorem d_Si_goThrough_39 : decode prog_7_method_6_code 39 = .ok (.getfield 21, 3) := by decide +kernel
theorem d_Si_goThrough_42 : decode prog_7_method_6_code 42 = .ok (.iload 4, 2) := by decide +kernel
theorem d_Si_goThrough_44 : decode prog_7_method_6_code 44 = .ok (.invokevirtual 96, 3) := by decide +kernel
theorem d_Si_goThrough_47 : decode prog_7_method_6_code 47 = .ok (.iconst 1, 1) := by decide +kernel
theorem d_Si_goThrough_48 : decode prog_7_method_6_code 48 = .ok (.iload_n 3, 1) := by decide +kernel
theorem d_Si_goThrough_49 : decode prog_7_method_6_code 49 = .ok (.invokestatic 99, 3) := by decide +kernel
theorem d_Si_goThrough_52 : decode prog_7_method_6_code 52 = .ok (.putfield 66, 3) := by decide +kernel
theorem d_Si_goThrough_55 : decode prog_7_method_6_code 55 = .ok (.return_, 1) := by decide +kernel
theorem d_Si_goThrough_56 : decode prog_7_method_6_code 56 = .ok (.aload_n 1, 1) := by decide +kernel
theorem d_Si_goThrough_57 : decode prog_7_method_6_code 57 = .ok (.iload 5, 2) := by decide +kernel
theorem d_Si_goThrough_59 : decode prog_7_method_6_code 59 = .ok (.iload_n 2, 1) := by decide +kernel
theorem d_Si_goThrough_60 : decode prog_7_method_6_code 60 = .ok (.invokevirtual 103, 3) := by decide +kernel
theorem d_Si_goThrough_63 : decode prog_7_method_6_code 63 = .ok (.ifCond .eq 24, 3) := by decide +kernel
theorem d_Si_goThrough_66 : decode prog_7_method_6_code 66 = .ok (.aload_n 0, 1) := by decide +kernel
theorem d_Si_goThrough_67 : decode prog_7_method_6_code 67 = .ok (.iload 5, 2) := by decide +kernel
theorem d_Si_goThrough_69 : decode prog_7_method_6_code 69 = .ok (.iconst 1, 1) := by decide +kernel
theorem d_Si_goThrough_70 : decode prog_7_method_6_code 70 = .ok (.iadd, 1) := by decide +kernel
theorem d_Si_goThrough_71 : decode prog_7_method_6_code 71 = .ok (.putfield 70, 3) := by decide +kernel
theorem d_Si_goThrough_74 : decode prog_7_method_6_code 74 = .ok (.aload_n 0, 1) := by decide +kernel
theorem d_Si_goThrough_75 : decode prog_7_method_6_code 75 = .ok (.aload_n 0, 1) := by decide +kernel
theorem d_Si_goThrough_76 : decode prog_7_method_6_code 76 = .ok (.getfield 21, 3) := by decide +kernel
theorem d_Si_goThrough_79 : decode prog_7_method_6_code 79 = .ok (.iload 4, 2) := by decide +kernel
theorem d_Si_goThrough_81 : decode prog_7_method_6_code 81 = .ok (.invokevirtual 96, 3) := by decide +kernel
theorem d_Si_goThrough_84 : decode prog_7_method_6_code 84 = .ok (.putfield 77, 3) := by decide +kernel
theorem d_Si_goThrough_87 : decode prog_7_method_6_code 87 = .ok (.iinc 4 1, 3) := by decide +kernel
theorem d_Si_goThrough_90 : decode prog_7_method_6_code 90 = .ok (.goto (-87), 3) := by decide +kernel
theorem d_Si_goThrough_93 : decode prog_7_method_6_code 93 = .ok (.return_, 1) := by decide +kernel
theorem M_Si_goThrough : lt_M0 m_Si_goThrough 3 := ⟨lt_m4 121 rfl rfl, lt_m1 8 rfl rfl, ⟨by decide +kernel, by decide +kernel, by decide +kernel⟩, by decide⟩
theorem in_Si_goThrough : Cond.instanceMethod m_Si_goThrough.1 ∈ lt_T := lt_m4 120 rfl rfl
theorem se_Si_goThrough : Cond.selects "LinearSearch$Single" m_Si_goThrough.1 m_Si_goThrough.1 ∈ lt_T := lt_memS 28 rfl rfl
abbrev m_Si_lettersPassed : lt_M := (⟨"LinearSearch$Single", "lettersPassed", "()I"⟩, prog_7_method_2_code, 1, (some .int))
theorem d_Si_lettersPassed_0 : decode prog_7_method_2_code 0 = .ok (.aload_n 0, 1) := by decide +kernel
theorem d_Si_lettersPassed_1 : decode prog_7_method_2_code 1 = .ok (.getfield 25, 3) := by decide +kernel
theorem d_Si_lettersPassed_4 : decode prog_7_method_2_code 4 = .ok (.ireturn, 1) := by decide +kernel
theorem M_Si_lettersPassed : lt_M0 m_Si_lettersPassed 0 := ⟨lt_m4 128 rfl rfl, lt_m1 8 rfl rfl, ⟨by decide +kernel, by decide +kernel, by decide +kernel⟩, by decide⟩
theorem in_Si_lettersPassed : Cond.instanceMethod m_Si_lettersPassed.1 ∈ lt_T := lt_m4 126 rfl rfl
theorem se_Si_lettersPassed : Cond.selects "LinearSearch$Single" m_Si_lettersPassed.1 m_Si_lettersPassed.1 ∈ lt_T := lt_m4 127 rfl rfl
end
section
/-! METHODS: names, code, decode rows, words; printed by wip/whole/gen_methods.py -/
abbrev m_C_init : lt_M := (⟨"LinearSearch", "<init>", "(I)V"⟩, prog_1_method_1_code, 2, none)
theorem d_C_init_0 : decode prog_1_method_1_code 0 = .ok (.aload_n 0, 1) := by decide +kernel
theorem d_C_init_1 : decode prog_1_method_1_code 1 = .ok (.invokespecial 3, 3) := by decide +kernel
theorem d_C_init_4 : decode prog_1_method_1_code 4 = .ok (.aload_n 0, 1) := by decide +kernel
theorem d_C_init_5 : decode prog_1_method_1_code 5 = .ok (.bipush 24, 2) := by decide +kernel
theorem d_C_init_7 : decode prog_1_method_1_code 7 = .ok (.newarray .char, 2) := by decide +kernel
theorem d_C_init_9 : decode prog_1_method_1_code 9 = .ok (.putfield 9, 3) := by decide +kernel
theorem d_C_init_12 : decode prog_1_method_1_code 12 = .ok (.aload_n 0, 1) := by decide +kernel
theorem d_C_init_13 : decode prog_1_method_1_code 13 = .ok (.new 13, 3) := by decide +kernel
theorem d_C_init_16 : decode prog_1_method_1_code 16 = .ok (.dup, 1) := by decide +kernel
theorem d_C_init_17 : decode prog_1_method_1_code 17 = .ok (.invokespecial 15, 3) := by decide +kernel
theorem d_C_init_20 : decode prog_1_method_1_code 20 = .ok (.putfield 16, 3) := by decide +kernel
theorem d_C_init_23 : decode prog_1_method_1_code 23 = .ok (.aload_n 0, 1) := by decide +kernel
theorem d_C_init_24 : decode prog_1_method_1_code 24 = .ok (.new 20, 3) := by decide +kernel
theorem d_C_init_27 : decode prog_1_method_1_code 27 = .ok (.dup, 1) := by decide +kernel
theorem d_C_init_28 : decode prog_1_method_1_code 28 = .ok (.invokespecial 22, 3) := by decide +kernel
theorem d_C_init_31 : decode prog_1_method_1_code 31 = .ok (.putfield 23, 3) := by decide +kernel
theorem d_C_init_34 : decode prog_1_method_1_code 34 = .ok (.aload_n 0, 1) := by decide +kernel
theorem d_C_init_35 : decode prog_1_method_1_code 35 = .ok (.new 27, 3) := by decide +kernel
theorem d_C_init_38 : decode prog_1_method_1_code 38 = .ok (.dup, 1) := by decide +kernel
theorem d_C_init_39 : decode prog_1_method_1_code 39 = .ok (.invokespecial 29, 3) := by decide +kernel
theorem d_C_init_42 : decode prog_1_method_1_code 42 = .ok (.putfield 30, 3) := by decide +kernel
theorem d_C_init_45 : decode prog_1_method_1_code 45 = .ok (.aload_n 0, 1) := by decide +kernel
theorem d_C_init_46 : decode prog_1_method_1_code 46 = .ok (.new 34, 3) := by decide +kernel
theorem d_C_init_49 : decode prog_1_method_1_code 49 = .ok (.dup, 1) := by decide +kernel
theorem d_C_init_50 : decode prog_1_method_1_code 50 = .ok (.invokespecial 36, 3) := by decide +kernel
theorem d_C_init_53 : decode prog_1_method_1_code 53 = .ok (.putfield 37, 3) := by decide +kernel
theorem d_C_init_56 : decode prog_1_method_1_code 56 = .ok (.aload_n 0, 1) := by decide +kernel
theorem d_C_init_57 : decode prog_1_method_1_code 57 = .ok (.new 41, 3) := by decide +kernel
theorem d_C_init_60 : decode prog_1_method_1_code 60 = .ok (.dup, 1) := by decide +kernel
theorem d_C_init_61 : decode prog_1_method_1_code 61 = .ok (.invokespecial 43, 3) := by decide +kernel
theorem d_C_init_64 : decode prog_1_method_1_code 64 = .ok (.putfield 44, 3) := by decide +kernel
theorem d_C_init_67 : decode prog_1_method_1_code 67 = .ok (.aload_n 0, 1) := by decide +kernel
theorem d_C_init_68 : decode prog_1_method_1_code 68 = .ok (.new 48, 3) := by decide +kernel
theorem d_C_init_71 : decode prog_1_method_1_code 71 = .ok (.dup, 1) := by decide +kernel
theorem d_C_init_72 : decode prog_1_method_1_code 72 = .ok (.invokespecial 50, 3) := by decide +kernel
theorem d_C_init_75 : decode prog_1_method_1_code 75 = .ok (.putfield 51, 3) := by decide +kernel
theorem d_C_init_78 : decode prog_1_method_1_code 78 = .ok (.aload_n 0, 1) := by decide +kernel
theorem d_C_init_79 : decode prog_1_method_1_code 79 = .ok (.new 48, 3) := by decide +kernel
theorem d_C_init_82 : decode prog_1_method_1_code 82 = .ok (.dup, 1) := by decide +kernel
theorem d_C_init_83 : decode prog_1_method_1_code 83 = .ok (.invokespecial 50, 3) := by decide +kernel
theorem d_C_init_86 : decode prog_1_method_1_code 86 = .ok (.putfield 55, 3) := by decide +kernel
theorem d_C_init_89 : decode prog_1_method_1_code 89 = .ok (.aload_n 0, 1) := by decide +kernel
theorem d_C_init_90 : decode prog_1_method_1_code 90 = .ok (.lconst 0, 1) := by decide +kernel
theorem d_C_init_91 : decode prog_1_method_1_code 91 = .ok (.putfield 58, 3) := by decide +kernel
theorem d_C_init_94 : decode prog_1_method_1_code 94 = .ok (.aload_n 0, 1) := by decide +kernel
theorem d_C_init_95 : decode prog_1_method_1_code 95 = .ok (.iconst (-1), 1) := by decide +kernel
theorem d_C_init_96 : decode prog_1_method_1_code 96 = .ok (.putfield 62, 3) := by decide +kernel
theorem d_C_init_99 : decode prog_1_method_1_code 99 = .ok (.aload_n 0, 1) := by decide +kernel
theorem d_C_init_100 : decode prog_1_method_1_code 100 = .ok (.iconst (-1), 1) := by decide +kernel
theorem d_C_init_101 : decode prog_1_method_1_code 101 = .ok (.putfield 66, 3) := by decide +kernel
theorem d_C_init_104 : decode prog_1_method_1_code 104 = .ok (.aload_n 0, 1) := by decide +kernel
theorem d_C_init_105 : decode prog_1_method_1_code 105 = .ok (.new 69, 3) := by decide +kernel
theorem d_C_init_108 : decode prog_1_method_1_code 108 = .ok (.dup, 1) := by decide +kernel
theorem d_C_init_109 : decode prog_1_method_1_code 109 = .ok (.iconst 3, 1) := by decide +kernel
theorem d_C_init_110 : decode prog_1_method_1_code 110 = .ok (.iload_n 1, 1) := by decide +kernel
theorem d_C_init_111 : decode prog_1_method_1_code 111 = .ok (.bipush 15, 2) := by decide +kernel
theorem d_C_init_113 : decode prog_1_method_1_code 113 = .ok (.iand, 1) := by decide +kernel
theorem d_C_init_114 : decode prog_1_method_1_code 114 = .ok (.iadd, 1) := by decide +kernel
theorem d_C_init_115 : decode prog_1_method_1_code 115 = .ok (.invokespecial 71, 3) := by decide +kernel
theorem d_C_init_118 : decode prog_1_method_1_code 118 = .ok (.putfield 74, 3) := by decide +kernel
theorem d_C_init_121 : decode prog_1_method_1_code 121 = .ok (.return_, 1) := by decide +kernel
theorem M_C_init : lt_M0 m_C_init 1 := ⟨lt_m1 25 rfl rfl, lt_m1 1 rfl rfl, ⟨by decide +kernel, by decide +kernel, by decide +kernel⟩, by decide⟩
theorem in_C_init : Cond.instanceMethod m_C_init.1 ∈ lt_T := lt_m1 24 rfl rfl
abbrev m_Wr_init : lt_M := (⟨"LinearSearch$Writer", "<init>", "()V"⟩, prog_11_method_1_code, 1, none)
theorem d_Wr_init_0 : decode prog_11_method_1_code 0 = .ok (.aload_n 0, 1) := by decide +kernel
theorem d_Wr_init_1 : decode prog_11_method_1_code 1 = .ok (.invokespecial 3, 3) := by decide +kernel
theorem d_Wr_init_4 : decode prog_11_method_1_code 4 = .ok (.return_, 1) := by decide +kernel
theorem M_Wr_init : lt_M0 m_Wr_init 0 := ⟨lt_m1 33 rfl rfl, lt_m1 2 rfl rfl, ⟨by decide +kernel, by decide +kernel, by decide +kernel⟩, by decide⟩
theorem in_Wr_init : Cond.instanceMethod m_Wr_init.1 ∈ lt_T := lt_m1 32 rfl rfl
abbrev m_Mt_max : lt_M := (⟨"java/lang/Math", "max", "(II)I"⟩, prog_18_method_65_code, 2, (some .int))
theorem d_Mt_max_0 : decode prog_18_method_65_code 0 = .ok (.iload_n 0, 1) := by decide +kernel
theorem d_Mt_max_1 : decode prog_18_method_65_code 1 = .ok (.iload_n 1, 1) := by decide +kernel
theorem d_Mt_max_2 : decode prog_18_method_65_code 2 = .ok (.if_icmp .lt 7, 3) := by decide +kernel
theorem d_Mt_max_5 : decode prog_18_method_65_code 5 = .ok (.iload_n 0, 1) := by decide +kernel
theorem d_Mt_max_6 : decode prog_18_method_65_code 6 = .ok (.goto 4, 3) := by decide +kernel
theorem d_Mt_max_9 : decode prog_18_method_65_code 9 = .ok (.iload_n 1, 1) := by decide +kernel
theorem d_Mt_max_10 : decode prog_18_method_65_code 10 = .ok (.ireturn, 1) := by decide +kernel
theorem M_Mt_max : lt_M0 m_Mt_max 2 := ⟨lt_m2 11 rfl rfl, lt_m1 12 rfl rfl, ⟨by decide +kernel, by decide +kernel, by decide +kernel⟩, by decide⟩
theorem st_Mt_max : Cond.static m_Mt_max.1 ∈ lt_T := lt_m2 10 rfl rfl
abbrev m_C_type : lt_M := (⟨"LinearSearch", "type", "(C)Z"⟩, prog_1_method_2_code, 2, (some .boolean))
theorem d_C_type_0 : decode prog_1_method_2_code 0 = .ok (.aload_n 0, 1) := by decide +kernel
theorem d_C_type_1 : decode prog_1_method_2_code 1 = .ok (.getfield 78, 3) := by decide +kernel
theorem d_C_type_4 : decode prog_1_method_2_code 4 = .ok (.ifCond .lt 15, 3) := by decide +kernel
theorem d_C_type_7 : decode prog_1_method_2_code 7 = .ok (.aload_n 0, 1) := by decide +kernel
theorem d_C_type_8 : decode prog_1_method_2_code 8 = .ok (.getfield 78, 3) := by decide +kernel
theorem d_C_type_11 : decode prog_1_method_2_code 11 = .ok (.aload_n 0, 1) := by decide +kernel
theorem d_C_type_12 : decode prog_1_method_2_code 12 = .ok (.getfield 9, 3) := by decide +kernel
theorem d_C_type_15 : decode prog_1_method_2_code 15 = .ok (.arraylength, 1) := by decide +kernel
theorem d_C_type_16 : decode prog_1_method_2_code 16 = .ok (.if_icmp .lt 5, 3) := by decide +kernel
theorem d_C_type_19 : decode prog_1_method_2_code 19 = .ok (.iconst 0, 1) := by decide +kernel
theorem d_C_type_20 : decode prog_1_method_2_code 20 = .ok (.ireturn, 1) := by decide +kernel
theorem d_C_type_21 : decode prog_1_method_2_code 21 = .ok (.aload_n 0, 1) := by decide +kernel
theorem d_C_type_22 : decode prog_1_method_2_code 22 = .ok (.getfield 9, 3) := by decide +kernel
theorem d_C_type_25 : decode prog_1_method_2_code 25 = .ok (.aload_n 0, 1) := by decide +kernel
theorem d_C_type_26 : decode prog_1_method_2_code 26 = .ok (.getfield 78, 3) := by decide +kernel
theorem d_C_type_29 : decode prog_1_method_2_code 29 = .ok (.iload_n 1, 1) := by decide +kernel
theorem d_C_type_30 : decode prog_1_method_2_code 30 = .ok (.castore, 1) := by decide +kernel
theorem d_C_type_31 : decode prog_1_method_2_code 31 = .ok (.aload_n 0, 1) := by decide +kernel
theorem d_C_type_32 : decode prog_1_method_2_code 32 = .ok (.dup, 1) := by decide +kernel
theorem d_C_type_33 : decode prog_1_method_2_code 33 = .ok (.getfield 78, 3) := by decide +kernel
theorem d_C_type_36 : decode prog_1_method_2_code 36 = .ok (.iconst 1, 1) := by decide +kernel
theorem d_C_type_37 : decode prog_1_method_2_code 37 = .ok (.iadd, 1) := by decide +kernel
theorem d_C_type_38 : decode prog_1_method_2_code 38 = .ok (.putfield 78, 3) := by decide +kernel
theorem d_C_type_41 : decode prog_1_method_2_code 41 = .ok (.iconst 1, 1) := by decide +kernel
theorem d_C_type_42 : decode prog_1_method_2_code 42 = .ok (.ireturn, 1) := by decide +kernel
theorem M_C_type : lt_M0 m_C_type 1 := ⟨lt_m2 84 rfl rfl, lt_m1 1 rfl rfl, ⟨by decide +kernel, by decide +kernel, by decide +kernel⟩, by decide⟩
theorem in_C_type : Cond.instanceMethod m_C_type.1 ∈ lt_T := lt_m2 82 rfl rfl
theorem se_C_type : Cond.selects "LinearSearch" m_C_type.1 m_C_type.1 ∈ lt_T := lt_m2 83 rfl rfl
abbrev m_C_wipe : lt_M := (⟨"LinearSearch", "wipe", "()V"⟩, prog_1_method_3_code, 1, none)
theorem d_C_wipe_0 : decode prog_1_method_3_code 0 = .ok (.aload_n 0, 1) := by decide +kernel
theorem d_C_wipe_1 : decode prog_1_method_3_code 1 = .ok (.iconst 0, 1) := by decide +kernel
theorem d_C_wipe_2 : decode prog_1_method_3_code 2 = .ok (.putfield 78, 3) := by decide +kernel
theorem d_C_wipe_5 : decode prog_1_method_3_code 5 = .ok (.return_, 1) := by decide +kernel
theorem M_C_wipe : lt_M0 m_C_wipe 0 := ⟨lt_m2 88 rfl rfl, lt_m1 1 rfl rfl, ⟨by decide +kernel, by decide +kernel, by decide +kernel⟩, by decide⟩
theorem in_C_wipe : Cond.instanceMethod m_C_wipe.1 ∈ lt_T := lt_m2 86 rfl rfl
theorem se_C_wipe : Cond.selects "LinearSearch" m_C_wipe.1 m_C_wipe.1 ∈ lt_T := lt_m2 87 rfl rfl
abbrev m_C_feed : lt_M := (⟨"LinearSearch", "feed", "(C)Z"⟩, prog_1_method_7_code, 2, (some .boolean))
theorem d_C_feed_0 : decode prog_1_method_7_code 0 = .ok (.aload_n 0, 1) := by decide +kernel
theorem d_C_feed_1 : decode prog_1_method_7_code 1 = .ok (.getfield 23, 3) := by decide +kernel
theorem d_C_feed_4 : decode prog_1_method_7_code 4 = .ok (.iload_n 1, 1) := by decide +kernel
theorem d_C_feed_5 : decode prog_1_method_7_code 5 = .ok (.invokevirtual 132, 3) := by decide +kernel
theorem d_C_feed_8 : decode prog_1_method_7_code 8 = .ok (.ifCond .ne 5, 3) := by decide +kernel
theorem d_C_feed_11 : decode prog_1_method_7_code 11 = .ok (.iconst 0, 1) := by decide +kernel
theorem d_C_feed_12 : decode prog_1_method_7_code 12 = .ok (.ireturn, 1) := by decide +kernel
theorem d_C_feed_13 : decode prog_1_method_7_code 13 = .ok (.aload_n 0, 1) := by decide +kernel
theorem d_C_feed_14 : decode prog_1_method_7_code 14 = .ok (.invokevirtual 103, 3) := by decide +kernel
theorem d_C_feed_17 : decode prog_1_method_7_code 17 = .ok (.iconst 1, 1) := by decide +kernel
theorem d_C_feed_18 : decode prog_1_method_7_code 18 = .ok (.ireturn, 1) := by decide +kernel
theorem M_C_feed : lt_M0 m_C_feed 1 := ⟨lt_m2 92 rfl rfl, lt_m1 1 rfl rfl, ⟨by decide +kernel, by decide +kernel, by decide +kernel⟩, by decide⟩
theorem in_C_feed : Cond.instanceMethod m_C_feed.1 ∈ lt_T := lt_m2 90 rfl rfl
theorem se_C_feed : Cond.selects "LinearSearch" m_C_feed.1 m_C_feed.1 ∈ lt_T := lt_m2 91 rfl rfl
abbrev m_C_forgetSearch : lt_M := (⟨"LinearSearch", "forgetSearch", "()V"⟩, prog_1_method_21_code, 1, none)
theorem d_C_forgetSearch_0 : decode prog_1_method_21_code 0 = .ok (.aload_n 0, 1) := by decide +kernel
theorem d_C_forgetSearch_1 : decode prog_1_method_21_code 1 = .ok (.lconst 0, 1) := by decide +kernel
theorem d_C_forgetSearch_2 : decode prog_1_method_21_code 2 = .ok (.putfield 58, 3) := by decide +kernel
theorem d_C_forgetSearch_5 : decode prog_1_method_21_code 5 = .ok (.aload_n 0, 1) := by decide +kernel
theorem d_C_forgetSearch_6 : decode prog_1_method_21_code 6 = .ok (.iconst (-1), 1) := by decide +kernel
theorem d_C_forgetSearch_7 : decode prog_1_method_21_code 7 = .ok (.iconst (-1), 1) := by decide +kernel
theorem d_C_forgetSearch_8 : decode prog_1_method_21_code 8 = .ok (.invokevirtual 153, 3) := by decide +kernel
theorem d_C_forgetSearch_11 : decode prog_1_method_21_code 11 = .ok (.return_, 1) := by decide +kernel
theorem M_C_forgetSearch : lt_M0 m_C_forgetSearch 0 := ⟨lt_m2 100 rfl rfl, lt_m1 1 rfl rfl, ⟨by decide +kernel, by decide +kernel, by decide +kernel⟩, by decide⟩
theorem in_C_forgetSearch : Cond.instanceMethod m_C_forgetSearch.1 ∈ lt_T := lt_m2 99 rfl rfl
theorem se_C_forgetSearch : Cond.selects "LinearSearch" m_C_forgetSearch.1 m_C_forgetSearch.1 ∈ lt_T := lt_memS 0 rfl rfl
abbrev m_C_note : lt_M := (⟨"LinearSearch", "note", "(II)V"⟩, prog_1_method_20_code, 3, none)
theorem d_C_note_0 : decode prog_1_method_20_code 0 = .ok (.aload_n 0, 1) := by decide +kernel
theorem d_C_note_1 : decode prog_1_method_20_code 1 = .ok (.iload_n 1, 1) := by decide +kernel
theorem d_C_note_2 : decode prog_1_method_20_code 2 = .ok (.putfield 66, 3) := by decide +kernel
theorem d_C_note_5 : decode prog_1_method_20_code 5 = .ok (.aload_n 0, 1) := by decide +kernel
theorem d_C_note_6 : decode prog_1_method_20_code 6 = .ok (.iload_n 2, 1) := by decide +kernel
theorem d_C_note_7 : decode prog_1_method_20_code 7 = .ok (.putfield 62, 3) := by decide +kernel
theorem d_C_note_10 : decode prog_1_method_20_code 10 = .ok (.return_, 1) := by decide +kernel
theorem M_C_note : lt_M0 m_C_note 2 := ⟨lt_m2 104 rfl rfl, lt_m1 1 rfl rfl, ⟨by decide +kernel, by decide +kernel, by decide +kernel⟩, by decide⟩
theorem in_C_note : Cond.instanceMethod m_C_note.1 ∈ lt_T := lt_m2 103 rfl rfl
theorem se_C_note : Cond.selects "LinearSearch" m_C_note.1 m_C_note.1 ∈ lt_T := lt_memS 1 rfl rfl
abbrev m_C_clear : lt_M := (⟨"LinearSearch", "clear", "()V"⟩, prog_1_method_8_code, 1, none)
theorem d_C_clear_0 : decode prog_1_method_8_code 0 = .ok (.aload_n 0, 1) := by decide +kernel
theorem d_C_clear_1 : decode prog_1_method_8_code 1 = .ok (.getfield 23, 3) := by decide +kernel
theorem d_C_clear_4 : decode prog_1_method_8_code 4 = .ok (.invokevirtual 136, 3) := by decide +kernel
theorem d_C_clear_7 : decode prog_1_method_8_code 7 = .ok (.aload_n 0, 1) := by decide +kernel
theorem d_C_clear_8 : decode prog_1_method_8_code 8 = .ok (.invokevirtual 103, 3) := by decide +kernel
theorem d_C_clear_11 : decode prog_1_method_8_code 11 = .ok (.return_, 1) := by decide +kernel
theorem M_C_clear : lt_M0 m_C_clear 0 := ⟨lt_m2 108 rfl rfl, lt_m1 1 rfl rfl, ⟨by decide +kernel, by decide +kernel, by decide +kernel⟩, by decide⟩
theorem in_C_clear : Cond.instanceMethod m_C_clear.1 ∈ lt_T := lt_m2 106 rfl rfl
theorem se_C_clear : Cond.selects "LinearSearch" m_C_clear.1 m_C_clear.1 ∈ lt_T := lt_m2 107 rfl rfl
abbrev m_C_work : lt_M := (⟨"LinearSearch", "work", "()I"⟩, prog_1_method_11_code, 1, (some .int))
theorem d_C_work_0 : decode prog_1_method_11_code 0 = .ok (.aload_n 0, 1) := by decide +kernel
theorem d_C_work_1 : decode prog_1_method_11_code 1 = .ok (.getfield 62, 3) := by decide +kernel
theorem d_C_work_4 : decode prog_1_method_11_code 4 = .ok (.ireturn, 1) := by decide +kernel
theorem M_C_work : lt_M0 m_C_work 0 := ⟨lt_m2 116 rfl rfl, lt_m1 1 rfl rfl, ⟨by decide +kernel, by decide +kernel, by decide +kernel⟩, by decide⟩
theorem in_C_work : Cond.instanceMethod m_C_work.1 ∈ lt_T := lt_m2 114 rfl rfl
theorem se_C_work : Cond.selects "LinearSearch" m_C_work.1 m_C_work.1 ∈ lt_T := lt_m2 115 rfl rfl
abbrev m_C_matcher : lt_M := (⟨"LinearSearch", "matcher", "()I"⟩, prog_1_method_12_code, 1, (some .int))
theorem d_C_matcher_0 : decode prog_1_method_12_code 0 = .ok (.aload_n 0, 1) := by decide +kernel
theorem d_C_matcher_1 : decode prog_1_method_12_code 1 = .ok (.getfield 66, 3) := by decide +kernel
theorem d_C_matcher_4 : decode prog_1_method_12_code 4 = .ok (.ireturn, 1) := by decide +kernel
theorem M_C_matcher : lt_M0 m_C_matcher 0 := ⟨lt_m2 120 rfl rfl, lt_m1 1 rfl rfl, ⟨by decide +kernel, by decide +kernel, by decide +kernel⟩, by decide⟩
theorem in_C_matcher : Cond.instanceMethod m_C_matcher.1 ∈ lt_T := lt_m2 118 rfl rfl
theorem se_C_matcher : Cond.selects "LinearSearch" m_C_matcher.1 m_C_matcher.1 ∈ lt_T := lt_m2 119 rfl rfl
abbrev m_C_states : lt_M := (⟨"LinearSearch", "states", "()I"⟩, prog_1_method_13_code, 1, (some .int))
theorem d_C_states_0 : decode prog_1_method_13_code 0 = .ok (.aload_n 0, 1) := by decide +kernel
theorem d_C_states_1 : decode prog_1_method_13_code 1 = .ok (.getfield 74, 3) := by decide +kernel
theorem d_C_states_4 : decode prog_1_method_13_code 4 = .ok (.invokevirtual 173, 3) := by decide +kernel
theorem d_C_states_7 : decode prog_1_method_13_code 7 = .ok (.ireturn, 1) := by decide +kernel
theorem M_C_states : lt_M0 m_C_states 0 := ⟨lt_m2 124 rfl rfl, lt_m1 1 rfl rfl, ⟨by decide +kernel, by decide +kernel, by decide +kernel⟩, by decide⟩
theorem in_C_states : Cond.instanceMethod m_C_states.1 ∈ lt_T := lt_m2 122 rfl rfl
theorem se_C_states : Cond.selects "LinearSearch" m_C_states.1 m_C_states.1 ∈ lt_T := lt_m2 123 rfl rfl
abbrev m_C_flushes : lt_M := (⟨"LinearSearch", "flushes", "()I"⟩, prog_1_method_14_code, 1, (some .int))
theorem d_C_flushes_0 : decode prog_1_method_14_code 0 = .ok (.aload_n 0, 1) := by decide +kernel
theorem d_C_flushes_1 : decode prog_1_method_14_code 1 = .ok (.getfield 74, 3) := by decide +kernel
theorem d_C_flushes_4 : decode prog_1_method_14_code 4 = .ok (.invokevirtual 176, 3) := by decide +kernel
theorem d_C_flushes_7 : decode prog_1_method_14_code 7 = .ok (.ireturn, 1) := by decide +kernel
theorem M_C_flushes : lt_M0 m_C_flushes 0 := ⟨lt_m2 132 rfl rfl, lt_m1 1 rfl rfl, ⟨by decide +kernel, by decide +kernel, by decide +kernel⟩, by decide⟩
theorem in_C_flushes : Cond.instanceMethod m_C_flushes.1 ∈ lt_T := lt_m2 130 rfl rfl
theorem se_C_flushes : Cond.selects "LinearSearch" m_C_flushes.1 m_C_flushes.1 ∈ lt_T := lt_m2 131 rfl rfl
abbrev m_C_compile : lt_M := (⟨"LinearSearch", "compile", "()I"⟩, prog_1_method_4_code, 2, (some .int))
theorem d_C_compile_0 : decode prog_1_method_4_code 0 = .ok (.aload_n 0, 1) := by decide +kernel
theorem d_C_compile_1 : decode prog_1_method_4_code 1 = .ok (.getfield 16, 3) := by decide +kernel
theorem d_C_compile_4 : decode prog_1_method_4_code 4 = .ok (.aload_n 0, 1) := by decide +kernel
theorem d_C_compile_5 : decode prog_1_method_4_code 5 = .ok (.getfield 9, 3) := by decide +kernel
theorem d_C_compile_8 : decode prog_1_method_4_code 8 = .ok (.aload_n 0, 1) := by decide +kernel
theorem d_C_compile_9 : decode prog_1_method_4_code 9 = .ok (.getfield 78, 3) := by decide +kernel
theorem d_C_compile_12 : decode prog_1_method_4_code 12 = .ok (.aload_n 0, 1) := by decide +kernel
theorem d_C_compile_13 : decode prog_1_method_4_code 13 = .ok (.getfield 55, 3) := by decide +kernel
theorem d_C_compile_16 : decode prog_1_method_4_code 16 = .ok (.invokevirtual 81, 3) := by decide +kernel
theorem d_C_compile_19 : decode prog_1_method_4_code 19 = .ok (.ifCond .ne 13, 3) := by decide +kernel
theorem d_C_compile_22 : decode prog_1_method_4_code 22 = .ok (.new 85, 3) := by decide +kernel
theorem d_C_compile_25 : decode prog_1_method_4_code 25 = .ok (.dup, 1) := by decide +kernel
theorem d_C_compile_26 : decode prog_1_method_4_code 26 = .ok (.ldc 87, 2) := by decide +kernel
theorem d_C_compile_28 : decode prog_1_method_4_code 28 = .ok (.invokespecial 89, 3) := by decide +kernel
theorem d_C_compile_31 : decode prog_1_method_4_code 31 = .ok (.athrow, 1) := by decide +kernel
theorem d_C_compile_32 : decode prog_1_method_4_code 32 = .ok (.aload_n 0, 1) := by decide +kernel
theorem d_C_compile_33 : decode prog_1_method_4_code 33 = .ok (.getfield 51, 3) := by decide +kernel
theorem d_C_compile_36 : decode prog_1_method_4_code 36 = .ok (.astore_n 1, 1) := by decide +kernel
theorem d_C_compile_37 : decode prog_1_method_4_code 37 = .ok (.aload_n 0, 1) := by decide +kernel
theorem d_C_compile_38 : decode prog_1_method_4_code 38 = .ok (.aload_n 0, 1) := by decide +kernel
theorem d_C_compile_39 : decode prog_1_method_4_code 39 = .ok (.getfield 55, 3) := by decide +kernel
theorem d_C_compile_42 : decode prog_1_method_4_code 42 = .ok (.putfield 51, 3) := by decide +kernel
theorem d_C_compile_45 : decode prog_1_method_4_code 45 = .ok (.aload_n 0, 1) := by decide +kernel
theorem d_C_compile_46 : decode prog_1_method_4_code 46 = .ok (.aload_n 1, 1) := by decide +kernel
theorem d_C_compile_47 : decode prog_1_method_4_code 47 = .ok (.putfield 55, 3) := by decide +kernel
theorem d_C_compile_50 : decode prog_1_method_4_code 50 = .ok (.aload_n 0, 1) := by decide +kernel
theorem d_C_compile_51 : decode prog_1_method_4_code 51 = .ok (.aload_n 0, 1) := by decide +kernel
theorem d_C_compile_52 : decode prog_1_method_4_code 52 = .ok (.getfield 44, 3) := by decide +kernel
theorem d_C_compile_55 : decode prog_1_method_4_code 55 = .ok (.aload_n 0, 1) := by decide +kernel
theorem d_C_compile_56 : decode prog_1_method_4_code 56 = .ok (.getfield 51, 3) := by decide +kernel
theorem d_C_compile_59 : decode prog_1_method_4_code 59 = .ok (.invokevirtual 92, 3) := by decide +kernel
theorem d_C_compile_62 : decode prog_1_method_4_code 62 = .ok (.putfield 96, 3) := by decide +kernel
theorem d_C_compile_65 : decode prog_1_method_4_code 65 = .ok (.aload_n 0, 1) := by decide +kernel
theorem d_C_compile_66 : decode prog_1_method_4_code 66 = .ok (.getfield 74, 3) := by decide +kernel
theorem d_C_compile_69 : decode prog_1_method_4_code 69 = .ok (.invokevirtual 100, 3) := by decide +kernel
theorem d_C_compile_72 : decode prog_1_method_4_code 72 = .ok (.aload_n 0, 1) := by decide +kernel
theorem d_C_compile_73 : decode prog_1_method_4_code 73 = .ok (.invokevirtual 103, 3) := by decide +kernel
theorem d_C_compile_76 : decode prog_1_method_4_code 76 = .ok (.aload_n 0, 1) := by decide +kernel
theorem d_C_compile_77 : decode prog_1_method_4_code 77 = .ok (.getfield 51, 3) := by decide +kernel
theorem d_C_compile_80 : decode prog_1_method_4_code 80 = .ok (.invokevirtual 106, 3) := by decide +kernel
theorem d_C_compile_83 : decode prog_1_method_4_code 83 = .ok (.ireturn, 1) := by decide +kernel
theorem M_C_compile : lt_M0 m_C_compile 0 := ⟨lt_m2 147 rfl rfl, lt_m1 1 rfl rfl, ⟨by decide +kernel, by decide +kernel, by decide +kernel⟩, by decide⟩
theorem in_C_compile : Cond.instanceMethod m_C_compile.1 ∈ lt_T := lt_m2 145 rfl rfl
theorem se_C_compile : Cond.selects "LinearSearch" m_C_compile.1 m_C_compile.1 ∈ lt_T := lt_m2 146 rfl rfl
abbrev m_Wr_write : lt_M := (⟨"LinearSearch$Writer", "write", "([CILLinearSearch$Program;)Z"⟩, prog_11_method_2_code, 5, (some .boolean))
theorem d_Wr_write_0 : decode prog_11_method_2_code 0 = .ok (.aload_n 1, 1) := by decide +kernel
theorem d_Wr_write_1 : decode prog_11_method_2_code 1 = .ok (.ifnull 7, 3) := by decide +kernel
theorem d_Wr_write_4 : decode prog_11_method_2_code 4 = .ok (.aload_n 3, 1) := by decide +kernel
theorem d_Wr_write_5 : decode prog_11_method_2_code 5 = .ok (.ifnonnull 5, 3) := by decide +kernel
theorem d_Wr_write_8 : decode prog_11_method_2_code 8 = .ok (.iconst 0, 1) := by decide +kernel
theorem d_Wr_write_9 : decode prog_11_method_2_code 9 = .ok (.ireturn, 1) := by decide +kernel
theorem d_Wr_write_10 : decode prog_11_method_2_code 10 = .ok (.aload_n 0, 1) := by decide +kernel
theorem d_Wr_write_11 : decode prog_11_method_2_code 11 = .ok (.aload_n 1, 1) := by decide +kernel
theorem d_Wr_write_12 : decode prog_11_method_2_code 12 = .ok (.putfield 9, 3) := by decide +kernel
theorem d_Wr_write_15 : decode prog_11_method_2_code 15 = .ok (.aload_n 0, 1) := by decide +kernel
theorem d_Wr_write_16 : decode prog_11_method_2_code 16 = .ok (.iload_n 2, 1) := by decide +kernel
theorem d_Wr_write_17 : decode prog_11_method_2_code 17 = .ok (.putfield 15, 3) := by decide +kernel
theorem d_Wr_write_20 : decode prog_11_method_2_code 20 = .ok (.aload_n 0, 1) := by decide +kernel
theorem d_Wr_write_21 : decode prog_11_method_2_code 21 = .ok (.aload_n 3, 1) := by decide +kernel
theorem d_Wr_write_22 : decode prog_11_method_2_code 22 = .ok (.putfield 19, 3) := by decide +kernel
theorem d_Wr_write_25 : decode prog_11_method_2_code 25 = .ok (.aload_n 0, 1) := by decide +kernel
theorem d_Wr_write_26 : decode prog_11_method_2_code 26 = .ok (.iconst 0, 1) := by decide +kernel
theorem d_Wr_write_27 : decode prog_11_method_2_code 27 = .ok (.putfield 23, 3) := by decide +kernel
theorem d_Wr_write_30 : decode prog_11_method_2_code 30 = .ok (.aload_n 0, 1) := by decide +kernel
theorem d_Wr_write_31 : decode prog_11_method_2_code 31 = .ok (.iconst 0, 1) := by decide +kernel
theorem d_Wr_write_32 : decode prog_11_method_2_code 32 = .ok (.putfield 26, 3) := by decide +kernel
theorem d_Wr_write_35 : decode prog_11_method_2_code 35 = .ok (.aload_n 0, 1) := by decide +kernel
theorem d_Wr_write_36 : decode prog_11_method_2_code 36 = .ok (.getfield 19, 3) := by decide +kernel
theorem d_Wr_write_39 : decode prog_11_method_2_code 39 = .ok (.invokevirtual 29, 3) := by decide +kernel
theorem d_Wr_write_42 : decode prog_11_method_2_code 42 = .ok (.aload_n 0, 1) := by decide +kernel
theorem d_Wr_write_43 : decode prog_11_method_2_code 43 = .ok (.invokevirtual 34, 3) := by decide +kernel
theorem d_Wr_write_46 : decode prog_11_method_2_code 46 = .ok (.ifCond .eq 15, 3) := by decide +kernel
theorem d_Wr_write_49 : decode prog_11_method_2_code 49 = .ok (.aload_n 0, 1) := by decide +kernel
theorem d_Wr_write_50 : decode prog_11_method_2_code 50 = .ok (.invokevirtual 38, 3) := by decide +kernel
theorem d_Wr_write_53 : decode prog_11_method_2_code 53 = .ok (.iconst (-1), 1) := by decide +kernel
theorem d_Wr_write_54 : decode prog_11_method_2_code 54 = .ok (.if_icmp .ne 7, 3) := by decide +kernel
theorem d_Wr_write_57 : decode prog_11_method_2_code 57 = .ok (.iconst 1, 1) := by decide +kernel
theorem d_Wr_write_58 : decode prog_11_method_2_code 58 = .ok (.goto 4, 3) := by decide +kernel
theorem d_Wr_write_61 : decode prog_11_method_2_code 61 = .ok (.iconst 0, 1) := by decide +kernel
theorem d_Wr_write_62 : decode prog_11_method_2_code 62 = .ok (.istore 4, 2) := by decide +kernel
theorem d_Wr_write_64 : decode prog_11_method_2_code 64 = .ok (.iload 4, 2) := by decide +kernel
theorem d_Wr_write_66 : decode prog_11_method_2_code 66 = .ok (.ifCond .eq 13, 3) := by decide +kernel
theorem d_Wr_write_69 : decode prog_11_method_2_code 69 = .ok (.aload_n 0, 1) := by decide +kernel
theorem d_Wr_write_70 : decode prog_11_method_2_code 70 = .ok (.getfield 19, 3) := by decide +kernel
theorem d_Wr_write_73 : decode prog_11_method_2_code 73 = .ok (.bipush 7, 2) := by decide +kernel
theorem d_Wr_write_75 : decode prog_11_method_2_code 75 = .ok (.iconst 0, 1) := by decide +kernel
theorem d_Wr_write_76 : decode prog_11_method_2_code 76 = .ok (.invokevirtual 42, 3) := by decide +kernel
theorem d_Wr_write_79 : decode prog_11_method_2_code 79 = .ok (.iload 4, 2) := by decide +kernel
theorem d_Wr_write_81 : decode prog_11_method_2_code 81 = .ok (.ireturn, 1) := by decide +kernel
theorem M_Wr_write : lt_M0 m_Wr_write 3 := ⟨lt_m2 151 rfl rfl, lt_m1 2 rfl rfl, ⟨by decide +kernel, by decide +kernel, by decide +kernel⟩, by decide⟩
theorem in_Wr_write : Cond.instanceMethod m_Wr_write.1 ∈ lt_T := lt_m2 149 rfl rfl
theorem se_Wr_write : Cond.selects "LinearSearch$Writer" m_Wr_write.1 m_Wr_write.1 ∈ lt_T := lt_m2 150 rfl rfl
abbrev m_Wr_writeChoice : lt_M := (⟨"LinearSearch$Writer", "writeChoice", "()Z"⟩, prog_11_method_4_code, 5, (some .boolean))
theorem d_Wr_writeChoice_0 : decode prog_11_method_4_code 0 = .ok (.aload_n 0, 1) := by decide +kernel
theorem d_Wr_writeChoice_1 : decode prog_11_method_4_code 1 = .ok (.getfield 19, 3) := by decide +kernel
theorem d_Wr_writeChoice_4 : decode prog_11_method_4_code 4 = .ok (.invokevirtual 46, 3) := by decide +kernel
theorem d_Wr_writeChoice_7 : decode prog_11_method_4_code 7 = .ok (.istore_n 1, 1) := by decide +kernel
theorem d_Wr_writeChoice_8 : decode prog_11_method_4_code 8 = .ok (.iload_n 1, 1) := by decide +kernel
theorem d_Wr_writeChoice_9 : decode prog_11_method_4_code 9 = .ok (.istore_n 2, 1) := by decide +kernel
theorem d_Wr_writeChoice_10 : decode prog_11_method_4_code 10 = .ok (.aload_n 0, 1) := by decide +kernel
theorem d_Wr_writeChoice_11 : decode prog_11_method_4_code 11 = .ok (.invokevirtual 49, 3) := by decide +kernel
theorem d_Wr_writeChoice_14 : decode prog_11_method_4_code 14 = .ok (.istore_n 3, 1) := by decide +kernel
theorem d_Wr_writeChoice_15 : decode prog_11_method_4_code 15 = .ok (.iconst 0, 1) := by decide +kernel
theorem d_Wr_writeChoice_16 : decode prog_11_method_4_code 16 = .ok (.istore 4, 2) := by decide +kernel
theorem d_Wr_writeChoice_18 : decode prog_11_method_4_code 18 = .ok (.iload 4, 2) := by decide +kernel
theorem d_Wr_writeChoice_20 : decode prog_11_method_4_code 20 = .ok (.bipush 24, 2) := by decide +kernel
theorem d_Wr_writeChoice_22 : decode prog_11_method_4_code 22 = .ok (.if_icmp .ge 78, 3) := by decide +kernel
theorem d_Wr_writeChoice_25 : decode prog_11_method_4_code 25 = .ok (.iload_n 3, 1) := by decide +kernel
theorem d_Wr_writeChoice_26 : decode prog_11_method_4_code 26 = .ok (.ifCond .eq 74, 3) := by decide +kernel
theorem d_Wr_writeChoice_29 : decode prog_11_method_4_code 29 = .ok (.aload_n 0, 1) := by decide +kernel
theorem d_Wr_writeChoice_30 : decode prog_11_method_4_code 30 = .ok (.invokevirtual 38, 3) := by decide +kernel
theorem d_Wr_writeChoice_33 : decode prog_11_method_4_code 33 = .ok (.bipush 124, 2) := by decide +kernel
theorem d_Wr_writeChoice_35 : decode prog_11_method_4_code 35 = .ok (.if_icmp .ne 65, 3) := by decide +kernel
theorem d_Wr_writeChoice_38 : decode prog_11_method_4_code 38 = .ok (.aload_n 0, 1) := by decide +kernel
theorem d_Wr_writeChoice_39 : decode prog_11_method_4_code 39 = .ok (.dup, 1) := by decide +kernel
theorem d_Wr_writeChoice_40 : decode prog_11_method_4_code 40 = .ok (.getfield 23, 3) := by decide +kernel
theorem d_Wr_writeChoice_43 : decode prog_11_method_4_code 43 = .ok (.iconst 1, 1) := by decide +kernel
theorem d_Wr_writeChoice_44 : decode prog_11_method_4_code 44 = .ok (.iadd, 1) := by decide +kernel
theorem d_Wr_writeChoice_45 : decode prog_11_method_4_code 45 = .ok (.putfield 23, 3) := by decide +kernel
theorem d_Wr_writeChoice_48 : decode prog_11_method_4_code 48 = .ok (.aload_n 0, 1) := by decide +kernel
theorem d_Wr_writeChoice_49 : decode prog_11_method_4_code 49 = .ok (.getfield 19, 3) := by decide +kernel
theorem d_Wr_writeChoice_52 : decode prog_11_method_4_code 52 = .ok (.iload_n 2, 1) := by decide +kernel
theorem d_Wr_writeChoice_53 : decode prog_11_method_4_code 53 = .ok (.invokevirtual 52, 3) := by decide +kernel
theorem d_Wr_writeChoice_56 : decode prog_11_method_4_code 56 = .ok (.aload_n 0, 1) := by decide +kernel
theorem d_Wr_writeChoice_57 : decode prog_11_method_4_code 57 = .ok (.getfield 19, 3) := by decide +kernel
theorem d_Wr_writeChoice_60 : decode prog_11_method_4_code 60 = .ok (.invokevirtual 56, 3) := by decide +kernel
theorem d_Wr_writeChoice_63 : decode prog_11_method_4_code 63 = .ok (.aload_n 0, 1) := by decide +kernel
theorem d_Wr_writeChoice_64 : decode prog_11_method_4_code 64 = .ok (.getfield 19, 3) := by decide +kernel
theorem d_Wr_writeChoice_67 : decode prog_11_method_4_code 67 = .ok (.iload_n 2, 1) := by decide +kernel
theorem d_Wr_writeChoice_68 : decode prog_11_method_4_code 68 = .ok (.iload_n 2, 1) := by decide +kernel
theorem d_Wr_writeChoice_69 : decode prog_11_method_4_code 69 = .ok (.iconst 1, 1) := by decide +kernel
theorem d_Wr_writeChoice_70 : decode prog_11_method_4_code 70 = .ok (.iadd, 1) := by decide +kernel
theorem d_Wr_writeChoice_71 : decode prog_11_method_4_code 71 = .ok (.aload_n 0, 1) := by decide +kernel
theorem d_Wr_writeChoice_72 : decode prog_11_method_4_code 72 = .ok (.getfield 19, 3) := by decide +kernel
theorem d_Wr_writeChoice_75 : decode prog_11_method_4_code 75 = .ok (.invokevirtual 46, 3) := by decide +kernel
theorem d_Wr_writeChoice_78 : decode prog_11_method_4_code 78 = .ok (.invokevirtual 59, 3) := by decide +kernel
theorem d_Wr_writeChoice_81 : decode prog_11_method_4_code 81 = .ok (.aload_n 0, 1) := by decide +kernel
theorem d_Wr_writeChoice_82 : decode prog_11_method_4_code 82 = .ok (.getfield 19, 3) := by decide +kernel
theorem d_Wr_writeChoice_85 : decode prog_11_method_4_code 85 = .ok (.invokevirtual 46, 3) := by decide +kernel
theorem d_Wr_writeChoice_88 : decode prog_11_method_4_code 88 = .ok (.istore_n 2, 1) := by decide +kernel
theorem d_Wr_writeChoice_89 : decode prog_11_method_4_code 89 = .ok (.aload_n 0, 1) := by decide +kernel
theorem d_Wr_writeChoice_90 : decode prog_11_method_4_code 90 = .ok (.invokevirtual 49, 3) := by decide +kernel
theorem d_Wr_writeChoice_93 : decode prog_11_method_4_code 93 = .ok (.istore_n 3, 1) := by decide +kernel
theorem d_Wr_writeChoice_94 : decode prog_11_method_4_code 94 = .ok (.iinc 4 1, 3) := by decide +kernel
theorem d_Wr_writeChoice_97 : decode prog_11_method_4_code 97 = .ok (.goto (-79), 3) := by decide +kernel
theorem d_Wr_writeChoice_100 : decode prog_11_method_4_code 100 = .ok (.aload_n 0, 1) := by decide +kernel
theorem d_Wr_writeChoice_101 : decode prog_11_method_4_code 101 = .ok (.getfield 19, 3) := by decide +kernel
theorem d_Wr_writeChoice_104 : decode prog_11_method_4_code 104 = .ok (.iload_n 1, 1) := by decide +kernel
theorem d_Wr_writeChoice_105 : decode prog_11_method_4_code 105 = .ok (.invokevirtual 63, 3) := by decide +kernel
theorem d_Wr_writeChoice_108 : decode prog_11_method_4_code 108 = .ok (.iload_n 3, 1) := by decide +kernel
theorem d_Wr_writeChoice_109 : decode prog_11_method_4_code 109 = .ok (.ireturn, 1) := by decide +kernel
theorem M_Wr_writeChoice : lt_M0 m_Wr_writeChoice 0 := ⟨lt_m2 159 rfl rfl, lt_m1 2 rfl rfl, ⟨by decide +kernel, by decide +kernel, by decide +kernel⟩, by decide⟩
theorem in_Wr_writeChoice : Cond.instanceMethod m_Wr_writeChoice.1 ∈ lt_T := lt_m2 158 rfl rfl
theorem se_Wr_writeChoice : Cond.selects "LinearSearch$Writer" m_Wr_writeChoice.1 m_Wr_writeChoice.1 ∈ lt_T := lt_memS 2 rfl rfl
abbrev m_Wr_writeSequence : lt_M := (⟨"LinearSearch$Writer", "writeSequence", "()Z"⟩, prog_11_method_5_code, 3, (some .boolean))
theorem d_Wr_writeSequence_0 : decode prog_11_method_5_code 0 = .ok (.iconst 0, 1) := by decide +kernel
theorem d_Wr_writeSequence_1 : decode prog_11_method_5_code 1 = .ok (.istore_n 1, 1) := by decide +kernel
theorem d_Wr_writeSequence_2 : decode prog_11_method_5_code 2 = .ok (.iload_n 1, 1) := by decide +kernel
theorem d_Wr_writeSequence_3 : decode prog_11_method_5_code 3 = .ok (.bipush 24, 2) := by decide +kernel
theorem d_Wr_writeSequence_5 : decode prog_11_method_5_code 5 = .ok (.if_icmp .ge 43, 3) := by decide +kernel
theorem d_Wr_writeSequence_8 : decode prog_11_method_5_code 8 = .ok (.aload_n 0, 1) := by decide +kernel
theorem d_Wr_writeSequence_9 : decode prog_11_method_5_code 9 = .ok (.invokevirtual 38, 3) := by decide +kernel
theorem d_Wr_writeSequence_12 : decode prog_11_method_5_code 12 = .ok (.istore_n 2, 1) := by decide +kernel
theorem d_Wr_writeSequence_13 : decode prog_11_method_5_code 13 = .ok (.iload_n 2, 1) := by decide +kernel
theorem d_Wr_writeSequence_14 : decode prog_11_method_5_code 14 = .ok (.iconst (-1), 1) := by decide +kernel
theorem d_Wr_writeSequence_15 : decode prog_11_method_5_code 15 = .ok (.if_icmp .eq 33, 3) := by decide +kernel
theorem d_Wr_writeSequence_18 : decode prog_11_method_5_code 18 = .ok (.iload_n 2, 1) := by decide +kernel
theorem d_Wr_writeSequence_19 : decode prog_11_method_5_code 19 = .ok (.bipush 124, 2) := by decide +kernel
theorem d_Wr_writeSequence_21 : decode prog_11_method_5_code 21 = .ok (.if_icmp .eq 27, 3) := by decide +kernel
theorem d_Wr_writeSequence_24 : decode prog_11_method_5_code 24 = .ok (.iload_n 2, 1) := by decide +kernel
theorem d_Wr_writeSequence_25 : decode prog_11_method_5_code 25 = .ok (.bipush 41, 2) := by decide +kernel
theorem d_Wr_writeSequence_27 : decode prog_11_method_5_code 27 = .ok (.if_icmp .ne 6, 3) := by decide +kernel
theorem d_Wr_writeSequence_30 : decode prog_11_method_5_code 30 = .ok (.goto 18, 3) := by decide +kernel
theorem d_Wr_writeSequence_33 : decode prog_11_method_5_code 33 = .ok (.aload_n 0, 1) := by decide +kernel
theorem d_Wr_writeSequence_34 : decode prog_11_method_5_code 34 = .ok (.invokevirtual 66, 3) := by decide +kernel
theorem d_Wr_writeSequence_37 : decode prog_11_method_5_code 37 = .ok (.ifCond .ne 5, 3) := by decide +kernel
theorem d_Wr_writeSequence_40 : decode prog_11_method_5_code 40 = .ok (.iconst 0, 1) := by decide +kernel
theorem d_Wr_writeSequence_41 : decode prog_11_method_5_code 41 = .ok (.ireturn, 1) := by decide +kernel
theorem d_Wr_writeSequence_42 : decode prog_11_method_5_code 42 = .ok (.iinc 1 1, 3) := by decide +kernel
theorem d_Wr_writeSequence_45 : decode prog_11_method_5_code 45 = .ok (.goto (-43), 3) := by decide +kernel
theorem d_Wr_writeSequence_48 : decode prog_11_method_5_code 48 = .ok (.iconst 1, 1) := by decide +kernel
theorem d_Wr_writeSequence_49 : decode prog_11_method_5_code 49 = .ok (.ireturn, 1) := by decide +kernel
theorem M_Wr_writeSequence : lt_M0 m_Wr_writeSequence 0 := ⟨lt_m2 167 rfl rfl, lt_m1 2 rfl rfl, ⟨by decide +kernel, by decide +kernel, by decide +kernel⟩, by decide⟩
theorem in_Wr_writeSequence : Cond.instanceMethod m_Wr_writeSequence.1 ∈ lt_T := lt_m2 166 rfl rfl
theorem se_Wr_writeSequence : Cond.selects "LinearSearch$Writer" m_Wr_writeSequence.1 m_Wr_writeSequence.1 ∈ lt_T := lt_memS 3 rfl rfl
abbrev m_Wr_peek : lt_M := (⟨"LinearSearch$Writer", "peek", "()I"⟩, prog_11_method_3_code, 1, (some .int))
theorem d_Wr_peek_0 : decode prog_11_method_3_code 0 = .ok (.aload_n 0, 1) := by decide +kernel
theorem d_Wr_peek_1 : decode prog_11_method_3_code 1 = .ok (.getfield 23, 3) := by decide +kernel
theorem d_Wr_peek_4 : decode prog_11_method_3_code 4 = .ok (.ifCond .lt 38, 3) := by decide +kernel
theorem d_Wr_peek_7 : decode prog_11_method_3_code 7 = .ok (.aload_n 0, 1) := by decide +kernel
theorem d_Wr_peek_8 : decode prog_11_method_3_code 8 = .ok (.getfield 23, 3) := by decide +kernel
theorem d_Wr_peek_11 : decode prog_11_method_3_code 11 = .ok (.aload_n 0, 1) := by decide +kernel
theorem d_Wr_peek_12 : decode prog_11_method_3_code 12 = .ok (.getfield 15, 3) := by decide +kernel
theorem d_Wr_peek_15 : decode prog_11_method_3_code 15 = .ok (.if_icmp .ge 27, 3) := by decide +kernel
theorem d_Wr_peek_18 : decode prog_11_method_3_code 18 = .ok (.aload_n 0, 1) := by decide +kernel
theorem d_Wr_peek_19 : decode prog_11_method_3_code 19 = .ok (.getfield 23, 3) := by decide +kernel
theorem d_Wr_peek_22 : decode prog_11_method_3_code 22 = .ok (.aload_n 0, 1) := by decide +kernel
theorem d_Wr_peek_23 : decode prog_11_method_3_code 23 = .ok (.getfield 9, 3) := by decide +kernel
theorem d_Wr_peek_26 : decode prog_11_method_3_code 26 = .ok (.arraylength, 1) := by decide +kernel
theorem d_Wr_peek_27 : decode prog_11_method_3_code 27 = .ok (.if_icmp .ge 15, 3) := by decide +kernel
theorem d_Wr_peek_30 : decode prog_11_method_3_code 30 = .ok (.aload_n 0, 1) := by decide +kernel
theorem d_Wr_peek_31 : decode prog_11_method_3_code 31 = .ok (.getfield 9, 3) := by decide +kernel
theorem d_Wr_peek_34 : decode prog_11_method_3_code 34 = .ok (.aload_n 0, 1) := by decide +kernel
theorem d_Wr_peek_35 : decode prog_11_method_3_code 35 = .ok (.getfield 23, 3) := by decide +kernel
theorem d_Wr_peek_38 : decode prog_11_method_3_code 38 = .ok (.caload, 1) := by decide +kernel
theorem d_Wr_peek_39 : decode prog_11_method_3_code 39 = .ok (.goto 4, 3) := by decide +kernel
theorem d_Wr_peek_42 : decode prog_11_method_3_code 42 = .ok (.iconst (-1), 1) := by decide +kernel
theorem d_Wr_peek_43 : decode prog_11_method_3_code 43 = .ok (.ireturn, 1) := by decide +kernel
theorem M_Wr_peek : lt_M0 m_Wr_peek 0 := ⟨lt_m2 171 rfl rfl, lt_m1 2 rfl rfl, ⟨by decide +kernel, by decide +kernel, by decide +kernel⟩, by decide⟩
theorem in_Wr_peek : Cond.instanceMethod m_Wr_peek.1 ∈ lt_T := lt_m2 170 rfl rfl
theorem se_Wr_peek : Cond.selects "LinearSearch$Writer" m_Wr_peek.1 m_Wr_peek.1 ∈ lt_T := lt_memS 4 rfl rfl
abbrev m_Wr_writePiece : lt_M := (⟨"LinearSearch$Writer", "writePiece", "()Z"⟩, prog_11_method_6_code, 4, (some .boolean))
theorem d_Wr_writePiece_0 : decode prog_11_method_6_code 0 = .ok (.aload_n 0, 1) := by decide +kernel
theorem d_Wr_writePiece_1 : decode prog_11_method_6_code 1 = .ok (.getfield 19, 3) := by decide +kernel
theorem d_Wr_writePiece_4 : decode prog_11_method_6_code 4 = .ok (.invokevirtual 46, 3) := by decide +kernel
theorem d_Wr_writePiece_7 : decode prog_11_method_6_code 7 = .ok (.istore_n 1, 1) := by decide +kernel
theorem d_Wr_writePiece_8 : decode prog_11_method_6_code 8 = .ok (.aload_n 0, 1) := by decide +kernel
theorem d_Wr_writePiece_9 : decode prog_11_method_6_code 9 = .ok (.invokevirtual 69, 3) := by decide +kernel
theorem d_Wr_writePiece_12 : decode prog_11_method_6_code 12 = .ok (.ifCond .ne 5, 3) := by decide +kernel
theorem d_Wr_writePiece_15 : decode prog_11_method_6_code 15 = .ok (.iconst 0, 1) := by decide +kernel
theorem d_Wr_writePiece_16 : decode prog_11_method_6_code 16 = .ok (.ireturn, 1) := by decide +kernel
theorem d_Wr_writePiece_17 : decode prog_11_method_6_code 17 = .ok (.aload_n 0, 1) := by decide +kernel
theorem d_Wr_writePiece_18 : decode prog_11_method_6_code 18 = .ok (.invokevirtual 38, 3) := by decide +kernel
theorem d_Wr_writePiece_21 : decode prog_11_method_6_code 21 = .ok (.istore_n 2, 1) := by decide +kernel
theorem d_Wr_writePiece_22 : decode prog_11_method_6_code 22 = .ok (.iload_n 2, 1) := by decide +kernel
theorem d_Wr_writePiece_23 : decode prog_11_method_6_code 23 = .ok (.bipush 63, 2) := by decide +kernel
theorem d_Wr_writePiece_25 : decode prog_11_method_6_code 25 = .ok (.if_icmp .eq 15, 3) := by decide +kernel
theorem d_Wr_writePiece_28 : decode prog_11_method_6_code 28 = .ok (.iload_n 2, 1) := by decide +kernel
theorem d_Wr_writePiece_29 : decode prog_11_method_6_code 29 = .ok (.bipush 42, 2) := by decide +kernel
theorem d_Wr_writePiece_31 : decode prog_11_method_6_code 31 = .ok (.if_icmp .eq 9, 3) := by decide +kernel
theorem d_Wr_writePiece_34 : decode prog_11_method_6_code 34 = .ok (.iload_n 2, 1) := by decide +kernel
theorem d_Wr_writePiece_35 : decode prog_11_method_6_code 35 = .ok (.bipush 43, 2) := by decide +kernel
theorem d_Wr_writePiece_37 : decode prog_11_method_6_code 37 = .ok (.if_icmp .ne 49, 3) := by decide +kernel
theorem d_Wr_writePiece_40 : decode prog_11_method_6_code 40 = .ok (.aload_n 0, 1) := by decide +kernel
theorem d_Wr_writePiece_41 : decode prog_11_method_6_code 41 = .ok (.dup, 1) := by decide +kernel
theorem d_Wr_writePiece_42 : decode prog_11_method_6_code 42 = .ok (.getfield 23, 3) := by decide +kernel
theorem d_Wr_writePiece_45 : decode prog_11_method_6_code 45 = .ok (.iconst 1, 1) := by decide +kernel
theorem d_Wr_writePiece_46 : decode prog_11_method_6_code 46 = .ok (.iadd, 1) := by decide +kernel
theorem d_Wr_writePiece_47 : decode prog_11_method_6_code 47 = .ok (.putfield 23, 3) := by decide +kernel
theorem d_Wr_writePiece_50 : decode prog_11_method_6_code 50 = .ok (.aload_n 0, 1) := by decide +kernel
theorem d_Wr_writePiece_51 : decode prog_11_method_6_code 51 = .ok (.invokevirtual 38, 3) := by decide +kernel
theorem d_Wr_writePiece_54 : decode prog_11_method_6_code 54 = .ok (.bipush 63, 2) := by decide +kernel
theorem d_Wr_writePiece_56 : decode prog_11_method_6_code 56 = .ok (.if_icmp .ne 7, 3) := by decide +kernel
theorem d_Wr_writePiece_59 : decode prog_11_method_6_code 59 = .ok (.iconst 1, 1) := by decide +kernel
theorem d_Wr_writePiece_60 : decode prog_11_method_6_code 60 = .ok (.goto 4, 3) := by decide +kernel
theorem d_Wr_writePiece_63 : decode prog_11_method_6_code 63 = .ok (.iconst 0, 1) := by decide +kernel
theorem d_Wr_writePiece_64 : decode prog_11_method_6_code 64 = .ok (.istore_n 3, 1) := by decide +kernel
theorem d_Wr_writePiece_65 : decode prog_11_method_6_code 65 = .ok (.iload_n 3, 1) := by decide +kernel
theorem d_Wr_writePiece_66 : decode prog_11_method_6_code 66 = .ok (.ifCond .eq 13, 3) := by decide +kernel
theorem d_Wr_writePiece_69 : decode prog_11_method_6_code 69 = .ok (.aload_n 0, 1) := by decide +kernel
theorem d_Wr_writePiece_70 : decode prog_11_method_6_code 70 = .ok (.dup, 1) := by decide +kernel
theorem d_Wr_writePiece_71 : decode prog_11_method_6_code 71 = .ok (.getfield 23, 3) := by decide +kernel
theorem d_Wr_writePiece_74 : decode prog_11_method_6_code 74 = .ok (.iconst 1, 1) := by decide +kernel
theorem d_Wr_writePiece_75 : decode prog_11_method_6_code 75 = .ok (.iadd, 1) := by decide +kernel
theorem d_Wr_writePiece_76 : decode prog_11_method_6_code 76 = .ok (.putfield 23, 3) := by decide +kernel
theorem d_Wr_writePiece_79 : decode prog_11_method_6_code 79 = .ok (.aload_n 0, 1) := by decide +kernel
theorem d_Wr_writePiece_80 : decode prog_11_method_6_code 80 = .ok (.iload_n 2, 1) := by decide +kernel
theorem d_Wr_writePiece_81 : decode prog_11_method_6_code 81 = .ok (.iload_n 1, 1) := by decide +kernel
theorem d_Wr_writePiece_82 : decode prog_11_method_6_code 82 = .ok (.iload_n 3, 1) := by decide +kernel
theorem d_Wr_writePiece_83 : decode prog_11_method_6_code 83 = .ok (.invokevirtual 72, 3) := by decide +kernel
theorem d_Wr_writePiece_86 : decode prog_11_method_6_code 86 = .ok (.iconst 1, 1) := by decide +kernel
theorem d_Wr_writePiece_87 : decode prog_11_method_6_code 87 = .ok (.ireturn, 1) := by decide +kernel
theorem M_Wr_writePiece : lt_M0 m_Wr_writePiece 0 := ⟨lt_m2 175 rfl rfl, lt_m1 2 rfl rfl, ⟨by decide +kernel, by decide +kernel, by decide +kernel⟩, by decide⟩
theorem in_Wr_writePiece : Cond.instanceMethod m_Wr_writePiece.1 ∈ lt_T := lt_m2 174 rfl rfl
theorem se_Wr_writePiece : Cond.selects "LinearSearch$Writer" m_Wr_writePiece.1 m_Wr_writePiece.1 ∈ lt_T := lt_memS 5 rfl rfl
abbrev m_Wr_writeAtom : lt_M := (⟨"LinearSearch$Writer", "writeAtom", "()Z"⟩, prog_11_method_7_code, 2, (some .boolean))
theorem d_Wr_writeAtom_0 : decode prog_11_method_7_code 0 = .ok (.aload_n 0, 1) := by decide +kernel
theorem d_Wr_writeAtom_1 : decode prog_11_method_7_code 1 = .ok (.invokevirtual 38, 3) := by decide +kernel
theorem d_Wr_writeAtom_4 : decode prog_11_method_7_code 4 = .ok (.istore_n 1, 1) := by decide +kernel
theorem d_Wr_writeAtom_5 : decode prog_11_method_7_code 5 = .ok (.aload_n 0, 1) := by decide +kernel
theorem d_Wr_writeAtom_6 : decode prog_11_method_7_code 6 = .ok (.dup, 1) := by decide +kernel
theorem d_Wr_writeAtom_7 : decode prog_11_method_7_code 7 = .ok (.getfield 23, 3) := by decide +kernel
theorem d_Wr_writeAtom_10 : decode prog_11_method_7_code 10 = .ok (.iconst 1, 1) := by decide +kernel
theorem d_Wr_writeAtom_11 : decode prog_11_method_7_code 11 = .ok (.iadd, 1) := by decide +kernel
theorem d_Wr_writeAtom_12 : decode prog_11_method_7_code 12 = .ok (.putfield 23, 3) := by decide +kernel
theorem d_Wr_writeAtom_15 : decode prog_11_method_7_code 15 = .ok (.iload_n 1, 1) := by decide +kernel
theorem d_Wr_writeAtom_16 : decode prog_11_method_7_code 16 = .ok (.bipush 97, 2) := by decide +kernel
theorem d_Wr_writeAtom_18 : decode prog_11_method_7_code 18 = .ok (.if_icmp .lt 23, 3) := by decide +kernel
theorem d_Wr_writeAtom_21 : decode prog_11_method_7_code 21 = .ok (.iload_n 1, 1) := by decide +kernel
theorem d_Wr_writeAtom_22 : decode prog_11_method_7_code 22 = .ok (.bipush 105, 2) := by decide +kernel
theorem d_Wr_writeAtom_24 : decode prog_11_method_7_code 24 = .ok (.if_icmp .ge 17, 3) := by decide +kernel
theorem d_Wr_writeAtom_27 : decode prog_11_method_7_code 27 = .ok (.aload_n 0, 1) := by decide +kernel
theorem d_Wr_writeAtom_28 : decode prog_11_method_7_code 28 = .ok (.getfield 19, 3) := by decide +kernel
theorem d_Wr_writeAtom_31 : decode prog_11_method_7_code 31 = .ok (.iconst 0, 1) := by decide +kernel
theorem d_Wr_writeAtom_32 : decode prog_11_method_7_code 32 = .ok (.iload_n 1, 1) := by decide +kernel
theorem d_Wr_writeAtom_33 : decode prog_11_method_7_code 33 = .ok (.bipush 97, 2) := by decide +kernel
theorem d_Wr_writeAtom_35 : decode prog_11_method_7_code 35 = .ok (.isub, 1) := by decide +kernel
theorem d_Wr_writeAtom_36 : decode prog_11_method_7_code 36 = .ok (.invokevirtual 42, 3) := by decide +kernel
theorem d_Wr_writeAtom_39 : decode prog_11_method_7_code 39 = .ok (.iconst 1, 1) := by decide +kernel
theorem d_Wr_writeAtom_40 : decode prog_11_method_7_code 40 = .ok (.ireturn, 1) := by decide +kernel
theorem d_Wr_writeAtom_41 : decode prog_11_method_7_code 41 = .ok (.iload_n 1, 1) := by decide +kernel
theorem d_Wr_writeAtom_42 : decode prog_11_method_7_code 42 = .ok (.lookupswitch 81 #[(36, 64), (40, 76), (46, 42), (94, 53)], 42) := by decide +kernel
theorem d_Wr_writeAtom_84 : decode prog_11_method_7_code 84 = .ok (.aload_n 0, 1) := by decide +kernel
theorem d_Wr_writeAtom_85 : decode prog_11_method_7_code 85 = .ok (.getfield 19, 3) := by decide +kernel
theorem d_Wr_writeAtom_88 : decode prog_11_method_7_code 88 = .ok (.iconst 1, 1) := by decide +kernel
theorem d_Wr_writeAtom_89 : decode prog_11_method_7_code 89 = .ok (.iconst 0, 1) := by decide +kernel
theorem d_Wr_writeAtom_90 : decode prog_11_method_7_code 90 = .ok (.invokevirtual 42, 3) := by decide +kernel
theorem d_Wr_writeAtom_93 : decode prog_11_method_7_code 93 = .ok (.iconst 1, 1) := by decide +kernel
theorem d_Wr_writeAtom_94 : decode prog_11_method_7_code 94 = .ok (.ireturn, 1) := by decide +kernel
theorem d_Wr_writeAtom_95 : decode prog_11_method_7_code 95 = .ok (.aload_n 0, 1) := by decide +kernel
theorem d_Wr_writeAtom_96 : decode prog_11_method_7_code 96 = .ok (.getfield 19, 3) := by decide +kernel
theorem d_Wr_writeAtom_99 : decode prog_11_method_7_code 99 = .ok (.iconst 5, 1) := by decide +kernel
theorem d_Wr_writeAtom_100 : decode prog_11_method_7_code 100 = .ok (.iconst 0, 1) := by decide +kernel
theorem d_Wr_writeAtom_101 : decode prog_11_method_7_code 101 = .ok (.invokevirtual 42, 3) := by decide +kernel
theorem d_Wr_writeAtom_104 : decode prog_11_method_7_code 104 = .ok (.iconst 1, 1) := by decide +kernel
theorem d_Wr_writeAtom_105 : decode prog_11_method_7_code 105 = .ok (.ireturn, 1) := by decide +kernel
theorem d_Wr_writeAtom_106 : decode prog_11_method_7_code 106 = .ok (.aload_n 0, 1) := by decide +kernel
theorem d_Wr_writeAtom_107 : decode prog_11_method_7_code 107 = .ok (.getfield 19, 3) := by decide +kernel
theorem d_Wr_writeAtom_110 : decode prog_11_method_7_code 110 = .ok (.bipush 6, 2) := by decide +kernel
theorem d_Wr_writeAtom_112 : decode prog_11_method_7_code 112 = .ok (.iconst 0, 1) := by decide +kernel
theorem d_Wr_writeAtom_113 : decode prog_11_method_7_code 113 = .ok (.invokevirtual 42, 3) := by decide +kernel
theorem d_Wr_writeAtom_116 : decode prog_11_method_7_code 116 = .ok (.iconst 1, 1) := by decide +kernel
theorem d_Wr_writeAtom_117 : decode prog_11_method_7_code 117 = .ok (.ireturn, 1) := by decide +kernel
theorem d_Wr_writeAtom_118 : decode prog_11_method_7_code 118 = .ok (.aload_n 0, 1) := by decide +kernel
theorem d_Wr_writeAtom_119 : decode prog_11_method_7_code 119 = .ok (.invokevirtual 76, 3) := by decide +kernel
theorem d_Wr_writeAtom_122 : decode prog_11_method_7_code 122 = .ok (.ireturn, 1) := by decide +kernel
theorem d_Wr_writeAtom_123 : decode prog_11_method_7_code 123 = .ok (.iconst 0, 1) := by decide +kernel
theorem d_Wr_writeAtom_124 : decode prog_11_method_7_code 124 = .ok (.ireturn, 1) := by decide +kernel
theorem M_Wr_writeAtom : lt_M0 m_Wr_writeAtom 0 := ⟨lt_m2 179 rfl rfl, lt_m1 2 rfl rfl, ⟨by decide +kernel, by decide +kernel, by decide +kernel⟩, by decide⟩
theorem in_Wr_writeAtom : Cond.instanceMethod m_Wr_writeAtom.1 ∈ lt_T := lt_m2 178 rfl rfl
theorem se_Wr_writeAtom : Cond.selects "LinearSearch$Writer" m_Wr_writeAtom.1 m_Wr_writeAtom.1 ∈ lt_T := lt_memS 6 rfl rfl
abbrev m_Wr_writeGroup : lt_M := (⟨"LinearSearch$Writer", "writeGroup", "()Z"⟩, prog_11_method_8_code, 2, (some .boolean))
theorem d_Wr_writeGroup_0 : decode prog_11_method_8_code 0 = .ok (.aload_n 0, 1) := by decide +kernel
theorem d_Wr_writeGroup_1 : decode prog_11_method_8_code 1 = .ok (.getfield 26, 3) := by decide +kernel
theorem d_Wr_writeGroup_4 : decode prog_11_method_8_code 4 = .ok (.iconst 3, 1) := by decide +kernel
theorem d_Wr_writeGroup_5 : decode prog_11_method_8_code 5 = .ok (.if_icmp .lt 5, 3) := by decide +kernel
theorem d_Wr_writeGroup_8 : decode prog_11_method_8_code 8 = .ok (.iconst 0, 1) := by decide +kernel
theorem d_Wr_writeGroup_9 : decode prog_11_method_8_code 9 = .ok (.ireturn, 1) := by decide +kernel
theorem d_Wr_writeGroup_10 : decode prog_11_method_8_code 10 = .ok (.aload_n 0, 1) := by decide +kernel
theorem d_Wr_writeGroup_11 : decode prog_11_method_8_code 11 = .ok (.dup, 1) := by decide +kernel
theorem d_Wr_writeGroup_12 : decode prog_11_method_8_code 12 = .ok (.getfield 26, 3) := by decide +kernel
theorem d_Wr_writeGroup_15 : decode prog_11_method_8_code 15 = .ok (.iconst 1, 1) := by decide +kernel
theorem d_Wr_writeGroup_16 : decode prog_11_method_8_code 16 = .ok (.iadd, 1) := by decide +kernel
theorem d_Wr_writeGroup_17 : decode prog_11_method_8_code 17 = .ok (.putfield 26, 3) := by decide +kernel
theorem d_Wr_writeGroup_20 : decode prog_11_method_8_code 20 = .ok (.aload_n 0, 1) := by decide +kernel
theorem d_Wr_writeGroup_21 : decode prog_11_method_8_code 21 = .ok (.getfield 26, 3) := by decide +kernel
theorem d_Wr_writeGroup_24 : decode prog_11_method_8_code 24 = .ok (.istore_n 1, 1) := by decide +kernel
theorem d_Wr_writeGroup_25 : decode prog_11_method_8_code 25 = .ok (.aload_n 0, 1) := by decide +kernel
theorem d_Wr_writeGroup_26 : decode prog_11_method_8_code 26 = .ok (.getfield 19, 3) := by decide +kernel
theorem d_Wr_writeGroup_29 : decode prog_11_method_8_code 29 = .ok (.iconst 4, 1) := by decide +kernel
theorem d_Wr_writeGroup_30 : decode prog_11_method_8_code 30 = .ok (.iconst 2, 1) := by decide +kernel
theorem d_Wr_writeGroup_31 : decode prog_11_method_8_code 31 = .ok (.iload_n 1, 1) := by decide +kernel
theorem d_Wr_writeGroup_32 : decode prog_11_method_8_code 32 = .ok (.imul, 1) := by decide +kernel
theorem d_Wr_writeGroup_33 : decode prog_11_method_8_code 33 = .ok (.invokevirtual 42, 3) := by decide +kernel
theorem d_Wr_writeGroup_36 : decode prog_11_method_8_code 36 = .ok (.aload_n 0, 1) := by decide +kernel
theorem d_Wr_writeGroup_37 : decode prog_11_method_8_code 37 = .ok (.invokevirtual 34, 3) := by decide +kernel
theorem d_Wr_writeGroup_40 : decode prog_11_method_8_code 40 = .ok (.ifCond .eq 12, 3) := by decide +kernel
theorem d_Wr_writeGroup_43 : decode prog_11_method_8_code 43 = .ok (.aload_n 0, 1) := by decide +kernel
theorem d_Wr_writeGroup_44 : decode prog_11_method_8_code 44 = .ok (.invokevirtual 38, 3) := by decide +kernel
theorem d_Wr_writeGroup_47 : decode prog_11_method_8_code 47 = .ok (.bipush 41, 2) := by decide +kernel
theorem d_Wr_writeGroup_49 : decode prog_11_method_8_code 49 = .ok (.if_icmp .eq 5, 3) := by decide +kernel
theorem d_Wr_writeGroup_52 : decode prog_11_method_8_code 52 = .ok (.iconst 0, 1) := by decide +kernel
theorem d_Wr_writeGroup_53 : decode prog_11_method_8_code 53 = .ok (.ireturn, 1) := by decide +kernel
theorem d_Wr_writeGroup_54 : decode prog_11_method_8_code 54 = .ok (.aload_n 0, 1) := by decide +kernel
theorem d_Wr_writeGroup_55 : decode prog_11_method_8_code 55 = .ok (.dup, 1) := by decide +kernel
theorem d_Wr_writeGroup_56 : decode prog_11_method_8_code 56 = .ok (.getfield 23, 3) := by decide +kernel
theorem d_Wr_writeGroup_59 : decode prog_11_method_8_code 59 = .ok (.iconst 1, 1) := by decide +kernel
theorem d_Wr_writeGroup_60 : decode prog_11_method_8_code 60 = .ok (.iadd, 1) := by decide +kernel
theorem d_Wr_writeGroup_61 : decode prog_11_method_8_code 61 = .ok (.putfield 23, 3) := by decide +kernel
theorem d_Wr_writeGroup_64 : decode prog_11_method_8_code 64 = .ok (.aload_n 0, 1) := by decide +kernel
theorem d_Wr_writeGroup_65 : decode prog_11_method_8_code 65 = .ok (.getfield 19, 3) := by decide +kernel
theorem d_Wr_writeGroup_68 : decode prog_11_method_8_code 68 = .ok (.iconst 4, 1) := by decide +kernel
theorem d_Wr_writeGroup_69 : decode prog_11_method_8_code 69 = .ok (.iconst 2, 1) := by decide +kernel
theorem d_Wr_writeGroup_70 : decode prog_11_method_8_code 70 = .ok (.iload_n 1, 1) := by decide +kernel
theorem d_Wr_writeGroup_71 : decode prog_11_method_8_code 71 = .ok (.imul, 1) := by decide +kernel
theorem d_Wr_writeGroup_72 : decode prog_11_method_8_code 72 = .ok (.iconst 1, 1) := by decide +kernel
theorem d_Wr_writeGroup_73 : decode prog_11_method_8_code 73 = .ok (.iadd, 1) := by decide +kernel
theorem d_Wr_writeGroup_74 : decode prog_11_method_8_code 74 = .ok (.invokevirtual 42, 3) := by decide +kernel
theorem d_Wr_writeGroup_77 : decode prog_11_method_8_code 77 = .ok (.iconst 1, 1) := by decide +kernel
theorem d_Wr_writeGroup_78 : decode prog_11_method_8_code 78 = .ok (.ireturn, 1) := by decide +kernel
theorem M_Wr_writeGroup : lt_M0 m_Wr_writeGroup 0 := ⟨lt_m2 187 rfl rfl, lt_m1 2 rfl rfl, ⟨by decide +kernel, by decide +kernel, by decide +kernel⟩, by decide⟩
theorem in_Wr_writeGroup : Cond.instanceMethod m_Wr_writeGroup.1 ∈ lt_T := lt_m2 186 rfl rfl
theorem se_Wr_writeGroup : Cond.selects "LinearSearch$Writer" m_Wr_writeGroup.1 m_Wr_writeGroup.1 ∈ lt_T := lt_memS 7 rfl rfl
abbrev m_Wr_writeSign : lt_M := (⟨"LinearSearch$Writer", "writeSign", "(IIZ)V"⟩, prog_11_method_9_code, 7, none)
theorem d_Wr_writeSign_0 : decode prog_11_method_9_code 0 = .ok (.iload_n 2, 1) := by decide +kernel
theorem d_Wr_writeSign_1 : decode prog_11_method_9_code 1 = .ok (.istore 4, 2) := by decide +kernel
theorem d_Wr_writeSign_3 : decode prog_11_method_9_code 3 = .ok (.iload_n 2, 1) := by decide +kernel
theorem d_Wr_writeSign_4 : decode prog_11_method_9_code 4 = .ok (.iconst 1, 1) := by decide +kernel
theorem d_Wr_writeSign_5 : decode prog_11_method_9_code 5 = .ok (.iadd, 1) := by decide +kernel
theorem d_Wr_writeSign_6 : decode prog_11_method_9_code 6 = .ok (.istore 5, 2) := by decide +kernel
theorem d_Wr_writeSign_8 : decode prog_11_method_9_code 8 = .ok (.iload_n 1, 1) := by decide +kernel
theorem d_Wr_writeSign_9 : decode prog_11_method_9_code 9 = .ok (.bipush 43, 2) := by decide +kernel
theorem d_Wr_writeSign_11 : decode prog_11_method_9_code 11 = .ok (.if_icmp .ne 27, 3) := by decide +kernel
theorem d_Wr_writeSign_14 : decode prog_11_method_9_code 14 = .ok (.aload_n 0, 1) := by decide +kernel
theorem d_Wr_writeSign_15 : decode prog_11_method_9_code 15 = .ok (.getfield 19, 3) := by decide +kernel
theorem d_Wr_writeSign_18 : decode prog_11_method_9_code 18 = .ok (.invokevirtual 46, 3) := by decide +kernel
theorem d_Wr_writeSign_21 : decode prog_11_method_9_code 21 = .ok (.istore 4, 2) := by decide +kernel
theorem d_Wr_writeSign_23 : decode prog_11_method_9_code 23 = .ok (.iload_n 2, 1) := by decide +kernel
theorem d_Wr_writeSign_24 : decode prog_11_method_9_code 24 = .ok (.istore 5, 2) := by decide +kernel
theorem d_Wr_writeSign_26 : decode prog_11_method_9_code 26 = .ok (.aload_n 0, 1) := by decide +kernel
theorem d_Wr_writeSign_27 : decode prog_11_method_9_code 27 = .ok (.getfield 19, 3) := by decide +kernel
theorem d_Wr_writeSign_30 : decode prog_11_method_9_code 30 = .ok (.iconst 2, 1) := by decide +kernel
theorem d_Wr_writeSign_31 : decode prog_11_method_9_code 31 = .ok (.iconst 0, 1) := by decide +kernel
theorem d_Wr_writeSign_32 : decode prog_11_method_9_code 32 = .ok (.invokevirtual 42, 3) := by decide +kernel
theorem d_Wr_writeSign_35 : decode prog_11_method_9_code 35 = .ok (.goto 11, 3) := by decide +kernel
theorem d_Wr_writeSign_38 : decode prog_11_method_9_code 38 = .ok (.aload_n 0, 1) := by decide +kernel
theorem d_Wr_writeSign_39 : decode prog_11_method_9_code 39 = .ok (.getfield 19, 3) := by decide +kernel
theorem d_Wr_writeSign_42 : decode prog_11_method_9_code 42 = .ok (.iload_n 2, 1) := by decide +kernel
theorem d_Wr_writeSign_43 : decode prog_11_method_9_code 43 = .ok (.invokevirtual 52, 3) := by decide +kernel
theorem d_Wr_writeSign_46 : decode prog_11_method_9_code 46 = .ok (.iload_n 1, 1) := by decide +kernel
theorem d_Wr_writeSign_47 : decode prog_11_method_9_code 47 = .ok (.bipush 42, 2) := by decide +kernel
theorem d_Wr_writeSign_49 : decode prog_11_method_9_code 49 = .ok (.if_icmp .ne 12, 3) := by decide +kernel
theorem d_Wr_writeSign_52 : decode prog_11_method_9_code 52 = .ok (.aload_n 0, 1) := by decide +kernel
theorem d_Wr_writeSign_53 : decode prog_11_method_9_code 53 = .ok (.getfield 19, 3) := by decide +kernel
theorem d_Wr_writeSign_56 : decode prog_11_method_9_code 56 = .ok (.iconst 3, 1) := by decide +kernel
theorem d_Wr_writeSign_57 : decode prog_11_method_9_code 57 = .ok (.iload_n 2, 1) := by decide +kernel
theorem d_Wr_writeSign_58 : decode prog_11_method_9_code 58 = .ok (.invokevirtual 42, 3) := by decide +kernel
theorem d_Wr_writeSign_61 : decode prog_11_method_9_code 61 = .ok (.aload_n 0, 1) := by decide +kernel
theorem d_Wr_writeSign_62 : decode prog_11_method_9_code 62 = .ok (.getfield 19, 3) := by decide +kernel
theorem d_Wr_writeSign_65 : decode prog_11_method_9_code 65 = .ok (.invokevirtual 46, 3) := by decide +kernel
theorem d_Wr_writeSign_68 : decode prog_11_method_9_code 68 = .ok (.istore 6, 2) := by decide +kernel
theorem d_Wr_writeSign_70 : decode prog_11_method_9_code 70 = .ok (.aload_n 0, 1) := by decide +kernel
theorem d_Wr_writeSign_71 : decode prog_11_method_9_code 71 = .ok (.getfield 19, 3) := by decide +kernel
theorem d_Wr_writeSign_74 : decode prog_11_method_9_code 74 = .ok (.iload 4, 2) := by decide +kernel
theorem d_Wr_writeSign_76 : decode prog_11_method_9_code 76 = .ok (.iload_n 3, 1) := by decide +kernel
theorem d_Wr_writeSign_77 : decode prog_11_method_9_code 77 = .ok (.ifCond .eq 8, 3) := by decide +kernel
theorem d_Wr_writeSign_80 : decode prog_11_method_9_code 80 = .ok (.iload 6, 2) := by decide +kernel
theorem d_Wr_writeSign_82 : decode prog_11_method_9_code 82 = .ok (.goto 5, 3) := by decide +kernel
theorem d_Wr_writeSign_85 : decode prog_11_method_9_code 85 = .ok (.iload 5, 2) := by decide +kernel
theorem d_Wr_writeSign_87 : decode prog_11_method_9_code 87 = .ok (.iload_n 3, 1) := by decide +kernel
theorem d_Wr_writeSign_88 : decode prog_11_method_9_code 88 = .ok (.ifCond .eq 8, 3) := by decide +kernel
theorem d_Wr_writeSign_91 : decode prog_11_method_9_code 91 = .ok (.iload 5, 2) := by decide +kernel
theorem d_Wr_writeSign_93 : decode prog_11_method_9_code 93 = .ok (.goto 5, 3) := by decide +kernel
theorem d_Wr_writeSign_96 : decode prog_11_method_9_code 96 = .ok (.iload 6, 2) := by decide +kernel
theorem d_Wr_writeSign_98 : decode prog_11_method_9_code 98 = .ok (.invokevirtual 59, 3) := by decide +kernel
theorem d_Wr_writeSign_101 : decode prog_11_method_9_code 101 = .ok (.return_, 1) := by decide +kernel
theorem M_Wr_writeSign : lt_M0 m_Wr_writeSign 3 := ⟨lt_m2 191 rfl rfl, lt_m1 2 rfl rfl, ⟨by decide +kernel, by decide +kernel, by decide +kernel⟩, by decide⟩
theorem in_Wr_writeSign : Cond.instanceMethod m_Wr_writeSign.1 ∈ lt_T := lt_m2 190 rfl rfl
theorem se_Wr_writeSign : Cond.selects "LinearSearch$Writer" m_Wr_writeSign.1 m_Wr_writeSign.1 ∈ lt_T := lt_memS 8 rfl rfl
abbrev m_C_withSlot : lt_M := (⟨"LinearSearch", "withSlot", "(JII)J"⟩, prog_1_method_22_code, 5, (some .long))
theorem d_C_withSlot_0 : decode prog_1_method_22_code 0 = .ok (.iconst 5, 1) := by decide +kernel
theorem d_C_withSlot_1 : decode prog_1_method_22_code 1 = .ok (.iload_n 2, 1) := by decide +kernel
theorem d_C_withSlot_2 : decode prog_1_method_22_code 2 = .ok (.imul, 1) := by decide +kernel
theorem d_C_withSlot_3 : decode prog_1_method_22_code 3 = .ok (.istore 4, 2) := by decide +kernel
theorem d_C_withSlot_5 : decode prog_1_method_22_code 5 = .ok (.lload_n 0, 1) := by decide +kernel
theorem d_C_withSlot_6 : decode prog_1_method_22_code 6 = .ok (.ldc2_w 203, 3) := by decide +kernel
theorem d_C_withSlot_9 : decode prog_1_method_22_code 9 = .ok (.iload 4, 2) := by decide +kernel
theorem d_C_withSlot_11 : decode prog_1_method_22_code 11 = .ok (.lshl, 1) := by decide +kernel
theorem d_C_withSlot_12 : decode prog_1_method_22_code 12 = .ok (.ldc2_w 205, 3) := by decide +kernel
theorem d_C_withSlot_15 : decode prog_1_method_22_code 15 = .ok (.lxor, 1) := by decide +kernel
theorem d_C_withSlot_16 : decode prog_1_method_22_code 16 = .ok (.land, 1) := by decide +kernel
theorem d_C_withSlot_17 : decode prog_1_method_22_code 17 = .ok (.iload_n 3, 1) := by decide +kernel
theorem d_C_withSlot_18 : decode prog_1_method_22_code 18 = .ok (.iconst 1, 1) := by decide +kernel
theorem d_C_withSlot_19 : decode prog_1_method_22_code 19 = .ok (.iadd, 1) := by decide +kernel
theorem d_C_withSlot_20 : decode prog_1_method_22_code 20 = .ok (.i2l, 1) := by decide +kernel
theorem d_C_withSlot_21 : decode prog_1_method_22_code 21 = .ok (.iload 4, 2) := by decide +kernel
theorem d_C_withSlot_23 : decode prog_1_method_22_code 23 = .ok (.lshl, 1) := by decide +kernel
theorem d_C_withSlot_24 : decode prog_1_method_22_code 24 = .ok (.lor, 1) := by decide +kernel
theorem d_C_withSlot_25 : decode prog_1_method_22_code 25 = .ok (.lreturn, 1) := by decide +kernel
theorem M_C_withSlot : lt_M0 m_C_withSlot 3 := ⟨lt_m3 87 rfl rfl, lt_m1 1 rfl rfl, ⟨by decide +kernel, by decide +kernel, by decide +kernel⟩, by decide⟩
theorem st_C_withSlot : Cond.static m_C_withSlot.1 ∈ lt_T := lt_m3 86 rfl rfl
abbrev m_C_instruction : lt_M := (⟨"LinearSearch", "instruction", "(II)I"⟩, prog_1_method_5_code, 3, (some .int))
theorem d_C_instruction_0 : decode prog_1_method_5_code 0 = .ok (.iload_n 1, 1) := by decide +kernel
theorem d_C_instruction_1 : decode prog_1_method_5_code 1 = .ok (.ifCond .lt 14, 3) := by decide +kernel
theorem d_C_instruction_4 : decode prog_1_method_5_code 4 = .ok (.iload_n 1, 1) := by decide +kernel
theorem d_C_instruction_5 : decode prog_1_method_5_code 5 = .ok (.aload_n 0, 1) := by decide +kernel
theorem d_C_instruction_6 : decode prog_1_method_5_code 6 = .ok (.getfield 51, 3) := by decide +kernel
theorem d_C_instruction_9 : decode prog_1_method_5_code 9 = .ok (.invokevirtual 106, 3) := by decide +kernel
theorem d_C_instruction_12 : decode prog_1_method_5_code 12 = .ok (.if_icmp .lt 13, 3) := by decide +kernel
theorem d_C_instruction_15 : decode prog_1_method_5_code 15 = .ok (.new 110, 3) := by decide +kernel
theorem d_C_instruction_18 : decode prog_1_method_5_code 18 = .ok (.dup, 1) := by decide +kernel
theorem d_C_instruction_19 : decode prog_1_method_5_code 19 = .ok (.ldc 112, 2) := by decide +kernel
theorem d_C_instruction_21 : decode prog_1_method_5_code 21 = .ok (.invokespecial 114, 3) := by decide +kernel
theorem d_C_instruction_24 : decode prog_1_method_5_code 24 = .ok (.athrow, 1) := by decide +kernel
theorem d_C_instruction_25 : decode prog_1_method_5_code 25 = .ok (.iload_n 2, 1) := by decide +kernel
theorem d_C_instruction_26 : decode prog_1_method_5_code 26 = .ok (.tableswitch 53 0 2 #[26, 35, 44], 26) := by decide +kernel
theorem d_C_instruction_52 : decode prog_1_method_5_code 52 = .ok (.aload_n 0, 1) := by decide +kernel
theorem d_C_instruction_53 : decode prog_1_method_5_code 53 = .ok (.getfield 51, 3) := by decide +kernel
theorem d_C_instruction_56 : decode prog_1_method_5_code 56 = .ok (.iload_n 1, 1) := by decide +kernel
theorem d_C_instruction_57 : decode prog_1_method_5_code 57 = .ok (.invokevirtual 115, 3) := by decide +kernel
theorem d_C_instruction_60 : decode prog_1_method_5_code 60 = .ok (.ireturn, 1) := by decide +kernel
theorem d_C_instruction_61 : decode prog_1_method_5_code 61 = .ok (.aload_n 0, 1) := by decide +kernel
theorem d_C_instruction_62 : decode prog_1_method_5_code 62 = .ok (.getfield 51, 3) := by decide +kernel
theorem d_C_instruction_65 : decode prog_1_method_5_code 65 = .ok (.iload_n 1, 1) := by decide +kernel
theorem d_C_instruction_66 : decode prog_1_method_5_code 66 = .ok (.invokevirtual 119, 3) := by decide +kernel
theorem d_C_instruction_69 : decode prog_1_method_5_code 69 = .ok (.ireturn, 1) := by decide +kernel
theorem d_C_instruction_70 : decode prog_1_method_5_code 70 = .ok (.aload_n 0, 1) := by decide +kernel
theorem d_C_instruction_71 : decode prog_1_method_5_code 71 = .ok (.getfield 51, 3) := by decide +kernel
theorem d_C_instruction_74 : decode prog_1_method_5_code 74 = .ok (.iload_n 1, 1) := by decide +kernel
theorem d_C_instruction_75 : decode prog_1_method_5_code 75 = .ok (.invokevirtual 122, 3) := by decide +kernel
theorem d_C_instruction_78 : decode prog_1_method_5_code 78 = .ok (.ireturn, 1) := by decide +kernel
theorem d_C_instruction_79 : decode prog_1_method_5_code 79 = .ok (.new 85, 3) := by decide +kernel
theorem d_C_instruction_82 : decode prog_1_method_5_code 82 = .ok (.dup, 1) := by decide +kernel
theorem d_C_instruction_83 : decode prog_1_method_5_code 83 = .ok (.ldc 125, 2) := by decide +kernel
theorem d_C_instruction_85 : decode prog_1_method_5_code 85 = .ok (.invokespecial 89, 3) := by decide +kernel
theorem d_C_instruction_88 : decode prog_1_method_5_code 88 = .ok (.athrow, 1) := by decide +kernel
theorem M_C_instruction : lt_M0 m_C_instruction 2 := ⟨lt_m3 119 rfl rfl, lt_m1 1 rfl rfl, ⟨by decide +kernel, by decide +kernel, by decide +kernel⟩, by decide⟩
theorem in_C_instruction : Cond.instanceMethod m_C_instruction.1 ∈ lt_T := lt_m3 117 rfl rfl
theorem se_C_instruction : Cond.selects "LinearSearch" m_C_instruction.1 m_C_instruction.1 ∈ lt_T := lt_m3 118 rfl rfl
abbrev m_C_simple : lt_M := (⟨"LinearSearch", "simple", "()Z"⟩, prog_1_method_6_code, 1, (some .boolean))
theorem d_C_simple_0 : decode prog_1_method_6_code 0 = .ok (.aload_n 0, 1) := by decide +kernel
theorem d_C_simple_1 : decode prog_1_method_6_code 1 = .ok (.getfield 51, 3) := by decide +kernel
theorem d_C_simple_4 : decode prog_1_method_6_code 4 = .ok (.invokevirtual 106, 3) := by decide +kernel
theorem d_C_simple_7 : decode prog_1_method_6_code 7 = .ok (.ifCond .ne 13, 3) := by decide +kernel
theorem d_C_simple_10 : decode prog_1_method_6_code 10 = .ok (.new 127, 3) := by decide +kernel
theorem d_C_simple_13 : decode prog_1_method_6_code 13 = .ok (.dup, 1) := by decide +kernel
theorem d_C_simple_14 : decode prog_1_method_6_code 14 = .ok (.ldc 129, 2) := by decide +kernel
theorem d_C_simple_16 : decode prog_1_method_6_code 16 = .ok (.invokespecial 131, 3) := by decide +kernel
theorem d_C_simple_19 : decode prog_1_method_6_code 19 = .ok (.athrow, 1) := by decide +kernel
theorem d_C_simple_20 : decode prog_1_method_6_code 20 = .ok (.aload_n 0, 1) := by decide +kernel
theorem d_C_simple_21 : decode prog_1_method_6_code 21 = .ok (.getfield 96, 3) := by decide +kernel
theorem d_C_simple_24 : decode prog_1_method_6_code 24 = .ok (.ireturn, 1) := by decide +kernel
theorem M_C_simple : lt_M0 m_C_simple 0 := ⟨lt_m3 147 rfl rfl, lt_m1 1 rfl rfl, ⟨by decide +kernel, by decide +kernel, by decide +kernel⟩, by decide⟩
theorem in_C_simple : Cond.instanceMethod m_C_simple.1 ∈ lt_T := lt_m3 145 rfl rfl
theorem se_C_simple : Cond.selects "LinearSearch" m_C_simple.1 m_C_simple.1 ∈ lt_T := lt_m3 146 rfl rfl
abbrev m_C_search : lt_M := (⟨"LinearSearch", "search", "(I)I"⟩, prog_1_method_9_code, 2, (some .int))
theorem d_C_search_0 : decode prog_1_method_9_code 0 = .ok (.iload_n 1, 1) := by decide +kernel
theorem d_C_search_1 : decode prog_1_method_9_code 1 = .ok (.ifCond .lt 8, 3) := by decide +kernel
theorem d_C_search_4 : decode prog_1_method_9_code 4 = .ok (.iload_n 1, 1) := by decide +kernel
theorem d_C_search_5 : decode prog_1_method_9_code 5 = .ok (.iconst 4, 1) := by decide +kernel
theorem d_C_search_6 : decode prog_1_method_9_code 6 = .ok (.if_icmp .le 13, 3) := by decide +kernel
theorem d_C_search_9 : decode prog_1_method_9_code 9 = .ok (.new 85, 3) := by decide +kernel
theorem d_C_search_12 : decode prog_1_method_9_code 12 = .ok (.dup, 1) := by decide +kernel
theorem d_C_search_13 : decode prog_1_method_9_code 13 = .ok (.ldc 139, 2) := by decide +kernel
theorem d_C_search_15 : decode prog_1_method_9_code 15 = .ok (.invokespecial 89, 3) := by decide +kernel
theorem d_C_search_18 : decode prog_1_method_9_code 18 = .ok (.athrow, 1) := by decide +kernel
theorem d_C_search_19 : decode prog_1_method_9_code 19 = .ok (.aload_n 0, 1) := by decide +kernel
theorem d_C_search_20 : decode prog_1_method_9_code 20 = .ok (.getfield 51, 3) := by decide +kernel
theorem d_C_search_23 : decode prog_1_method_9_code 23 = .ok (.invokevirtual 106, 3) := by decide +kernel
theorem d_C_search_26 : decode prog_1_method_9_code 26 = .ok (.ifCond .ne 13, 3) := by decide +kernel
theorem d_C_search_29 : decode prog_1_method_9_code 29 = .ok (.new 127, 3) := by decide +kernel
theorem d_C_search_32 : decode prog_1_method_9_code 32 = .ok (.dup, 1) := by decide +kernel
theorem d_C_search_33 : decode prog_1_method_9_code 33 = .ok (.ldc 129, 2) := by decide +kernel
theorem d_C_search_35 : decode prog_1_method_9_code 35 = .ok (.invokespecial 131, 3) := by decide +kernel
theorem d_C_search_38 : decode prog_1_method_9_code 38 = .ok (.athrow, 1) := by decide +kernel
theorem d_C_search_39 : decode prog_1_method_9_code 39 = .ok (.iload_n 1, 1) := by decide +kernel
theorem d_C_search_40 : decode prog_1_method_9_code 40 = .ok (.iconst 3, 1) := by decide +kernel
theorem d_C_search_41 : decode prog_1_method_9_code 41 = .ok (.if_icmp .ne 20, 3) := by decide +kernel
theorem d_C_search_44 : decode prog_1_method_9_code 44 = .ok (.aload_n 0, 1) := by decide +kernel
theorem d_C_search_45 : decode prog_1_method_9_code 45 = .ok (.getfield 96, 3) := by decide +kernel
theorem d_C_search_48 : decode prog_1_method_9_code 48 = .ok (.ifCond .ne 13, 3) := by decide +kernel
theorem d_C_search_51 : decode prog_1_method_9_code 51 = .ok (.new 127, 3) := by decide +kernel
theorem d_C_search_54 : decode prog_1_method_9_code 54 = .ok (.dup, 1) := by decide +kernel
theorem d_C_search_55 : decode prog_1_method_9_code 55 = .ok (.ldc 141, 2) := by decide +kernel
theorem d_C_search_57 : decode prog_1_method_9_code 57 = .ok (.invokespecial 131, 3) := by decide +kernel
theorem d_C_search_60 : decode prog_1_method_9_code 60 = .ok (.athrow, 1) := by decide +kernel
theorem d_C_search_61 : decode prog_1_method_9_code 61 = .ok (.iload_n 1, 1) := by decide +kernel
theorem d_C_search_62 : decode prog_1_method_9_code 62 = .ok (.iconst 4, 1) := by decide +kernel
theorem d_C_search_63 : decode prog_1_method_9_code 63 = .ok (.if_icmp .ne 10, 3) := by decide +kernel
theorem d_C_search_66 : decode prog_1_method_9_code 66 = .ok (.aload_n 0, 1) := by decide +kernel
theorem d_C_search_67 : decode prog_1_method_9_code 67 = .ok (.invokevirtual 143, 3) := by decide +kernel
theorem d_C_search_70 : decode prog_1_method_9_code 70 = .ok (.goto 4, 3) := by decide +kernel
theorem d_C_search_73 : decode prog_1_method_9_code 73 = .ok (.iload_n 1, 1) := by decide +kernel
theorem d_C_search_74 : decode prog_1_method_9_code 74 = .ok (.tableswitch 103 1 3 #[26, 60, 67], 26) := by decide +kernel
theorem d_C_search_100 : decode prog_1_method_9_code 100 = .ok (.aload_n 0, 1) := by decide +kernel
theorem d_C_search_101 : decode prog_1_method_9_code 101 = .ok (.aload_n 0, 1) := by decide +kernel
theorem d_C_search_102 : decode prog_1_method_9_code 102 = .ok (.getfield 37, 3) := by decide +kernel
theorem d_C_search_105 : decode prog_1_method_9_code 105 = .ok (.aload_n 0, 1) := by decide +kernel
theorem d_C_search_106 : decode prog_1_method_9_code 106 = .ok (.getfield 51, 3) := by decide +kernel
theorem d_C_search_109 : decode prog_1_method_9_code 109 = .ok (.aload_n 0, 1) := by decide +kernel
theorem d_C_search_110 : decode prog_1_method_9_code 110 = .ok (.getfield 23, 3) := by decide +kernel
theorem d_C_search_113 : decode prog_1_method_9_code 113 = .ok (.invokevirtual 146, 3) := by decide +kernel
theorem d_C_search_116 : decode prog_1_method_9_code 116 = .ok (.putfield 58, 3) := by decide +kernel
theorem d_C_search_119 : decode prog_1_method_9_code 119 = .ok (.aload_n 0, 1) := by decide +kernel
theorem d_C_search_120 : decode prog_1_method_9_code 120 = .ok (.iconst 1, 1) := by decide +kernel
theorem d_C_search_121 : decode prog_1_method_9_code 121 = .ok (.aload_n 0, 1) := by decide +kernel
theorem d_C_search_122 : decode prog_1_method_9_code 122 = .ok (.getfield 37, 3) := by decide +kernel
theorem d_C_search_125 : decode prog_1_method_9_code 125 = .ok (.invokevirtual 150, 3) := by decide +kernel
theorem d_C_search_128 : decode prog_1_method_9_code 128 = .ok (.invokevirtual 153, 3) := by decide +kernel
theorem d_C_search_131 : decode prog_1_method_9_code 131 = .ok (.goto 50, 3) := by decide +kernel
theorem d_C_search_134 : decode prog_1_method_9_code 134 = .ok (.aload_n 0, 1) := by decide +kernel
theorem d_C_search_135 : decode prog_1_method_9_code 135 = .ok (.invokevirtual 157, 3) := by decide +kernel
theorem d_C_search_138 : decode prog_1_method_9_code 138 = .ok (.goto 43, 3) := by decide +kernel
theorem d_C_search_141 : decode prog_1_method_9_code 141 = .ok (.aload_n 0, 1) := by decide +kernel
theorem d_C_search_142 : decode prog_1_method_9_code 142 = .ok (.aload_n 0, 1) := by decide +kernel
theorem d_C_search_143 : decode prog_1_method_9_code 143 = .ok (.getfield 44, 3) := by decide +kernel
theorem d_C_search_146 : decode prog_1_method_9_code 146 = .ok (.aload_n 0, 1) := by decide +kernel
theorem d_C_search_147 : decode prog_1_method_9_code 147 = .ok (.getfield 51, 3) := by decide +kernel
theorem d_C_search_150 : decode prog_1_method_9_code 150 = .ok (.aload_n 0, 1) := by decide +kernel
theorem d_C_search_151 : decode prog_1_method_9_code 151 = .ok (.getfield 23, 3) := by decide +kernel
theorem d_C_search_154 : decode prog_1_method_9_code 154 = .ok (.invokevirtual 160, 3) := by decide +kernel
theorem d_C_search_157 : decode prog_1_method_9_code 157 = .ok (.putfield 58, 3) := by decide +kernel
theorem d_C_search_160 : decode prog_1_method_9_code 160 = .ok (.aload_n 0, 1) := by decide +kernel
theorem d_C_search_161 : decode prog_1_method_9_code 161 = .ok (.iconst 3, 1) := by decide +kernel
theorem d_C_search_162 : decode prog_1_method_9_code 162 = .ok (.aload_n 0, 1) := by decide +kernel
theorem d_C_search_163 : decode prog_1_method_9_code 163 = .ok (.getfield 44, 3) := by decide +kernel
theorem d_C_search_166 : decode prog_1_method_9_code 166 = .ok (.invokevirtual 161, 3) := by decide +kernel
theorem d_C_search_169 : decode prog_1_method_9_code 169 = .ok (.iconst 1, 1) := by decide +kernel
theorem d_C_search_170 : decode prog_1_method_9_code 170 = .ok (.iadd, 1) := by decide +kernel
theorem d_C_search_171 : decode prog_1_method_9_code 171 = .ok (.invokevirtual 153, 3) := by decide +kernel
theorem d_C_search_174 : decode prog_1_method_9_code 174 = .ok (.goto 7, 3) := by decide +kernel
theorem d_C_search_177 : decode prog_1_method_9_code 177 = .ok (.aload_n 0, 1) := by decide +kernel
theorem d_C_search_178 : decode prog_1_method_9_code 178 = .ok (.invokevirtual 164, 3) := by decide +kernel
theorem d_C_search_181 : decode prog_1_method_9_code 181 = .ok (.aload_n 0, 1) := by decide +kernel
theorem d_C_search_182 : decode prog_1_method_9_code 182 = .ok (.getfield 58, 3) := by decide +kernel
theorem d_C_search_185 : decode prog_1_method_9_code 185 = .ok (.iconst 0, 1) := by decide +kernel
theorem d_C_search_186 : decode prog_1_method_9_code 186 = .ok (.invokestatic 167, 3) := by decide +kernel
theorem d_C_search_189 : decode prog_1_method_9_code 189 = .ok (.ireturn, 1) := by decide +kernel
theorem M_C_search : lt_M0 m_C_search 1 := ⟨lt_m3 170 rfl rfl, lt_m1 1 rfl rfl, ⟨by decide +kernel, by decide +kernel, by decide +kernel⟩, by decide⟩
theorem in_C_search : Cond.instanceMethod m_C_search.1 ∈ lt_T := lt_m3 168 rfl rfl
theorem se_C_search : Cond.selects "LinearSearch" m_C_search.1 m_C_search.1 ∈ lt_T := lt_m3 169 rfl rfl
abbrev m_C_plannedMatcher : lt_M := (⟨"LinearSearch", "plannedMatcher", "()I"⟩, prog_1_method_16_code, 1, (some .int))
theorem d_C_plannedMatcher_0 : decode prog_1_method_16_code 0 = .ok (.aload_n 0, 1) := by decide +kernel
theorem d_C_plannedMatcher_1 : decode prog_1_method_16_code 1 = .ok (.getfield 96, 3) := by decide +kernel
theorem d_C_plannedMatcher_4 : decode prog_1_method_16_code 4 = .ok (.ifCond .eq 5, 3) := by decide +kernel
theorem d_C_plannedMatcher_7 : decode prog_1_method_16_code 7 = .ok (.iconst 3, 1) := by decide +kernel
theorem d_C_plannedMatcher_8 : decode prog_1_method_16_code 8 = .ok (.ireturn, 1) := by decide +kernel
theorem d_C_plannedMatcher_9 : decode prog_1_method_16_code 9 = .ok (.aload_n 0, 1) := by decide +kernel
theorem d_C_plannedMatcher_10 : decode prog_1_method_16_code 10 = .ok (.getfield 51, 3) := by decide +kernel
theorem d_C_plannedMatcher_13 : decode prog_1_method_16_code 13 = .ok (.invokevirtual 106, 3) := by decide +kernel
theorem d_C_plannedMatcher_16 : decode prog_1_method_16_code 16 = .ok (.aload_n 0, 1) := by decide +kernel
theorem d_C_plannedMatcher_17 : decode prog_1_method_16_code 17 = .ok (.getfield 23, 3) := by decide +kernel
theorem d_C_plannedMatcher_20 : decode prog_1_method_16_code 20 = .ok (.invokevirtual 179, 3) := by decide +kernel
theorem d_C_plannedMatcher_23 : decode prog_1_method_16_code 23 = .ok (.iconst 1, 1) := by decide +kernel
theorem d_C_plannedMatcher_24 : decode prog_1_method_16_code 24 = .ok (.iadd, 1) := by decide +kernel
theorem d_C_plannedMatcher_25 : decode prog_1_method_16_code 25 = .ok (.imul, 1) := by decide +kernel
theorem d_C_plannedMatcher_26 : decode prog_1_method_16_code 26 = .ok (.sipush 128, 3) := by decide +kernel
theorem d_C_plannedMatcher_29 : decode prog_1_method_16_code 29 = .ok (.if_icmp .gt 7, 3) := by decide +kernel
theorem d_C_plannedMatcher_32 : decode prog_1_method_16_code 32 = .ok (.iconst 1, 1) := by decide +kernel
theorem d_C_plannedMatcher_33 : decode prog_1_method_16_code 33 = .ok (.goto 4, 3) := by decide +kernel
theorem d_C_plannedMatcher_36 : decode prog_1_method_16_code 36 = .ok (.iconst 2, 1) := by decide +kernel
theorem d_C_plannedMatcher_37 : decode prog_1_method_16_code 37 = .ok (.ireturn, 1) := by decide +kernel
theorem M_C_plannedMatcher : lt_M0 m_C_plannedMatcher 0 := ⟨lt_m3 176 rfl rfl, lt_m1 1 rfl rfl, ⟨by decide +kernel, by decide +kernel, by decide +kernel⟩, by decide⟩
theorem in_C_plannedMatcher : Cond.instanceMethod m_C_plannedMatcher.1 ∈ lt_T := lt_m3 175 rfl rfl
theorem se_C_plannedMatcher : Cond.selects "LinearSearch" m_C_plannedMatcher.1 m_C_plannedMatcher.1 ∈ lt_T := lt_memS 13 rfl rfl
abbrev m_Ar_fillJ : lt_M := (⟨"java/util/Arrays", "fill", "([JJ)V"⟩, prog_22_method_101_code, 5, none)
theorem d_Ar_fillJ_0 : decode prog_22_method_101_code 0 = .ok (.iconst 0, 1) := by decide +kernel
theorem d_Ar_fillJ_1 : decode prog_22_method_101_code 1 = .ok (.istore_n 3, 1) := by decide +kernel
theorem d_Ar_fillJ_2 : decode prog_22_method_101_code 2 = .ok (.aload_n 0, 1) := by decide +kernel
theorem d_Ar_fillJ_3 : decode prog_22_method_101_code 3 = .ok (.arraylength, 1) := by decide +kernel
theorem d_Ar_fillJ_4 : decode prog_22_method_101_code 4 = .ok (.istore 4, 2) := by decide +kernel
theorem d_Ar_fillJ_6 : decode prog_22_method_101_code 6 = .ok (.iload_n 3, 1) := by decide +kernel
theorem d_Ar_fillJ_7 : decode prog_22_method_101_code 7 = .ok (.iload 4, 2) := by decide +kernel
theorem d_Ar_fillJ_9 : decode prog_22_method_101_code 9 = .ok (.if_icmp .ge 13, 3) := by decide +kernel
theorem d_Ar_fillJ_12 : decode prog_22_method_101_code 12 = .ok (.aload_n 0, 1) := by decide +kernel
theorem d_Ar_fillJ_13 : decode prog_22_method_101_code 13 = .ok (.iload_n 3, 1) := by decide +kernel
theorem d_Ar_fillJ_14 : decode prog_22_method_101_code 14 = .ok (.lload_n 1, 1) := by decide +kernel
theorem d_Ar_fillJ_15 : decode prog_22_method_101_code 15 = .ok (.lastore, 1) := by decide +kernel
theorem d_Ar_fillJ_16 : decode prog_22_method_101_code 16 = .ok (.iinc 3 1, 3) := by decide +kernel
theorem d_Ar_fillJ_19 : decode prog_22_method_101_code 19 = .ok (.goto (-13), 3) := by decide +kernel
theorem d_Ar_fillJ_22 : decode prog_22_method_101_code 22 = .ok (.return_, 1) := by decide +kernel
theorem M_Ar_fillJ : lt_M0 m_Ar_fillJ 2 := ⟨lt_m3 187 rfl rfl, lt_m1 20 rfl rfl, ⟨by decide +kernel, by decide +kernel, by decide +kernel⟩, by decide⟩
theorem st_Ar_fillJ : Cond.static m_Ar_fillJ.1 ∈ lt_T := lt_m3 186 rfl rfl
abbrev m_C_slotsFrom : lt_M := (⟨"LinearSearch", "slotsFrom", "(I)J"⟩, prog_1_method_24_code, 1, (some .long))
theorem d_C_slotsFrom_0 : decode prog_1_method_24_code 0 = .ok (.lconst 0, 1) := by decide +kernel
theorem d_C_slotsFrom_1 : decode prog_1_method_24_code 1 = .ok (.iconst 0, 1) := by decide +kernel
theorem d_C_slotsFrom_2 : decode prog_1_method_24_code 2 = .ok (.iload_n 0, 1) := by decide +kernel
theorem d_C_slotsFrom_3 : decode prog_1_method_24_code 3 = .ok (.invokestatic 207, 3) := by decide +kernel
theorem d_C_slotsFrom_6 : decode prog_1_method_24_code 6 = .ok (.lreturn, 1) := by decide +kernel
theorem M_C_slotsFrom : lt_M0 m_C_slotsFrom 1 := ⟨lt_m3 195 rfl rfl, lt_m1 1 rfl rfl, ⟨by decide +kernel, by decide +kernel, by decide +kernel⟩, by decide⟩
theorem st_C_slotsFrom : Cond.static m_C_slotsFrom.1 ∈ lt_T := lt_m3 194 rfl rfl
abbrev m_C_runAutomaton : lt_M := (⟨"LinearSearch", "runAutomaton", "()V"⟩, prog_1_method_18_code, 2, none)
theorem d_C_runAutomaton_0 : decode prog_1_method_18_code 0 = .ok (.aload_n 0, 1) := by decide +kernel
theorem d_C_runAutomaton_1 : decode prog_1_method_18_code 1 = .ok (.getfield 74, 3) := by decide +kernel
theorem d_C_runAutomaton_4 : decode prog_1_method_18_code 4 = .ok (.aload_n 0, 1) := by decide +kernel
theorem d_C_runAutomaton_5 : decode prog_1_method_18_code 5 = .ok (.getfield 51, 3) := by decide +kernel
theorem d_C_runAutomaton_8 : decode prog_1_method_18_code 8 = .ok (.aload_n 0, 1) := by decide +kernel
theorem d_C_runAutomaton_9 : decode prog_1_method_18_code 9 = .ok (.getfield 23, 3) := by decide +kernel
theorem d_C_runAutomaton_12 : decode prog_1_method_18_code 12 = .ok (.invokevirtual 188, 3) := by decide +kernel
theorem d_C_runAutomaton_15 : decode prog_1_method_18_code 15 = .ok (.istore_n 1, 1) := by decide +kernel
theorem d_C_runAutomaton_16 : decode prog_1_method_18_code 16 = .ok (.aload_n 0, 1) := by decide +kernel
theorem d_C_runAutomaton_17 : decode prog_1_method_18_code 17 = .ok (.getfield 74, 3) := by decide +kernel
theorem d_C_runAutomaton_20 : decode prog_1_method_18_code 20 = .ok (.invokevirtual 192, 3) := by decide +kernel
theorem d_C_runAutomaton_23 : decode prog_1_method_18_code 23 = .ok (.ifCond .eq 8, 3) := by decide +kernel
theorem d_C_runAutomaton_26 : decode prog_1_method_18_code 26 = .ok (.aload_n 0, 1) := by decide +kernel
theorem d_C_runAutomaton_27 : decode prog_1_method_18_code 27 = .ok (.invokevirtual 164, 3) := by decide +kernel
theorem d_C_runAutomaton_30 : decode prog_1_method_18_code 30 = .ok (.return_, 1) := by decide +kernel
theorem d_C_runAutomaton_31 : decode prog_1_method_18_code 31 = .ok (.aload_n 0, 1) := by decide +kernel
theorem d_C_runAutomaton_32 : decode prog_1_method_18_code 32 = .ok (.iload_n 1, 1) := by decide +kernel
theorem d_C_runAutomaton_33 : decode prog_1_method_18_code 33 = .ok (.iconst (-1), 1) := by decide +kernel
theorem d_C_runAutomaton_34 : decode prog_1_method_18_code 34 = .ok (.if_icmp .ne 7, 3) := by decide +kernel
theorem d_C_runAutomaton_37 : decode prog_1_method_18_code 37 = .ok (.lconst 0, 1) := by decide +kernel
theorem d_C_runAutomaton_38 : decode prog_1_method_18_code 38 = .ok (.goto 8, 3) := by decide +kernel
theorem d_C_runAutomaton_41 : decode prog_1_method_18_code 41 = .ok (.aload_n 0, 1) := by decide +kernel
theorem d_C_runAutomaton_42 : decode prog_1_method_18_code 42 = .ok (.iload_n 1, 1) := by decide +kernel
theorem d_C_runAutomaton_43 : decode prog_1_method_18_code 43 = .ok (.invokevirtual 196, 3) := by decide +kernel
theorem d_C_runAutomaton_46 : decode prog_1_method_18_code 46 = .ok (.putfield 58, 3) := by decide +kernel
theorem d_C_runAutomaton_49 : decode prog_1_method_18_code 49 = .ok (.aload_n 0, 1) := by decide +kernel
theorem d_C_runAutomaton_50 : decode prog_1_method_18_code 50 = .ok (.iconst 2, 1) := by decide +kernel
theorem d_C_runAutomaton_51 : decode prog_1_method_18_code 51 = .ok (.aload_n 0, 1) := by decide +kernel
theorem d_C_runAutomaton_52 : decode prog_1_method_18_code 52 = .ok (.getfield 74, 3) := by decide +kernel
theorem d_C_runAutomaton_55 : decode prog_1_method_18_code 55 = .ok (.invokevirtual 200, 3) := by decide +kernel
theorem d_C_runAutomaton_58 : decode prog_1_method_18_code 58 = .ok (.invokevirtual 153, 3) := by decide +kernel
theorem d_C_runAutomaton_61 : decode prog_1_method_18_code 61 = .ok (.return_, 1) := by decide +kernel
theorem M_C_runAutomaton : lt_M0 m_C_runAutomaton 0 := ⟨lt_m3 229 rfl rfl, lt_m1 1 rfl rfl, ⟨by decide +kernel, by decide +kernel, by decide +kernel⟩, by decide⟩
theorem in_C_runAutomaton : Cond.instanceMethod m_C_runAutomaton.1 ∈ lt_T := lt_m3 228 rfl rfl
theorem se_C_runAutomaton : Cond.selects "LinearSearch" m_C_runAutomaton.1 m_C_runAutomaton.1 ∈ lt_T := lt_memS 18 rfl rfl
abbrev m_Ar_fillI : lt_M := (⟨"java/util/Arrays", "fill", "([II)V"⟩, prog_22_method_103_code, 4, none)
theorem d_Ar_fillI_0 : decode prog_22_method_103_code 0 = .ok (.iconst 0, 1) := by decide +kernel
theorem d_Ar_fillI_1 : decode prog_22_method_103_code 1 = .ok (.istore_n 2, 1) := by decide +kernel
theorem d_Ar_fillI_2 : decode prog_22_method_103_code 2 = .ok (.aload_n 0, 1) := by decide +kernel
theorem d_Ar_fillI_3 : decode prog_22_method_103_code 3 = .ok (.arraylength, 1) := by decide +kernel
theorem d_Ar_fillI_4 : decode prog_22_method_103_code 4 = .ok (.istore_n 3, 1) := by decide +kernel
theorem d_Ar_fillI_5 : decode prog_22_method_103_code 5 = .ok (.iload_n 2, 1) := by decide +kernel
theorem d_Ar_fillI_6 : decode prog_22_method_103_code 6 = .ok (.iload_n 3, 1) := by decide +kernel
theorem d_Ar_fillI_7 : decode prog_22_method_103_code 7 = .ok (.if_icmp .ge 13, 3) := by decide +kernel
theorem d_Ar_fillI_10 : decode prog_22_method_103_code 10 = .ok (.aload_n 0, 1) := by decide +kernel
theorem d_Ar_fillI_11 : decode prog_22_method_103_code 11 = .ok (.iload_n 2, 1) := by decide +kernel
theorem d_Ar_fillI_12 : decode prog_22_method_103_code 12 = .ok (.iload_n 1, 1) := by decide +kernel
theorem d_Ar_fillI_13 : decode prog_22_method_103_code 13 = .ok (.iastore, 1) := by decide +kernel
theorem d_Ar_fillI_14 : decode prog_22_method_103_code 14 = .ok (.iinc 2 1, 3) := by decide +kernel
theorem d_Ar_fillI_17 : decode prog_22_method_103_code 17 = .ok (.goto (-12), 3) := by decide +kernel
theorem d_Ar_fillI_20 : decode prog_22_method_103_code 20 = .ok (.return_, 1) := by decide +kernel
theorem M_Ar_fillI : lt_M0 m_Ar_fillI 2 := ⟨lt_m4 10 rfl rfl, lt_m1 20 rfl rfl, ⟨by decide +kernel, by decide +kernel, by decide +kernel⟩, by decide⟩
theorem st_Ar_fillI : Cond.static m_Ar_fillI.1 ∈ lt_T := lt_m4 9 rfl rfl
abbrev m_C_runLists : lt_M := (⟨"LinearSearch", "runLists", "()V"⟩, prog_1_method_17_code, 1, none)
theorem d_C_runLists_0 : decode prog_1_method_17_code 0 = .ok (.aload_n 0, 1) := by decide +kernel
theorem d_C_runLists_1 : decode prog_1_method_17_code 1 = .ok (.aload_n 0, 1) := by decide +kernel
theorem d_C_runLists_2 : decode prog_1_method_17_code 2 = .ok (.getfield 30, 3) := by decide +kernel
theorem d_C_runLists_5 : decode prog_1_method_17_code 5 = .ok (.aload_n 0, 1) := by decide +kernel
theorem d_C_runLists_6 : decode prog_1_method_17_code 6 = .ok (.getfield 51, 3) := by decide +kernel
theorem d_C_runLists_9 : decode prog_1_method_17_code 9 = .ok (.aload_n 0, 1) := by decide +kernel
theorem d_C_runLists_10 : decode prog_1_method_17_code 10 = .ok (.getfield 23, 3) := by decide +kernel
theorem d_C_runLists_13 : decode prog_1_method_17_code 13 = .ok (.iconst 0, 1) := by decide +kernel
theorem d_C_runLists_14 : decode prog_1_method_17_code 14 = .ok (.iconst 1, 1) := by decide +kernel
theorem d_C_runLists_15 : decode prog_1_method_17_code 15 = .ok (.invokevirtual 182, 3) := by decide +kernel
theorem d_C_runLists_18 : decode prog_1_method_17_code 18 = .ok (.putfield 58, 3) := by decide +kernel
theorem d_C_runLists_21 : decode prog_1_method_17_code 21 = .ok (.aload_n 0, 1) := by decide +kernel
theorem d_C_runLists_22 : decode prog_1_method_17_code 22 = .ok (.iconst 0, 1) := by decide +kernel
theorem d_C_runLists_23 : decode prog_1_method_17_code 23 = .ok (.aload_n 0, 1) := by decide +kernel
theorem d_C_runLists_24 : decode prog_1_method_17_code 24 = .ok (.getfield 30, 3) := by decide +kernel
theorem d_C_runLists_27 : decode prog_1_method_17_code 27 = .ok (.invokevirtual 185, 3) := by decide +kernel
theorem d_C_runLists_30 : decode prog_1_method_17_code 30 = .ok (.invokevirtual 153, 3) := by decide +kernel
theorem d_C_runLists_33 : decode prog_1_method_17_code 33 = .ok (.return_, 1) := by decide +kernel
theorem M_C_runLists : lt_M0 m_C_runLists 0 := ⟨lt_m4 64 rfl rfl, lt_m1 1 rfl rfl, ⟨by decide +kernel, by decide +kernel, by decide +kernel⟩, by decide⟩
theorem in_C_runLists : Cond.instanceMethod m_C_runLists.1 ∈ lt_T := lt_m4 63 rfl rfl
theorem se_C_runLists : Cond.selects "LinearSearch" m_C_runLists.1 m_C_runLists.1 ∈ lt_T := lt_memS 24 rfl rfl
abbrev m_C_leftmostEndingAt : lt_M := (⟨"LinearSearch", "leftmostEndingAt", "(I)J"⟩, prog_1_method_19_code, 5, (some .long))
theorem d_C_leftmostEndingAt_0 : decode prog_1_method_19_code 0 = .ok (.iconst 0, 1) := by decide +kernel
theorem d_C_leftmostEndingAt_1 : decode prog_1_method_19_code 1 = .ok (.istore_n 2, 1) := by decide +kernel
theorem d_C_leftmostEndingAt_2 : decode prog_1_method_19_code 2 = .ok (.iload_n 2, 1) := by decide +kernel
theorem d_C_leftmostEndingAt_3 : decode prog_1_method_19_code 3 = .ok (.iload_n 1, 1) := by decide +kernel
theorem d_C_leftmostEndingAt_4 : decode prog_1_method_19_code 4 = .ok (.if_icmp .gt 44, 3) := by decide +kernel
theorem d_C_leftmostEndingAt_7 : decode prog_1_method_19_code 7 = .ok (.aload_n 0, 1) := by decide +kernel
theorem d_C_leftmostEndingAt_8 : decode prog_1_method_19_code 8 = .ok (.getfield 30, 3) := by decide +kernel
theorem d_C_leftmostEndingAt_11 : decode prog_1_method_19_code 11 = .ok (.aload_n 0, 1) := by decide +kernel
theorem d_C_leftmostEndingAt_12 : decode prog_1_method_19_code 12 = .ok (.getfield 51, 3) := by decide +kernel
theorem d_C_leftmostEndingAt_15 : decode prog_1_method_19_code 15 = .ok (.aload_n 0, 1) := by decide +kernel
theorem d_C_leftmostEndingAt_16 : decode prog_1_method_19_code 16 = .ok (.getfield 23, 3) := by decide +kernel
theorem d_C_leftmostEndingAt_19 : decode prog_1_method_19_code 19 = .ok (.iload_n 2, 1) := by decide +kernel
theorem d_C_leftmostEndingAt_20 : decode prog_1_method_19_code 20 = .ok (.iconst 0, 1) := by decide +kernel
theorem d_C_leftmostEndingAt_21 : decode prog_1_method_19_code 21 = .ok (.invokevirtual 182, 3) := by decide +kernel
theorem d_C_leftmostEndingAt_24 : decode prog_1_method_19_code 24 = .ok (.lstore_n 3, 1) := by decide +kernel
theorem d_C_leftmostEndingAt_25 : decode prog_1_method_19_code 25 = .ok (.lload_n 3, 1) := by decide +kernel
theorem d_C_leftmostEndingAt_26 : decode prog_1_method_19_code 26 = .ok (.lconst 0, 1) := by decide +kernel
theorem d_C_leftmostEndingAt_27 : decode prog_1_method_19_code 27 = .ok (.lcmp, 1) := by decide +kernel
theorem d_C_leftmostEndingAt_28 : decode prog_1_method_19_code 28 = .ok (.ifCond .eq 14, 3) := by decide +kernel
theorem d_C_leftmostEndingAt_31 : decode prog_1_method_19_code 31 = .ok (.lload_n 3, 1) := by decide +kernel
theorem d_C_leftmostEndingAt_32 : decode prog_1_method_19_code 32 = .ok (.iconst 1, 1) := by decide +kernel
theorem d_C_leftmostEndingAt_33 : decode prog_1_method_19_code 33 = .ok (.invokestatic 167, 3) := by decide +kernel
theorem d_C_leftmostEndingAt_36 : decode prog_1_method_19_code 36 = .ok (.iload_n 1, 1) := by decide +kernel
theorem d_C_leftmostEndingAt_37 : decode prog_1_method_19_code 37 = .ok (.if_icmp .ne 5, 3) := by decide +kernel
theorem d_C_leftmostEndingAt_40 : decode prog_1_method_19_code 40 = .ok (.lload_n 3, 1) := by decide +kernel
theorem d_C_leftmostEndingAt_41 : decode prog_1_method_19_code 41 = .ok (.lreturn, 1) := by decide +kernel
theorem d_C_leftmostEndingAt_42 : decode prog_1_method_19_code 42 = .ok (.iinc 2 1, 3) := by decide +kernel
theorem d_C_leftmostEndingAt_45 : decode prog_1_method_19_code 45 = .ok (.goto (-43), 3) := by decide +kernel
theorem d_C_leftmostEndingAt_48 : decode prog_1_method_19_code 48 = .ok (.lconst 0, 1) := by decide +kernel
theorem d_C_leftmostEndingAt_49 : decode prog_1_method_19_code 49 = .ok (.lreturn, 1) := by decide +kernel
theorem M_C_leftmostEndingAt : lt_M0 m_C_leftmostEndingAt 1 := ⟨lt_m4 102 rfl rfl, lt_m1 1 rfl rfl, ⟨by decide +kernel, by decide +kernel, by decide +kernel⟩, by decide⟩
theorem in_C_leftmostEndingAt : Cond.instanceMethod m_C_leftmostEndingAt.1 ∈ lt_T := lt_m4 101 rfl rfl
theorem se_C_leftmostEndingAt : Cond.selects "LinearSearch" m_C_leftmostEndingAt.1 m_C_leftmostEndingAt.1 ∈ lt_T := lt_memS 27 rfl rfl
abbrev m_C_placeIn : lt_M := (⟨"LinearSearch", "placeIn", "(JI)I"⟩, prog_1_method_23_code, 3, (some .int))
theorem d_C_placeIn_0 : decode prog_1_method_23_code 0 = .ok (.lload_n 0, 1) := by decide +kernel
theorem d_C_placeIn_1 : decode prog_1_method_23_code 1 = .ok (.iconst 5, 1) := by decide +kernel
theorem d_C_placeIn_2 : decode prog_1_method_23_code 2 = .ok (.iload_n 2, 1) := by decide +kernel
theorem d_C_placeIn_3 : decode prog_1_method_23_code 3 = .ok (.imul, 1) := by decide +kernel
theorem d_C_placeIn_4 : decode prog_1_method_23_code 4 = .ok (.lushr, 1) := by decide +kernel
theorem d_C_placeIn_5 : decode prog_1_method_23_code 5 = .ok (.ldc2_w 203, 3) := by decide +kernel
theorem d_C_placeIn_8 : decode prog_1_method_23_code 8 = .ok (.land, 1) := by decide +kernel
theorem d_C_placeIn_9 : decode prog_1_method_23_code 9 = .ok (.l2i, 1) := by decide +kernel
theorem d_C_placeIn_10 : decode prog_1_method_23_code 10 = .ok (.iconst 1, 1) := by decide +kernel
theorem d_C_placeIn_11 : decode prog_1_method_23_code 11 = .ok (.isub, 1) := by decide +kernel
theorem d_C_placeIn_12 : decode prog_1_method_23_code 12 = .ok (.ireturn, 1) := by decide +kernel
theorem M_C_placeIn : lt_M0 m_C_placeIn 2 := ⟨lt_m4 105 rfl rfl, lt_m1 1 rfl rfl, ⟨by decide +kernel, by decide +kernel, by decide +kernel⟩, by decide⟩
theorem st_C_placeIn : Cond.static m_C_placeIn.1 ∈ lt_T := lt_m4 104 rfl rfl
abbrev m_C_slot : lt_M := (⟨"LinearSearch", "slot", "(IZ)I"⟩, prog_1_method_10_code, 3, (some .int))
theorem d_C_slot_0 : decode prog_1_method_10_code 0 = .ok (.iload_n 1, 1) := by decide +kernel
theorem d_C_slot_1 : decode prog_1_method_10_code 1 = .ok (.ifCond .lt 8, 3) := by decide +kernel
theorem d_C_slot_4 : decode prog_1_method_10_code 4 = .ok (.iload_n 1, 1) := by decide +kernel
theorem d_C_slot_5 : decode prog_1_method_10_code 5 = .ok (.iconst 3, 1) := by decide +kernel
theorem d_C_slot_6 : decode prog_1_method_10_code 6 = .ok (.if_icmp .le 13, 3) := by decide +kernel
theorem d_C_slot_9 : decode prog_1_method_10_code 9 = .ok (.new 110, 3) := by decide +kernel
theorem d_C_slot_12 : decode prog_1_method_10_code 12 = .ok (.dup, 1) := by decide +kernel
theorem d_C_slot_13 : decode prog_1_method_10_code 13 = .ok (.ldc 171, 2) := by decide +kernel
theorem d_C_slot_15 : decode prog_1_method_10_code 15 = .ok (.invokespecial 114, 3) := by decide +kernel
theorem d_C_slot_18 : decode prog_1_method_10_code 18 = .ok (.athrow, 1) := by decide +kernel
theorem d_C_slot_19 : decode prog_1_method_10_code 19 = .ok (.aload_n 0, 1) := by decide +kernel
theorem d_C_slot_20 : decode prog_1_method_10_code 20 = .ok (.getfield 58, 3) := by decide +kernel
theorem d_C_slot_23 : decode prog_1_method_10_code 23 = .ok (.iload_n 2, 1) := by decide +kernel
theorem d_C_slot_24 : decode prog_1_method_10_code 24 = .ok (.ifCond .eq 11, 3) := by decide +kernel
theorem d_C_slot_27 : decode prog_1_method_10_code 27 = .ok (.iconst 2, 1) := by decide +kernel
theorem d_C_slot_28 : decode prog_1_method_10_code 28 = .ok (.iload_n 1, 1) := by decide +kernel
theorem d_C_slot_29 : decode prog_1_method_10_code 29 = .ok (.imul, 1) := by decide +kernel
theorem d_C_slot_30 : decode prog_1_method_10_code 30 = .ok (.iconst 1, 1) := by decide +kernel
theorem d_C_slot_31 : decode prog_1_method_10_code 31 = .ok (.iadd, 1) := by decide +kernel
theorem d_C_slot_32 : decode prog_1_method_10_code 32 = .ok (.goto 6, 3) := by decide +kernel
theorem d_C_slot_35 : decode prog_1_method_10_code 35 = .ok (.iconst 2, 1) := by decide +kernel
theorem d_C_slot_36 : decode prog_1_method_10_code 36 = .ok (.iload_n 1, 1) := by decide +kernel
theorem d_C_slot_37 : decode prog_1_method_10_code 37 = .ok (.imul, 1) := by decide +kernel
theorem d_C_slot_38 : decode prog_1_method_10_code 38 = .ok (.invokestatic 167, 3) := by decide +kernel
theorem d_C_slot_41 : decode prog_1_method_10_code 41 = .ok (.ireturn, 1) := by decide +kernel
theorem M_C_slot : lt_M0 m_C_slot 2 := ⟨lt_m4 135 rfl rfl, lt_m1 1 rfl rfl, ⟨by decide +kernel, by decide +kernel, by decide +kernel⟩, by decide⟩
theorem in_C_slot : Cond.instanceMethod m_C_slot.1 ∈ lt_T := lt_m4 133 rfl rfl
theorem se_C_slot : Cond.selects "LinearSearch" m_C_slot.1 m_C_slot.1 ∈ lt_T := lt_m4 134 rfl rfl
abbrev m_C_breaks : lt_M := (⟨"LinearSearch", "breaks", "()I"⟩, prog_1_method_15_code, 10, (some .int))
theorem d_C_breaks_0 : decode prog_1_method_15_code 0 = .ok (.aload_n 0, 1) := by decide +kernel
theorem d_C_breaks_1 : decode prog_1_method_15_code 1 = .ok (.getfield 51, 3) := by decide +kernel
theorem d_C_breaks_4 : decode prog_1_method_15_code 4 = .ok (.invokevirtual 106, 3) := by decide +kernel
theorem d_C_breaks_7 : decode prog_1_method_15_code 7 = .ok (.ifCond .ne 13, 3) := by decide +kernel
theorem d_C_breaks_10 : decode prog_1_method_15_code 10 = .ok (.new 127, 3) := by decide +kernel
theorem d_C_breaks_13 : decode prog_1_method_15_code 13 = .ok (.dup, 1) := by decide +kernel
theorem d_C_breaks_14 : decode prog_1_method_15_code 14 = .ok (.ldc 129, 2) := by decide +kernel
theorem d_C_breaks_16 : decode prog_1_method_15_code 16 = .ok (.invokespecial 131, 3) := by decide +kernel
theorem d_C_breaks_19 : decode prog_1_method_15_code 19 = .ok (.athrow, 1) := by decide +kernel
theorem d_C_breaks_20 : decode prog_1_method_15_code 20 = .ok (.iconst 0, 1) := by decide +kernel
theorem d_C_breaks_21 : decode prog_1_method_15_code 21 = .ok (.istore_n 1, 1) := by decide +kernel
theorem d_C_breaks_22 : decode prog_1_method_15_code 22 = .ok (.iconst (-1), 1) := by decide +kernel
theorem d_C_breaks_23 : decode prog_1_method_15_code 23 = .ok (.istore_n 2, 1) := by decide +kernel
theorem d_C_breaks_24 : decode prog_1_method_15_code 24 = .ok (.iconst 0, 1) := by decide +kernel
theorem d_C_breaks_25 : decode prog_1_method_15_code 25 = .ok (.istore_n 3, 1) := by decide +kernel
theorem d_C_breaks_26 : decode prog_1_method_15_code 26 = .ok (.iconst 0, 1) := by decide +kernel
theorem d_C_breaks_27 : decode prog_1_method_15_code 27 = .ok (.istore 4, 2) := by decide +kernel
theorem d_C_breaks_29 : decode prog_1_method_15_code 29 = .ok (.iload 4, 2) := by decide +kernel
theorem d_C_breaks_31 : decode prog_1_method_15_code 31 = .ok (.bipush 20, 2) := by decide +kernel
theorem d_C_breaks_33 : decode prog_1_method_15_code 33 = .ok (.if_icmp .gt 111, 3) := by decide +kernel
theorem d_C_breaks_36 : decode prog_1_method_15_code 36 = .ok (.iload_n 3, 1) := by decide +kernel
theorem d_C_breaks_37 : decode prog_1_method_15_code 37 = .ok (.aload_n 0, 1) := by decide +kernel
theorem d_C_breaks_38 : decode prog_1_method_15_code 38 = .ok (.getfield 23, 3) := by decide +kernel
theorem d_C_breaks_41 : decode prog_1_method_15_code 41 = .ok (.invokevirtual 179, 3) := by decide +kernel
theorem d_C_breaks_44 : decode prog_1_method_15_code 44 = .ok (.if_icmp .gt 100, 3) := by decide +kernel
theorem d_C_breaks_47 : decode prog_1_method_15_code 47 = .ok (.aload_n 0, 1) := by decide +kernel
theorem d_C_breaks_48 : decode prog_1_method_15_code 48 = .ok (.getfield 30, 3) := by decide +kernel
theorem d_C_breaks_51 : decode prog_1_method_15_code 51 = .ok (.aload_n 0, 1) := by decide +kernel
theorem d_C_breaks_52 : decode prog_1_method_15_code 52 = .ok (.getfield 51, 3) := by decide +kernel
theorem d_C_breaks_55 : decode prog_1_method_15_code 55 = .ok (.aload_n 0, 1) := by decide +kernel
theorem d_C_breaks_56 : decode prog_1_method_15_code 56 = .ok (.getfield 23, 3) := by decide +kernel
theorem d_C_breaks_59 : decode prog_1_method_15_code 59 = .ok (.iload_n 3, 1) := by decide +kernel
theorem d_C_breaks_60 : decode prog_1_method_15_code 60 = .ok (.iconst 1, 1) := by decide +kernel
theorem d_C_breaks_61 : decode prog_1_method_15_code 61 = .ok (.invokevirtual 182, 3) := by decide +kernel
theorem d_C_breaks_64 : decode prog_1_method_15_code 64 = .ok (.lstore 5, 2) := by decide +kernel
theorem d_C_breaks_66 : decode prog_1_method_15_code 66 = .ok (.lload 5, 2) := by decide +kernel
theorem d_C_breaks_68 : decode prog_1_method_15_code 68 = .ok (.lconst 0, 1) := by decide +kernel
theorem d_C_breaks_69 : decode prog_1_method_15_code 69 = .ok (.lcmp, 1) := by decide +kernel
theorem d_C_breaks_70 : decode prog_1_method_15_code 70 = .ok (.ifCond .ne 6, 3) := by decide +kernel
theorem d_C_breaks_73 : decode prog_1_method_15_code 73 = .ok (.goto 71, 3) := by decide +kernel
theorem d_C_breaks_76 : decode prog_1_method_15_code 76 = .ok (.lload 5, 2) := by decide +kernel
theorem d_C_breaks_78 : decode prog_1_method_15_code 78 = .ok (.iconst 0, 1) := by decide +kernel
theorem d_C_breaks_79 : decode prog_1_method_15_code 79 = .ok (.invokestatic 167, 3) := by decide +kernel
theorem d_C_breaks_82 : decode prog_1_method_15_code 82 = .ok (.istore 7, 2) := by decide +kernel
theorem d_C_breaks_84 : decode prog_1_method_15_code 84 = .ok (.lload 5, 2) := by decide +kernel
theorem d_C_breaks_86 : decode prog_1_method_15_code 86 = .ok (.iconst 1, 1) := by decide +kernel
theorem d_C_breaks_87 : decode prog_1_method_15_code 87 = .ok (.invokestatic 167, 3) := by decide +kernel
theorem d_C_breaks_90 : decode prog_1_method_15_code 90 = .ok (.istore 8, 2) := by decide +kernel
theorem d_C_breaks_92 : decode prog_1_method_15_code 92 = .ok (.iload 7, 2) := by decide +kernel
theorem d_C_breaks_94 : decode prog_1_method_15_code 94 = .ok (.iload 8, 2) := by decide +kernel
theorem d_C_breaks_96 : decode prog_1_method_15_code 96 = .ok (.if_icmp .ne 7, 3) := by decide +kernel
theorem d_C_breaks_99 : decode prog_1_method_15_code 99 = .ok (.iconst 1, 1) := by decide +kernel
theorem d_C_breaks_100 : decode prog_1_method_15_code 100 = .ok (.goto 4, 3) := by decide +kernel
theorem d_C_breaks_103 : decode prog_1_method_15_code 103 = .ok (.iconst 0, 1) := by decide +kernel
theorem d_C_breaks_104 : decode prog_1_method_15_code 104 = .ok (.istore 9, 2) := by decide +kernel
theorem d_C_breaks_106 : decode prog_1_method_15_code 106 = .ok (.iload 9, 2) := by decide +kernel
theorem d_C_breaks_108 : decode prog_1_method_15_code 108 = .ok (.ifCond .eq 9, 3) := by decide +kernel
theorem d_C_breaks_111 : decode prog_1_method_15_code 111 = .ok (.iload 7, 2) := by decide +kernel
theorem d_C_breaks_113 : decode prog_1_method_15_code 113 = .ok (.iload_n 2, 1) := by decide +kernel
theorem d_C_breaks_114 : decode prog_1_method_15_code 114 = .ok (.if_icmp .eq 6, 3) := by decide +kernel
theorem d_C_breaks_117 : decode prog_1_method_15_code 117 = .ok (.iinc 1 1, 3) := by decide +kernel
theorem d_C_breaks_120 : decode prog_1_method_15_code 120 = .ok (.iload 8, 2) := by decide +kernel
theorem d_C_breaks_122 : decode prog_1_method_15_code 122 = .ok (.istore_n 2, 1) := by decide +kernel
theorem d_C_breaks_123 : decode prog_1_method_15_code 123 = .ok (.iload 9, 2) := by decide +kernel
theorem d_C_breaks_125 : decode prog_1_method_15_code 125 = .ok (.ifCond .eq 10, 3) := by decide +kernel
theorem d_C_breaks_128 : decode prog_1_method_15_code 128 = .ok (.iload 8, 2) := by decide +kernel
theorem d_C_breaks_130 : decode prog_1_method_15_code 130 = .ok (.iconst 1, 1) := by decide +kernel
theorem d_C_breaks_131 : decode prog_1_method_15_code 131 = .ok (.iadd, 1) := by decide +kernel
theorem d_C_breaks_132 : decode prog_1_method_15_code 132 = .ok (.goto 5, 3) := by decide +kernel
theorem d_C_breaks_135 : decode prog_1_method_15_code 135 = .ok (.iload 8, 2) := by decide +kernel
theorem d_C_breaks_137 : decode prog_1_method_15_code 137 = .ok (.istore_n 3, 1) := by decide +kernel
theorem d_C_breaks_138 : decode prog_1_method_15_code 138 = .ok (.iinc 4 1, 3) := by decide +kernel
theorem d_C_breaks_141 : decode prog_1_method_15_code 141 = .ok (.goto (-112), 3) := by decide +kernel
theorem d_C_breaks_144 : decode prog_1_method_15_code 144 = .ok (.iload_n 1, 1) := by decide +kernel
theorem d_C_breaks_145 : decode prog_1_method_15_code 145 = .ok (.ireturn, 1) := by decide +kernel
theorem M_C_breaks : lt_M0 m_C_breaks 0 := ⟨lt_m4 143 rfl rfl, lt_m1 1 rfl rfl, ⟨by decide +kernel, by decide +kernel, by decide +kernel⟩, by decide⟩
theorem in_C_breaks : Cond.instanceMethod m_C_breaks.1 ∈ lt_T := lt_m4 141 rfl rfl
theorem se_C_breaks : Cond.selects "LinearSearch" m_C_breaks.1 m_C_breaks.1 ∈ lt_T := lt_m4 142 rfl rfl
end
section
/-! METHODS: names, code, decode rows, words; printed by wip/whole/gen_methods.py -/
abbrev m_Mo_init : lt_M := (⟨"LinearSearchModel", "<init>", "(I)V"⟩, prog_13_method_1_code, 2, none)
theorem d_Mo_init_0 : decode prog_13_method_1_code 0 = .ok (.aload_n 0, 1) := by decide +kernel
theorem d_Mo_init_1 : decode prog_13_method_1_code 1 = .ok (.invokespecial 1, 3) := by decide +kernel
theorem d_Mo_init_4 : decode prog_13_method_1_code 4 = .ok (.aload_n 0, 1) := by decide +kernel
theorem d_Mo_init_5 : decode prog_13_method_1_code 5 = .ok (.bipush 24, 2) := by decide +kernel
theorem d_Mo_init_7 : decode prog_13_method_1_code 7 = .ok (.newarray .int, 2) := by decide +kernel
theorem d_Mo_init_9 : decode prog_13_method_1_code 9 = .ok (.putfield 7, 3) := by decide +kernel
theorem d_Mo_init_12 : decode prog_13_method_1_code 12 = .ok (.aload_n 0, 1) := by decide +kernel
theorem d_Mo_init_13 : decode prog_13_method_1_code 13 = .ok (.bipush 20, 2) := by decide +kernel
theorem d_Mo_init_15 : decode prog_13_method_1_code 15 = .ok (.newarray .int, 2) := by decide +kernel
theorem d_Mo_init_17 : decode prog_13_method_1_code 17 = .ok (.putfield 13, 3) := by decide +kernel
theorem d_Mo_init_20 : decode prog_13_method_1_code 20 = .ok (.aload_n 0, 1) := by decide +kernel
theorem d_Mo_init_21 : decode prog_13_method_1_code 21 = .ok (.bipush 64, 2) := by decide +kernel
theorem d_Mo_init_23 : decode prog_13_method_1_code 23 = .ok (.newarray .int, 2) := by decide +kernel
theorem d_Mo_init_25 : decode prog_13_method_1_code 25 = .ok (.putfield 16, 3) := by decide +kernel
theorem d_Mo_init_28 : decode prog_13_method_1_code 28 = .ok (.aload_n 0, 1) := by decide +kernel
theorem d_Mo_init_29 : decode prog_13_method_1_code 29 = .ok (.bipush 64, 2) := by decide +kernel
theorem d_Mo_init_31 : decode prog_13_method_1_code 31 = .ok (.newarray .int, 2) := by decide +kernel
theorem d_Mo_init_33 : decode prog_13_method_1_code 33 = .ok (.putfield 19, 3) := by decide +kernel
theorem d_Mo_init_36 : decode prog_13_method_1_code 36 = .ok (.aload_n 0, 1) := by decide +kernel
theorem d_Mo_init_37 : decode prog_13_method_1_code 37 = .ok (.bipush 64, 2) := by decide +kernel
theorem d_Mo_init_39 : decode prog_13_method_1_code 39 = .ok (.newarray .int, 2) := by decide +kernel
theorem d_Mo_init_41 : decode prog_13_method_1_code 41 = .ok (.putfield 22, 3) := by decide +kernel
theorem d_Mo_init_44 : decode prog_13_method_1_code 44 = .ok (.aload_n 0, 1) := by decide +kernel
theorem d_Mo_init_45 : decode prog_13_method_1_code 45 = .ok (.bipush 64, 2) := by decide +kernel
theorem d_Mo_init_47 : decode prog_13_method_1_code 47 = .ok (.newarray .int, 2) := by decide +kernel
theorem d_Mo_init_49 : decode prog_13_method_1_code 49 = .ok (.putfield 25, 3) := by decide +kernel
theorem d_Mo_init_52 : decode prog_13_method_1_code 52 = .ok (.aload_n 0, 1) := by decide +kernel
theorem d_Mo_init_53 : decode prog_13_method_1_code 53 = .ok (.bipush 64, 2) := by decide +kernel
theorem d_Mo_init_55 : decode prog_13_method_1_code 55 = .ok (.newarray .int, 2) := by decide +kernel
theorem d_Mo_init_57 : decode prog_13_method_1_code 57 = .ok (.putfield 28, 3) := by decide +kernel
theorem d_Mo_init_60 : decode prog_13_method_1_code 60 = .ok (.aload_n 0, 1) := by decide +kernel
theorem d_Mo_init_61 : decode prog_13_method_1_code 61 = .ok (.bipush 64, 2) := by decide +kernel
theorem d_Mo_init_63 : decode prog_13_method_1_code 63 = .ok (.newarray .int, 2) := by decide +kernel
theorem d_Mo_init_65 : decode prog_13_method_1_code 65 = .ok (.putfield 31, 3) := by decide +kernel
theorem d_Mo_init_68 : decode prog_13_method_1_code 68 = .ok (.aload_n 0, 1) := by decide +kernel
theorem d_Mo_init_69 : decode prog_13_method_1_code 69 = .ok (.bipush 64, 2) := by decide +kernel
theorem d_Mo_init_71 : decode prog_13_method_1_code 71 = .ok (.newarray .int, 2) := by decide +kernel
theorem d_Mo_init_73 : decode prog_13_method_1_code 73 = .ok (.putfield 34, 3) := by decide +kernel
theorem d_Mo_init_76 : decode prog_13_method_1_code 76 = .ok (.aload_n 0, 1) := by decide +kernel
theorem d_Mo_init_77 : decode prog_13_method_1_code 77 = .ok (.sipush 600, 3) := by decide +kernel
theorem d_Mo_init_80 : decode prog_13_method_1_code 80 = .ok (.newarray .int, 2) := by decide +kernel
theorem d_Mo_init_82 : decode prog_13_method_1_code 82 = .ok (.putfield 37, 3) := by decide +kernel
theorem d_Mo_init_85 : decode prog_13_method_1_code 85 = .ok (.aload_n 0, 1) := by decide +kernel
theorem d_Mo_init_86 : decode prog_13_method_1_code 86 = .ok (.sipush 600, 3) := by decide +kernel
theorem d_Mo_init_89 : decode prog_13_method_1_code 89 = .ok (.newarray .int, 2) := by decide +kernel
theorem d_Mo_init_91 : decode prog_13_method_1_code 91 = .ok (.putfield 40, 3) := by decide +kernel
theorem d_Mo_init_94 : decode prog_13_method_1_code 94 = .ok (.aload_n 0, 1) := by decide +kernel
theorem d_Mo_init_95 : decode prog_13_method_1_code 95 = .ok (.sipush 4800, 3) := by decide +kernel
theorem d_Mo_init_98 : decode prog_13_method_1_code 98 = .ok (.newarray .int, 2) := by decide +kernel
theorem d_Mo_init_100 : decode prog_13_method_1_code 100 = .ok (.putfield 43, 3) := by decide +kernel
theorem d_Mo_init_103 : decode prog_13_method_1_code 103 = .ok (.aload_n 0, 1) := by decide +kernel
theorem d_Mo_init_104 : decode prog_13_method_1_code 104 = .ok (.bipush 8, 2) := by decide +kernel
theorem d_Mo_init_106 : decode prog_13_method_1_code 106 = .ok (.newarray .int, 2) := by decide +kernel
theorem d_Mo_init_108 : decode prog_13_method_1_code 108 = .ok (.putfield 46, 3) := by decide +kernel
theorem d_Mo_init_111 : decode prog_13_method_1_code 111 = .ok (.aload_n 0, 1) := by decide +kernel
theorem d_Mo_init_112 : decode prog_13_method_1_code 112 = .ok (.iconst 2, 1) := by decide +kernel
theorem d_Mo_init_113 : decode prog_13_method_1_code 113 = .ok (.newarray .int, 2) := by decide +kernel
theorem d_Mo_init_115 : decode prog_13_method_1_code 115 = .ok (.putfield 49, 3) := by decide +kernel
theorem d_Mo_init_118 : decode prog_13_method_1_code 118 = .ok (.aload_n 0, 1) := by decide +kernel
theorem d_Mo_init_119 : decode prog_13_method_1_code 119 = .ok (.sipush 128, 3) := by decide +kernel
theorem d_Mo_init_122 : decode prog_13_method_1_code 122 = .ok (.newarray .int, 2) := by decide +kernel
theorem d_Mo_init_124 : decode prog_13_method_1_code 124 = .ok (.putfield 52, 3) := by decide +kernel
theorem d_Mo_init_127 : decode prog_13_method_1_code 127 = .ok (.aload_n 0, 1) := by decide +kernel
theorem d_Mo_init_128 : decode prog_13_method_1_code 128 = .ok (.sipush 1024, 3) := by decide +kernel
theorem d_Mo_init_131 : decode prog_13_method_1_code 131 = .ok (.newarray .int, 2) := by decide +kernel
theorem d_Mo_init_133 : decode prog_13_method_1_code 133 = .ok (.putfield 55, 3) := by decide +kernel
theorem d_Mo_init_136 : decode prog_13_method_1_code 136 = .ok (.aload_n 0, 1) := by decide +kernel
theorem d_Mo_init_137 : decode prog_13_method_1_code 137 = .ok (.sipush 1344, 3) := by decide +kernel
theorem d_Mo_init_140 : decode prog_13_method_1_code 140 = .ok (.newarray .boolean, 2) := by decide +kernel
theorem d_Mo_init_142 : decode prog_13_method_1_code 142 = .ok (.putfield 58, 3) := by decide +kernel
theorem d_Mo_init_145 : decode prog_13_method_1_code 145 = .ok (.aload_n 0, 1) := by decide +kernel
theorem d_Mo_init_146 : decode prog_13_method_1_code 146 = .ok (.bipush 19, 2) := by decide +kernel
theorem d_Mo_init_148 : decode prog_13_method_1_code 148 = .ok (.newarray .int, 2) := by decide +kernel
theorem d_Mo_init_150 : decode prog_13_method_1_code 150 = .ok (.putfield 62, 3) := by decide +kernel
theorem d_Mo_init_153 : decode prog_13_method_1_code 153 = .ok (.aload_n 0, 1) := by decide +kernel
theorem d_Mo_init_154 : decode prog_13_method_1_code 154 = .ok (.sipush 1216, 3) := by decide +kernel
theorem d_Mo_init_157 : decode prog_13_method_1_code 157 = .ok (.newarray .int, 2) := by decide +kernel
theorem d_Mo_init_159 : decode prog_13_method_1_code 159 = .ok (.putfield 65, 3) := by decide +kernel
theorem d_Mo_init_162 : decode prog_13_method_1_code 162 = .ok (.aload_n 0, 1) := by decide +kernel
theorem d_Mo_init_163 : decode prog_13_method_1_code 163 = .ok (.bipush 19, 2) := by decide +kernel
theorem d_Mo_init_165 : decode prog_13_method_1_code 165 = .ok (.newarray .boolean, 2) := by decide +kernel
theorem d_Mo_init_167 : decode prog_13_method_1_code 167 = .ok (.putfield 68, 3) := by decide +kernel
theorem d_Mo_init_170 : decode prog_13_method_1_code 170 = .ok (.aload_n 0, 1) := by decide +kernel
theorem d_Mo_init_171 : decode prog_13_method_1_code 171 = .ok (.sipush 152, 3) := by decide +kernel
theorem d_Mo_init_174 : decode prog_13_method_1_code 174 = .ok (.newarray .int, 2) := by decide +kernel
theorem d_Mo_init_176 : decode prog_13_method_1_code 176 = .ok (.putfield 71, 3) := by decide +kernel
theorem d_Mo_init_179 : decode prog_13_method_1_code 179 = .ok (.aload_n 0, 1) := by decide +kernel
theorem d_Mo_init_180 : decode prog_13_method_1_code 180 = .ok (.bipush 64, 2) := by decide +kernel
theorem d_Mo_init_182 : decode prog_13_method_1_code 182 = .ok (.newarray .int, 2) := by decide +kernel
theorem d_Mo_init_184 : decode prog_13_method_1_code 184 = .ok (.putfield 74, 3) := by decide +kernel
theorem d_Mo_init_187 : decode prog_13_method_1_code 187 = .ok (.aload_n 0, 1) := by decide +kernel
theorem d_Mo_init_188 : decode prog_13_method_1_code 188 = .ok (.iconst (-1), 1) := by decide +kernel
theorem d_Mo_init_189 : decode prog_13_method_1_code 189 = .ok (.putfield 77, 3) := by decide +kernel
theorem d_Mo_init_192 : decode prog_13_method_1_code 192 = .ok (.aload_n 0, 1) := by decide +kernel
theorem d_Mo_init_193 : decode prog_13_method_1_code 193 = .ok (.iconst (-1), 1) := by decide +kernel
theorem d_Mo_init_194 : decode prog_13_method_1_code 194 = .ok (.putfield 81, 3) := by decide +kernel
theorem d_Mo_init_197 : decode prog_13_method_1_code 197 = .ok (.aload_n 0, 1) := by decide +kernel
theorem d_Mo_init_198 : decode prog_13_method_1_code 198 = .ok (.bipush 8, 2) := by decide +kernel
theorem d_Mo_init_200 : decode prog_13_method_1_code 200 = .ok (.newarray .int, 2) := by decide +kernel
theorem d_Mo_init_202 : decode prog_13_method_1_code 202 = .ok (.putfield 84, 3) := by decide +kernel
theorem d_Mo_init_205 : decode prog_13_method_1_code 205 = .ok (.aload_n 0, 1) := by decide +kernel
theorem d_Mo_init_206 : decode prog_13_method_1_code 206 = .ok (.iconst 4, 1) := by decide +kernel
theorem d_Mo_init_207 : decode prog_13_method_1_code 207 = .ok (.newarray .int, 2) := by decide +kernel
theorem d_Mo_init_209 : decode prog_13_method_1_code 209 = .ok (.putfield 87, 3) := by decide +kernel
theorem d_Mo_init_212 : decode prog_13_method_1_code 212 = .ok (.aload_n 0, 1) := by decide +kernel
theorem d_Mo_init_213 : decode prog_13_method_1_code 213 = .ok (.iconst 4, 1) := by decide +kernel
theorem d_Mo_init_214 : decode prog_13_method_1_code 214 = .ok (.newarray .int, 2) := by decide +kernel
theorem d_Mo_init_216 : decode prog_13_method_1_code 216 = .ok (.putfield 90, 3) := by decide +kernel
theorem d_Mo_init_219 : decode prog_13_method_1_code 219 = .ok (.aload_n 0, 1) := by decide +kernel
theorem d_Mo_init_220 : decode prog_13_method_1_code 220 = .ok (.iconst 4, 1) := by decide +kernel
theorem d_Mo_init_221 : decode prog_13_method_1_code 221 = .ok (.newarray .int, 2) := by decide +kernel
theorem d_Mo_init_223 : decode prog_13_method_1_code 223 = .ok (.putfield 93, 3) := by decide +kernel
theorem d_Mo_init_226 : decode prog_13_method_1_code 226 = .ok (.aload_n 0, 1) := by decide +kernel
theorem d_Mo_init_227 : decode prog_13_method_1_code 227 = .ok (.bipush 8, 2) := by decide +kernel
theorem d_Mo_init_229 : decode prog_13_method_1_code 229 = .ok (.newarray .int, 2) := by decide +kernel
theorem d_Mo_init_231 : decode prog_13_method_1_code 231 = .ok (.putfield 96, 3) := by decide +kernel
theorem d_Mo_init_234 : decode prog_13_method_1_code 234 = .ok (.aload_n 0, 1) := by decide +kernel
theorem d_Mo_init_235 : decode prog_13_method_1_code 235 = .ok (.iconst 3, 1) := by decide +kernel
theorem d_Mo_init_236 : decode prog_13_method_1_code 236 = .ok (.iload_n 1, 1) := by decide +kernel
theorem d_Mo_init_237 : decode prog_13_method_1_code 237 = .ok (.bipush 15, 2) := by decide +kernel
theorem d_Mo_init_239 : decode prog_13_method_1_code 239 = .ok (.iand, 1) := by decide +kernel
theorem d_Mo_init_240 : decode prog_13_method_1_code 240 = .ok (.iadd, 1) := by decide +kernel
theorem d_Mo_init_241 : decode prog_13_method_1_code 241 = .ok (.putfield 99, 3) := by decide +kernel
theorem d_Mo_init_244 : decode prog_13_method_1_code 244 = .ok (.return_, 1) := by decide +kernel
theorem M_Mo_init : lt_M0 m_Mo_init 1 := ⟨lt_m4 148 rfl rfl, lt_m1 13 rfl rfl, ⟨by decide +kernel, by decide +kernel, by decide +kernel⟩, by decide⟩
theorem in_Mo_init : Cond.instanceMethod m_Mo_init.1 ∈ lt_T := lt_m4 147 rfl rfl
abbrev m_Mo_thrown : lt_M := (⟨"LinearSearchModel", "thrown", "()I"⟩, prog_13_method_2_code, 1, (some .int))
theorem d_Mo_thrown_0 : decode prog_13_method_2_code 0 = .ok (.aload_n 0, 1) := by decide +kernel
theorem d_Mo_thrown_1 : decode prog_13_method_2_code 1 = .ok (.getfield 102, 3) := by decide +kernel
theorem d_Mo_thrown_4 : decode prog_13_method_2_code 4 = .ok (.ireturn, 1) := by decide +kernel
theorem M_Mo_thrown : lt_M0 m_Mo_thrown 0 := ⟨lt_m5 50 rfl rfl, lt_m1 13 rfl rfl, ⟨by decide +kernel, by decide +kernel, by decide +kernel⟩, by decide⟩
theorem in_Mo_thrown : Cond.instanceMethod m_Mo_thrown.1 ∈ lt_T := lt_m5 48 rfl rfl
theorem se_Mo_thrown : Cond.selects "LinearSearchModel" m_Mo_thrown.1 m_Mo_thrown.1 ∈ lt_T := lt_m5 49 rfl rfl
abbrev m_Mo_type : lt_M := (⟨"LinearSearchModel", "type", "(C)Z"⟩, prog_13_method_5_code, 2, (some .boolean))
theorem d_Mo_type_0 : decode prog_13_method_5_code 0 = .ok (.aload_n 0, 1) := by decide +kernel
theorem d_Mo_type_1 : decode prog_13_method_5_code 1 = .ok (.iconst 0, 1) := by decide +kernel
theorem d_Mo_type_2 : decode prog_13_method_5_code 2 = .ok (.putfield 102, 3) := by decide +kernel
theorem d_Mo_type_5 : decode prog_13_method_5_code 5 = .ok (.aload_n 0, 1) := by decide +kernel
theorem d_Mo_type_6 : decode prog_13_method_5_code 6 = .ok (.getfield 109, 3) := by decide +kernel
theorem d_Mo_type_9 : decode prog_13_method_5_code 9 = .ok (.bipush 24, 2) := by decide +kernel
theorem d_Mo_type_11 : decode prog_13_method_5_code 11 = .ok (.if_icmp .ne 5, 3) := by decide +kernel
theorem d_Mo_type_14 : decode prog_13_method_5_code 14 = .ok (.iconst 0, 1) := by decide +kernel
theorem d_Mo_type_15 : decode prog_13_method_5_code 15 = .ok (.ireturn, 1) := by decide +kernel
theorem d_Mo_type_16 : decode prog_13_method_5_code 16 = .ok (.aload_n 0, 1) := by decide +kernel
theorem d_Mo_type_17 : decode prog_13_method_5_code 17 = .ok (.getfield 7, 3) := by decide +kernel
theorem d_Mo_type_20 : decode prog_13_method_5_code 20 = .ok (.aload_n 0, 1) := by decide +kernel
theorem d_Mo_type_21 : decode prog_13_method_5_code 21 = .ok (.getfield 109, 3) := by decide +kernel
theorem d_Mo_type_24 : decode prog_13_method_5_code 24 = .ok (.iload_n 1, 1) := by decide +kernel
theorem d_Mo_type_25 : decode prog_13_method_5_code 25 = .ok (.iastore, 1) := by decide +kernel
theorem d_Mo_type_26 : decode prog_13_method_5_code 26 = .ok (.aload_n 0, 1) := by decide +kernel
theorem d_Mo_type_27 : decode prog_13_method_5_code 27 = .ok (.dup, 1) := by decide +kernel
theorem d_Mo_type_28 : decode prog_13_method_5_code 28 = .ok (.getfield 109, 3) := by decide +kernel
theorem d_Mo_type_31 : decode prog_13_method_5_code 31 = .ok (.iconst 1, 1) := by decide +kernel
theorem d_Mo_type_32 : decode prog_13_method_5_code 32 = .ok (.iadd, 1) := by decide +kernel
theorem d_Mo_type_33 : decode prog_13_method_5_code 33 = .ok (.putfield 109, 3) := by decide +kernel
theorem d_Mo_type_36 : decode prog_13_method_5_code 36 = .ok (.iconst 1, 1) := by decide +kernel
theorem d_Mo_type_37 : decode prog_13_method_5_code 37 = .ok (.ireturn, 1) := by decide +kernel
theorem M_Mo_type : lt_M0 m_Mo_type 1 := ⟨lt_m5 54 rfl rfl, lt_m1 13 rfl rfl, ⟨by decide +kernel, by decide +kernel, by decide +kernel⟩, by decide⟩
theorem in_Mo_type : Cond.instanceMethod m_Mo_type.1 ∈ lt_T := lt_m5 52 rfl rfl
theorem se_Mo_type : Cond.selects "LinearSearchModel" m_Mo_type.1 m_Mo_type.1 ∈ lt_T := lt_m5 53 rfl rfl
abbrev m_Mo_wipe : lt_M := (⟨"LinearSearchModel", "wipe", "()V"⟩, prog_13_method_6_code, 1, none)
theorem d_Mo_wipe_0 : decode prog_13_method_6_code 0 = .ok (.aload_n 0, 1) := by decide +kernel
theorem d_Mo_wipe_1 : decode prog_13_method_6_code 1 = .ok (.iconst 0, 1) := by decide +kernel
theorem d_Mo_wipe_2 : decode prog_13_method_6_code 2 = .ok (.putfield 102, 3) := by decide +kernel
theorem d_Mo_wipe_5 : decode prog_13_method_6_code 5 = .ok (.aload_n 0, 1) := by decide +kernel
theorem d_Mo_wipe_6 : decode prog_13_method_6_code 6 = .ok (.iconst 0, 1) := by decide +kernel
theorem d_Mo_wipe_7 : decode prog_13_method_6_code 7 = .ok (.putfield 109, 3) := by decide +kernel
theorem d_Mo_wipe_10 : decode prog_13_method_6_code 10 = .ok (.return_, 1) := by decide +kernel
theorem M_Mo_wipe : lt_M0 m_Mo_wipe 0 := ⟨lt_m5 58 rfl rfl, lt_m1 13 rfl rfl, ⟨by decide +kernel, by decide +kernel, by decide +kernel⟩, by decide⟩
theorem in_Mo_wipe : Cond.instanceMethod m_Mo_wipe.1 ∈ lt_T := lt_m5 56 rfl rfl
theorem se_Mo_wipe : Cond.selects "LinearSearchModel" m_Mo_wipe.1 m_Mo_wipe.1 ∈ lt_T := lt_m5 57 rfl rfl
abbrev m_Mo_compile : lt_M := (⟨"LinearSearchModel", "compile", "()I"⟩, prog_13_method_14_code, 2, (some .int))
theorem d_Mo_compile_0 : decode prog_13_method_14_code 0 = .ok (.aload_n 0, 1) := by decide +kernel
theorem d_Mo_compile_1 : decode prog_13_method_14_code 1 = .ok (.iconst 0, 1) := by decide +kernel
theorem d_Mo_compile_2 : decode prog_13_method_14_code 2 = .ok (.putfield 102, 3) := by decide +kernel
theorem d_Mo_compile_5 : decode prog_13_method_14_code 5 = .ok (.aload_n 0, 1) := by decide +kernel
theorem d_Mo_compile_6 : decode prog_13_method_14_code 6 = .ok (.invokevirtual 140, 3) := by decide +kernel
theorem d_Mo_compile_9 : decode prog_13_method_14_code 9 = .ok (.ifCond .ne 9, 3) := by decide +kernel
theorem d_Mo_compile_12 : decode prog_13_method_14_code 12 = .ok (.aload_n 0, 1) := by decide +kernel
theorem d_Mo_compile_13 : decode prog_13_method_14_code 13 = .ok (.iconst 1, 1) := by decide +kernel
theorem d_Mo_compile_14 : decode prog_13_method_14_code 14 = .ok (.invokevirtual 144, 3) := by decide +kernel
theorem d_Mo_compile_17 : decode prog_13_method_14_code 17 = .ok (.ireturn, 1) := by decide +kernel
theorem d_Mo_compile_18 : decode prog_13_method_14_code 18 = .ok (.aload_n 0, 1) := by decide +kernel
theorem d_Mo_compile_19 : decode prog_13_method_14_code 19 = .ok (.aload_n 0, 1) := by decide +kernel
theorem d_Mo_compile_20 : decode prog_13_method_14_code 20 = .ok (.getfield 115, 3) := by decide +kernel
theorem d_Mo_compile_23 : decode prog_13_method_14_code 23 = .ok (.putfield 148, 3) := by decide +kernel
theorem d_Mo_compile_26 : decode prog_13_method_14_code 26 = .ok (.iconst 0, 1) := by decide +kernel
theorem d_Mo_compile_27 : decode prog_13_method_14_code 27 = .ok (.istore_n 1, 1) := by decide +kernel
theorem d_Mo_compile_28 : decode prog_13_method_14_code 28 = .ok (.iload_n 1, 1) := by decide +kernel
theorem d_Mo_compile_29 : decode prog_13_method_14_code 29 = .ok (.aload_n 0, 1) := by decide +kernel
theorem d_Mo_compile_30 : decode prog_13_method_14_code 30 = .ok (.getfield 148, 3) := by decide +kernel
theorem d_Mo_compile_33 : decode prog_13_method_14_code 33 = .ok (.if_icmp .ge 45, 3) := by decide +kernel
theorem d_Mo_compile_36 : decode prog_13_method_14_code 36 = .ok (.aload_n 0, 1) := by decide +kernel
theorem d_Mo_compile_37 : decode prog_13_method_14_code 37 = .ok (.getfield 16, 3) := by decide +kernel
theorem d_Mo_compile_40 : decode prog_13_method_14_code 40 = .ok (.iload_n 1, 1) := by decide +kernel
theorem d_Mo_compile_41 : decode prog_13_method_14_code 41 = .ok (.aload_n 0, 1) := by decide +kernel
theorem d_Mo_compile_42 : decode prog_13_method_14_code 42 = .ok (.getfield 25, 3) := by decide +kernel
theorem d_Mo_compile_45 : decode prog_13_method_14_code 45 = .ok (.iload_n 1, 1) := by decide +kernel
theorem d_Mo_compile_46 : decode prog_13_method_14_code 46 = .ok (.iaload, 1) := by decide +kernel
theorem d_Mo_compile_47 : decode prog_13_method_14_code 47 = .ok (.iastore, 1) := by decide +kernel
theorem d_Mo_compile_48 : decode prog_13_method_14_code 48 = .ok (.aload_n 0, 1) := by decide +kernel
theorem d_Mo_compile_49 : decode prog_13_method_14_code 49 = .ok (.getfield 19, 3) := by decide +kernel
theorem d_Mo_compile_52 : decode prog_13_method_14_code 52 = .ok (.iload_n 1, 1) := by decide +kernel
theorem d_Mo_compile_53 : decode prog_13_method_14_code 53 = .ok (.aload_n 0, 1) := by decide +kernel
theorem d_Mo_compile_54 : decode prog_13_method_14_code 54 = .ok (.getfield 28, 3) := by decide +kernel
theorem d_Mo_compile_57 : decode prog_13_method_14_code 57 = .ok (.iload_n 1, 1) := by decide +kernel
theorem d_Mo_compile_58 : decode prog_13_method_14_code 58 = .ok (.iaload, 1) := by decide +kernel
theorem d_Mo_compile_59 : decode prog_13_method_14_code 59 = .ok (.iastore, 1) := by decide +kernel
theorem d_Mo_compile_60 : decode prog_13_method_14_code 60 = .ok (.aload_n 0, 1) := by decide +kernel
theorem d_Mo_compile_61 : decode prog_13_method_14_code 61 = .ok (.getfield 22, 3) := by decide +kernel
theorem d_Mo_compile_64 : decode prog_13_method_14_code 64 = .ok (.iload_n 1, 1) := by decide +kernel
theorem d_Mo_compile_65 : decode prog_13_method_14_code 65 = .ok (.aload_n 0, 1) := by decide +kernel
theorem d_Mo_compile_66 : decode prog_13_method_14_code 66 = .ok (.getfield 31, 3) := by decide +kernel
theorem d_Mo_compile_69 : decode prog_13_method_14_code 69 = .ok (.iload_n 1, 1) := by decide +kernel
theorem d_Mo_compile_70 : decode prog_13_method_14_code 70 = .ok (.iaload, 1) := by decide +kernel
theorem d_Mo_compile_71 : decode prog_13_method_14_code 71 = .ok (.iastore, 1) := by decide +kernel
theorem d_Mo_compile_72 : decode prog_13_method_14_code 72 = .ok (.iinc 1 1, 3) := by decide +kernel
theorem d_Mo_compile_75 : decode prog_13_method_14_code 75 = .ok (.goto (-47), 3) := by decide +kernel
theorem d_Mo_compile_78 : decode prog_13_method_14_code 78 = .ok (.aload_n 0, 1) := by decide +kernel
theorem d_Mo_compile_79 : decode prog_13_method_14_code 79 = .ok (.iconst 0, 1) := by decide +kernel
theorem d_Mo_compile_80 : decode prog_13_method_14_code 80 = .ok (.putfield 151, 3) := by decide +kernel
theorem d_Mo_compile_83 : decode prog_13_method_14_code 83 = .ok (.aload_n 0, 1) := by decide +kernel
theorem d_Mo_compile_84 : decode prog_13_method_14_code 84 = .ok (.iconst 0, 1) := by decide +kernel
theorem d_Mo_compile_85 : decode prog_13_method_14_code 85 = .ok (.putfield 154, 3) := by decide +kernel
theorem d_Mo_compile_88 : decode prog_13_method_14_code 88 = .ok (.aload_n 0, 1) := by decide +kernel
theorem d_Mo_compile_89 : decode prog_13_method_14_code 89 = .ok (.invokevirtual 157, 3) := by decide +kernel
theorem d_Mo_compile_92 : decode prog_13_method_14_code 92 = .ok (.aload_n 0, 1) := by decide +kernel
theorem d_Mo_compile_93 : decode prog_13_method_14_code 93 = .ok (.aload_n 0, 1) := by decide +kernel
theorem d_Mo_compile_94 : decode prog_13_method_14_code 94 = .ok (.getfield 16, 3) := by decide +kernel
theorem d_Mo_compile_97 : decode prog_13_method_14_code 97 = .ok (.iconst 0, 1) := by decide +kernel
theorem d_Mo_compile_98 : decode prog_13_method_14_code 98 = .ok (.iaload, 1) := by decide +kernel
theorem d_Mo_compile_99 : decode prog_13_method_14_code 99 = .ok (.iconst 5, 1) := by decide +kernel
theorem d_Mo_compile_100 : decode prog_13_method_14_code 100 = .ok (.if_icmp .ne 15, 3) := by decide +kernel
theorem d_Mo_compile_103 : decode prog_13_method_14_code 103 = .ok (.aload_n 0, 1) := by decide +kernel
theorem d_Mo_compile_104 : decode prog_13_method_14_code 104 = .ok (.iconst 0, 1) := by decide +kernel
theorem d_Mo_compile_105 : decode prog_13_method_14_code 105 = .ok (.invokevirtual 160, 3) := by decide +kernel
theorem d_Mo_compile_108 : decode prog_13_method_14_code 108 = .ok (.ifCond .eq 7, 3) := by decide +kernel
theorem d_Mo_compile_111 : decode prog_13_method_14_code 111 = .ok (.iconst 1, 1) := by decide +kernel
theorem d_Mo_compile_112 : decode prog_13_method_14_code 112 = .ok (.goto 4, 3) := by decide +kernel
theorem d_Mo_compile_115 : decode prog_13_method_14_code 115 = .ok (.iconst 0, 1) := by decide +kernel
theorem d_Mo_compile_116 : decode prog_13_method_14_code 116 = .ok (.putfield 163, 3) := by decide +kernel
theorem d_Mo_compile_119 : decode prog_13_method_14_code 119 = .ok (.iconst 0, 1) := by decide +kernel
theorem d_Mo_compile_120 : decode prog_13_method_14_code 120 = .ok (.istore_n 1, 1) := by decide +kernel
theorem d_Mo_compile_121 : decode prog_13_method_14_code 121 = .ok (.iload_n 1, 1) := by decide +kernel
theorem d_Mo_compile_122 : decode prog_13_method_14_code 122 = .ok (.aload_n 0, 1) := by decide +kernel
theorem d_Mo_compile_123 : decode prog_13_method_14_code 123 = .ok (.getfield 148, 3) := by decide +kernel
theorem d_Mo_compile_126 : decode prog_13_method_14_code 126 = .ok (.if_icmp .ge 45, 3) := by decide +kernel
theorem d_Mo_compile_129 : decode prog_13_method_14_code 129 = .ok (.aload_n 0, 1) := by decide +kernel
theorem d_Mo_compile_130 : decode prog_13_method_14_code 130 = .ok (.getfield 16, 3) := by decide +kernel
theorem d_Mo_compile_133 : decode prog_13_method_14_code 133 = .ok (.iload_n 1, 1) := by decide +kernel
theorem d_Mo_compile_134 : decode prog_13_method_14_code 134 = .ok (.iaload, 1) := by decide +kernel
theorem d_Mo_compile_135 : decode prog_13_method_14_code 135 = .ok (.iconst 1, 1) := by decide +kernel
theorem d_Mo_compile_136 : decode prog_13_method_14_code 136 = .ok (.if_icmp .gt 29, 3) := by decide +kernel
theorem d_Mo_compile_139 : decode prog_13_method_14_code 139 = .ok (.aload_n 0, 1) := by decide +kernel
theorem d_Mo_compile_140 : decode prog_13_method_14_code 140 = .ok (.aload_n 0, 1) := by decide +kernel
theorem d_Mo_compile_141 : decode prog_13_method_14_code 141 = .ok (.getfield 163, 3) := by decide +kernel
theorem d_Mo_compile_144 : decode prog_13_method_14_code 144 = .ok (.ifCond .eq 17, 3) := by decide +kernel
theorem d_Mo_compile_147 : decode prog_13_method_14_code 147 = .ok (.aload_n 0, 1) := by decide +kernel
theorem d_Mo_compile_148 : decode prog_13_method_14_code 148 = .ok (.iload_n 1, 1) := by decide +kernel
theorem d_Mo_compile_149 : decode prog_13_method_14_code 149 = .ok (.iconst 1, 1) := by decide +kernel
theorem d_Mo_compile_150 : decode prog_13_method_14_code 150 = .ok (.iadd, 1) := by decide +kernel
theorem d_Mo_compile_151 : decode prog_13_method_14_code 151 = .ok (.invokevirtual 160, 3) := by decide +kernel
theorem d_Mo_compile_154 : decode prog_13_method_14_code 154 = .ok (.ifCond .eq 7, 3) := by decide +kernel
theorem d_Mo_compile_157 : decode prog_13_method_14_code 157 = .ok (.iconst 1, 1) := by decide +kernel
theorem d_Mo_compile_158 : decode prog_13_method_14_code 158 = .ok (.goto 4, 3) := by decide +kernel
theorem d_Mo_compile_161 : decode prog_13_method_14_code 161 = .ok (.iconst 0, 1) := by decide +kernel
theorem d_Mo_compile_162 : decode prog_13_method_14_code 162 = .ok (.putfield 163, 3) := by decide +kernel
theorem d_Mo_compile_165 : decode prog_13_method_14_code 165 = .ok (.iinc 1 1, 3) := by decide +kernel
theorem d_Mo_compile_168 : decode prog_13_method_14_code 168 = .ok (.goto (-47), 3) := by decide +kernel
theorem d_Mo_compile_171 : decode prog_13_method_14_code 171 = .ok (.aload_n 0, 1) := by decide +kernel
theorem d_Mo_compile_172 : decode prog_13_method_14_code 172 = .ok (.getfield 148, 3) := by decide +kernel
theorem d_Mo_compile_175 : decode prog_13_method_14_code 175 = .ok (.ireturn, 1) := by decide +kernel
theorem M_Mo_compile : lt_M0 m_Mo_compile 0 := ⟨lt_m5 62 rfl rfl, lt_m1 13 rfl rfl, ⟨by decide +kernel, by decide +kernel, by decide +kernel⟩, by decide⟩
theorem in_Mo_compile : Cond.instanceMethod m_Mo_compile.1 ∈ lt_T := lt_m5 60 rfl rfl
theorem se_Mo_compile : Cond.selects "LinearSearchModel" m_Mo_compile.1 m_Mo_compile.1 ∈ lt_T := lt_m5 61 rfl rfl
abbrev m_Mo_read : lt_M := (⟨"LinearSearchModel", "read", "()Z"⟩, prog_13_method_13_code, 5, (some .boolean))
theorem d_Mo_read_0 : decode prog_13_method_13_code 0 = .ok (.aload_n 0, 1) := by decide +kernel
theorem d_Mo_read_1 : decode prog_13_method_13_code 1 = .ok (.iconst 0, 1) := by decide +kernel
theorem d_Mo_read_2 : decode prog_13_method_13_code 2 = .ok (.putfield 115, 3) := by decide +kernel
theorem d_Mo_read_5 : decode prog_13_method_13_code 5 = .ok (.aload_n 0, 1) := by decide +kernel
theorem d_Mo_read_6 : decode prog_13_method_13_code 6 = .ok (.iconst 0, 1) := by decide +kernel
theorem d_Mo_read_7 : decode prog_13_method_13_code 7 = .ok (.putfield 112, 3) := by decide +kernel
theorem d_Mo_read_10 : decode prog_13_method_13_code 10 = .ok (.iconst 0, 1) := by decide +kernel
theorem d_Mo_read_11 : decode prog_13_method_13_code 11 = .ok (.istore_n 1, 1) := by decide +kernel
theorem d_Mo_read_12 : decode prog_13_method_13_code 12 = .ok (.iconst 0, 1) := by decide +kernel
theorem d_Mo_read_13 : decode prog_13_method_13_code 13 = .ok (.istore_n 2, 1) := by decide +kernel
theorem d_Mo_read_14 : decode prog_13_method_13_code 14 = .ok (.aload_n 0, 1) := by decide +kernel
theorem d_Mo_read_15 : decode prog_13_method_13_code 15 = .ok (.getfield 87, 3) := by decide +kernel
theorem d_Mo_read_18 : decode prog_13_method_13_code 18 = .ok (.iconst 0, 1) := by decide +kernel
theorem d_Mo_read_19 : decode prog_13_method_13_code 19 = .ok (.iconst 0, 1) := by decide +kernel
theorem d_Mo_read_20 : decode prog_13_method_13_code 20 = .ok (.iastore, 1) := by decide +kernel
theorem d_Mo_read_21 : decode prog_13_method_13_code 21 = .ok (.aload_n 0, 1) := by decide +kernel
theorem d_Mo_read_22 : decode prog_13_method_13_code 22 = .ok (.getfield 112, 3) := by decide +kernel
theorem d_Mo_read_25 : decode prog_13_method_13_code 25 = .ok (.aload_n 0, 1) := by decide +kernel
theorem d_Mo_read_26 : decode prog_13_method_13_code 26 = .ok (.getfield 109, 3) := by decide +kernel
theorem d_Mo_read_29 : decode prog_13_method_13_code 29 = .ok (.if_icmp .ge 279, 3) := by decide +kernel
theorem d_Mo_read_32 : decode prog_13_method_13_code 32 = .ok (.aload_n 0, 1) := by decide +kernel
theorem d_Mo_read_33 : decode prog_13_method_13_code 33 = .ok (.getfield 7, 3) := by decide +kernel
theorem d_Mo_read_36 : decode prog_13_method_13_code 36 = .ok (.aload_n 0, 1) := by decide +kernel
theorem d_Mo_read_37 : decode prog_13_method_13_code 37 = .ok (.getfield 112, 3) := by decide +kernel
theorem d_Mo_read_40 : decode prog_13_method_13_code 40 = .ok (.iaload, 1) := by decide +kernel
theorem d_Mo_read_41 : decode prog_13_method_13_code 41 = .ok (.istore_n 3, 1) := by decide +kernel
theorem d_Mo_read_42 : decode prog_13_method_13_code 42 = .ok (.aload_n 0, 1) := by decide +kernel
theorem d_Mo_read_43 : decode prog_13_method_13_code 43 = .ok (.dup, 1) := by decide +kernel
theorem d_Mo_read_44 : decode prog_13_method_13_code 44 = .ok (.getfield 112, 3) := by decide +kernel
theorem d_Mo_read_47 : decode prog_13_method_13_code 47 = .ok (.iconst 1, 1) := by decide +kernel
theorem d_Mo_read_48 : decode prog_13_method_13_code 48 = .ok (.iadd, 1) := by decide +kernel
theorem d_Mo_read_49 : decode prog_13_method_13_code 49 = .ok (.putfield 112, 3) := by decide +kernel
theorem d_Mo_read_52 : decode prog_13_method_13_code 52 = .ok (.aload_n 0, 1) := by decide +kernel
theorem d_Mo_read_53 : decode prog_13_method_13_code 53 = .ok (.getfield 115, 3) := by decide +kernel
theorem d_Mo_read_56 : decode prog_13_method_13_code 56 = .ok (.istore 4, 2) := by decide +kernel
theorem d_Mo_read_58 : decode prog_13_method_13_code 58 = .ok (.iload_n 3, 1) := by decide +kernel
theorem d_Mo_read_59 : decode prog_13_method_13_code 59 = .ok (.bipush 124, 2) := by decide +kernel
theorem d_Mo_read_61 : decode prog_13_method_13_code 61 = .ok (.if_icmp .ne 50, 3) := by decide +kernel
theorem d_Mo_read_64 : decode prog_13_method_13_code 64 = .ok (.aload_n 0, 1) := by decide +kernel
theorem d_Mo_read_65 : decode prog_13_method_13_code 65 = .ok (.aload_n 0, 1) := by decide +kernel
theorem d_Mo_read_66 : decode prog_13_method_13_code 66 = .ok (.getfield 87, 3) := by decide +kernel
theorem d_Mo_read_69 : decode prog_13_method_13_code 69 = .ok (.iload_n 1, 1) := by decide +kernel
theorem d_Mo_read_70 : decode prog_13_method_13_code 70 = .ok (.iaload, 1) := by decide +kernel
theorem d_Mo_read_71 : decode prog_13_method_13_code 71 = .ok (.invokevirtual 126, 3) := by decide +kernel
theorem d_Mo_read_74 : decode prog_13_method_13_code 74 = .ok (.aload_n 0, 1) := by decide +kernel
theorem d_Mo_read_75 : decode prog_13_method_13_code 75 = .ok (.iconst 3, 1) := by decide +kernel
theorem d_Mo_read_76 : decode prog_13_method_13_code 76 = .ok (.iconst (-1), 1) := by decide +kernel
theorem d_Mo_read_77 : decode prog_13_method_13_code 77 = .ok (.iload_n 1, 1) := by decide +kernel
theorem d_Mo_read_78 : decode prog_13_method_13_code 78 = .ok (.isub, 1) := by decide +kernel
theorem d_Mo_read_79 : decode prog_13_method_13_code 79 = .ok (.iconst 0, 1) := by decide +kernel
theorem d_Mo_read_80 : decode prog_13_method_13_code 80 = .ok (.invokevirtual 122, 3) := by decide +kernel
theorem d_Mo_read_83 : decode prog_13_method_13_code 83 = .ok (.aload_n 0, 1) := by decide +kernel
theorem d_Mo_read_84 : decode prog_13_method_13_code 84 = .ok (.getfield 31, 3) := by decide +kernel
theorem d_Mo_read_87 : decode prog_13_method_13_code 87 = .ok (.aload_n 0, 1) := by decide +kernel
theorem d_Mo_read_88 : decode prog_13_method_13_code 88 = .ok (.getfield 87, 3) := by decide +kernel
theorem d_Mo_read_91 : decode prog_13_method_13_code 91 = .ok (.iload_n 1, 1) := by decide +kernel
theorem d_Mo_read_92 : decode prog_13_method_13_code 92 = .ok (.iaload, 1) := by decide +kernel
theorem d_Mo_read_93 : decode prog_13_method_13_code 93 = .ok (.aload_n 0, 1) := by decide +kernel
theorem d_Mo_read_94 : decode prog_13_method_13_code 94 = .ok (.getfield 115, 3) := by decide +kernel
theorem d_Mo_read_97 : decode prog_13_method_13_code 97 = .ok (.iastore, 1) := by decide +kernel
theorem d_Mo_read_98 : decode prog_13_method_13_code 98 = .ok (.aload_n 0, 1) := by decide +kernel
theorem d_Mo_read_99 : decode prog_13_method_13_code 99 = .ok (.getfield 87, 3) := by decide +kernel
theorem d_Mo_read_102 : decode prog_13_method_13_code 102 = .ok (.iload_n 1, 1) := by decide +kernel
theorem d_Mo_read_103 : decode prog_13_method_13_code 103 = .ok (.aload_n 0, 1) := by decide +kernel
theorem d_Mo_read_104 : decode prog_13_method_13_code 104 = .ok (.getfield 115, 3) := by decide +kernel
theorem d_Mo_read_107 : decode prog_13_method_13_code 107 = .ok (.iastore, 1) := by decide +kernel
theorem d_Mo_read_108 : decode prog_13_method_13_code 108 = .ok (.goto 197, 3) := by decide +kernel
theorem d_Mo_read_111 : decode prog_13_method_13_code 111 = .ok (.iload_n 3, 1) := by decide +kernel
theorem d_Mo_read_112 : decode prog_13_method_13_code 112 = .ok (.bipush 40, 2) := by decide +kernel
theorem d_Mo_read_114 : decode prog_13_method_13_code 114 = .ok (.if_icmp .ne 51, 3) := by decide +kernel
theorem d_Mo_read_117 : decode prog_13_method_13_code 117 = .ok (.iload_n 2, 1) := by decide +kernel
theorem d_Mo_read_118 : decode prog_13_method_13_code 118 = .ok (.iconst 3, 1) := by decide +kernel
theorem d_Mo_read_119 : decode prog_13_method_13_code 119 = .ok (.if_icmp .ge 46, 3) := by decide +kernel
theorem d_Mo_read_122 : decode prog_13_method_13_code 122 = .ok (.iinc 2 1, 3) := by decide +kernel
theorem d_Mo_read_125 : decode prog_13_method_13_code 125 = .ok (.aload_n 0, 1) := by decide +kernel
theorem d_Mo_read_126 : decode prog_13_method_13_code 126 = .ok (.iconst 4, 1) := by decide +kernel
theorem d_Mo_read_127 : decode prog_13_method_13_code 127 = .ok (.iconst 2, 1) := by decide +kernel
theorem d_Mo_read_128 : decode prog_13_method_13_code 128 = .ok (.iload_n 2, 1) := by decide +kernel
theorem d_Mo_read_129 : decode prog_13_method_13_code 129 = .ok (.imul, 1) := by decide +kernel
theorem d_Mo_read_130 : decode prog_13_method_13_code 130 = .ok (.iconst 0, 1) := by decide +kernel
theorem d_Mo_read_131 : decode prog_13_method_13_code 131 = .ok (.invokevirtual 122, 3) := by decide +kernel
theorem d_Mo_read_134 : decode prog_13_method_13_code 134 = .ok (.iinc 1 1, 3) := by decide +kernel
theorem d_Mo_read_137 : decode prog_13_method_13_code 137 = .ok (.aload_n 0, 1) := by decide +kernel
theorem d_Mo_read_138 : decode prog_13_method_13_code 138 = .ok (.getfield 90, 3) := by decide +kernel
theorem d_Mo_read_141 : decode prog_13_method_13_code 141 = .ok (.iload_n 1, 1) := by decide +kernel
theorem d_Mo_read_142 : decode prog_13_method_13_code 142 = .ok (.iload 4, 2) := by decide +kernel
theorem d_Mo_read_144 : decode prog_13_method_13_code 144 = .ok (.iastore, 1) := by decide +kernel
theorem d_Mo_read_145 : decode prog_13_method_13_code 145 = .ok (.aload_n 0, 1) := by decide +kernel
theorem d_Mo_read_146 : decode prog_13_method_13_code 146 = .ok (.getfield 93, 3) := by decide +kernel
theorem d_Mo_read_149 : decode prog_13_method_13_code 149 = .ok (.iload_n 1, 1) := by decide +kernel
theorem d_Mo_read_150 : decode prog_13_method_13_code 150 = .ok (.iload_n 2, 1) := by decide +kernel
theorem d_Mo_read_151 : decode prog_13_method_13_code 151 = .ok (.iastore, 1) := by decide +kernel
theorem d_Mo_read_152 : decode prog_13_method_13_code 152 = .ok (.aload_n 0, 1) := by decide +kernel
theorem d_Mo_read_153 : decode prog_13_method_13_code 153 = .ok (.getfield 87, 3) := by decide +kernel
theorem d_Mo_read_156 : decode prog_13_method_13_code 156 = .ok (.iload_n 1, 1) := by decide +kernel
theorem d_Mo_read_157 : decode prog_13_method_13_code 157 = .ok (.aload_n 0, 1) := by decide +kernel
theorem d_Mo_read_158 : decode prog_13_method_13_code 158 = .ok (.getfield 115, 3) := by decide +kernel
theorem d_Mo_read_161 : decode prog_13_method_13_code 161 = .ok (.iastore, 1) := by decide +kernel
theorem d_Mo_read_162 : decode prog_13_method_13_code 162 = .ok (.goto 143, 3) := by decide +kernel
theorem d_Mo_read_165 : decode prog_13_method_13_code 165 = .ok (.iload_n 3, 1) := by decide +kernel
theorem d_Mo_read_166 : decode prog_13_method_13_code 166 = .ok (.bipush 41, 2) := by decide +kernel
theorem d_Mo_read_168 : decode prog_13_method_13_code 168 = .ok (.if_icmp .ne 48, 3) := by decide +kernel
theorem d_Mo_read_171 : decode prog_13_method_13_code 171 = .ok (.iload_n 1, 1) := by decide +kernel
theorem d_Mo_read_172 : decode prog_13_method_13_code 172 = .ok (.ifCond .le 44, 3) := by decide +kernel
theorem d_Mo_read_175 : decode prog_13_method_13_code 175 = .ok (.aload_n 0, 1) := by decide +kernel
theorem d_Mo_read_176 : decode prog_13_method_13_code 176 = .ok (.iload_n 1, 1) := by decide +kernel
theorem d_Mo_read_177 : decode prog_13_method_13_code 177 = .ok (.invokevirtual 130, 3) := by decide +kernel
theorem d_Mo_read_180 : decode prog_13_method_13_code 180 = .ok (.aload_n 0, 1) := by decide +kernel
theorem d_Mo_read_181 : decode prog_13_method_13_code 181 = .ok (.iconst 4, 1) := by decide +kernel
theorem d_Mo_read_182 : decode prog_13_method_13_code 182 = .ok (.iconst 2, 1) := by decide +kernel
theorem d_Mo_read_183 : decode prog_13_method_13_code 183 = .ok (.aload_n 0, 1) := by decide +kernel
theorem d_Mo_read_184 : decode prog_13_method_13_code 184 = .ok (.getfield 93, 3) := by decide +kernel
theorem d_Mo_read_187 : decode prog_13_method_13_code 187 = .ok (.iload_n 1, 1) := by decide +kernel
theorem d_Mo_read_188 : decode prog_13_method_13_code 188 = .ok (.iaload, 1) := by decide +kernel
theorem d_Mo_read_189 : decode prog_13_method_13_code 189 = .ok (.imul, 1) := by decide +kernel
theorem d_Mo_read_190 : decode prog_13_method_13_code 190 = .ok (.iconst 1, 1) := by decide +kernel
theorem d_Mo_read_191 : decode prog_13_method_13_code 191 = .ok (.iadd, 1) := by decide +kernel
theorem d_Mo_read_192 : decode prog_13_method_13_code 192 = .ok (.iconst 0, 1) := by decide +kernel
theorem d_Mo_read_193 : decode prog_13_method_13_code 193 = .ok (.invokevirtual 122, 3) := by decide +kernel
theorem d_Mo_read_196 : decode prog_13_method_13_code 196 = .ok (.aload_n 0, 1) := by decide +kernel
theorem d_Mo_read_197 : decode prog_13_method_13_code 197 = .ok (.getfield 90, 3) := by decide +kernel
theorem d_Mo_read_200 : decode prog_13_method_13_code 200 = .ok (.iload_n 1, 1) := by decide +kernel
theorem d_Mo_read_201 : decode prog_13_method_13_code 201 = .ok (.iaload, 1) := by decide +kernel
theorem d_Mo_read_202 : decode prog_13_method_13_code 202 = .ok (.istore 4, 2) := by decide +kernel
theorem d_Mo_read_204 : decode prog_13_method_13_code 204 = .ok (.iinc 1 (-1), 3) := by decide +kernel
theorem d_Mo_read_207 : decode prog_13_method_13_code 207 = .ok (.aload_n 0, 1) := by decide +kernel
theorem d_Mo_read_208 : decode prog_13_method_13_code 208 = .ok (.iload 4, 2) := by decide +kernel
theorem d_Mo_read_210 : decode prog_13_method_13_code 210 = .ok (.invokevirtual 133, 3) := by decide +kernel
theorem d_Mo_read_213 : decode prog_13_method_13_code 213 = .ok (.goto 92, 3) := by decide +kernel
theorem d_Mo_read_216 : decode prog_13_method_13_code 216 = .ok (.iload_n 3, 1) := by decide +kernel
theorem d_Mo_read_217 : decode prog_13_method_13_code 217 = .ok (.invokestatic 136, 3) := by decide +kernel
theorem d_Mo_read_220 : decode prog_13_method_13_code 220 = .ok (.ifCond .ne 21, 3) := by decide +kernel
theorem d_Mo_read_223 : decode prog_13_method_13_code 223 = .ok (.iload_n 3, 1) := by decide +kernel
theorem d_Mo_read_224 : decode prog_13_method_13_code 224 = .ok (.bipush 46, 2) := by decide +kernel
theorem d_Mo_read_226 : decode prog_13_method_13_code 226 = .ok (.if_icmp .eq 15, 3) := by decide +kernel
theorem d_Mo_read_229 : decode prog_13_method_13_code 229 = .ok (.iload_n 3, 1) := by decide +kernel
theorem d_Mo_read_230 : decode prog_13_method_13_code 230 = .ok (.bipush 94, 2) := by decide +kernel
theorem d_Mo_read_232 : decode prog_13_method_13_code 232 = .ok (.if_icmp .eq 9, 3) := by decide +kernel
theorem d_Mo_read_235 : decode prog_13_method_13_code 235 = .ok (.iload_n 3, 1) := by decide +kernel
theorem d_Mo_read_236 : decode prog_13_method_13_code 236 = .ok (.bipush 36, 2) := by decide +kernel
theorem d_Mo_read_238 : decode prog_13_method_13_code 238 = .ok (.if_icmp .ne 65, 3) := by decide +kernel
theorem d_Mo_read_241 : decode prog_13_method_13_code 241 = .ok (.aload_n 0, 1) := by decide +kernel
theorem d_Mo_read_242 : decode prog_13_method_13_code 242 = .ok (.iload_n 3, 1) := by decide +kernel
theorem d_Mo_read_243 : decode prog_13_method_13_code 243 = .ok (.invokestatic 136, 3) := by decide +kernel
theorem d_Mo_read_246 : decode prog_13_method_13_code 246 = .ok (.ifCond .eq 7, 3) := by decide +kernel
theorem d_Mo_read_249 : decode prog_13_method_13_code 249 = .ok (.iconst 0, 1) := by decide +kernel
theorem d_Mo_read_250 : decode prog_13_method_13_code 250 = .ok (.goto 25, 3) := by decide +kernel
theorem d_Mo_read_253 : decode prog_13_method_13_code 253 = .ok (.iload_n 3, 1) := by decide +kernel
theorem d_Mo_read_254 : decode prog_13_method_13_code 254 = .ok (.bipush 46, 2) := by decide +kernel
theorem d_Mo_read_256 : decode prog_13_method_13_code 256 = .ok (.if_icmp .ne 7, 3) := by decide +kernel
theorem d_Mo_read_259 : decode prog_13_method_13_code 259 = .ok (.iconst 1, 1) := by decide +kernel
theorem d_Mo_read_260 : decode prog_13_method_13_code 260 = .ok (.goto 15, 3) := by decide +kernel
theorem d_Mo_read_263 : decode prog_13_method_13_code 263 = .ok (.iload_n 3, 1) := by decide +kernel
theorem d_Mo_read_264 : decode prog_13_method_13_code 264 = .ok (.bipush 94, 2) := by decide +kernel
theorem d_Mo_read_266 : decode prog_13_method_13_code 266 = .ok (.if_icmp .ne 7, 3) := by decide +kernel
theorem d_Mo_read_269 : decode prog_13_method_13_code 269 = .ok (.iconst 5, 1) := by decide +kernel
theorem d_Mo_read_270 : decode prog_13_method_13_code 270 = .ok (.goto 5, 3) := by decide +kernel
theorem d_Mo_read_273 : decode prog_13_method_13_code 273 = .ok (.bipush 6, 2) := by decide +kernel
theorem d_Mo_read_275 : decode prog_13_method_13_code 275 = .ok (.iload_n 3, 1) := by decide +kernel
theorem d_Mo_read_276 : decode prog_13_method_13_code 276 = .ok (.invokestatic 136, 3) := by decide +kernel
theorem d_Mo_read_279 : decode prog_13_method_13_code 279 = .ok (.ifCond .eq 10, 3) := by decide +kernel
theorem d_Mo_read_282 : decode prog_13_method_13_code 282 = .ok (.iload_n 3, 1) := by decide +kernel
theorem d_Mo_read_283 : decode prog_13_method_13_code 283 = .ok (.bipush 97, 2) := by decide +kernel
theorem d_Mo_read_285 : decode prog_13_method_13_code 285 = .ok (.isub, 1) := by decide +kernel
theorem d_Mo_read_286 : decode prog_13_method_13_code 286 = .ok (.goto 4, 3) := by decide +kernel
theorem d_Mo_read_289 : decode prog_13_method_13_code 289 = .ok (.iconst 0, 1) := by decide +kernel
theorem d_Mo_read_290 : decode prog_13_method_13_code 290 = .ok (.iconst 0, 1) := by decide +kernel
theorem d_Mo_read_291 : decode prog_13_method_13_code 291 = .ok (.invokevirtual 122, 3) := by decide +kernel
theorem d_Mo_read_294 : decode prog_13_method_13_code 294 = .ok (.aload_n 0, 1) := by decide +kernel
theorem d_Mo_read_295 : decode prog_13_method_13_code 295 = .ok (.iload 4, 2) := by decide +kernel
theorem d_Mo_read_297 : decode prog_13_method_13_code 297 = .ok (.invokevirtual 133, 3) := by decide +kernel
theorem d_Mo_read_300 : decode prog_13_method_13_code 300 = .ok (.goto 5, 3) := by decide +kernel
theorem d_Mo_read_303 : decode prog_13_method_13_code 303 = .ok (.iconst 0, 1) := by decide +kernel
theorem d_Mo_read_304 : decode prog_13_method_13_code 304 = .ok (.ireturn, 1) := by decide +kernel
theorem d_Mo_read_305 : decode prog_13_method_13_code 305 = .ok (.goto (-284), 3) := by decide +kernel
theorem d_Mo_read_308 : decode prog_13_method_13_code 308 = .ok (.aload_n 0, 1) := by decide +kernel
theorem d_Mo_read_309 : decode prog_13_method_13_code 309 = .ok (.iconst 0, 1) := by decide +kernel
theorem d_Mo_read_310 : decode prog_13_method_13_code 310 = .ok (.invokevirtual 130, 3) := by decide +kernel
theorem d_Mo_read_313 : decode prog_13_method_13_code 313 = .ok (.aload_n 0, 1) := by decide +kernel
theorem d_Mo_read_314 : decode prog_13_method_13_code 314 = .ok (.bipush 7, 2) := by decide +kernel
theorem d_Mo_read_316 : decode prog_13_method_13_code 316 = .ok (.iconst 0, 1) := by decide +kernel
theorem d_Mo_read_317 : decode prog_13_method_13_code 317 = .ok (.iconst 0, 1) := by decide +kernel
theorem d_Mo_read_318 : decode prog_13_method_13_code 318 = .ok (.invokevirtual 122, 3) := by decide +kernel
theorem d_Mo_read_321 : decode prog_13_method_13_code 321 = .ok (.iload_n 1, 1) := by decide +kernel
theorem d_Mo_read_322 : decode prog_13_method_13_code 322 = .ok (.ifCond .ne 7, 3) := by decide +kernel
theorem d_Mo_read_325 : decode prog_13_method_13_code 325 = .ok (.iconst 1, 1) := by decide +kernel
theorem d_Mo_read_326 : decode prog_13_method_13_code 326 = .ok (.goto 4, 3) := by decide +kernel
theorem d_Mo_read_329 : decode prog_13_method_13_code 329 = .ok (.iconst 0, 1) := by decide +kernel
theorem d_Mo_read_330 : decode prog_13_method_13_code 330 = .ok (.ireturn, 1) := by decide +kernel
theorem M_Mo_read : lt_M0 m_Mo_read 0 := ⟨lt_m5 66 rfl rfl, lt_m1 13 rfl rfl, ⟨by decide +kernel, by decide +kernel, by decide +kernel⟩, by decide⟩
theorem in_Mo_read : Cond.instanceMethod m_Mo_read.1 ∈ lt_T := lt_m5 65 rfl rfl
theorem se_Mo_read : Cond.selects "LinearSearchModel" m_Mo_read.1 m_Mo_read.1 ∈ lt_T := lt_memS 29 rfl rfl
abbrev m_Mo_push : lt_M := (⟨"LinearSearchModel", "push", "(I)V"⟩, prog_13_method_9_code, 4, none)
theorem d_Mo_push_0 : decode prog_13_method_9_code 0 = .ok (.aload_n 0, 1) := by decide +kernel
theorem d_Mo_push_1 : decode prog_13_method_9_code 1 = .ok (.getfield 115, 3) := by decide +kernel
theorem d_Mo_push_4 : decode prog_13_method_9_code 4 = .ok (.istore_n 2, 1) := by decide +kernel
theorem d_Mo_push_5 : decode prog_13_method_9_code 5 = .ok (.iload_n 2, 1) := by decide +kernel
theorem d_Mo_push_6 : decode prog_13_method_9_code 6 = .ok (.iload_n 1, 1) := by decide +kernel
theorem d_Mo_push_7 : decode prog_13_method_9_code 7 = .ok (.if_icmp .le 131, 3) := by decide +kernel
theorem d_Mo_push_10 : decode prog_13_method_9_code 10 = .ok (.aload_n 0, 1) := by decide +kernel
theorem d_Mo_push_11 : decode prog_13_method_9_code 11 = .ok (.getfield 25, 3) := by decide +kernel
theorem d_Mo_push_14 : decode prog_13_method_9_code 14 = .ok (.iload_n 2, 1) := by decide +kernel
theorem d_Mo_push_15 : decode prog_13_method_9_code 15 = .ok (.aload_n 0, 1) := by decide +kernel
theorem d_Mo_push_16 : decode prog_13_method_9_code 16 = .ok (.getfield 25, 3) := by decide +kernel
theorem d_Mo_push_19 : decode prog_13_method_9_code 19 = .ok (.iload_n 2, 1) := by decide +kernel
theorem d_Mo_push_20 : decode prog_13_method_9_code 20 = .ok (.iconst 1, 1) := by decide +kernel
theorem d_Mo_push_21 : decode prog_13_method_9_code 21 = .ok (.isub, 1) := by decide +kernel
theorem d_Mo_push_22 : decode prog_13_method_9_code 22 = .ok (.iaload, 1) := by decide +kernel
theorem d_Mo_push_23 : decode prog_13_method_9_code 23 = .ok (.iastore, 1) := by decide +kernel
theorem d_Mo_push_24 : decode prog_13_method_9_code 24 = .ok (.aload_n 0, 1) := by decide +kernel
theorem d_Mo_push_25 : decode prog_13_method_9_code 25 = .ok (.getfield 28, 3) := by decide +kernel
theorem d_Mo_push_28 : decode prog_13_method_9_code 28 = .ok (.iload_n 2, 1) := by decide +kernel
theorem d_Mo_push_29 : decode prog_13_method_9_code 29 = .ok (.aload_n 0, 1) := by decide +kernel
theorem d_Mo_push_30 : decode prog_13_method_9_code 30 = .ok (.getfield 28, 3) := by decide +kernel
theorem d_Mo_push_33 : decode prog_13_method_9_code 33 = .ok (.iload_n 2, 1) := by decide +kernel
theorem d_Mo_push_34 : decode prog_13_method_9_code 34 = .ok (.iconst 1, 1) := by decide +kernel
theorem d_Mo_push_35 : decode prog_13_method_9_code 35 = .ok (.isub, 1) := by decide +kernel
theorem d_Mo_push_36 : decode prog_13_method_9_code 36 = .ok (.iaload, 1) := by decide +kernel
theorem d_Mo_push_37 : decode prog_13_method_9_code 37 = .ok (.iastore, 1) := by decide +kernel
theorem d_Mo_push_38 : decode prog_13_method_9_code 38 = .ok (.aload_n 0, 1) := by decide +kernel
theorem d_Mo_push_39 : decode prog_13_method_9_code 39 = .ok (.getfield 31, 3) := by decide +kernel
theorem d_Mo_push_42 : decode prog_13_method_9_code 42 = .ok (.iload_n 2, 1) := by decide +kernel
theorem d_Mo_push_43 : decode prog_13_method_9_code 43 = .ok (.aload_n 0, 1) := by decide +kernel
theorem d_Mo_push_44 : decode prog_13_method_9_code 44 = .ok (.getfield 31, 3) := by decide +kernel
theorem d_Mo_push_47 : decode prog_13_method_9_code 47 = .ok (.iload_n 2, 1) := by decide +kernel
theorem d_Mo_push_48 : decode prog_13_method_9_code 48 = .ok (.iconst 1, 1) := by decide +kernel
theorem d_Mo_push_49 : decode prog_13_method_9_code 49 = .ok (.isub, 1) := by decide +kernel
theorem d_Mo_push_50 : decode prog_13_method_9_code 50 = .ok (.iaload, 1) := by decide +kernel
theorem d_Mo_push_51 : decode prog_13_method_9_code 51 = .ok (.iastore, 1) := by decide +kernel
theorem d_Mo_push_52 : decode prog_13_method_9_code 52 = .ok (.aload_n 0, 1) := by decide +kernel
theorem d_Mo_push_53 : decode prog_13_method_9_code 53 = .ok (.getfield 25, 3) := by decide +kernel
theorem d_Mo_push_56 : decode prog_13_method_9_code 56 = .ok (.iload_n 2, 1) := by decide +kernel
theorem d_Mo_push_57 : decode prog_13_method_9_code 57 = .ok (.iaload, 1) := by decide +kernel
theorem d_Mo_push_58 : decode prog_13_method_9_code 58 = .ok (.iconst 2, 1) := by decide +kernel
theorem d_Mo_push_59 : decode prog_13_method_9_code 59 = .ok (.if_icmp .eq 13, 3) := by decide +kernel
theorem d_Mo_push_62 : decode prog_13_method_9_code 62 = .ok (.aload_n 0, 1) := by decide +kernel
theorem d_Mo_push_63 : decode prog_13_method_9_code 63 = .ok (.getfield 25, 3) := by decide +kernel
theorem d_Mo_push_66 : decode prog_13_method_9_code 66 = .ok (.iload_n 2, 1) := by decide +kernel
theorem d_Mo_push_67 : decode prog_13_method_9_code 67 = .ok (.iaload, 1) := by decide +kernel
theorem d_Mo_push_68 : decode prog_13_method_9_code 68 = .ok (.iconst 3, 1) := by decide +kernel
theorem d_Mo_push_69 : decode prog_13_method_9_code 69 = .ok (.if_icmp .ne 7, 3) := by decide +kernel
theorem d_Mo_push_72 : decode prog_13_method_9_code 72 = .ok (.iconst 1, 1) := by decide +kernel
theorem d_Mo_push_73 : decode prog_13_method_9_code 73 = .ok (.goto 4, 3) := by decide +kernel
theorem d_Mo_push_76 : decode prog_13_method_9_code 76 = .ok (.iconst 0, 1) := by decide +kernel
theorem d_Mo_push_77 : decode prog_13_method_9_code 77 = .ok (.istore_n 3, 1) := by decide +kernel
theorem d_Mo_push_78 : decode prog_13_method_9_code 78 = .ok (.iload_n 3, 1) := by decide +kernel
theorem d_Mo_push_79 : decode prog_13_method_9_code 79 = .ok (.ifCond .eq 23, 3) := by decide +kernel
theorem d_Mo_push_82 : decode prog_13_method_9_code 82 = .ok (.aload_n 0, 1) := by decide +kernel
theorem d_Mo_push_83 : decode prog_13_method_9_code 83 = .ok (.getfield 28, 3) := by decide +kernel
theorem d_Mo_push_86 : decode prog_13_method_9_code 86 = .ok (.iload_n 2, 1) := by decide +kernel
theorem d_Mo_push_87 : decode prog_13_method_9_code 87 = .ok (.iaload, 1) := by decide +kernel
theorem d_Mo_push_88 : decode prog_13_method_9_code 88 = .ok (.iload_n 1, 1) := by decide +kernel
theorem d_Mo_push_89 : decode prog_13_method_9_code 89 = .ok (.if_icmp .lt 13, 3) := by decide +kernel
theorem d_Mo_push_92 : decode prog_13_method_9_code 92 = .ok (.aload_n 0, 1) := by decide +kernel
theorem d_Mo_push_93 : decode prog_13_method_9_code 93 = .ok (.getfield 28, 3) := by decide +kernel
theorem d_Mo_push_96 : decode prog_13_method_9_code 96 = .ok (.iload_n 2, 1) := by decide +kernel
theorem d_Mo_push_97 : decode prog_13_method_9_code 97 = .ok (.dup2, 1) := by decide +kernel
theorem d_Mo_push_98 : decode prog_13_method_9_code 98 = .ok (.iaload, 1) := by decide +kernel
theorem d_Mo_push_99 : decode prog_13_method_9_code 99 = .ok (.iconst 1, 1) := by decide +kernel
theorem d_Mo_push_100 : decode prog_13_method_9_code 100 = .ok (.iadd, 1) := by decide +kernel
theorem d_Mo_push_101 : decode prog_13_method_9_code 101 = .ok (.iastore, 1) := by decide +kernel
theorem d_Mo_push_102 : decode prog_13_method_9_code 102 = .ok (.aload_n 0, 1) := by decide +kernel
theorem d_Mo_push_103 : decode prog_13_method_9_code 103 = .ok (.getfield 25, 3) := by decide +kernel
theorem d_Mo_push_106 : decode prog_13_method_9_code 106 = .ok (.iload_n 2, 1) := by decide +kernel
theorem d_Mo_push_107 : decode prog_13_method_9_code 107 = .ok (.iaload, 1) := by decide +kernel
theorem d_Mo_push_108 : decode prog_13_method_9_code 108 = .ok (.iconst 2, 1) := by decide +kernel
theorem d_Mo_push_109 : decode prog_13_method_9_code 109 = .ok (.if_icmp .ne 23, 3) := by decide +kernel
theorem d_Mo_push_112 : decode prog_13_method_9_code 112 = .ok (.aload_n 0, 1) := by decide +kernel
theorem d_Mo_push_113 : decode prog_13_method_9_code 113 = .ok (.getfield 31, 3) := by decide +kernel
theorem d_Mo_push_116 : decode prog_13_method_9_code 116 = .ok (.iload_n 2, 1) := by decide +kernel
theorem d_Mo_push_117 : decode prog_13_method_9_code 117 = .ok (.iaload, 1) := by decide +kernel
theorem d_Mo_push_118 : decode prog_13_method_9_code 118 = .ok (.iload_n 1, 1) := by decide +kernel
theorem d_Mo_push_119 : decode prog_13_method_9_code 119 = .ok (.if_icmp .lt 13, 3) := by decide +kernel
theorem d_Mo_push_122 : decode prog_13_method_9_code 122 = .ok (.aload_n 0, 1) := by decide +kernel
theorem d_Mo_push_123 : decode prog_13_method_9_code 123 = .ok (.getfield 31, 3) := by decide +kernel
theorem d_Mo_push_126 : decode prog_13_method_9_code 126 = .ok (.iload_n 2, 1) := by decide +kernel
theorem d_Mo_push_127 : decode prog_13_method_9_code 127 = .ok (.dup2, 1) := by decide +kernel
theorem d_Mo_push_128 : decode prog_13_method_9_code 128 = .ok (.iaload, 1) := by decide +kernel
theorem d_Mo_push_129 : decode prog_13_method_9_code 129 = .ok (.iconst 1, 1) := by decide +kernel
theorem d_Mo_push_130 : decode prog_13_method_9_code 130 = .ok (.iadd, 1) := by decide +kernel
theorem d_Mo_push_131 : decode prog_13_method_9_code 131 = .ok (.iastore, 1) := by decide +kernel
theorem d_Mo_push_132 : decode prog_13_method_9_code 132 = .ok (.iinc 2 (-1), 3) := by decide +kernel
theorem d_Mo_push_135 : decode prog_13_method_9_code 135 = .ok (.goto (-130), 3) := by decide +kernel
theorem d_Mo_push_138 : decode prog_13_method_9_code 138 = .ok (.aload_n 0, 1) := by decide +kernel
theorem d_Mo_push_139 : decode prog_13_method_9_code 139 = .ok (.dup, 1) := by decide +kernel
theorem d_Mo_push_140 : decode prog_13_method_9_code 140 = .ok (.getfield 115, 3) := by decide +kernel
theorem d_Mo_push_143 : decode prog_13_method_9_code 143 = .ok (.iconst 1, 1) := by decide +kernel
theorem d_Mo_push_144 : decode prog_13_method_9_code 144 = .ok (.iadd, 1) := by decide +kernel
theorem d_Mo_push_145 : decode prog_13_method_9_code 145 = .ok (.putfield 115, 3) := by decide +kernel
theorem d_Mo_push_148 : decode prog_13_method_9_code 148 = .ok (.aload_n 0, 1) := by decide +kernel
theorem d_Mo_push_149 : decode prog_13_method_9_code 149 = .ok (.getfield 25, 3) := by decide +kernel
theorem d_Mo_push_152 : decode prog_13_method_9_code 152 = .ok (.iload_n 1, 1) := by decide +kernel
theorem d_Mo_push_153 : decode prog_13_method_9_code 153 = .ok (.iconst 2, 1) := by decide +kernel
theorem d_Mo_push_154 : decode prog_13_method_9_code 154 = .ok (.iastore, 1) := by decide +kernel
theorem d_Mo_push_155 : decode prog_13_method_9_code 155 = .ok (.aload_n 0, 1) := by decide +kernel
theorem d_Mo_push_156 : decode prog_13_method_9_code 156 = .ok (.getfield 28, 3) := by decide +kernel
theorem d_Mo_push_159 : decode prog_13_method_9_code 159 = .ok (.iload_n 1, 1) := by decide +kernel
theorem d_Mo_push_160 : decode prog_13_method_9_code 160 = .ok (.iload_n 1, 1) := by decide +kernel
theorem d_Mo_push_161 : decode prog_13_method_9_code 161 = .ok (.iconst 1, 1) := by decide +kernel
theorem d_Mo_push_162 : decode prog_13_method_9_code 162 = .ok (.iadd, 1) := by decide +kernel
theorem d_Mo_push_163 : decode prog_13_method_9_code 163 = .ok (.iastore, 1) := by decide +kernel
theorem d_Mo_push_164 : decode prog_13_method_9_code 164 = .ok (.aload_n 0, 1) := by decide +kernel
theorem d_Mo_push_165 : decode prog_13_method_9_code 165 = .ok (.getfield 31, 3) := by decide +kernel
theorem d_Mo_push_168 : decode prog_13_method_9_code 168 = .ok (.iload_n 1, 1) := by decide +kernel
theorem d_Mo_push_169 : decode prog_13_method_9_code 169 = .ok (.iconst 0, 1) := by decide +kernel
theorem d_Mo_push_170 : decode prog_13_method_9_code 170 = .ok (.iastore, 1) := by decide +kernel
theorem d_Mo_push_171 : decode prog_13_method_9_code 171 = .ok (.return_, 1) := by decide +kernel
theorem M_Mo_push : lt_M0 m_Mo_push 1 := ⟨lt_m5 70 rfl rfl, lt_m1 13 rfl rfl, ⟨by decide +kernel, by decide +kernel, by decide +kernel⟩, by decide⟩
theorem in_Mo_push : Cond.instanceMethod m_Mo_push.1 ∈ lt_T := lt_m5 69 rfl rfl
theorem se_Mo_push : Cond.selects "LinearSearchModel" m_Mo_push.1 m_Mo_push.1 ∈ lt_T := lt_memS 30 rfl rfl
abbrev m_Mo_emit : lt_M := (⟨"LinearSearchModel", "emit", "(III)V"⟩, prog_13_method_8_code, 4, none)
theorem d_Mo_emit_0 : decode prog_13_method_8_code 0 = .ok (.aload_n 0, 1) := by decide +kernel
theorem d_Mo_emit_1 : decode prog_13_method_8_code 1 = .ok (.getfield 25, 3) := by decide +kernel
theorem d_Mo_emit_4 : decode prog_13_method_8_code 4 = .ok (.aload_n 0, 1) := by decide +kernel
theorem d_Mo_emit_5 : decode prog_13_method_8_code 5 = .ok (.getfield 115, 3) := by decide +kernel
theorem d_Mo_emit_8 : decode prog_13_method_8_code 8 = .ok (.iload_n 1, 1) := by decide +kernel
theorem d_Mo_emit_9 : decode prog_13_method_8_code 9 = .ok (.iastore, 1) := by decide +kernel
theorem d_Mo_emit_10 : decode prog_13_method_8_code 10 = .ok (.aload_n 0, 1) := by decide +kernel
theorem d_Mo_emit_11 : decode prog_13_method_8_code 11 = .ok (.getfield 28, 3) := by decide +kernel
theorem d_Mo_emit_14 : decode prog_13_method_8_code 14 = .ok (.aload_n 0, 1) := by decide +kernel
theorem d_Mo_emit_15 : decode prog_13_method_8_code 15 = .ok (.getfield 115, 3) := by decide +kernel
theorem d_Mo_emit_18 : decode prog_13_method_8_code 18 = .ok (.iload_n 2, 1) := by decide +kernel
theorem d_Mo_emit_19 : decode prog_13_method_8_code 19 = .ok (.iastore, 1) := by decide +kernel
theorem d_Mo_emit_20 : decode prog_13_method_8_code 20 = .ok (.aload_n 0, 1) := by decide +kernel
theorem d_Mo_emit_21 : decode prog_13_method_8_code 21 = .ok (.getfield 31, 3) := by decide +kernel
theorem d_Mo_emit_24 : decode prog_13_method_8_code 24 = .ok (.aload_n 0, 1) := by decide +kernel
theorem d_Mo_emit_25 : decode prog_13_method_8_code 25 = .ok (.getfield 115, 3) := by decide +kernel
theorem d_Mo_emit_28 : decode prog_13_method_8_code 28 = .ok (.iload_n 3, 1) := by decide +kernel
theorem d_Mo_emit_29 : decode prog_13_method_8_code 29 = .ok (.iastore, 1) := by decide +kernel
theorem d_Mo_emit_30 : decode prog_13_method_8_code 30 = .ok (.aload_n 0, 1) := by decide +kernel
theorem d_Mo_emit_31 : decode prog_13_method_8_code 31 = .ok (.dup, 1) := by decide +kernel
theorem d_Mo_emit_32 : decode prog_13_method_8_code 32 = .ok (.getfield 115, 3) := by decide +kernel
theorem d_Mo_emit_35 : decode prog_13_method_8_code 35 = .ok (.iconst 1, 1) := by decide +kernel
theorem d_Mo_emit_36 : decode prog_13_method_8_code 36 = .ok (.iadd, 1) := by decide +kernel
theorem d_Mo_emit_37 : decode prog_13_method_8_code 37 = .ok (.putfield 115, 3) := by decide +kernel
theorem d_Mo_emit_40 : decode prog_13_method_8_code 40 = .ok (.return_, 1) := by decide +kernel
theorem M_Mo_emit : lt_M0 m_Mo_emit 3 := ⟨lt_m5 74 rfl rfl, lt_m1 13 rfl rfl, ⟨by decide +kernel, by decide +kernel, by decide +kernel⟩, by decide⟩
theorem in_Mo_emit : Cond.instanceMethod m_Mo_emit.1 ∈ lt_T := lt_m5 73 rfl rfl
theorem se_Mo_emit : Cond.selects "LinearSearchModel" m_Mo_emit.1 m_Mo_emit.1 ∈ lt_T := lt_memS 31 rfl rfl
abbrev m_Mo_land : lt_M := (⟨"LinearSearchModel", "land", "(I)V"⟩, prog_13_method_10_code, 3, none)
theorem d_Mo_land_0 : decode prog_13_method_10_code 0 = .ok (.iconst 0, 1) := by decide +kernel
theorem d_Mo_land_1 : decode prog_13_method_10_code 1 = .ok (.istore_n 2, 1) := by decide +kernel
theorem d_Mo_land_2 : decode prog_13_method_10_code 2 = .ok (.iload_n 2, 1) := by decide +kernel
theorem d_Mo_land_3 : decode prog_13_method_10_code 3 = .ok (.aload_n 0, 1) := by decide +kernel
theorem d_Mo_land_4 : decode prog_13_method_10_code 4 = .ok (.getfield 115, 3) := by decide +kernel
theorem d_Mo_land_7 : decode prog_13_method_10_code 7 = .ok (.if_icmp .ge 41, 3) := by decide +kernel
theorem d_Mo_land_10 : decode prog_13_method_10_code 10 = .ok (.aload_n 0, 1) := by decide +kernel
theorem d_Mo_land_11 : decode prog_13_method_10_code 11 = .ok (.getfield 25, 3) := by decide +kernel
theorem d_Mo_land_14 : decode prog_13_method_10_code 14 = .ok (.iload_n 2, 1) := by decide +kernel
theorem d_Mo_land_15 : decode prog_13_method_10_code 15 = .ok (.iaload, 1) := by decide +kernel
theorem d_Mo_land_16 : decode prog_13_method_10_code 16 = .ok (.iconst 3, 1) := by decide +kernel
theorem d_Mo_land_17 : decode prog_13_method_10_code 17 = .ok (.if_icmp .ne 25, 3) := by decide +kernel
theorem d_Mo_land_20 : decode prog_13_method_10_code 20 = .ok (.aload_n 0, 1) := by decide +kernel
theorem d_Mo_land_21 : decode prog_13_method_10_code 21 = .ok (.getfield 28, 3) := by decide +kernel
theorem d_Mo_land_24 : decode prog_13_method_10_code 24 = .ok (.iload_n 2, 1) := by decide +kernel
theorem d_Mo_land_25 : decode prog_13_method_10_code 25 = .ok (.iaload, 1) := by decide +kernel
theorem d_Mo_land_26 : decode prog_13_method_10_code 26 = .ok (.iconst (-1), 1) := by decide +kernel
theorem d_Mo_land_27 : decode prog_13_method_10_code 27 = .ok (.iload_n 1, 1) := by decide +kernel
theorem d_Mo_land_28 : decode prog_13_method_10_code 28 = .ok (.isub, 1) := by decide +kernel
theorem d_Mo_land_29 : decode prog_13_method_10_code 29 = .ok (.if_icmp .ne 13, 3) := by decide +kernel
theorem d_Mo_land_32 : decode prog_13_method_10_code 32 = .ok (.aload_n 0, 1) := by decide +kernel
theorem d_Mo_land_33 : decode prog_13_method_10_code 33 = .ok (.getfield 28, 3) := by decide +kernel
theorem d_Mo_land_36 : decode prog_13_method_10_code 36 = .ok (.iload_n 2, 1) := by decide +kernel
theorem d_Mo_land_37 : decode prog_13_method_10_code 37 = .ok (.aload_n 0, 1) := by decide +kernel
theorem d_Mo_land_38 : decode prog_13_method_10_code 38 = .ok (.getfield 115, 3) := by decide +kernel
theorem d_Mo_land_41 : decode prog_13_method_10_code 41 = .ok (.iastore, 1) := by decide +kernel
theorem d_Mo_land_42 : decode prog_13_method_10_code 42 = .ok (.iinc 2 1, 3) := by decide +kernel
theorem d_Mo_land_45 : decode prog_13_method_10_code 45 = .ok (.goto (-43), 3) := by decide +kernel
theorem d_Mo_land_48 : decode prog_13_method_10_code 48 = .ok (.return_, 1) := by decide +kernel
theorem M_Mo_land : lt_M0 m_Mo_land 1 := ⟨lt_m5 78 rfl rfl, lt_m1 13 rfl rfl, ⟨by decide +kernel, by decide +kernel, by decide +kernel⟩, by decide⟩
theorem in_Mo_land : Cond.instanceMethod m_Mo_land.1 ∈ lt_T := lt_m5 77 rfl rfl
theorem se_Mo_land : Cond.selects "LinearSearchModel" m_Mo_land.1 m_Mo_land.1 ∈ lt_T := lt_memS 32 rfl rfl
abbrev m_Mo_sign : lt_M := (⟨"LinearSearchModel", "sign", "(I)V"⟩, prog_13_method_11_code, 5, none)
theorem d_Mo_sign_0 : decode prog_13_method_11_code 0 = .ok (.aload_n 0, 1) := by decide +kernel
theorem d_Mo_sign_1 : decode prog_13_method_11_code 1 = .ok (.invokevirtual 118, 3) := by decide +kernel
theorem d_Mo_sign_4 : decode prog_13_method_11_code 4 = .ok (.istore_n 2, 1) := by decide +kernel
theorem d_Mo_sign_5 : decode prog_13_method_11_code 5 = .ok (.iload_n 2, 1) := by decide +kernel
theorem d_Mo_sign_6 : decode prog_13_method_11_code 6 = .ok (.bipush 63, 2) := by decide +kernel
theorem d_Mo_sign_8 : decode prog_13_method_11_code 8 = .ok (.if_icmp .eq 16, 3) := by decide +kernel
theorem d_Mo_sign_11 : decode prog_13_method_11_code 11 = .ok (.iload_n 2, 1) := by decide +kernel
theorem d_Mo_sign_12 : decode prog_13_method_11_code 12 = .ok (.bipush 42, 2) := by decide +kernel
theorem d_Mo_sign_14 : decode prog_13_method_11_code 14 = .ok (.if_icmp .eq 10, 3) := by decide +kernel
theorem d_Mo_sign_17 : decode prog_13_method_11_code 17 = .ok (.iload_n 2, 1) := by decide +kernel
theorem d_Mo_sign_18 : decode prog_13_method_11_code 18 = .ok (.bipush 43, 2) := by decide +kernel
theorem d_Mo_sign_20 : decode prog_13_method_11_code 20 = .ok (.if_icmp .eq 4, 3) := by decide +kernel
theorem d_Mo_sign_23 : decode prog_13_method_11_code 23 = .ok (.return_, 1) := by decide +kernel
theorem d_Mo_sign_24 : decode prog_13_method_11_code 24 = .ok (.aload_n 0, 1) := by decide +kernel
theorem d_Mo_sign_25 : decode prog_13_method_11_code 25 = .ok (.dup, 1) := by decide +kernel
theorem d_Mo_sign_26 : decode prog_13_method_11_code 26 = .ok (.getfield 112, 3) := by decide +kernel
theorem d_Mo_sign_29 : decode prog_13_method_11_code 29 = .ok (.iconst 1, 1) := by decide +kernel
theorem d_Mo_sign_30 : decode prog_13_method_11_code 30 = .ok (.iadd, 1) := by decide +kernel
theorem d_Mo_sign_31 : decode prog_13_method_11_code 31 = .ok (.putfield 112, 3) := by decide +kernel
theorem d_Mo_sign_34 : decode prog_13_method_11_code 34 = .ok (.iload_n 1, 1) := by decide +kernel
theorem d_Mo_sign_35 : decode prog_13_method_11_code 35 = .ok (.istore_n 3, 1) := by decide +kernel
theorem d_Mo_sign_36 : decode prog_13_method_11_code 36 = .ok (.iload_n 2, 1) := by decide +kernel
theorem d_Mo_sign_37 : decode prog_13_method_11_code 37 = .ok (.bipush 43, 2) := by decide +kernel
theorem d_Mo_sign_39 : decode prog_13_method_11_code 39 = .ok (.if_icmp .ne 23, 3) := by decide +kernel
theorem d_Mo_sign_42 : decode prog_13_method_11_code 42 = .ok (.aload_n 0, 1) := by decide +kernel
theorem d_Mo_sign_43 : decode prog_13_method_11_code 43 = .ok (.getfield 115, 3) := by decide +kernel
theorem d_Mo_sign_46 : decode prog_13_method_11_code 46 = .ok (.istore_n 3, 1) := by decide +kernel
theorem d_Mo_sign_47 : decode prog_13_method_11_code 47 = .ok (.aload_n 0, 1) := by decide +kernel
theorem d_Mo_sign_48 : decode prog_13_method_11_code 48 = .ok (.iconst 2, 1) := by decide +kernel
theorem d_Mo_sign_49 : decode prog_13_method_11_code 49 = .ok (.iload_n 1, 1) := by decide +kernel
theorem d_Mo_sign_50 : decode prog_13_method_11_code 50 = .ok (.aload_n 0, 1) := by decide +kernel
theorem d_Mo_sign_51 : decode prog_13_method_11_code 51 = .ok (.getfield 115, 3) := by decide +kernel
theorem d_Mo_sign_54 : decode prog_13_method_11_code 54 = .ok (.iconst 1, 1) := by decide +kernel
theorem d_Mo_sign_55 : decode prog_13_method_11_code 55 = .ok (.iadd, 1) := by decide +kernel
theorem d_Mo_sign_56 : decode prog_13_method_11_code 56 = .ok (.invokevirtual 122, 3) := by decide +kernel
theorem d_Mo_sign_59 : decode prog_13_method_11_code 59 = .ok (.goto 31, 3) := by decide +kernel
theorem d_Mo_sign_62 : decode prog_13_method_11_code 62 = .ok (.aload_n 0, 1) := by decide +kernel
theorem d_Mo_sign_63 : decode prog_13_method_11_code 63 = .ok (.iload_n 1, 1) := by decide +kernel
theorem d_Mo_sign_64 : decode prog_13_method_11_code 64 = .ok (.invokevirtual 126, 3) := by decide +kernel
theorem d_Mo_sign_67 : decode prog_13_method_11_code 67 = .ok (.iload_n 2, 1) := by decide +kernel
theorem d_Mo_sign_68 : decode prog_13_method_11_code 68 = .ok (.bipush 42, 2) := by decide +kernel
theorem d_Mo_sign_70 : decode prog_13_method_11_code 70 = .ok (.if_icmp .ne 10, 3) := by decide +kernel
theorem d_Mo_sign_73 : decode prog_13_method_11_code 73 = .ok (.aload_n 0, 1) := by decide +kernel
theorem d_Mo_sign_74 : decode prog_13_method_11_code 74 = .ok (.iconst 3, 1) := by decide +kernel
theorem d_Mo_sign_75 : decode prog_13_method_11_code 75 = .ok (.iload_n 1, 1) := by decide +kernel
theorem d_Mo_sign_76 : decode prog_13_method_11_code 76 = .ok (.iconst 0, 1) := by decide +kernel
theorem d_Mo_sign_77 : decode prog_13_method_11_code 77 = .ok (.invokevirtual 122, 3) := by decide +kernel
theorem d_Mo_sign_80 : decode prog_13_method_11_code 80 = .ok (.aload_n 0, 1) := by decide +kernel
theorem d_Mo_sign_81 : decode prog_13_method_11_code 81 = .ok (.getfield 31, 3) := by decide +kernel
theorem d_Mo_sign_84 : decode prog_13_method_11_code 84 = .ok (.iload_n 1, 1) := by decide +kernel
theorem d_Mo_sign_85 : decode prog_13_method_11_code 85 = .ok (.aload_n 0, 1) := by decide +kernel
theorem d_Mo_sign_86 : decode prog_13_method_11_code 86 = .ok (.getfield 115, 3) := by decide +kernel
theorem d_Mo_sign_89 : decode prog_13_method_11_code 89 = .ok (.iastore, 1) := by decide +kernel
theorem d_Mo_sign_90 : decode prog_13_method_11_code 90 = .ok (.aload_n 0, 1) := by decide +kernel
theorem d_Mo_sign_91 : decode prog_13_method_11_code 91 = .ok (.invokevirtual 118, 3) := by decide +kernel
theorem d_Mo_sign_94 : decode prog_13_method_11_code 94 = .ok (.bipush 63, 2) := by decide +kernel
theorem d_Mo_sign_96 : decode prog_13_method_11_code 96 = .ok (.if_icmp .eq 4, 3) := by decide +kernel
theorem d_Mo_sign_99 : decode prog_13_method_11_code 99 = .ok (.return_, 1) := by decide +kernel
theorem d_Mo_sign_100 : decode prog_13_method_11_code 100 = .ok (.aload_n 0, 1) := by decide +kernel
theorem d_Mo_sign_101 : decode prog_13_method_11_code 101 = .ok (.dup, 1) := by decide +kernel
theorem d_Mo_sign_102 : decode prog_13_method_11_code 102 = .ok (.getfield 112, 3) := by decide +kernel
theorem d_Mo_sign_105 : decode prog_13_method_11_code 105 = .ok (.iconst 1, 1) := by decide +kernel
theorem d_Mo_sign_106 : decode prog_13_method_11_code 106 = .ok (.iadd, 1) := by decide +kernel
theorem d_Mo_sign_107 : decode prog_13_method_11_code 107 = .ok (.putfield 112, 3) := by decide +kernel
theorem d_Mo_sign_110 : decode prog_13_method_11_code 110 = .ok (.aload_n 0, 1) := by decide +kernel
theorem d_Mo_sign_111 : decode prog_13_method_11_code 111 = .ok (.getfield 28, 3) := by decide +kernel
theorem d_Mo_sign_114 : decode prog_13_method_11_code 114 = .ok (.iload_n 3, 1) := by decide +kernel
theorem d_Mo_sign_115 : decode prog_13_method_11_code 115 = .ok (.iaload, 1) := by decide +kernel
theorem d_Mo_sign_116 : decode prog_13_method_11_code 116 = .ok (.istore 4, 2) := by decide +kernel
theorem d_Mo_sign_118 : decode prog_13_method_11_code 118 = .ok (.aload_n 0, 1) := by decide +kernel
theorem d_Mo_sign_119 : decode prog_13_method_11_code 119 = .ok (.getfield 28, 3) := by decide +kernel
theorem d_Mo_sign_122 : decode prog_13_method_11_code 122 = .ok (.iload_n 3, 1) := by decide +kernel
theorem d_Mo_sign_123 : decode prog_13_method_11_code 123 = .ok (.aload_n 0, 1) := by decide +kernel
theorem d_Mo_sign_124 : decode prog_13_method_11_code 124 = .ok (.getfield 31, 3) := by decide +kernel
theorem d_Mo_sign_127 : decode prog_13_method_11_code 127 = .ok (.iload_n 3, 1) := by decide +kernel
theorem d_Mo_sign_128 : decode prog_13_method_11_code 128 = .ok (.iaload, 1) := by decide +kernel
theorem d_Mo_sign_129 : decode prog_13_method_11_code 129 = .ok (.iastore, 1) := by decide +kernel
theorem d_Mo_sign_130 : decode prog_13_method_11_code 130 = .ok (.aload_n 0, 1) := by decide +kernel
theorem d_Mo_sign_131 : decode prog_13_method_11_code 131 = .ok (.getfield 31, 3) := by decide +kernel
theorem d_Mo_sign_134 : decode prog_13_method_11_code 134 = .ok (.iload_n 3, 1) := by decide +kernel
theorem d_Mo_sign_135 : decode prog_13_method_11_code 135 = .ok (.iload 4, 2) := by decide +kernel
theorem d_Mo_sign_137 : decode prog_13_method_11_code 137 = .ok (.iastore, 1) := by decide +kernel
theorem d_Mo_sign_138 : decode prog_13_method_11_code 138 = .ok (.return_, 1) := by decide +kernel
theorem M_Mo_sign : lt_M0 m_Mo_sign 1 := ⟨lt_m5 82 rfl rfl, lt_m1 13 rfl rfl, ⟨by decide +kernel, by decide +kernel, by decide +kernel⟩, by decide⟩
theorem in_Mo_sign : Cond.instanceMethod m_Mo_sign.1 ∈ lt_T := lt_m5 81 rfl rfl
theorem se_Mo_sign : Cond.selects "LinearSearchModel" m_Mo_sign.1 m_Mo_sign.1 ∈ lt_T := lt_memS 33 rfl rfl
abbrev m_Mo_peek : lt_M := (⟨"LinearSearchModel", "peek", "()I"⟩, prog_13_method_7_code, 1, (some .int))
theorem d_Mo_peek_0 : decode prog_13_method_7_code 0 = .ok (.aload_n 0, 1) := by decide +kernel
theorem d_Mo_peek_1 : decode prog_13_method_7_code 1 = .ok (.getfield 112, 3) := by decide +kernel
theorem d_Mo_peek_4 : decode prog_13_method_7_code 4 = .ok (.aload_n 0, 1) := by decide +kernel
theorem d_Mo_peek_5 : decode prog_13_method_7_code 5 = .ok (.getfield 109, 3) := by decide +kernel
theorem d_Mo_peek_8 : decode prog_13_method_7_code 8 = .ok (.if_icmp .ge 15, 3) := by decide +kernel
theorem d_Mo_peek_11 : decode prog_13_method_7_code 11 = .ok (.aload_n 0, 1) := by decide +kernel
theorem d_Mo_peek_12 : decode prog_13_method_7_code 12 = .ok (.getfield 7, 3) := by decide +kernel
theorem d_Mo_peek_15 : decode prog_13_method_7_code 15 = .ok (.aload_n 0, 1) := by decide +kernel
theorem d_Mo_peek_16 : decode prog_13_method_7_code 16 = .ok (.getfield 112, 3) := by decide +kernel
theorem d_Mo_peek_19 : decode prog_13_method_7_code 19 = .ok (.iaload, 1) := by decide +kernel
theorem d_Mo_peek_20 : decode prog_13_method_7_code 20 = .ok (.goto 4, 3) := by decide +kernel
theorem d_Mo_peek_23 : decode prog_13_method_7_code 23 = .ok (.iconst 0, 1) := by decide +kernel
theorem d_Mo_peek_24 : decode prog_13_method_7_code 24 = .ok (.ireturn, 1) := by decide +kernel
theorem M_Mo_peek : lt_M0 m_Mo_peek 0 := ⟨lt_m5 86 rfl rfl, lt_m1 13 rfl rfl, ⟨by decide +kernel, by decide +kernel, by decide +kernel⟩, by decide⟩
theorem in_Mo_peek : Cond.instanceMethod m_Mo_peek.1 ∈ lt_T := lt_m5 85 rfl rfl
theorem se_Mo_peek : Cond.selects "LinearSearchModel" m_Mo_peek.1 m_Mo_peek.1 ∈ lt_T := lt_memS 34 rfl rfl
abbrev m_Mo_isLetter : lt_M := (⟨"LinearSearchModel", "isLetter", "(I)Z"⟩, prog_13_method_12_code, 1, (some .boolean))
theorem d_Mo_isLetter_0 : decode prog_13_method_12_code 0 = .ok (.iload_n 0, 1) := by decide +kernel
theorem d_Mo_isLetter_1 : decode prog_13_method_12_code 1 = .ok (.bipush 97, 2) := by decide +kernel
theorem d_Mo_isLetter_3 : decode prog_13_method_12_code 3 = .ok (.if_icmp .lt 13, 3) := by decide +kernel
theorem d_Mo_isLetter_6 : decode prog_13_method_12_code 6 = .ok (.iload_n 0, 1) := by decide +kernel
theorem d_Mo_isLetter_7 : decode prog_13_method_12_code 7 = .ok (.bipush 104, 2) := by decide +kernel
theorem d_Mo_isLetter_9 : decode prog_13_method_12_code 9 = .ok (.if_icmp .gt 7, 3) := by decide +kernel
theorem d_Mo_isLetter_12 : decode prog_13_method_12_code 12 = .ok (.iconst 1, 1) := by decide +kernel
theorem d_Mo_isLetter_13 : decode prog_13_method_12_code 13 = .ok (.goto 4, 3) := by decide +kernel
theorem d_Mo_isLetter_16 : decode prog_13_method_12_code 16 = .ok (.iconst 0, 1) := by decide +kernel
theorem d_Mo_isLetter_17 : decode prog_13_method_12_code 17 = .ok (.ireturn, 1) := by decide +kernel
theorem M_Mo_isLetter : lt_M0 m_Mo_isLetter 1 := ⟨lt_m5 89 rfl rfl, lt_m1 13 rfl rfl, ⟨by decide +kernel, by decide +kernel, by decide +kernel⟩, by decide⟩
theorem st_Mo_isLetter : Cond.static m_Mo_isLetter.1 ∈ lt_T := lt_m5 88 rfl rfl
abbrev m_Mo_fail : lt_M := (⟨"LinearSearchModel", "fail", "(I)I"⟩, prog_13_method_3_code, 2, (some .int))
theorem d_Mo_fail_0 : decode prog_13_method_3_code 0 = .ok (.aload_n 0, 1) := by decide +kernel
theorem d_Mo_fail_1 : decode prog_13_method_3_code 1 = .ok (.iload_n 1, 1) := by decide +kernel
theorem d_Mo_fail_2 : decode prog_13_method_3_code 2 = .ok (.putfield 102, 3) := by decide +kernel
theorem d_Mo_fail_5 : decode prog_13_method_3_code 5 = .ok (.iconst 0, 1) := by decide +kernel
theorem d_Mo_fail_6 : decode prog_13_method_3_code 6 = .ok (.ireturn, 1) := by decide +kernel
theorem M_Mo_fail : lt_M0 m_Mo_fail 1 := ⟨lt_m5 93 rfl rfl, lt_m1 13 rfl rfl, ⟨by decide +kernel, by decide +kernel, by decide +kernel⟩, by decide⟩
theorem in_Mo_fail : Cond.instanceMethod m_Mo_fail.1 ∈ lt_T := lt_m5 92 rfl rfl
theorem se_Mo_fail : Cond.selects "LinearSearchModel" m_Mo_fail.1 m_Mo_fail.1 ∈ lt_T := lt_memS 35 rfl rfl
abbrev m_Mo_noSearch : lt_M := (⟨"LinearSearchModel", "noSearch", "()V"⟩, prog_13_method_4_code, 1, none)
theorem d_Mo_noSearch_0 : decode prog_13_method_4_code 0 = .ok (.aload_n 0, 1) := by decide +kernel
theorem d_Mo_noSearch_1 : decode prog_13_method_4_code 1 = .ok (.iconst (-1), 1) := by decide +kernel
theorem d_Mo_noSearch_2 : decode prog_13_method_4_code 2 = .ok (.putfield 77, 3) := by decide +kernel
theorem d_Mo_noSearch_5 : decode prog_13_method_4_code 5 = .ok (.aload_n 0, 1) := by decide +kernel
theorem d_Mo_noSearch_6 : decode prog_13_method_4_code 6 = .ok (.iconst (-1), 1) := by decide +kernel
theorem d_Mo_noSearch_7 : decode prog_13_method_4_code 7 = .ok (.putfield 81, 3) := by decide +kernel
theorem d_Mo_noSearch_10 : decode prog_13_method_4_code 10 = .ok (.aload_n 0, 1) := by decide +kernel
theorem d_Mo_noSearch_11 : decode prog_13_method_4_code 11 = .ok (.iconst 0, 1) := by decide +kernel
theorem d_Mo_noSearch_12 : decode prog_13_method_4_code 12 = .ok (.putfield 105, 3) := by decide +kernel
theorem d_Mo_noSearch_15 : decode prog_13_method_4_code 15 = .ok (.return_, 1) := by decide +kernel
theorem M_Mo_noSearch : lt_M0 m_Mo_noSearch 0 := ⟨lt_m5 97 rfl rfl, lt_m1 13 rfl rfl, ⟨by decide +kernel, by decide +kernel, by decide +kernel⟩, by decide⟩
theorem in_Mo_noSearch : Cond.instanceMethod m_Mo_noSearch.1 ∈ lt_T := lt_m5 96 rfl rfl
theorem se_Mo_noSearch : Cond.selects "LinearSearchModel" m_Mo_noSearch.1 m_Mo_noSearch.1 ∈ lt_T := lt_memS 36 rfl rfl
abbrev m_Mo_isSingle : lt_M := (⟨"LinearSearchModel", "isSingle", "(I)Z"⟩, prog_13_method_16_code, 6, (some .boolean))
theorem d_Mo_isSingle_0 : decode prog_13_method_16_code 0 = .ok (.aload_n 0, 1) := by decide +kernel
theorem d_Mo_isSingle_1 : decode prog_13_method_16_code 1 = .ok (.dup, 1) := by decide +kernel
theorem d_Mo_isSingle_2 : decode prog_13_method_16_code 2 = .ok (.getfield 166, 3) := by decide +kernel
theorem d_Mo_isSingle_5 : decode prog_13_method_16_code 5 = .ok (.iconst 1, 1) := by decide +kernel
theorem d_Mo_isSingle_6 : decode prog_13_method_16_code 6 = .ok (.iadd, 1) := by decide +kernel
theorem d_Mo_isSingle_7 : decode prog_13_method_16_code 7 = .ok (.putfield 166, 3) := by decide +kernel
theorem d_Mo_isSingle_10 : decode prog_13_method_16_code 10 = .ok (.aload_n 0, 1) := by decide +kernel
theorem d_Mo_isSingle_11 : decode prog_13_method_16_code 11 = .ok (.iconst 0, 1) := by decide +kernel
theorem d_Mo_isSingle_12 : decode prog_13_method_16_code 12 = .ok (.putfield 169, 3) := by decide +kernel
theorem d_Mo_isSingle_15 : decode prog_13_method_16_code 15 = .ok (.iconst 0, 1) := by decide +kernel
theorem d_Mo_isSingle_16 : decode prog_13_method_16_code 16 = .ok (.istore_n 2, 1) := by decide +kernel
theorem d_Mo_isSingle_17 : decode prog_13_method_16_code 17 = .ok (.iload_n 1, 1) := by decide +kernel
theorem d_Mo_isSingle_18 : decode prog_13_method_16_code 18 = .ok (.istore_n 3, 1) := by decide +kernel
theorem d_Mo_isSingle_19 : decode prog_13_method_16_code 19 = .ok (.iload_n 3, 1) := by decide +kernel
theorem d_Mo_isSingle_20 : decode prog_13_method_16_code 20 = .ok (.iconst (-1), 1) := by decide +kernel
theorem d_Mo_isSingle_21 : decode prog_13_method_16_code 21 = .ok (.if_icmp .eq 196, 3) := by decide +kernel
theorem d_Mo_isSingle_24 : decode prog_13_method_16_code 24 = .ok (.aload_n 0, 1) := by decide +kernel
theorem d_Mo_isSingle_25 : decode prog_13_method_16_code 25 = .ok (.getfield 34, 3) := by decide +kernel
theorem d_Mo_isSingle_28 : decode prog_13_method_16_code 28 = .ok (.iload_n 3, 1) := by decide +kernel
theorem d_Mo_isSingle_29 : decode prog_13_method_16_code 29 = .ok (.iaload, 1) := by decide +kernel
theorem d_Mo_isSingle_30 : decode prog_13_method_16_code 30 = .ok (.aload_n 0, 1) := by decide +kernel
theorem d_Mo_isSingle_31 : decode prog_13_method_16_code 31 = .ok (.getfield 166, 3) := by decide +kernel
theorem d_Mo_isSingle_34 : decode prog_13_method_16_code 34 = .ok (.if_icmp .ne 5, 3) := by decide +kernel
theorem d_Mo_isSingle_37 : decode prog_13_method_16_code 37 = .ok (.iconst 0, 1) := by decide +kernel
theorem d_Mo_isSingle_38 : decode prog_13_method_16_code 38 = .ok (.ireturn, 1) := by decide +kernel
theorem d_Mo_isSingle_39 : decode prog_13_method_16_code 39 = .ok (.aload_n 0, 1) := by decide +kernel
theorem d_Mo_isSingle_40 : decode prog_13_method_16_code 40 = .ok (.getfield 34, 3) := by decide +kernel
theorem d_Mo_isSingle_43 : decode prog_13_method_16_code 43 = .ok (.iload_n 3, 1) := by decide +kernel
theorem d_Mo_isSingle_44 : decode prog_13_method_16_code 44 = .ok (.aload_n 0, 1) := by decide +kernel
theorem d_Mo_isSingle_45 : decode prog_13_method_16_code 45 = .ok (.getfield 166, 3) := by decide +kernel
theorem d_Mo_isSingle_48 : decode prog_13_method_16_code 48 = .ok (.iastore, 1) := by decide +kernel
theorem d_Mo_isSingle_49 : decode prog_13_method_16_code 49 = .ok (.aload_n 0, 1) := by decide +kernel
theorem d_Mo_isSingle_50 : decode prog_13_method_16_code 50 = .ok (.getfield 16, 3) := by decide +kernel
theorem d_Mo_isSingle_53 : decode prog_13_method_16_code 53 = .ok (.iload_n 3, 1) := by decide +kernel
theorem d_Mo_isSingle_54 : decode prog_13_method_16_code 54 = .ok (.iaload, 1) := by decide +kernel
theorem d_Mo_isSingle_55 : decode prog_13_method_16_code 55 = .ok (.istore 4, 2) := by decide +kernel
theorem d_Mo_isSingle_57 : decode prog_13_method_16_code 57 = .ok (.iload 4, 2) := by decide +kernel
theorem d_Mo_isSingle_59 : decode prog_13_method_16_code 59 = .ok (.iconst 1, 1) := by decide +kernel
theorem d_Mo_isSingle_60 : decode prog_13_method_16_code 60 = .ok (.if_icmp .gt 39, 3) := by decide +kernel
theorem d_Mo_isSingle_63 : decode prog_13_method_16_code 63 = .ok (.iload 4, 2) := by decide +kernel
theorem d_Mo_isSingle_65 : decode prog_13_method_16_code 65 = .ok (.iconst 1, 1) := by decide +kernel
theorem d_Mo_isSingle_66 : decode prog_13_method_16_code 66 = .ok (.if_icmp .ne 9, 3) := by decide +kernel
theorem d_Mo_isSingle_69 : decode prog_13_method_16_code 69 = .ok (.sipush 255, 3) := by decide +kernel
theorem d_Mo_isSingle_72 : decode prog_13_method_16_code 72 = .ok (.goto 11, 3) := by decide +kernel
theorem d_Mo_isSingle_75 : decode prog_13_method_16_code 75 = .ok (.iconst 1, 1) := by decide +kernel
theorem d_Mo_isSingle_76 : decode prog_13_method_16_code 76 = .ok (.aload_n 0, 1) := by decide +kernel
theorem d_Mo_isSingle_77 : decode prog_13_method_16_code 77 = .ok (.getfield 19, 3) := by decide +kernel
theorem d_Mo_isSingle_80 : decode prog_13_method_16_code 80 = .ok (.iload_n 3, 1) := by decide +kernel
theorem d_Mo_isSingle_81 : decode prog_13_method_16_code 81 = .ok (.iaload, 1) := by decide +kernel
theorem d_Mo_isSingle_82 : decode prog_13_method_16_code 82 = .ok (.ishl, 1) := by decide +kernel
theorem d_Mo_isSingle_83 : decode prog_13_method_16_code 83 = .ok (.istore 5, 2) := by decide +kernel
theorem d_Mo_isSingle_85 : decode prog_13_method_16_code 85 = .ok (.iload_n 2, 1) := by decide +kernel
theorem d_Mo_isSingle_86 : decode prog_13_method_16_code 86 = .ok (.iload 5, 2) := by decide +kernel
theorem d_Mo_isSingle_88 : decode prog_13_method_16_code 88 = .ok (.iand, 1) := by decide +kernel
theorem d_Mo_isSingle_89 : decode prog_13_method_16_code 89 = .ok (.ifCond .eq 5, 3) := by decide +kernel
theorem d_Mo_isSingle_92 : decode prog_13_method_16_code 92 = .ok (.iconst 0, 1) := by decide +kernel
theorem d_Mo_isSingle_93 : decode prog_13_method_16_code 93 = .ok (.ireturn, 1) := by decide +kernel
theorem d_Mo_isSingle_94 : decode prog_13_method_16_code 94 = .ok (.iload_n 2, 1) := by decide +kernel
theorem d_Mo_isSingle_95 : decode prog_13_method_16_code 95 = .ok (.iload 5, 2) := by decide +kernel
theorem d_Mo_isSingle_97 : decode prog_13_method_16_code 97 = .ok (.ior, 1) := by decide +kernel
theorem d_Mo_isSingle_98 : decode prog_13_method_16_code 98 = .ok (.istore_n 2, 1) := by decide +kernel
theorem d_Mo_isSingle_99 : decode prog_13_method_16_code 99 = .ok (.iload 4, 2) := by decide +kernel
theorem d_Mo_isSingle_101 : decode prog_13_method_16_code 101 = .ok (.iconst 2, 1) := by decide +kernel
theorem d_Mo_isSingle_102 : decode prog_13_method_16_code 102 = .ok (.if_icmp .ne 28, 3) := by decide +kernel
theorem d_Mo_isSingle_105 : decode prog_13_method_16_code 105 = .ok (.aload_n 0, 1) := by decide +kernel
theorem d_Mo_isSingle_106 : decode prog_13_method_16_code 106 = .ok (.getfield 37, 3) := by decide +kernel
theorem d_Mo_isSingle_109 : decode prog_13_method_16_code 109 = .ok (.aload_n 0, 1) := by decide +kernel
theorem d_Mo_isSingle_110 : decode prog_13_method_16_code 110 = .ok (.getfield 169, 3) := by decide +kernel
theorem d_Mo_isSingle_113 : decode prog_13_method_16_code 113 = .ok (.aload_n 0, 1) := by decide +kernel
theorem d_Mo_isSingle_114 : decode prog_13_method_16_code 114 = .ok (.getfield 22, 3) := by decide +kernel
theorem d_Mo_isSingle_117 : decode prog_13_method_16_code 117 = .ok (.iload_n 3, 1) := by decide +kernel
theorem d_Mo_isSingle_118 : decode prog_13_method_16_code 118 = .ok (.iaload, 1) := by decide +kernel
theorem d_Mo_isSingle_119 : decode prog_13_method_16_code 119 = .ok (.iastore, 1) := by decide +kernel
theorem d_Mo_isSingle_120 : decode prog_13_method_16_code 120 = .ok (.aload_n 0, 1) := by decide +kernel
theorem d_Mo_isSingle_121 : decode prog_13_method_16_code 121 = .ok (.dup, 1) := by decide +kernel
theorem d_Mo_isSingle_122 : decode prog_13_method_16_code 122 = .ok (.getfield 169, 3) := by decide +kernel
theorem d_Mo_isSingle_125 : decode prog_13_method_16_code 125 = .ok (.iconst 1, 1) := by decide +kernel
theorem d_Mo_isSingle_126 : decode prog_13_method_16_code 126 = .ok (.iadd, 1) := by decide +kernel
theorem d_Mo_isSingle_127 : decode prog_13_method_16_code 127 = .ok (.putfield 169, 3) := by decide +kernel
theorem d_Mo_isSingle_130 : decode prog_13_method_16_code 130 = .ok (.iload 4, 2) := by decide +kernel
theorem d_Mo_isSingle_132 : decode prog_13_method_16_code 132 = .ok (.iconst 2, 1) := by decide +kernel
theorem d_Mo_isSingle_133 : decode prog_13_method_16_code 133 = .ok (.if_icmp .eq 9, 3) := by decide +kernel
theorem d_Mo_isSingle_136 : decode prog_13_method_16_code 136 = .ok (.iload 4, 2) := by decide +kernel
theorem d_Mo_isSingle_138 : decode prog_13_method_16_code 138 = .ok (.iconst 3, 1) := by decide +kernel
theorem d_Mo_isSingle_139 : decode prog_13_method_16_code 139 = .ok (.if_icmp .ne 13, 3) := by decide +kernel
theorem d_Mo_isSingle_142 : decode prog_13_method_16_code 142 = .ok (.aload_n 0, 1) := by decide +kernel
theorem d_Mo_isSingle_143 : decode prog_13_method_16_code 143 = .ok (.getfield 19, 3) := by decide +kernel
theorem d_Mo_isSingle_146 : decode prog_13_method_16_code 146 = .ok (.iload_n 3, 1) := by decide +kernel
theorem d_Mo_isSingle_147 : decode prog_13_method_16_code 147 = .ok (.iaload, 1) := by decide +kernel
theorem d_Mo_isSingle_148 : decode prog_13_method_16_code 148 = .ok (.istore_n 3, 1) := by decide +kernel
theorem d_Mo_isSingle_149 : decode prog_13_method_16_code 149 = .ok (.goto 30, 3) := by decide +kernel
theorem d_Mo_isSingle_152 : decode prog_13_method_16_code 152 = .ok (.iload 4, 2) := by decide +kernel
theorem d_Mo_isSingle_154 : decode prog_13_method_16_code 154 = .ok (.iconst 4, 1) := by decide +kernel
theorem d_Mo_isSingle_155 : decode prog_13_method_16_code 155 = .ok (.if_icmp .eq 16, 3) := by decide +kernel
theorem d_Mo_isSingle_158 : decode prog_13_method_16_code 158 = .ok (.iload 4, 2) := by decide +kernel
theorem d_Mo_isSingle_160 : decode prog_13_method_16_code 160 = .ok (.iconst 5, 1) := by decide +kernel
theorem d_Mo_isSingle_161 : decode prog_13_method_16_code 161 = .ok (.if_icmp .eq 10, 3) := by decide +kernel
theorem d_Mo_isSingle_164 : decode prog_13_method_16_code 164 = .ok (.iload 4, 2) := by decide +kernel
theorem d_Mo_isSingle_166 : decode prog_13_method_16_code 166 = .ok (.bipush 6, 2) := by decide +kernel
theorem d_Mo_isSingle_168 : decode prog_13_method_16_code 168 = .ok (.if_icmp .ne 9, 3) := by decide +kernel
theorem d_Mo_isSingle_171 : decode prog_13_method_16_code 171 = .ok (.iinc 3 1, 3) := by decide +kernel
theorem d_Mo_isSingle_174 : decode prog_13_method_16_code 174 = .ok (.goto 5, 3) := by decide +kernel
theorem d_Mo_isSingle_177 : decode prog_13_method_16_code 177 = .ok (.iconst (-1), 1) := by decide +kernel
theorem d_Mo_isSingle_178 : decode prog_13_method_16_code 178 = .ok (.istore_n 3, 1) := by decide +kernel
theorem d_Mo_isSingle_179 : decode prog_13_method_16_code 179 = .ok (.iload_n 3, 1) := by decide +kernel
theorem d_Mo_isSingle_180 : decode prog_13_method_16_code 180 = .ok (.iconst (-1), 1) := by decide +kernel
theorem d_Mo_isSingle_181 : decode prog_13_method_16_code 181 = .ok (.if_icmp .ne (-162), 3) := by decide +kernel
theorem d_Mo_isSingle_184 : decode prog_13_method_16_code 184 = .ok (.aload_n 0, 1) := by decide +kernel
theorem d_Mo_isSingle_185 : decode prog_13_method_16_code 185 = .ok (.getfield 169, 3) := by decide +kernel
theorem d_Mo_isSingle_188 : decode prog_13_method_16_code 188 = .ok (.ifCond .ne 6, 3) := by decide +kernel
theorem d_Mo_isSingle_191 : decode prog_13_method_16_code 191 = .ok (.goto (-172), 3) := by decide +kernel
theorem d_Mo_isSingle_194 : decode prog_13_method_16_code 194 = .ok (.aload_n 0, 1) := by decide +kernel
theorem d_Mo_isSingle_195 : decode prog_13_method_16_code 195 = .ok (.dup, 1) := by decide +kernel
theorem d_Mo_isSingle_196 : decode prog_13_method_16_code 196 = .ok (.getfield 169, 3) := by decide +kernel
theorem d_Mo_isSingle_199 : decode prog_13_method_16_code 199 = .ok (.iconst 1, 1) := by decide +kernel
theorem d_Mo_isSingle_200 : decode prog_13_method_16_code 200 = .ok (.isub, 1) := by decide +kernel
theorem d_Mo_isSingle_201 : decode prog_13_method_16_code 201 = .ok (.putfield 169, 3) := by decide +kernel
theorem d_Mo_isSingle_204 : decode prog_13_method_16_code 204 = .ok (.aload_n 0, 1) := by decide +kernel
theorem d_Mo_isSingle_205 : decode prog_13_method_16_code 205 = .ok (.getfield 37, 3) := by decide +kernel
theorem d_Mo_isSingle_208 : decode prog_13_method_16_code 208 = .ok (.aload_n 0, 1) := by decide +kernel
theorem d_Mo_isSingle_209 : decode prog_13_method_16_code 209 = .ok (.getfield 169, 3) := by decide +kernel
theorem d_Mo_isSingle_212 : decode prog_13_method_16_code 212 = .ok (.iaload, 1) := by decide +kernel
theorem d_Mo_isSingle_213 : decode prog_13_method_16_code 213 = .ok (.istore_n 3, 1) := by decide +kernel
theorem d_Mo_isSingle_214 : decode prog_13_method_16_code 214 = .ok (.goto (-195), 3) := by decide +kernel
theorem d_Mo_isSingle_217 : decode prog_13_method_16_code 217 = .ok (.iconst 1, 1) := by decide +kernel
theorem d_Mo_isSingle_218 : decode prog_13_method_16_code 218 = .ok (.ireturn, 1) := by decide +kernel
theorem M_Mo_isSingle : lt_M0 m_Mo_isSingle 1 := ⟨lt_m5 101 rfl rfl, lt_m1 13 rfl rfl, ⟨by decide +kernel, by decide +kernel, by decide +kernel⟩, by decide⟩
theorem in_Mo_isSingle : Cond.instanceMethod m_Mo_isSingle.1 ∈ lt_T := lt_m5 100 rfl rfl
theorem se_Mo_isSingle : Cond.selects "LinearSearchModel" m_Mo_isSingle.1 m_Mo_isSingle.1 ∈ lt_T := lt_memS 37 rfl rfl
abbrev m_Mo_instruction : lt_M := (⟨"LinearSearchModel", "instruction", "(II)I"⟩, prog_13_method_15_code, 3, (some .int))
theorem d_Mo_instruction_0 : decode prog_13_method_15_code 0 = .ok (.aload_n 0, 1) := by decide +kernel
theorem d_Mo_instruction_1 : decode prog_13_method_15_code 1 = .ok (.iload_n 1, 1) := by decide +kernel
theorem d_Mo_instruction_2 : decode prog_13_method_15_code 2 = .ok (.ifCond .lt 11, 3) := by decide +kernel
theorem d_Mo_instruction_5 : decode prog_13_method_15_code 5 = .ok (.iload_n 1, 1) := by decide +kernel
theorem d_Mo_instruction_6 : decode prog_13_method_15_code 6 = .ok (.aload_n 0, 1) := by decide +kernel
theorem d_Mo_instruction_7 : decode prog_13_method_15_code 7 = .ok (.getfield 148, 3) := by decide +kernel
theorem d_Mo_instruction_10 : decode prog_13_method_15_code 10 = .ok (.if_icmp .lt 7, 3) := by decide +kernel
theorem d_Mo_instruction_13 : decode prog_13_method_15_code 13 = .ok (.iconst 1, 1) := by decide +kernel
theorem d_Mo_instruction_14 : decode prog_13_method_15_code 14 = .ok (.goto 17, 3) := by decide +kernel
theorem d_Mo_instruction_17 : decode prog_13_method_15_code 17 = .ok (.iload_n 2, 1) := by decide +kernel
theorem d_Mo_instruction_18 : decode prog_13_method_15_code 18 = .ok (.ifCond .lt 8, 3) := by decide +kernel
theorem d_Mo_instruction_21 : decode prog_13_method_15_code 21 = .ok (.iload_n 2, 1) := by decide +kernel
theorem d_Mo_instruction_22 : decode prog_13_method_15_code 22 = .ok (.iconst 2, 1) := by decide +kernel
theorem d_Mo_instruction_23 : decode prog_13_method_15_code 23 = .ok (.if_icmp .le 7, 3) := by decide +kernel
theorem d_Mo_instruction_26 : decode prog_13_method_15_code 26 = .ok (.iconst 2, 1) := by decide +kernel
theorem d_Mo_instruction_27 : decode prog_13_method_15_code 27 = .ok (.goto 4, 3) := by decide +kernel
theorem d_Mo_instruction_30 : decode prog_13_method_15_code 30 = .ok (.iconst 0, 1) := by decide +kernel
theorem d_Mo_instruction_31 : decode prog_13_method_15_code 31 = .ok (.putfield 102, 3) := by decide +kernel
theorem d_Mo_instruction_34 : decode prog_13_method_15_code 34 = .ok (.aload_n 0, 1) := by decide +kernel
theorem d_Mo_instruction_35 : decode prog_13_method_15_code 35 = .ok (.getfield 102, 3) := by decide +kernel
theorem d_Mo_instruction_38 : decode prog_13_method_15_code 38 = .ok (.ifCond .le 5, 3) := by decide +kernel
theorem d_Mo_instruction_41 : decode prog_13_method_15_code 41 = .ok (.iconst 0, 1) := by decide +kernel
theorem d_Mo_instruction_42 : decode prog_13_method_15_code 42 = .ok (.ireturn, 1) := by decide +kernel
theorem d_Mo_instruction_43 : decode prog_13_method_15_code 43 = .ok (.iload_n 2, 1) := by decide +kernel
theorem d_Mo_instruction_44 : decode prog_13_method_15_code 44 = .ok (.ifCond .ne 12, 3) := by decide +kernel
theorem d_Mo_instruction_47 : decode prog_13_method_15_code 47 = .ok (.aload_n 0, 1) := by decide +kernel
theorem d_Mo_instruction_48 : decode prog_13_method_15_code 48 = .ok (.getfield 16, 3) := by decide +kernel
theorem d_Mo_instruction_51 : decode prog_13_method_15_code 51 = .ok (.iload_n 1, 1) := by decide +kernel
theorem d_Mo_instruction_52 : decode prog_13_method_15_code 52 = .ok (.iaload, 1) := by decide +kernel
theorem d_Mo_instruction_53 : decode prog_13_method_15_code 53 = .ok (.goto 23, 3) := by decide +kernel
theorem d_Mo_instruction_56 : decode prog_13_method_15_code 56 = .ok (.iload_n 2, 1) := by decide +kernel
theorem d_Mo_instruction_57 : decode prog_13_method_15_code 57 = .ok (.iconst 1, 1) := by decide +kernel
theorem d_Mo_instruction_58 : decode prog_13_method_15_code 58 = .ok (.if_icmp .ne 12, 3) := by decide +kernel
theorem d_Mo_instruction_61 : decode prog_13_method_15_code 61 = .ok (.aload_n 0, 1) := by decide +kernel
theorem d_Mo_instruction_62 : decode prog_13_method_15_code 62 = .ok (.getfield 19, 3) := by decide +kernel
theorem d_Mo_instruction_65 : decode prog_13_method_15_code 65 = .ok (.iload_n 1, 1) := by decide +kernel
theorem d_Mo_instruction_66 : decode prog_13_method_15_code 66 = .ok (.iaload, 1) := by decide +kernel
theorem d_Mo_instruction_67 : decode prog_13_method_15_code 67 = .ok (.goto 9, 3) := by decide +kernel
theorem d_Mo_instruction_70 : decode prog_13_method_15_code 70 = .ok (.aload_n 0, 1) := by decide +kernel
theorem d_Mo_instruction_71 : decode prog_13_method_15_code 71 = .ok (.getfield 22, 3) := by decide +kernel
theorem d_Mo_instruction_74 : decode prog_13_method_15_code 74 = .ok (.iload_n 1, 1) := by decide +kernel
theorem d_Mo_instruction_75 : decode prog_13_method_15_code 75 = .ok (.iaload, 1) := by decide +kernel
theorem d_Mo_instruction_76 : decode prog_13_method_15_code 76 = .ok (.ireturn, 1) := by decide +kernel
theorem M_Mo_instruction : lt_M0 m_Mo_instruction 2 := ⟨lt_m5 105 rfl rfl, lt_m1 13 rfl rfl, ⟨by decide +kernel, by decide +kernel, by decide +kernel⟩, by decide⟩
theorem in_Mo_instruction : Cond.instanceMethod m_Mo_instruction.1 ∈ lt_T := lt_m5 103 rfl rfl
theorem se_Mo_instruction : Cond.selects "LinearSearchModel" m_Mo_instruction.1 m_Mo_instruction.1 ∈ lt_T := lt_m5 104 rfl rfl
abbrev m_Mo_simple : lt_M := (⟨"LinearSearchModel", "simple", "()Z"⟩, prog_13_method_17_code, 1, (some .boolean))
theorem d_Mo_simple_0 : decode prog_13_method_17_code 0 = .ok (.aload_n 0, 1) := by decide +kernel
theorem d_Mo_simple_1 : decode prog_13_method_17_code 1 = .ok (.aload_n 0, 1) := by decide +kernel
theorem d_Mo_simple_2 : decode prog_13_method_17_code 2 = .ok (.getfield 148, 3) := by decide +kernel
theorem d_Mo_simple_5 : decode prog_13_method_17_code 5 = .ok (.ifCond .ne 7, 3) := by decide +kernel
theorem d_Mo_simple_8 : decode prog_13_method_17_code 8 = .ok (.iconst 1, 1) := by decide +kernel
theorem d_Mo_simple_9 : decode prog_13_method_17_code 9 = .ok (.goto 4, 3) := by decide +kernel
theorem d_Mo_simple_12 : decode prog_13_method_17_code 12 = .ok (.iconst 0, 1) := by decide +kernel
theorem d_Mo_simple_13 : decode prog_13_method_17_code 13 = .ok (.putfield 102, 3) := by decide +kernel
theorem d_Mo_simple_16 : decode prog_13_method_17_code 16 = .ok (.aload_n 0, 1) := by decide +kernel
theorem d_Mo_simple_17 : decode prog_13_method_17_code 17 = .ok (.getfield 102, 3) := by decide +kernel
theorem d_Mo_simple_20 : decode prog_13_method_17_code 20 = .ok (.ifCond .ne 14, 3) := by decide +kernel
theorem d_Mo_simple_23 : decode prog_13_method_17_code 23 = .ok (.aload_n 0, 1) := by decide +kernel
theorem d_Mo_simple_24 : decode prog_13_method_17_code 24 = .ok (.getfield 163, 3) := by decide +kernel
theorem d_Mo_simple_27 : decode prog_13_method_17_code 27 = .ok (.ifCond .eq 7, 3) := by decide +kernel
theorem d_Mo_simple_30 : decode prog_13_method_17_code 30 = .ok (.iconst 1, 1) := by decide +kernel
theorem d_Mo_simple_31 : decode prog_13_method_17_code 31 = .ok (.goto 4, 3) := by decide +kernel
theorem d_Mo_simple_34 : decode prog_13_method_17_code 34 = .ok (.iconst 0, 1) := by decide +kernel
theorem d_Mo_simple_35 : decode prog_13_method_17_code 35 = .ok (.ireturn, 1) := by decide +kernel
theorem M_Mo_simple : lt_M0 m_Mo_simple 0 := ⟨lt_m5 109 rfl rfl, lt_m1 13 rfl rfl, ⟨by decide +kernel, by decide +kernel, by decide +kernel⟩, by decide⟩
theorem in_Mo_simple : Cond.instanceMethod m_Mo_simple.1 ∈ lt_T := lt_m5 107 rfl rfl
theorem se_Mo_simple : Cond.selects "LinearSearchModel" m_Mo_simple.1 m_Mo_simple.1 ∈ lt_T := lt_m5 108 rfl rfl
abbrev m_Mo_feed : lt_M := (⟨"LinearSearchModel", "feed", "(C)Z"⟩, prog_13_method_18_code, 2, (some .boolean))
theorem d_Mo_feed_0 : decode prog_13_method_18_code 0 = .ok (.aload_n 0, 1) := by decide +kernel
theorem d_Mo_feed_1 : decode prog_13_method_18_code 1 = .ok (.iconst 0, 1) := by decide +kernel
theorem d_Mo_feed_2 : decode prog_13_method_18_code 2 = .ok (.putfield 102, 3) := by decide +kernel
theorem d_Mo_feed_5 : decode prog_13_method_18_code 5 = .ok (.iload_n 1, 1) := by decide +kernel
theorem d_Mo_feed_6 : decode prog_13_method_18_code 6 = .ok (.invokestatic 136, 3) := by decide +kernel
theorem d_Mo_feed_9 : decode prog_13_method_18_code 9 = .ok (.ifCond .eq 12, 3) := by decide +kernel
theorem d_Mo_feed_12 : decode prog_13_method_18_code 12 = .ok (.aload_n 0, 1) := by decide +kernel
theorem d_Mo_feed_13 : decode prog_13_method_18_code 13 = .ok (.getfield 172, 3) := by decide +kernel
theorem d_Mo_feed_16 : decode prog_13_method_18_code 16 = .ok (.bipush 20, 2) := by decide +kernel
theorem d_Mo_feed_18 : decode prog_13_method_18_code 18 = .ok (.if_icmp .ne 5, 3) := by decide +kernel
theorem d_Mo_feed_21 : decode prog_13_method_18_code 21 = .ok (.iconst 0, 1) := by decide +kernel
theorem d_Mo_feed_22 : decode prog_13_method_18_code 22 = .ok (.ireturn, 1) := by decide +kernel
theorem d_Mo_feed_23 : decode prog_13_method_18_code 23 = .ok (.aload_n 0, 1) := by decide +kernel
theorem d_Mo_feed_24 : decode prog_13_method_18_code 24 = .ok (.getfield 13, 3) := by decide +kernel
theorem d_Mo_feed_27 : decode prog_13_method_18_code 27 = .ok (.aload_n 0, 1) := by decide +kernel
theorem d_Mo_feed_28 : decode prog_13_method_18_code 28 = .ok (.getfield 172, 3) := by decide +kernel
theorem d_Mo_feed_31 : decode prog_13_method_18_code 31 = .ok (.iload_n 1, 1) := by decide +kernel
theorem d_Mo_feed_32 : decode prog_13_method_18_code 32 = .ok (.bipush 97, 2) := by decide +kernel
theorem d_Mo_feed_34 : decode prog_13_method_18_code 34 = .ok (.isub, 1) := by decide +kernel
theorem d_Mo_feed_35 : decode prog_13_method_18_code 35 = .ok (.iastore, 1) := by decide +kernel
theorem d_Mo_feed_36 : decode prog_13_method_18_code 36 = .ok (.aload_n 0, 1) := by decide +kernel
theorem d_Mo_feed_37 : decode prog_13_method_18_code 37 = .ok (.dup, 1) := by decide +kernel
theorem d_Mo_feed_38 : decode prog_13_method_18_code 38 = .ok (.getfield 172, 3) := by decide +kernel
theorem d_Mo_feed_41 : decode prog_13_method_18_code 41 = .ok (.iconst 1, 1) := by decide +kernel
theorem d_Mo_feed_42 : decode prog_13_method_18_code 42 = .ok (.iadd, 1) := by decide +kernel
theorem d_Mo_feed_43 : decode prog_13_method_18_code 43 = .ok (.putfield 172, 3) := by decide +kernel
theorem d_Mo_feed_46 : decode prog_13_method_18_code 46 = .ok (.aload_n 0, 1) := by decide +kernel
theorem d_Mo_feed_47 : decode prog_13_method_18_code 47 = .ok (.invokevirtual 157, 3) := by decide +kernel
theorem d_Mo_feed_50 : decode prog_13_method_18_code 50 = .ok (.iconst 1, 1) := by decide +kernel
theorem d_Mo_feed_51 : decode prog_13_method_18_code 51 = .ok (.ireturn, 1) := by decide +kernel
theorem M_Mo_feed : lt_M0 m_Mo_feed 1 := ⟨lt_m5 113 rfl rfl, lt_m1 13 rfl rfl, ⟨by decide +kernel, by decide +kernel, by decide +kernel⟩, by decide⟩
theorem in_Mo_feed : Cond.instanceMethod m_Mo_feed.1 ∈ lt_T := lt_m5 111 rfl rfl
theorem se_Mo_feed : Cond.selects "LinearSearchModel" m_Mo_feed.1 m_Mo_feed.1 ∈ lt_T := lt_m5 112 rfl rfl
abbrev m_Mo_clear : lt_M := (⟨"LinearSearchModel", "clear", "()V"⟩, prog_13_method_19_code, 1, none)
theorem d_Mo_clear_0 : decode prog_13_method_19_code 0 = .ok (.aload_n 0, 1) := by decide +kernel
theorem d_Mo_clear_1 : decode prog_13_method_19_code 1 = .ok (.iconst 0, 1) := by decide +kernel
theorem d_Mo_clear_2 : decode prog_13_method_19_code 2 = .ok (.putfield 102, 3) := by decide +kernel
theorem d_Mo_clear_5 : decode prog_13_method_19_code 5 = .ok (.aload_n 0, 1) := by decide +kernel
theorem d_Mo_clear_6 : decode prog_13_method_19_code 6 = .ok (.iconst 0, 1) := by decide +kernel
theorem d_Mo_clear_7 : decode prog_13_method_19_code 7 = .ok (.putfield 172, 3) := by decide +kernel
theorem d_Mo_clear_10 : decode prog_13_method_19_code 10 = .ok (.aload_n 0, 1) := by decide +kernel
theorem d_Mo_clear_11 : decode prog_13_method_19_code 11 = .ok (.invokevirtual 157, 3) := by decide +kernel
theorem d_Mo_clear_14 : decode prog_13_method_19_code 14 = .ok (.return_, 1) := by decide +kernel
theorem M_Mo_clear : lt_M0 m_Mo_clear 0 := ⟨lt_m5 117 rfl rfl, lt_m1 13 rfl rfl, ⟨by decide +kernel, by decide +kernel, by decide +kernel⟩, by decide⟩
theorem in_Mo_clear : Cond.instanceMethod m_Mo_clear.1 ∈ lt_T := lt_m5 115 rfl rfl
theorem se_Mo_clear : Cond.selects "LinearSearchModel" m_Mo_clear.1 m_Mo_clear.1 ∈ lt_T := lt_m5 116 rfl rfl
abbrev m_Mo_search : lt_M := (⟨"LinearSearchModel", "search", "(I)I"⟩, prog_13_method_44_code, 2, (some .int))
theorem d_Mo_search_0 : decode prog_13_method_44_code 0 = .ok (.aload_n 0, 1) := by decide +kernel
theorem d_Mo_search_1 : decode prog_13_method_44_code 1 = .ok (.iload_n 1, 1) := by decide +kernel
theorem d_Mo_search_2 : decode prog_13_method_44_code 2 = .ok (.ifCond .lt 8, 3) := by decide +kernel
theorem d_Mo_search_5 : decode prog_13_method_44_code 5 = .ok (.iload_n 1, 1) := by decide +kernel
theorem d_Mo_search_6 : decode prog_13_method_44_code 6 = .ok (.iconst 4, 1) := by decide +kernel
theorem d_Mo_search_7 : decode prog_13_method_44_code 7 = .ok (.if_icmp .le 7, 3) := by decide +kernel
theorem d_Mo_search_10 : decode prog_13_method_44_code 10 = .ok (.iconst 1, 1) := by decide +kernel
theorem d_Mo_search_11 : decode prog_13_method_44_code 11 = .ok (.goto 27, 3) := by decide +kernel
theorem d_Mo_search_14 : decode prog_13_method_44_code 14 = .ok (.aload_n 0, 1) := by decide +kernel
theorem d_Mo_search_15 : decode prog_13_method_44_code 15 = .ok (.getfield 148, 3) := by decide +kernel
theorem d_Mo_search_18 : decode prog_13_method_44_code 18 = .ok (.ifCond .eq 15, 3) := by decide +kernel
theorem d_Mo_search_21 : decode prog_13_method_44_code 21 = .ok (.iload_n 1, 1) := by decide +kernel
theorem d_Mo_search_22 : decode prog_13_method_44_code 22 = .ok (.iconst 3, 1) := by decide +kernel
theorem d_Mo_search_23 : decode prog_13_method_44_code 23 = .ok (.if_icmp .ne 14, 3) := by decide +kernel
theorem d_Mo_search_26 : decode prog_13_method_44_code 26 = .ok (.aload_n 0, 1) := by decide +kernel
theorem d_Mo_search_27 : decode prog_13_method_44_code 27 = .ok (.getfield 163, 3) := by decide +kernel
theorem d_Mo_search_30 : decode prog_13_method_44_code 30 = .ok (.ifCond .ne 7, 3) := by decide +kernel
theorem d_Mo_search_33 : decode prog_13_method_44_code 33 = .ok (.iconst 2, 1) := by decide +kernel
theorem d_Mo_search_34 : decode prog_13_method_44_code 34 = .ok (.goto 4, 3) := by decide +kernel
theorem d_Mo_search_37 : decode prog_13_method_44_code 37 = .ok (.iconst 0, 1) := by decide +kernel
theorem d_Mo_search_38 : decode prog_13_method_44_code 38 = .ok (.putfield 102, 3) := by decide +kernel
theorem d_Mo_search_41 : decode prog_13_method_44_code 41 = .ok (.aload_n 0, 1) := by decide +kernel
theorem d_Mo_search_42 : decode prog_13_method_44_code 42 = .ok (.getfield 102, 3) := by decide +kernel
theorem d_Mo_search_45 : decode prog_13_method_44_code 45 = .ok (.ifCond .le 5, 3) := by decide +kernel
theorem d_Mo_search_48 : decode prog_13_method_44_code 48 = .ok (.iconst 0, 1) := by decide +kernel
theorem d_Mo_search_49 : decode prog_13_method_44_code 49 = .ok (.ireturn, 1) := by decide +kernel
theorem d_Mo_search_50 : decode prog_13_method_44_code 50 = .ok (.aload_n 0, 1) := by decide +kernel
theorem d_Mo_search_51 : decode prog_13_method_44_code 51 = .ok (.iload_n 1, 1) := by decide +kernel
theorem d_Mo_search_52 : decode prog_13_method_44_code 52 = .ok (.iconst 4, 1) := by decide +kernel
theorem d_Mo_search_53 : decode prog_13_method_44_code 53 = .ok (.if_icmp .ge 7, 3) := by decide +kernel
theorem d_Mo_search_56 : decode prog_13_method_44_code 56 = .ok (.iload_n 1, 1) := by decide +kernel
theorem d_Mo_search_57 : decode prog_13_method_44_code 57 = .ok (.goto 36, 3) := by decide +kernel
theorem d_Mo_search_60 : decode prog_13_method_44_code 60 = .ok (.aload_n 0, 1) := by decide +kernel
theorem d_Mo_search_61 : decode prog_13_method_44_code 61 = .ok (.getfield 163, 3) := by decide +kernel
theorem d_Mo_search_64 : decode prog_13_method_44_code 64 = .ok (.ifCond .eq 7, 3) := by decide +kernel
theorem d_Mo_search_67 : decode prog_13_method_44_code 67 = .ok (.iconst 3, 1) := by decide +kernel
theorem d_Mo_search_68 : decode prog_13_method_44_code 68 = .ok (.goto 25, 3) := by decide +kernel
theorem d_Mo_search_71 : decode prog_13_method_44_code 71 = .ok (.aload_n 0, 1) := by decide +kernel
theorem d_Mo_search_72 : decode prog_13_method_44_code 72 = .ok (.getfield 148, 3) := by decide +kernel
theorem d_Mo_search_75 : decode prog_13_method_44_code 75 = .ok (.aload_n 0, 1) := by decide +kernel
theorem d_Mo_search_76 : decode prog_13_method_44_code 76 = .ok (.getfield 172, 3) := by decide +kernel
theorem d_Mo_search_79 : decode prog_13_method_44_code 79 = .ok (.iconst 1, 1) := by decide +kernel
theorem d_Mo_search_80 : decode prog_13_method_44_code 80 = .ok (.iadd, 1) := by decide +kernel
theorem d_Mo_search_81 : decode prog_13_method_44_code 81 = .ok (.imul, 1) := by decide +kernel
theorem d_Mo_search_82 : decode prog_13_method_44_code 82 = .ok (.sipush 128, 3) := by decide +kernel
theorem d_Mo_search_85 : decode prog_13_method_44_code 85 = .ok (.if_icmp .gt 7, 3) := by decide +kernel
theorem d_Mo_search_88 : decode prog_13_method_44_code 88 = .ok (.iconst 1, 1) := by decide +kernel
theorem d_Mo_search_89 : decode prog_13_method_44_code 89 = .ok (.goto 4, 3) := by decide +kernel
theorem d_Mo_search_92 : decode prog_13_method_44_code 92 = .ok (.iconst 2, 1) := by decide +kernel
theorem d_Mo_search_93 : decode prog_13_method_44_code 93 = .ok (.putfield 77, 3) := by decide +kernel
theorem d_Mo_search_96 : decode prog_13_method_44_code 96 = .ok (.aload_n 0, 1) := by decide +kernel
theorem d_Mo_search_97 : decode prog_13_method_44_code 97 = .ok (.iconst 0, 1) := by decide +kernel
theorem d_Mo_search_98 : decode prog_13_method_44_code 98 = .ok (.putfield 189, 3) := by decide +kernel
theorem d_Mo_search_101 : decode prog_13_method_44_code 101 = .ok (.aload_n 0, 1) := by decide +kernel
theorem d_Mo_search_102 : decode prog_13_method_44_code 102 = .ok (.getfield 77, 3) := by decide +kernel
theorem d_Mo_search_105 : decode prog_13_method_44_code 105 = .ok (.tableswitch 50 0 2 #[27, 36, 43], 27) := by decide +kernel
theorem d_Mo_search_132 : decode prog_13_method_44_code 132 = .ok (.aload_n 0, 1) := by decide +kernel
theorem d_Mo_search_133 : decode prog_13_method_44_code 133 = .ok (.iconst 0, 1) := by decide +kernel
theorem d_Mo_search_134 : decode prog_13_method_44_code 134 = .ok (.iconst 0, 1) := by decide +kernel
theorem d_Mo_search_135 : decode prog_13_method_44_code 135 = .ok (.invokevirtual 251, 3) := by decide +kernel
theorem d_Mo_search_138 : decode prog_13_method_44_code 138 = .ok (.goto 21, 3) := by decide +kernel
theorem d_Mo_search_141 : decode prog_13_method_44_code 141 = .ok (.aload_n 0, 1) := by decide +kernel
theorem d_Mo_search_142 : decode prog_13_method_44_code 142 = .ok (.invokevirtual 254, 3) := by decide +kernel
theorem d_Mo_search_145 : decode prog_13_method_44_code 145 = .ok (.goto 14, 3) := by decide +kernel
theorem d_Mo_search_148 : decode prog_13_method_44_code 148 = .ok (.aload_n 0, 1) := by decide +kernel
theorem d_Mo_search_149 : decode prog_13_method_44_code 149 = .ok (.invokevirtual 257, 3) := by decide +kernel
theorem d_Mo_search_152 : decode prog_13_method_44_code 152 = .ok (.goto 7, 3) := by decide +kernel
theorem d_Mo_search_155 : decode prog_13_method_44_code 155 = .ok (.aload_n 0, 1) := by decide +kernel
theorem d_Mo_search_156 : decode prog_13_method_44_code 156 = .ok (.invokevirtual 260, 3) := by decide +kernel
theorem d_Mo_search_159 : decode prog_13_method_44_code 159 = .ok (.aload_n 0, 1) := by decide +kernel
theorem d_Mo_search_160 : decode prog_13_method_44_code 160 = .ok (.aload_n 0, 1) := by decide +kernel
theorem d_Mo_search_161 : decode prog_13_method_44_code 161 = .ok (.getfield 189, 3) := by decide +kernel
theorem d_Mo_search_164 : decode prog_13_method_44_code 164 = .ok (.putfield 81, 3) := by decide +kernel
theorem d_Mo_search_167 : decode prog_13_method_44_code 167 = .ok (.aload_n 0, 1) := by decide +kernel
theorem d_Mo_search_168 : decode prog_13_method_44_code 168 = .ok (.getfield 105, 3) := by decide +kernel
theorem d_Mo_search_171 : decode prog_13_method_44_code 171 = .ok (.ifCond .eq 12, 3) := by decide +kernel
theorem d_Mo_search_174 : decode prog_13_method_44_code 174 = .ok (.aload_n 0, 1) := by decide +kernel
theorem d_Mo_search_175 : decode prog_13_method_44_code 175 = .ok (.getfield 84, 3) := by decide +kernel
theorem d_Mo_search_178 : decode prog_13_method_44_code 178 = .ok (.iconst 0, 1) := by decide +kernel
theorem d_Mo_search_179 : decode prog_13_method_44_code 179 = .ok (.iaload, 1) := by decide +kernel
theorem d_Mo_search_180 : decode prog_13_method_44_code 180 = .ok (.goto 4, 3) := by decide +kernel
theorem d_Mo_search_183 : decode prog_13_method_44_code 183 = .ok (.iconst (-1), 1) := by decide +kernel
theorem d_Mo_search_184 : decode prog_13_method_44_code 184 = .ok (.ireturn, 1) := by decide +kernel
theorem M_Mo_search : lt_M0 m_Mo_search 1 := ⟨lt_m5 121 rfl rfl, lt_m1 13 rfl rfl, ⟨by decide +kernel, by decide +kernel, by decide +kernel⟩, by decide⟩
theorem in_Mo_search : Cond.instanceMethod m_Mo_search.1 ∈ lt_T := lt_m5 119 rfl rfl
theorem se_Mo_search : Cond.selects "LinearSearchModel" m_Mo_search.1 m_Mo_search.1 ∈ lt_T := lt_m5 120 rfl rfl
abbrev m_Mo_runLists : lt_M := (⟨"LinearSearchModel", "runLists", "(IZ)V"⟩, prog_13_method_30_code, 5, none)
theorem d_Mo_runLists_0 : decode prog_13_method_30_code 0 = .ok (.aload_n 0, 1) := by decide +kernel
theorem d_Mo_runLists_1 : decode prog_13_method_30_code 1 = .ok (.iconst 0, 1) := by decide +kernel
theorem d_Mo_runLists_2 : decode prog_13_method_30_code 2 = .ok (.putfield 105, 3) := by decide +kernel
theorem d_Mo_runLists_5 : decode prog_13_method_30_code 5 = .ok (.iconst 0, 1) := by decide +kernel
theorem d_Mo_runLists_6 : decode prog_13_method_30_code 6 = .ok (.istore_n 3, 1) := by decide +kernel
theorem d_Mo_runLists_7 : decode prog_13_method_30_code 7 = .ok (.aload_n 0, 1) := by decide +kernel
theorem d_Mo_runLists_8 : decode prog_13_method_30_code 8 = .ok (.getfield 49, 3) := by decide +kernel
theorem d_Mo_runLists_11 : decode prog_13_method_30_code 11 = .ok (.iconst 0, 1) := by decide +kernel
theorem d_Mo_runLists_12 : decode prog_13_method_30_code 12 = .ok (.iconst 0, 1) := by decide +kernel
theorem d_Mo_runLists_13 : decode prog_13_method_30_code 13 = .ok (.iastore, 1) := by decide +kernel
theorem d_Mo_runLists_14 : decode prog_13_method_30_code 14 = .ok (.aload_n 0, 1) := by decide +kernel
theorem d_Mo_runLists_15 : decode prog_13_method_30_code 15 = .ok (.dup, 1) := by decide +kernel
theorem d_Mo_runLists_16 : decode prog_13_method_30_code 16 = .ok (.getfield 166, 3) := by decide +kernel
theorem d_Mo_runLists_19 : decode prog_13_method_30_code 19 = .ok (.iconst 1, 1) := by decide +kernel
theorem d_Mo_runLists_20 : decode prog_13_method_30_code 20 = .ok (.iadd, 1) := by decide +kernel
theorem d_Mo_runLists_21 : decode prog_13_method_30_code 21 = .ok (.putfield 166, 3) := by decide +kernel
theorem d_Mo_runLists_24 : decode prog_13_method_30_code 24 = .ok (.aload_n 0, 1) := by decide +kernel
theorem d_Mo_runLists_25 : decode prog_13_method_30_code 25 = .ok (.iload_n 1, 1) := by decide +kernel
theorem d_Mo_runLists_26 : decode prog_13_method_30_code 26 = .ok (.invokevirtual 205, 3) := by decide +kernel
theorem d_Mo_runLists_29 : decode prog_13_method_30_code 29 = .ok (.aload_n 0, 1) := by decide +kernel
theorem d_Mo_runLists_30 : decode prog_13_method_30_code 30 = .ok (.iconst 0, 1) := by decide +kernel
theorem d_Mo_runLists_31 : decode prog_13_method_30_code 31 = .ok (.iload_n 1, 1) := by decide +kernel
theorem d_Mo_runLists_32 : decode prog_13_method_30_code 32 = .ok (.iconst 0, 1) := by decide +kernel
theorem d_Mo_runLists_33 : decode prog_13_method_30_code 33 = .ok (.invokevirtual 202, 3) := by decide +kernel
theorem d_Mo_runLists_36 : decode prog_13_method_30_code 36 = .ok (.iload_n 1, 1) := by decide +kernel
theorem d_Mo_runLists_37 : decode prog_13_method_30_code 37 = .ok (.istore 4, 2) := by decide +kernel
theorem d_Mo_runLists_39 : decode prog_13_method_30_code 39 = .ok (.iload 4, 2) := by decide +kernel
theorem d_Mo_runLists_41 : decode prog_13_method_30_code 41 = .ok (.aload_n 0, 1) := by decide +kernel
theorem d_Mo_runLists_42 : decode prog_13_method_30_code 42 = .ok (.getfield 172, 3) := by decide +kernel
theorem d_Mo_runLists_45 : decode prog_13_method_30_code 45 = .ok (.if_icmp .gt 95, 3) := by decide +kernel
theorem d_Mo_runLists_48 : decode prog_13_method_30_code 48 = .ok (.aload_n 0, 1) := by decide +kernel
theorem d_Mo_runLists_49 : decode prog_13_method_30_code 49 = .ok (.getfield 49, 3) := by decide +kernel
theorem d_Mo_runLists_52 : decode prog_13_method_30_code 52 = .ok (.iload_n 3, 1) := by decide +kernel
theorem d_Mo_runLists_53 : decode prog_13_method_30_code 53 = .ok (.iaload, 1) := by decide +kernel
theorem d_Mo_runLists_54 : decode prog_13_method_30_code 54 = .ok (.ifCond .gt 10, 3) := by decide +kernel
theorem d_Mo_runLists_57 : decode prog_13_method_30_code 57 = .ok (.aload_n 0, 1) := by decide +kernel
theorem d_Mo_runLists_58 : decode prog_13_method_30_code 58 = .ok (.getfield 105, 3) := by decide +kernel
theorem d_Mo_runLists_61 : decode prog_13_method_30_code 61 = .ok (.ifCond .ne 79, 3) := by decide +kernel
theorem d_Mo_runLists_64 : decode prog_13_method_30_code 64 = .ok (.aload_n 0, 1) := by decide +kernel
theorem d_Mo_runLists_65 : decode prog_13_method_30_code 65 = .ok (.getfield 49, 3) := by decide +kernel
theorem d_Mo_runLists_68 : decode prog_13_method_30_code 68 = .ok (.iconst 1, 1) := by decide +kernel
theorem d_Mo_runLists_69 : decode prog_13_method_30_code 69 = .ok (.iload_n 3, 1) := by decide +kernel
theorem d_Mo_runLists_70 : decode prog_13_method_30_code 70 = .ok (.isub, 1) := by decide +kernel
theorem d_Mo_runLists_71 : decode prog_13_method_30_code 71 = .ok (.iconst 0, 1) := by decide +kernel
theorem d_Mo_runLists_72 : decode prog_13_method_30_code 72 = .ok (.iastore, 1) := by decide +kernel
theorem d_Mo_runLists_73 : decode prog_13_method_30_code 73 = .ok (.aload_n 0, 1) := by decide +kernel
theorem d_Mo_runLists_74 : decode prog_13_method_30_code 74 = .ok (.dup, 1) := by decide +kernel
theorem d_Mo_runLists_75 : decode prog_13_method_30_code 75 = .ok (.getfield 166, 3) := by decide +kernel
theorem d_Mo_runLists_78 : decode prog_13_method_30_code 78 = .ok (.iconst 1, 1) := by decide +kernel
theorem d_Mo_runLists_79 : decode prog_13_method_30_code 79 = .ok (.iadd, 1) := by decide +kernel
theorem d_Mo_runLists_80 : decode prog_13_method_30_code 80 = .ok (.putfield 166, 3) := by decide +kernel
theorem d_Mo_runLists_83 : decode prog_13_method_30_code 83 = .ok (.aload_n 0, 1) := by decide +kernel
theorem d_Mo_runLists_84 : decode prog_13_method_30_code 84 = .ok (.iload_n 3, 1) := by decide +kernel
theorem d_Mo_runLists_85 : decode prog_13_method_30_code 85 = .ok (.iload 4, 2) := by decide +kernel
theorem d_Mo_runLists_87 : decode prog_13_method_30_code 87 = .ok (.invokevirtual 208, 3) := by decide +kernel
theorem d_Mo_runLists_90 : decode prog_13_method_30_code 90 = .ok (.iload 4, 2) := by decide +kernel
theorem d_Mo_runLists_92 : decode prog_13_method_30_code 92 = .ok (.aload_n 0, 1) := by decide +kernel
theorem d_Mo_runLists_93 : decode prog_13_method_30_code 93 = .ok (.getfield 172, 3) := by decide +kernel
theorem d_Mo_runLists_96 : decode prog_13_method_30_code 96 = .ok (.if_icmp .ge 34, 3) := by decide +kernel
theorem d_Mo_runLists_99 : decode prog_13_method_30_code 99 = .ok (.aload_n 0, 1) := by decide +kernel
theorem d_Mo_runLists_100 : decode prog_13_method_30_code 100 = .ok (.getfield 105, 3) := by decide +kernel
theorem d_Mo_runLists_103 : decode prog_13_method_30_code 103 = .ok (.ifCond .ne 27, 3) := by decide +kernel
theorem d_Mo_runLists_106 : decode prog_13_method_30_code 106 = .ok (.iload_n 2, 1) := by decide +kernel
theorem d_Mo_runLists_107 : decode prog_13_method_30_code 107 = .ok (.ifCond .ne 23, 3) := by decide +kernel
theorem d_Mo_runLists_110 : decode prog_13_method_30_code 110 = .ok (.aload_n 0, 1) := by decide +kernel
theorem d_Mo_runLists_111 : decode prog_13_method_30_code 111 = .ok (.iload 4, 2) := by decide +kernel
theorem d_Mo_runLists_113 : decode prog_13_method_30_code 113 = .ok (.iconst 1, 1) := by decide +kernel
theorem d_Mo_runLists_114 : decode prog_13_method_30_code 114 = .ok (.iadd, 1) := by decide +kernel
theorem d_Mo_runLists_115 : decode prog_13_method_30_code 115 = .ok (.invokevirtual 205, 3) := by decide +kernel
theorem d_Mo_runLists_118 : decode prog_13_method_30_code 118 = .ok (.aload_n 0, 1) := by decide +kernel
theorem d_Mo_runLists_119 : decode prog_13_method_30_code 119 = .ok (.iconst 0, 1) := by decide +kernel
theorem d_Mo_runLists_120 : decode prog_13_method_30_code 120 = .ok (.iload 4, 2) := by decide +kernel
theorem d_Mo_runLists_122 : decode prog_13_method_30_code 122 = .ok (.iconst 1, 1) := by decide +kernel
theorem d_Mo_runLists_123 : decode prog_13_method_30_code 123 = .ok (.iadd, 1) := by decide +kernel
theorem d_Mo_runLists_124 : decode prog_13_method_30_code 124 = .ok (.iconst 1, 1) := by decide +kernel
theorem d_Mo_runLists_125 : decode prog_13_method_30_code 125 = .ok (.iload_n 3, 1) := by decide +kernel
theorem d_Mo_runLists_126 : decode prog_13_method_30_code 126 = .ok (.isub, 1) := by decide +kernel
theorem d_Mo_runLists_127 : decode prog_13_method_30_code 127 = .ok (.invokevirtual 202, 3) := by decide +kernel
theorem d_Mo_runLists_130 : decode prog_13_method_30_code 130 = .ok (.iconst 1, 1) := by decide +kernel
theorem d_Mo_runLists_131 : decode prog_13_method_30_code 131 = .ok (.iload_n 3, 1) := by decide +kernel
theorem d_Mo_runLists_132 : decode prog_13_method_30_code 132 = .ok (.isub, 1) := by decide +kernel
theorem d_Mo_runLists_133 : decode prog_13_method_30_code 133 = .ok (.istore_n 3, 1) := by decide +kernel
theorem d_Mo_runLists_134 : decode prog_13_method_30_code 134 = .ok (.iinc 4 1, 3) := by decide +kernel
theorem d_Mo_runLists_137 : decode prog_13_method_30_code 137 = .ok (.goto (-98), 3) := by decide +kernel
theorem d_Mo_runLists_140 : decode prog_13_method_30_code 140 = .ok (.return_, 1) := by decide +kernel
theorem M_Mo_runLists : lt_M0 m_Mo_runLists 2 := ⟨lt_m5 125 rfl rfl, lt_m1 13 rfl rfl, ⟨by decide +kernel, by decide +kernel, by decide +kernel⟩, by decide⟩
theorem in_Mo_runLists : Cond.instanceMethod m_Mo_runLists.1 ∈ lt_T := lt_m5 124 rfl rfl
theorem se_Mo_runLists : Cond.selects "LinearSearchModel" m_Mo_runLists.1 m_Mo_runLists.1 ∈ lt_T := lt_memS 38 rfl rfl
abbrev m_Mo_begin : lt_M := (⟨"LinearSearchModel", "begin", "(I)V"⟩, prog_13_method_21_code, 3, none)
theorem d_Mo_begin_0 : decode prog_13_method_21_code 0 = .ok (.iconst 0, 1) := by decide +kernel
theorem d_Mo_begin_1 : decode prog_13_method_21_code 1 = .ok (.istore_n 2, 1) := by decide +kernel
theorem d_Mo_begin_2 : decode prog_13_method_21_code 2 = .ok (.iload_n 2, 1) := by decide +kernel
theorem d_Mo_begin_3 : decode prog_13_method_21_code 3 = .ok (.bipush 8, 2) := by decide +kernel
theorem d_Mo_begin_5 : decode prog_13_method_21_code 5 = .ok (.if_icmp .ge 16, 3) := by decide +kernel
theorem d_Mo_begin_8 : decode prog_13_method_21_code 8 = .ok (.aload_n 0, 1) := by decide +kernel
theorem d_Mo_begin_9 : decode prog_13_method_21_code 9 = .ok (.getfield 46, 3) := by decide +kernel
theorem d_Mo_begin_12 : decode prog_13_method_21_code 12 = .ok (.iload_n 2, 1) := by decide +kernel
theorem d_Mo_begin_13 : decode prog_13_method_21_code 13 = .ok (.iconst (-1), 1) := by decide +kernel
theorem d_Mo_begin_14 : decode prog_13_method_21_code 14 = .ok (.iastore, 1) := by decide +kernel
theorem d_Mo_begin_15 : decode prog_13_method_21_code 15 = .ok (.iinc 2 1, 3) := by decide +kernel
theorem d_Mo_begin_18 : decode prog_13_method_21_code 18 = .ok (.goto (-16), 3) := by decide +kernel
theorem d_Mo_begin_21 : decode prog_13_method_21_code 21 = .ok (.aload_n 0, 1) := by decide +kernel
theorem d_Mo_begin_22 : decode prog_13_method_21_code 22 = .ok (.getfield 46, 3) := by decide +kernel
theorem d_Mo_begin_25 : decode prog_13_method_21_code 25 = .ok (.iconst 0, 1) := by decide +kernel
theorem d_Mo_begin_26 : decode prog_13_method_21_code 26 = .ok (.iload_n 1, 1) := by decide +kernel
theorem d_Mo_begin_27 : decode prog_13_method_21_code 27 = .ok (.iastore, 1) := by decide +kernel
theorem d_Mo_begin_28 : decode prog_13_method_21_code 28 = .ok (.return_, 1) := by decide +kernel
theorem M_Mo_begin : lt_M0 m_Mo_begin 1 := ⟨lt_m5 129 rfl rfl, lt_m1 13 rfl rfl, ⟨by decide +kernel, by decide +kernel, by decide +kernel⟩, by decide⟩
theorem in_Mo_begin : Cond.instanceMethod m_Mo_begin.1 ∈ lt_T := lt_m5 128 rfl rfl
theorem se_Mo_begin : Cond.selects "LinearSearchModel" m_Mo_begin.1 m_Mo_begin.1 ∈ lt_T := lt_memS 39 rfl rfl
abbrev m_Mo_follow : lt_M := (⟨"LinearSearchModel", "follow", "(III)V"⟩, prog_13_method_25_code, 6, none)
theorem d_Mo_follow_0 : decode prog_13_method_25_code 0 = .ok (.aload_n 0, 1) := by decide +kernel
theorem d_Mo_follow_1 : decode prog_13_method_25_code 1 = .ok (.iconst 0, 1) := by decide +kernel
theorem d_Mo_follow_2 : decode prog_13_method_25_code 2 = .ok (.putfield 169, 3) := by decide +kernel
theorem d_Mo_follow_5 : decode prog_13_method_25_code 5 = .ok (.iload_n 1, 1) := by decide +kernel
theorem d_Mo_follow_6 : decode prog_13_method_25_code 6 = .ok (.istore 4, 2) := by decide +kernel
theorem d_Mo_follow_8 : decode prog_13_method_25_code 8 = .ok (.iload 4, 2) := by decide +kernel
theorem d_Mo_follow_10 : decode prog_13_method_25_code 10 = .ok (.iconst (-1), 1) := by decide +kernel
theorem d_Mo_follow_11 : decode prog_13_method_25_code 11 = .ok (.if_icmp .eq 90, 3) := by decide +kernel
theorem d_Mo_follow_14 : decode prog_13_method_25_code 14 = .ok (.iconst (-1), 1) := by decide +kernel
theorem d_Mo_follow_15 : decode prog_13_method_25_code 15 = .ok (.istore 5, 2) := by decide +kernel
theorem d_Mo_follow_17 : decode prog_13_method_25_code 17 = .ok (.aload_n 0, 1) := by decide +kernel
theorem d_Mo_follow_18 : decode prog_13_method_25_code 18 = .ok (.getfield 34, 3) := by decide +kernel
theorem d_Mo_follow_21 : decode prog_13_method_25_code 21 = .ok (.iload 4, 2) := by decide +kernel
theorem d_Mo_follow_23 : decode prog_13_method_25_code 23 = .ok (.iaload, 1) := by decide +kernel
theorem d_Mo_follow_24 : decode prog_13_method_25_code 24 = .ok (.aload_n 0, 1) := by decide +kernel
theorem d_Mo_follow_25 : decode prog_13_method_25_code 25 = .ok (.getfield 166, 3) := by decide +kernel
theorem d_Mo_follow_28 : decode prog_13_method_25_code 28 = .ok (.if_icmp .eq 53, 3) := by decide +kernel
theorem d_Mo_follow_31 : decode prog_13_method_25_code 31 = .ok (.aload_n 0, 1) := by decide +kernel
theorem d_Mo_follow_32 : decode prog_13_method_25_code 32 = .ok (.getfield 34, 3) := by decide +kernel
theorem d_Mo_follow_35 : decode prog_13_method_25_code 35 = .ok (.iload 4, 2) := by decide +kernel
theorem d_Mo_follow_37 : decode prog_13_method_25_code 37 = .ok (.aload_n 0, 1) := by decide +kernel
theorem d_Mo_follow_38 : decode prog_13_method_25_code 38 = .ok (.getfield 166, 3) := by decide +kernel
theorem d_Mo_follow_41 : decode prog_13_method_25_code 41 = .ok (.iastore, 1) := by decide +kernel
theorem d_Mo_follow_42 : decode prog_13_method_25_code 42 = .ok (.aload_n 0, 1) := by decide +kernel
theorem d_Mo_follow_43 : decode prog_13_method_25_code 43 = .ok (.iload 4, 2) := by decide +kernel
theorem d_Mo_follow_45 : decode prog_13_method_25_code 45 = .ok (.iload_n 2, 1) := by decide +kernel
theorem d_Mo_follow_46 : decode prog_13_method_25_code 46 = .ok (.invokevirtual 179, 3) := by decide +kernel
theorem d_Mo_follow_49 : decode prog_13_method_25_code 49 = .ok (.istore 5, 2) := by decide +kernel
theorem d_Mo_follow_51 : decode prog_13_method_25_code 51 = .ok (.aload_n 0, 1) := by decide +kernel
theorem d_Mo_follow_52 : decode prog_13_method_25_code 52 = .ok (.getfield 16, 3) := by decide +kernel
theorem d_Mo_follow_55 : decode prog_13_method_25_code 55 = .ok (.iload 4, 2) := by decide +kernel
theorem d_Mo_follow_57 : decode prog_13_method_25_code 57 = .ok (.iaload, 1) := by decide +kernel
theorem d_Mo_follow_58 : decode prog_13_method_25_code 58 = .ok (.iconst 1, 1) := by decide +kernel
theorem d_Mo_follow_59 : decode prog_13_method_25_code 59 = .ok (.if_icmp .le 15, 3) := by decide +kernel
theorem d_Mo_follow_62 : decode prog_13_method_25_code 62 = .ok (.aload_n 0, 1) := by decide +kernel
theorem d_Mo_follow_63 : decode prog_13_method_25_code 63 = .ok (.getfield 16, 3) := by decide +kernel
theorem d_Mo_follow_66 : decode prog_13_method_25_code 66 = .ok (.iload 4, 2) := by decide +kernel
theorem d_Mo_follow_68 : decode prog_13_method_25_code 68 = .ok (.iaload, 1) := by decide +kernel
theorem d_Mo_follow_69 : decode prog_13_method_25_code 69 = .ok (.bipush 7, 2) := by decide +kernel
theorem d_Mo_follow_71 : decode prog_13_method_25_code 71 = .ok (.if_icmp .ne 10, 3) := by decide +kernel
theorem d_Mo_follow_74 : decode prog_13_method_25_code 74 = .ok (.aload_n 0, 1) := by decide +kernel
theorem d_Mo_follow_75 : decode prog_13_method_25_code 75 = .ok (.iload 4, 2) := by decide +kernel
theorem d_Mo_follow_77 : decode prog_13_method_25_code 77 = .ok (.iload_n 3, 1) := by decide +kernel
theorem d_Mo_follow_78 : decode prog_13_method_25_code 78 = .ok (.invokevirtual 183, 3) := by decide +kernel
theorem d_Mo_follow_81 : decode prog_13_method_25_code 81 = .ok (.iload 5, 2) := by decide +kernel
theorem d_Mo_follow_83 : decode prog_13_method_25_code 83 = .ok (.iconst (-1), 1) := by decide +kernel
theorem d_Mo_follow_84 : decode prog_13_method_25_code 84 = .ok (.if_icmp .ne 10, 3) := by decide +kernel
theorem d_Mo_follow_87 : decode prog_13_method_25_code 87 = .ok (.aload_n 0, 1) := by decide +kernel
theorem d_Mo_follow_88 : decode prog_13_method_25_code 88 = .ok (.invokevirtual 186, 3) := by decide +kernel
theorem d_Mo_follow_91 : decode prog_13_method_25_code 91 = .ok (.goto 5, 3) := by decide +kernel
theorem d_Mo_follow_94 : decode prog_13_method_25_code 94 = .ok (.iload 5, 2) := by decide +kernel
theorem d_Mo_follow_96 : decode prog_13_method_25_code 96 = .ok (.istore 4, 2) := by decide +kernel
theorem d_Mo_follow_98 : decode prog_13_method_25_code 98 = .ok (.goto (-90), 3) := by decide +kernel
theorem d_Mo_follow_101 : decode prog_13_method_25_code 101 = .ok (.return_, 1) := by decide +kernel
theorem M_Mo_follow : lt_M0 m_Mo_follow 3 := ⟨lt_m5 133 rfl rfl, lt_m1 13 rfl rfl, ⟨by decide +kernel, by decide +kernel, by decide +kernel⟩, by decide⟩
theorem in_Mo_follow : Cond.instanceMethod m_Mo_follow.1 ∈ lt_T := lt_m5 132 rfl rfl
theorem se_Mo_follow : Cond.selects "LinearSearchModel" m_Mo_follow.1 m_Mo_follow.1 ∈ lt_T := lt_memS 40 rfl rfl
abbrev m_Mo_behind : lt_M := (⟨"LinearSearchModel", "behind", "(II)I"⟩, prog_13_method_24_code, 3, (some .int))
theorem d_Mo_behind_0 : decode prog_13_method_24_code 0 = .ok (.aload_n 0, 1) := by decide +kernel
theorem d_Mo_behind_1 : decode prog_13_method_24_code 1 = .ok (.getfield 16, 3) := by decide +kernel
theorem d_Mo_behind_4 : decode prog_13_method_24_code 4 = .ok (.iload_n 1, 1) := by decide +kernel
theorem d_Mo_behind_5 : decode prog_13_method_24_code 5 = .ok (.iaload, 1) := by decide +kernel
theorem d_Mo_behind_6 : decode prog_13_method_24_code 6 = .ok (.tableswitch 103 2 6 #[34, 52, 59, 75, 87], 34) := by decide +kernel
theorem d_Mo_behind_40 : decode prog_13_method_24_code 40 = .ok (.aload_n 0, 1) := by decide +kernel
theorem d_Mo_behind_41 : decode prog_13_method_24_code 41 = .ok (.aload_n 0, 1) := by decide +kernel
theorem d_Mo_behind_42 : decode prog_13_method_24_code 42 = .ok (.getfield 22, 3) := by decide +kernel
theorem d_Mo_behind_45 : decode prog_13_method_24_code 45 = .ok (.iload_n 1, 1) := by decide +kernel
theorem d_Mo_behind_46 : decode prog_13_method_24_code 46 = .ok (.iaload, 1) := by decide +kernel
theorem d_Mo_behind_47 : decode prog_13_method_24_code 47 = .ok (.iload_n 2, 1) := by decide +kernel
theorem d_Mo_behind_48 : decode prog_13_method_24_code 48 = .ok (.invokevirtual 175, 3) := by decide +kernel
theorem d_Mo_behind_51 : decode prog_13_method_24_code 51 = .ok (.aload_n 0, 1) := by decide +kernel
theorem d_Mo_behind_52 : decode prog_13_method_24_code 52 = .ok (.getfield 19, 3) := by decide +kernel
theorem d_Mo_behind_55 : decode prog_13_method_24_code 55 = .ok (.iload_n 1, 1) := by decide +kernel
theorem d_Mo_behind_56 : decode prog_13_method_24_code 56 = .ok (.iaload, 1) := by decide +kernel
theorem d_Mo_behind_57 : decode prog_13_method_24_code 57 = .ok (.ireturn, 1) := by decide +kernel
theorem d_Mo_behind_58 : decode prog_13_method_24_code 58 = .ok (.aload_n 0, 1) := by decide +kernel
theorem d_Mo_behind_59 : decode prog_13_method_24_code 59 = .ok (.getfield 19, 3) := by decide +kernel
theorem d_Mo_behind_62 : decode prog_13_method_24_code 62 = .ok (.iload_n 1, 1) := by decide +kernel
theorem d_Mo_behind_63 : decode prog_13_method_24_code 63 = .ok (.iaload, 1) := by decide +kernel
theorem d_Mo_behind_64 : decode prog_13_method_24_code 64 = .ok (.ireturn, 1) := by decide +kernel
theorem d_Mo_behind_65 : decode prog_13_method_24_code 65 = .ok (.aload_n 0, 1) := by decide +kernel
theorem d_Mo_behind_66 : decode prog_13_method_24_code 66 = .ok (.getfield 46, 3) := by decide +kernel
theorem d_Mo_behind_69 : decode prog_13_method_24_code 69 = .ok (.aload_n 0, 1) := by decide +kernel
theorem d_Mo_behind_70 : decode prog_13_method_24_code 70 = .ok (.getfield 19, 3) := by decide +kernel
theorem d_Mo_behind_73 : decode prog_13_method_24_code 73 = .ok (.iload_n 1, 1) := by decide +kernel
theorem d_Mo_behind_74 : decode prog_13_method_24_code 74 = .ok (.iaload, 1) := by decide +kernel
theorem d_Mo_behind_75 : decode prog_13_method_24_code 75 = .ok (.iload_n 2, 1) := by decide +kernel
theorem d_Mo_behind_76 : decode prog_13_method_24_code 76 = .ok (.iastore, 1) := by decide +kernel
theorem d_Mo_behind_77 : decode prog_13_method_24_code 77 = .ok (.iload_n 1, 1) := by decide +kernel
theorem d_Mo_behind_78 : decode prog_13_method_24_code 78 = .ok (.iconst 1, 1) := by decide +kernel
theorem d_Mo_behind_79 : decode prog_13_method_24_code 79 = .ok (.iadd, 1) := by decide +kernel
theorem d_Mo_behind_80 : decode prog_13_method_24_code 80 = .ok (.ireturn, 1) := by decide +kernel
theorem d_Mo_behind_81 : decode prog_13_method_24_code 81 = .ok (.iload_n 2, 1) := by decide +kernel
theorem d_Mo_behind_82 : decode prog_13_method_24_code 82 = .ok (.ifCond .ne 9, 3) := by decide +kernel
theorem d_Mo_behind_85 : decode prog_13_method_24_code 85 = .ok (.iload_n 1, 1) := by decide +kernel
theorem d_Mo_behind_86 : decode prog_13_method_24_code 86 = .ok (.iconst 1, 1) := by decide +kernel
theorem d_Mo_behind_87 : decode prog_13_method_24_code 87 = .ok (.iadd, 1) := by decide +kernel
theorem d_Mo_behind_88 : decode prog_13_method_24_code 88 = .ok (.goto 4, 3) := by decide +kernel
theorem d_Mo_behind_91 : decode prog_13_method_24_code 91 = .ok (.iconst (-1), 1) := by decide +kernel
theorem d_Mo_behind_92 : decode prog_13_method_24_code 92 = .ok (.ireturn, 1) := by decide +kernel
theorem d_Mo_behind_93 : decode prog_13_method_24_code 93 = .ok (.iload_n 2, 1) := by decide +kernel
theorem d_Mo_behind_94 : decode prog_13_method_24_code 94 = .ok (.aload_n 0, 1) := by decide +kernel
theorem d_Mo_behind_95 : decode prog_13_method_24_code 95 = .ok (.getfield 172, 3) := by decide +kernel
theorem d_Mo_behind_98 : decode prog_13_method_24_code 98 = .ok (.if_icmp .ne 9, 3) := by decide +kernel
theorem d_Mo_behind_101 : decode prog_13_method_24_code 101 = .ok (.iload_n 1, 1) := by decide +kernel
theorem d_Mo_behind_102 : decode prog_13_method_24_code 102 = .ok (.iconst 1, 1) := by decide +kernel
theorem d_Mo_behind_103 : decode prog_13_method_24_code 103 = .ok (.iadd, 1) := by decide +kernel
theorem d_Mo_behind_104 : decode prog_13_method_24_code 104 = .ok (.goto 4, 3) := by decide +kernel
theorem d_Mo_behind_107 : decode prog_13_method_24_code 107 = .ok (.iconst (-1), 1) := by decide +kernel
theorem d_Mo_behind_108 : decode prog_13_method_24_code 108 = .ok (.ireturn, 1) := by decide +kernel
theorem d_Mo_behind_109 : decode prog_13_method_24_code 109 = .ok (.iconst (-1), 1) := by decide +kernel
theorem d_Mo_behind_110 : decode prog_13_method_24_code 110 = .ok (.ireturn, 1) := by decide +kernel
theorem M_Mo_behind : lt_M0 m_Mo_behind 2 := ⟨lt_m5 137 rfl rfl, lt_m1 13 rfl rfl, ⟨by decide +kernel, by decide +kernel, by decide +kernel⟩, by decide⟩
theorem in_Mo_behind : Cond.instanceMethod m_Mo_behind.1 ∈ lt_T := lt_m5 136 rfl rfl
theorem se_Mo_behind : Cond.selects "LinearSearchModel" m_Mo_behind.1 m_Mo_behind.1 ∈ lt_T := lt_memS 41 rfl rfl
abbrev m_Mo_otherWay : lt_M := (⟨"LinearSearchModel", "otherWay", "(II)V"⟩, prog_13_method_22_code, 4, none)
theorem d_Mo_otherWay_0 : decode prog_13_method_22_code 0 = .ok (.aload_n 0, 1) := by decide +kernel
theorem d_Mo_otherWay_1 : decode prog_13_method_22_code 1 = .ok (.getfield 37, 3) := by decide +kernel
theorem d_Mo_otherWay_4 : decode prog_13_method_22_code 4 = .ok (.aload_n 0, 1) := by decide +kernel
theorem d_Mo_otherWay_5 : decode prog_13_method_22_code 5 = .ok (.getfield 169, 3) := by decide +kernel
theorem d_Mo_otherWay_8 : decode prog_13_method_22_code 8 = .ok (.iload_n 1, 1) := by decide +kernel
theorem d_Mo_otherWay_9 : decode prog_13_method_22_code 9 = .ok (.iastore, 1) := by decide +kernel
theorem d_Mo_otherWay_10 : decode prog_13_method_22_code 10 = .ok (.aload_n 0, 1) := by decide +kernel
theorem d_Mo_otherWay_11 : decode prog_13_method_22_code 11 = .ok (.getfield 40, 3) := by decide +kernel
theorem d_Mo_otherWay_14 : decode prog_13_method_22_code 14 = .ok (.aload_n 0, 1) := by decide +kernel
theorem d_Mo_otherWay_15 : decode prog_13_method_22_code 15 = .ok (.getfield 169, 3) := by decide +kernel
theorem d_Mo_otherWay_18 : decode prog_13_method_22_code 18 = .ok (.iload_n 2, 1) := by decide +kernel
theorem d_Mo_otherWay_19 : decode prog_13_method_22_code 19 = .ok (.iastore, 1) := by decide +kernel
theorem d_Mo_otherWay_20 : decode prog_13_method_22_code 20 = .ok (.iconst 0, 1) := by decide +kernel
theorem d_Mo_otherWay_21 : decode prog_13_method_22_code 21 = .ok (.istore_n 3, 1) := by decide +kernel
theorem d_Mo_otherWay_22 : decode prog_13_method_22_code 22 = .ok (.iload_n 3, 1) := by decide +kernel
theorem d_Mo_otherWay_23 : decode prog_13_method_22_code 23 = .ok (.bipush 8, 2) := by decide +kernel
theorem d_Mo_otherWay_25 : decode prog_13_method_22_code 25 = .ok (.if_icmp .ge 29, 3) := by decide +kernel
theorem d_Mo_otherWay_28 : decode prog_13_method_22_code 28 = .ok (.aload_n 0, 1) := by decide +kernel
theorem d_Mo_otherWay_29 : decode prog_13_method_22_code 29 = .ok (.getfield 43, 3) := by decide +kernel
theorem d_Mo_otherWay_32 : decode prog_13_method_22_code 32 = .ok (.bipush 8, 2) := by decide +kernel
theorem d_Mo_otherWay_34 : decode prog_13_method_22_code 34 = .ok (.aload_n 0, 1) := by decide +kernel
theorem d_Mo_otherWay_35 : decode prog_13_method_22_code 35 = .ok (.getfield 169, 3) := by decide +kernel
theorem d_Mo_otherWay_38 : decode prog_13_method_22_code 38 = .ok (.imul, 1) := by decide +kernel
theorem d_Mo_otherWay_39 : decode prog_13_method_22_code 39 = .ok (.iload_n 3, 1) := by decide +kernel
theorem d_Mo_otherWay_40 : decode prog_13_method_22_code 40 = .ok (.iadd, 1) := by decide +kernel
theorem d_Mo_otherWay_41 : decode prog_13_method_22_code 41 = .ok (.aload_n 0, 1) := by decide +kernel
theorem d_Mo_otherWay_42 : decode prog_13_method_22_code 42 = .ok (.getfield 46, 3) := by decide +kernel
theorem d_Mo_otherWay_45 : decode prog_13_method_22_code 45 = .ok (.iload_n 3, 1) := by decide +kernel
theorem d_Mo_otherWay_46 : decode prog_13_method_22_code 46 = .ok (.iaload, 1) := by decide +kernel
theorem d_Mo_otherWay_47 : decode prog_13_method_22_code 47 = .ok (.iastore, 1) := by decide +kernel
theorem d_Mo_otherWay_48 : decode prog_13_method_22_code 48 = .ok (.iinc 3 1, 3) := by decide +kernel
theorem d_Mo_otherWay_51 : decode prog_13_method_22_code 51 = .ok (.goto (-29), 3) := by decide +kernel
theorem d_Mo_otherWay_54 : decode prog_13_method_22_code 54 = .ok (.aload_n 0, 1) := by decide +kernel
theorem d_Mo_otherWay_55 : decode prog_13_method_22_code 55 = .ok (.dup, 1) := by decide +kernel
theorem d_Mo_otherWay_56 : decode prog_13_method_22_code 56 = .ok (.getfield 169, 3) := by decide +kernel
theorem d_Mo_otherWay_59 : decode prog_13_method_22_code 59 = .ok (.iconst 1, 1) := by decide +kernel
theorem d_Mo_otherWay_60 : decode prog_13_method_22_code 60 = .ok (.iadd, 1) := by decide +kernel
theorem d_Mo_otherWay_61 : decode prog_13_method_22_code 61 = .ok (.putfield 169, 3) := by decide +kernel
theorem d_Mo_otherWay_64 : decode prog_13_method_22_code 64 = .ok (.return_, 1) := by decide +kernel
theorem M_Mo_otherWay : lt_M0 m_Mo_otherWay 2 := ⟨lt_m5 141 rfl rfl, lt_m1 13 rfl rfl, ⟨by decide +kernel, by decide +kernel, by decide +kernel⟩, by decide⟩
theorem in_Mo_otherWay : Cond.instanceMethod m_Mo_otherWay.1 ∈ lt_T := lt_m5 140 rfl rfl
theorem se_Mo_otherWay : Cond.selects "LinearSearchModel" m_Mo_otherWay.1 m_Mo_otherWay.1 ∈ lt_T := lt_memS 42 rfl rfl
abbrev m_Mo_enter : lt_M := (⟨"LinearSearchModel", "enter", "(II)V"⟩, prog_13_method_26_code, 5, none)
theorem d_Mo_enter_0 : decode prog_13_method_26_code 0 = .ok (.bipush 64, 2) := by decide +kernel
theorem d_Mo_enter_2 : decode prog_13_method_26_code 2 = .ok (.iload_n 2, 1) := by decide +kernel
theorem d_Mo_enter_3 : decode prog_13_method_26_code 3 = .ok (.imul, 1) := by decide +kernel
theorem d_Mo_enter_4 : decode prog_13_method_26_code 4 = .ok (.aload_n 0, 1) := by decide +kernel
theorem d_Mo_enter_5 : decode prog_13_method_26_code 5 = .ok (.getfield 49, 3) := by decide +kernel
theorem d_Mo_enter_8 : decode prog_13_method_26_code 8 = .ok (.iload_n 2, 1) := by decide +kernel
theorem d_Mo_enter_9 : decode prog_13_method_26_code 9 = .ok (.iaload, 1) := by decide +kernel
theorem d_Mo_enter_10 : decode prog_13_method_26_code 10 = .ok (.iadd, 1) := by decide +kernel
theorem d_Mo_enter_11 : decode prog_13_method_26_code 11 = .ok (.istore_n 3, 1) := by decide +kernel
theorem d_Mo_enter_12 : decode prog_13_method_26_code 12 = .ok (.aload_n 0, 1) := by decide +kernel
theorem d_Mo_enter_13 : decode prog_13_method_26_code 13 = .ok (.getfield 52, 3) := by decide +kernel
theorem d_Mo_enter_16 : decode prog_13_method_26_code 16 = .ok (.iload_n 3, 1) := by decide +kernel
theorem d_Mo_enter_17 : decode prog_13_method_26_code 17 = .ok (.iload_n 1, 1) := by decide +kernel
theorem d_Mo_enter_18 : decode prog_13_method_26_code 18 = .ok (.iastore, 1) := by decide +kernel
theorem d_Mo_enter_19 : decode prog_13_method_26_code 19 = .ok (.iconst 0, 1) := by decide +kernel
theorem d_Mo_enter_20 : decode prog_13_method_26_code 20 = .ok (.istore 4, 2) := by decide +kernel
theorem d_Mo_enter_22 : decode prog_13_method_26_code 22 = .ok (.iload 4, 2) := by decide +kernel
theorem d_Mo_enter_24 : decode prog_13_method_26_code 24 = .ok (.bipush 8, 2) := by decide +kernel
theorem d_Mo_enter_26 : decode prog_13_method_26_code 26 = .ok (.if_icmp .ge 28, 3) := by decide +kernel
theorem d_Mo_enter_29 : decode prog_13_method_26_code 29 = .ok (.aload_n 0, 1) := by decide +kernel
theorem d_Mo_enter_30 : decode prog_13_method_26_code 30 = .ok (.getfield 55, 3) := by decide +kernel
theorem d_Mo_enter_33 : decode prog_13_method_26_code 33 = .ok (.bipush 8, 2) := by decide +kernel
theorem d_Mo_enter_35 : decode prog_13_method_26_code 35 = .ok (.iload_n 3, 1) := by decide +kernel
theorem d_Mo_enter_36 : decode prog_13_method_26_code 36 = .ok (.imul, 1) := by decide +kernel
theorem d_Mo_enter_37 : decode prog_13_method_26_code 37 = .ok (.iload 4, 2) := by decide +kernel
theorem d_Mo_enter_39 : decode prog_13_method_26_code 39 = .ok (.iadd, 1) := by decide +kernel
theorem d_Mo_enter_40 : decode prog_13_method_26_code 40 = .ok (.aload_n 0, 1) := by decide +kernel
theorem d_Mo_enter_41 : decode prog_13_method_26_code 41 = .ok (.getfield 46, 3) := by decide +kernel
theorem d_Mo_enter_44 : decode prog_13_method_26_code 44 = .ok (.iload 4, 2) := by decide +kernel
theorem d_Mo_enter_46 : decode prog_13_method_26_code 46 = .ok (.iaload, 1) := by decide +kernel
theorem d_Mo_enter_47 : decode prog_13_method_26_code 47 = .ok (.iastore, 1) := by decide +kernel
theorem d_Mo_enter_48 : decode prog_13_method_26_code 48 = .ok (.iinc 4 1, 3) := by decide +kernel
theorem d_Mo_enter_51 : decode prog_13_method_26_code 51 = .ok (.goto (-29), 3) := by decide +kernel
theorem d_Mo_enter_54 : decode prog_13_method_26_code 54 = .ok (.aload_n 0, 1) := by decide +kernel
theorem d_Mo_enter_55 : decode prog_13_method_26_code 55 = .ok (.getfield 49, 3) := by decide +kernel
theorem d_Mo_enter_58 : decode prog_13_method_26_code 58 = .ok (.iload_n 2, 1) := by decide +kernel
theorem d_Mo_enter_59 : decode prog_13_method_26_code 59 = .ok (.dup2, 1) := by decide +kernel
theorem d_Mo_enter_60 : decode prog_13_method_26_code 60 = .ok (.iaload, 1) := by decide +kernel
theorem d_Mo_enter_61 : decode prog_13_method_26_code 61 = .ok (.iconst 1, 1) := by decide +kernel
theorem d_Mo_enter_62 : decode prog_13_method_26_code 62 = .ok (.iadd, 1) := by decide +kernel
theorem d_Mo_enter_63 : decode prog_13_method_26_code 63 = .ok (.iastore, 1) := by decide +kernel
theorem d_Mo_enter_64 : decode prog_13_method_26_code 64 = .ok (.return_, 1) := by decide +kernel
theorem M_Mo_enter : lt_M0 m_Mo_enter 2 := ⟨lt_m5 145 rfl rfl, lt_m1 13 rfl rfl, ⟨by decide +kernel, by decide +kernel, by decide +kernel⟩, by decide⟩
theorem in_Mo_enter : Cond.instanceMethod m_Mo_enter.1 ∈ lt_T := lt_m5 144 rfl rfl
theorem se_Mo_enter : Cond.selects "LinearSearchModel" m_Mo_enter.1 m_Mo_enter.1 ∈ lt_T := lt_memS 43 rfl rfl
abbrev m_Mo_back : lt_M := (⟨"LinearSearchModel", "back", "()I"⟩, prog_13_method_23_code, 2, (some .int))
theorem d_Mo_back_0 : decode prog_13_method_23_code 0 = .ok (.aload_n 0, 1) := by decide +kernel
theorem d_Mo_back_1 : decode prog_13_method_23_code 1 = .ok (.getfield 169, 3) := by decide +kernel
theorem d_Mo_back_4 : decode prog_13_method_23_code 4 = .ok (.ifCond .ne 5, 3) := by decide +kernel
theorem d_Mo_back_7 : decode prog_13_method_23_code 7 = .ok (.iconst (-1), 1) := by decide +kernel
theorem d_Mo_back_8 : decode prog_13_method_23_code 8 = .ok (.ireturn, 1) := by decide +kernel
theorem d_Mo_back_9 : decode prog_13_method_23_code 9 = .ok (.aload_n 0, 1) := by decide +kernel
theorem d_Mo_back_10 : decode prog_13_method_23_code 10 = .ok (.dup, 1) := by decide +kernel
theorem d_Mo_back_11 : decode prog_13_method_23_code 11 = .ok (.getfield 169, 3) := by decide +kernel
theorem d_Mo_back_14 : decode prog_13_method_23_code 14 = .ok (.iconst 1, 1) := by decide +kernel
theorem d_Mo_back_15 : decode prog_13_method_23_code 15 = .ok (.isub, 1) := by decide +kernel
theorem d_Mo_back_16 : decode prog_13_method_23_code 16 = .ok (.putfield 169, 3) := by decide +kernel
theorem d_Mo_back_19 : decode prog_13_method_23_code 19 = .ok (.iconst 0, 1) := by decide +kernel
theorem d_Mo_back_20 : decode prog_13_method_23_code 20 = .ok (.istore_n 1, 1) := by decide +kernel
theorem d_Mo_back_21 : decode prog_13_method_23_code 21 = .ok (.iload_n 1, 1) := by decide +kernel
theorem d_Mo_back_22 : decode prog_13_method_23_code 22 = .ok (.bipush 8, 2) := by decide +kernel
theorem d_Mo_back_24 : decode prog_13_method_23_code 24 = .ok (.if_icmp .ge 29, 3) := by decide +kernel
theorem d_Mo_back_27 : decode prog_13_method_23_code 27 = .ok (.aload_n 0, 1) := by decide +kernel
theorem d_Mo_back_28 : decode prog_13_method_23_code 28 = .ok (.getfield 46, 3) := by decide +kernel
theorem d_Mo_back_31 : decode prog_13_method_23_code 31 = .ok (.iload_n 1, 1) := by decide +kernel
theorem d_Mo_back_32 : decode prog_13_method_23_code 32 = .ok (.aload_n 0, 1) := by decide +kernel
theorem d_Mo_back_33 : decode prog_13_method_23_code 33 = .ok (.getfield 43, 3) := by decide +kernel
theorem d_Mo_back_36 : decode prog_13_method_23_code 36 = .ok (.bipush 8, 2) := by decide +kernel
theorem d_Mo_back_38 : decode prog_13_method_23_code 38 = .ok (.aload_n 0, 1) := by decide +kernel
theorem d_Mo_back_39 : decode prog_13_method_23_code 39 = .ok (.getfield 169, 3) := by decide +kernel
theorem d_Mo_back_42 : decode prog_13_method_23_code 42 = .ok (.imul, 1) := by decide +kernel
theorem d_Mo_back_43 : decode prog_13_method_23_code 43 = .ok (.iload_n 1, 1) := by decide +kernel
theorem d_Mo_back_44 : decode prog_13_method_23_code 44 = .ok (.iadd, 1) := by decide +kernel
theorem d_Mo_back_45 : decode prog_13_method_23_code 45 = .ok (.iaload, 1) := by decide +kernel
theorem d_Mo_back_46 : decode prog_13_method_23_code 46 = .ok (.iastore, 1) := by decide +kernel
theorem d_Mo_back_47 : decode prog_13_method_23_code 47 = .ok (.iinc 1 1, 3) := by decide +kernel
theorem d_Mo_back_50 : decode prog_13_method_23_code 50 = .ok (.goto (-29), 3) := by decide +kernel
theorem d_Mo_back_53 : decode prog_13_method_23_code 53 = .ok (.aload_n 0, 1) := by decide +kernel
theorem d_Mo_back_54 : decode prog_13_method_23_code 54 = .ok (.getfield 37, 3) := by decide +kernel
theorem d_Mo_back_57 : decode prog_13_method_23_code 57 = .ok (.aload_n 0, 1) := by decide +kernel
theorem d_Mo_back_58 : decode prog_13_method_23_code 58 = .ok (.getfield 169, 3) := by decide +kernel
theorem d_Mo_back_61 : decode prog_13_method_23_code 61 = .ok (.iaload, 1) := by decide +kernel
theorem d_Mo_back_62 : decode prog_13_method_23_code 62 = .ok (.ireturn, 1) := by decide +kernel
theorem M_Mo_back : lt_M0 m_Mo_back 0 := ⟨lt_m5 149 rfl rfl, lt_m1 13 rfl rfl, ⟨by decide +kernel, by decide +kernel, by decide +kernel⟩, by decide⟩
theorem in_Mo_back : Cond.instanceMethod m_Mo_back.1 ∈ lt_T := lt_m5 148 rfl rfl
theorem se_Mo_back : Cond.selects "LinearSearchModel" m_Mo_back.1 m_Mo_back.1 ∈ lt_T := lt_memS 44 rfl rfl
abbrev m_Mo_go : lt_M := (⟨"LinearSearchModel", "go", "(II)V"⟩, prog_13_method_29_code, 6, none)
theorem d_Mo_go_0 : decode prog_13_method_29_code 0 = .ok (.iconst 0, 1) := by decide +kernel
theorem d_Mo_go_1 : decode prog_13_method_29_code 1 = .ok (.istore_n 3, 1) := by decide +kernel
theorem d_Mo_go_2 : decode prog_13_method_29_code 2 = .ok (.iconst 0, 1) := by decide +kernel
theorem d_Mo_go_3 : decode prog_13_method_29_code 3 = .ok (.istore 4, 2) := by decide +kernel
theorem d_Mo_go_5 : decode prog_13_method_29_code 5 = .ok (.iload 4, 2) := by decide +kernel
theorem d_Mo_go_7 : decode prog_13_method_29_code 7 = .ok (.aload_n 0, 1) := by decide +kernel
theorem d_Mo_go_8 : decode prog_13_method_29_code 8 = .ok (.getfield 49, 3) := by decide +kernel
theorem d_Mo_go_11 : decode prog_13_method_29_code 11 = .ok (.iload_n 1, 1) := by decide +kernel
theorem d_Mo_go_12 : decode prog_13_method_29_code 12 = .ok (.iaload, 1) := by decide +kernel
theorem d_Mo_go_13 : decode prog_13_method_29_code 13 = .ok (.if_icmp .ge 107, 3) := by decide +kernel
theorem d_Mo_go_16 : decode prog_13_method_29_code 16 = .ok (.iload_n 3, 1) := by decide +kernel
theorem d_Mo_go_17 : decode prog_13_method_29_code 17 = .ok (.ifCond .ne 103, 3) := by decide +kernel
theorem d_Mo_go_20 : decode prog_13_method_29_code 20 = .ok (.bipush 64, 2) := by decide +kernel
theorem d_Mo_go_22 : decode prog_13_method_29_code 22 = .ok (.iload_n 1, 1) := by decide +kernel
theorem d_Mo_go_23 : decode prog_13_method_29_code 23 = .ok (.imul, 1) := by decide +kernel
theorem d_Mo_go_24 : decode prog_13_method_29_code 24 = .ok (.iload 4, 2) := by decide +kernel
theorem d_Mo_go_26 : decode prog_13_method_29_code 26 = .ok (.iadd, 1) := by decide +kernel
theorem d_Mo_go_27 : decode prog_13_method_29_code 27 = .ok (.istore 5, 2) := by decide +kernel
theorem d_Mo_go_29 : decode prog_13_method_29_code 29 = .ok (.aload_n 0, 1) := by decide +kernel
theorem d_Mo_go_30 : decode prog_13_method_29_code 30 = .ok (.dup, 1) := by decide +kernel
theorem d_Mo_go_31 : decode prog_13_method_29_code 31 = .ok (.getfield 189, 3) := by decide +kernel
theorem d_Mo_go_34 : decode prog_13_method_29_code 34 = .ok (.iconst 1, 1) := by decide +kernel
theorem d_Mo_go_35 : decode prog_13_method_29_code 35 = .ok (.iadd, 1) := by decide +kernel
theorem d_Mo_go_36 : decode prog_13_method_29_code 36 = .ok (.putfield 189, 3) := by decide +kernel
theorem d_Mo_go_39 : decode prog_13_method_29_code 39 = .ok (.aload_n 0, 1) := by decide +kernel
theorem d_Mo_go_40 : decode prog_13_method_29_code 40 = .ok (.iload 5, 2) := by decide +kernel
theorem d_Mo_go_42 : decode prog_13_method_29_code 42 = .ok (.invokevirtual 192, 3) := by decide +kernel
theorem d_Mo_go_45 : decode prog_13_method_29_code 45 = .ok (.aload_n 0, 1) := by decide +kernel
theorem d_Mo_go_46 : decode prog_13_method_29_code 46 = .ok (.getfield 16, 3) := by decide +kernel
theorem d_Mo_go_49 : decode prog_13_method_29_code 49 = .ok (.aload_n 0, 1) := by decide +kernel
theorem d_Mo_go_50 : decode prog_13_method_29_code 50 = .ok (.getfield 52, 3) := by decide +kernel
theorem d_Mo_go_53 : decode prog_13_method_29_code 53 = .ok (.iload 5, 2) := by decide +kernel
theorem d_Mo_go_55 : decode prog_13_method_29_code 55 = .ok (.iaload, 1) := by decide +kernel
theorem d_Mo_go_56 : decode prog_13_method_29_code 56 = .ok (.iaload, 1) := by decide +kernel
theorem d_Mo_go_57 : decode prog_13_method_29_code 57 = .ok (.bipush 7, 2) := by decide +kernel
theorem d_Mo_go_59 : decode prog_13_method_29_code 59 = .ok (.if_icmp .ne 7, 3) := by decide +kernel
theorem d_Mo_go_62 : decode prog_13_method_29_code 62 = .ok (.iconst 1, 1) := by decide +kernel
theorem d_Mo_go_63 : decode prog_13_method_29_code 63 = .ok (.goto 4, 3) := by decide +kernel
theorem d_Mo_go_66 : decode prog_13_method_29_code 66 = .ok (.iconst 0, 1) := by decide +kernel
theorem d_Mo_go_67 : decode prog_13_method_29_code 67 = .ok (.istore_n 3, 1) := by decide +kernel
theorem d_Mo_go_68 : decode prog_13_method_29_code 68 = .ok (.iload_n 3, 1) := by decide +kernel
theorem d_Mo_go_69 : decode prog_13_method_29_code 69 = .ok (.ifCond .eq 11, 3) := by decide +kernel
theorem d_Mo_go_72 : decode prog_13_method_29_code 72 = .ok (.aload_n 0, 1) := by decide +kernel
theorem d_Mo_go_73 : decode prog_13_method_29_code 73 = .ok (.iload_n 2, 1) := by decide +kernel
theorem d_Mo_go_74 : decode prog_13_method_29_code 74 = .ok (.invokevirtual 195, 3) := by decide +kernel
theorem d_Mo_go_77 : decode prog_13_method_29_code 77 = .ok (.goto 37, 3) := by decide +kernel
theorem d_Mo_go_80 : decode prog_13_method_29_code 80 = .ok (.aload_n 0, 1) := by decide +kernel
theorem d_Mo_go_81 : decode prog_13_method_29_code 81 = .ok (.aload_n 0, 1) := by decide +kernel
theorem d_Mo_go_82 : decode prog_13_method_29_code 82 = .ok (.getfield 52, 3) := by decide +kernel
theorem d_Mo_go_85 : decode prog_13_method_29_code 85 = .ok (.iload 5, 2) := by decide +kernel
theorem d_Mo_go_87 : decode prog_13_method_29_code 87 = .ok (.iaload, 1) := by decide +kernel
theorem d_Mo_go_88 : decode prog_13_method_29_code 88 = .ok (.iload_n 2, 1) := by decide +kernel
theorem d_Mo_go_89 : decode prog_13_method_29_code 89 = .ok (.invokevirtual 198, 3) := by decide +kernel
theorem d_Mo_go_92 : decode prog_13_method_29_code 92 = .ok (.ifCond .eq 22, 3) := by decide +kernel
theorem d_Mo_go_95 : decode prog_13_method_29_code 95 = .ok (.aload_n 0, 1) := by decide +kernel
theorem d_Mo_go_96 : decode prog_13_method_29_code 96 = .ok (.aload_n 0, 1) := by decide +kernel
theorem d_Mo_go_97 : decode prog_13_method_29_code 97 = .ok (.getfield 52, 3) := by decide +kernel
theorem d_Mo_go_100 : decode prog_13_method_29_code 100 = .ok (.iload 5, 2) := by decide +kernel
theorem d_Mo_go_102 : decode prog_13_method_29_code 102 = .ok (.iaload, 1) := by decide +kernel
theorem d_Mo_go_103 : decode prog_13_method_29_code 103 = .ok (.iconst 1, 1) := by decide +kernel
theorem d_Mo_go_104 : decode prog_13_method_29_code 104 = .ok (.iadd, 1) := by decide +kernel
theorem d_Mo_go_105 : decode prog_13_method_29_code 105 = .ok (.iload_n 2, 1) := by decide +kernel
theorem d_Mo_go_106 : decode prog_13_method_29_code 106 = .ok (.iconst 1, 1) := by decide +kernel
theorem d_Mo_go_107 : decode prog_13_method_29_code 107 = .ok (.iadd, 1) := by decide +kernel
theorem d_Mo_go_108 : decode prog_13_method_29_code 108 = .ok (.iconst 1, 1) := by decide +kernel
theorem d_Mo_go_109 : decode prog_13_method_29_code 109 = .ok (.iload_n 1, 1) := by decide +kernel
theorem d_Mo_go_110 : decode prog_13_method_29_code 110 = .ok (.isub, 1) := by decide +kernel
theorem d_Mo_go_111 : decode prog_13_method_29_code 111 = .ok (.invokevirtual 202, 3) := by decide +kernel
theorem d_Mo_go_114 : decode prog_13_method_29_code 114 = .ok (.iinc 4 1, 3) := by decide +kernel
theorem d_Mo_go_117 : decode prog_13_method_29_code 117 = .ok (.goto (-112), 3) := by decide +kernel
theorem d_Mo_go_120 : decode prog_13_method_29_code 120 = .ok (.return_, 1) := by decide +kernel
theorem M_Mo_go : lt_M0 m_Mo_go 2 := ⟨lt_m5 153 rfl rfl, lt_m1 13 rfl rfl, ⟨by decide +kernel, by decide +kernel, by decide +kernel⟩, by decide⟩
theorem in_Mo_go : Cond.instanceMethod m_Mo_go.1 ∈ lt_T := lt_m5 152 rfl rfl
theorem se_Mo_go : Cond.selects "LinearSearchModel" m_Mo_go.1 m_Mo_go.1 ∈ lt_T := lt_memS 45 rfl rfl
abbrev m_Mo_take : lt_M := (⟨"LinearSearchModel", "take", "(I)V"⟩, prog_13_method_27_code, 3, none)
theorem d_Mo_take_0 : decode prog_13_method_27_code 0 = .ok (.iconst 0, 1) := by decide +kernel
theorem d_Mo_take_1 : decode prog_13_method_27_code 1 = .ok (.istore_n 2, 1) := by decide +kernel
theorem d_Mo_take_2 : decode prog_13_method_27_code 2 = .ok (.iload_n 2, 1) := by decide +kernel
theorem d_Mo_take_3 : decode prog_13_method_27_code 3 = .ok (.bipush 8, 2) := by decide +kernel
theorem d_Mo_take_5 : decode prog_13_method_27_code 5 = .ok (.if_icmp .ge 26, 3) := by decide +kernel
theorem d_Mo_take_8 : decode prog_13_method_27_code 8 = .ok (.aload_n 0, 1) := by decide +kernel
theorem d_Mo_take_9 : decode prog_13_method_27_code 9 = .ok (.getfield 46, 3) := by decide +kernel
theorem d_Mo_take_12 : decode prog_13_method_27_code 12 = .ok (.iload_n 2, 1) := by decide +kernel
theorem d_Mo_take_13 : decode prog_13_method_27_code 13 = .ok (.aload_n 0, 1) := by decide +kernel
theorem d_Mo_take_14 : decode prog_13_method_27_code 14 = .ok (.getfield 55, 3) := by decide +kernel
theorem d_Mo_take_17 : decode prog_13_method_27_code 17 = .ok (.bipush 8, 2) := by decide +kernel
theorem d_Mo_take_19 : decode prog_13_method_27_code 19 = .ok (.iload_n 1, 1) := by decide +kernel
theorem d_Mo_take_20 : decode prog_13_method_27_code 20 = .ok (.imul, 1) := by decide +kernel
theorem d_Mo_take_21 : decode prog_13_method_27_code 21 = .ok (.iload_n 2, 1) := by decide +kernel
theorem d_Mo_take_22 : decode prog_13_method_27_code 22 = .ok (.iadd, 1) := by decide +kernel
theorem d_Mo_take_23 : decode prog_13_method_27_code 23 = .ok (.iaload, 1) := by decide +kernel
theorem d_Mo_take_24 : decode prog_13_method_27_code 24 = .ok (.iastore, 1) := by decide +kernel
theorem d_Mo_take_25 : decode prog_13_method_27_code 25 = .ok (.iinc 2 1, 3) := by decide +kernel
theorem d_Mo_take_28 : decode prog_13_method_27_code 28 = .ok (.goto (-26), 3) := by decide +kernel
theorem d_Mo_take_31 : decode prog_13_method_27_code 31 = .ok (.return_, 1) := by decide +kernel
theorem M_Mo_take : lt_M0 m_Mo_take 1 := ⟨lt_m5 157 rfl rfl, lt_m1 13 rfl rfl, ⟨by decide +kernel, by decide +kernel, by decide +kernel⟩, by decide⟩
theorem in_Mo_take : Cond.instanceMethod m_Mo_take.1 ∈ lt_T := lt_m5 156 rfl rfl
theorem se_Mo_take : Cond.selects "LinearSearchModel" m_Mo_take.1 m_Mo_take.1 ∈ lt_T := lt_memS 46 rfl rfl
abbrev m_Mo_note : lt_M := (⟨"LinearSearchModel", "note", "(I)V"⟩, prog_13_method_28_code, 3, none)
theorem d_Mo_note_0 : decode prog_13_method_28_code 0 = .ok (.aload_n 0, 1) := by decide +kernel
theorem d_Mo_note_1 : decode prog_13_method_28_code 1 = .ok (.iconst 1, 1) := by decide +kernel
theorem d_Mo_note_2 : decode prog_13_method_28_code 2 = .ok (.putfield 105, 3) := by decide +kernel
theorem d_Mo_note_5 : decode prog_13_method_28_code 5 = .ok (.iconst 0, 1) := by decide +kernel
theorem d_Mo_note_6 : decode prog_13_method_28_code 6 = .ok (.istore_n 2, 1) := by decide +kernel
theorem d_Mo_note_7 : decode prog_13_method_28_code 7 = .ok (.iload_n 2, 1) := by decide +kernel
theorem d_Mo_note_8 : decode prog_13_method_28_code 8 = .ok (.bipush 8, 2) := by decide +kernel
theorem d_Mo_note_10 : decode prog_13_method_28_code 10 = .ok (.if_icmp .ge 21, 3) := by decide +kernel
theorem d_Mo_note_13 : decode prog_13_method_28_code 13 = .ok (.aload_n 0, 1) := by decide +kernel
theorem d_Mo_note_14 : decode prog_13_method_28_code 14 = .ok (.getfield 84, 3) := by decide +kernel
theorem d_Mo_note_17 : decode prog_13_method_28_code 17 = .ok (.iload_n 2, 1) := by decide +kernel
theorem d_Mo_note_18 : decode prog_13_method_28_code 18 = .ok (.aload_n 0, 1) := by decide +kernel
theorem d_Mo_note_19 : decode prog_13_method_28_code 19 = .ok (.getfield 46, 3) := by decide +kernel
theorem d_Mo_note_22 : decode prog_13_method_28_code 22 = .ok (.iload_n 2, 1) := by decide +kernel
theorem d_Mo_note_23 : decode prog_13_method_28_code 23 = .ok (.iaload, 1) := by decide +kernel
theorem d_Mo_note_24 : decode prog_13_method_28_code 24 = .ok (.iastore, 1) := by decide +kernel
theorem d_Mo_note_25 : decode prog_13_method_28_code 25 = .ok (.iinc 2 1, 3) := by decide +kernel
theorem d_Mo_note_28 : decode prog_13_method_28_code 28 = .ok (.goto (-21), 3) := by decide +kernel
theorem d_Mo_note_31 : decode prog_13_method_28_code 31 = .ok (.aload_n 0, 1) := by decide +kernel
theorem d_Mo_note_32 : decode prog_13_method_28_code 32 = .ok (.getfield 84, 3) := by decide +kernel
theorem d_Mo_note_35 : decode prog_13_method_28_code 35 = .ok (.iconst 1, 1) := by decide +kernel
theorem d_Mo_note_36 : decode prog_13_method_28_code 36 = .ok (.iload_n 1, 1) := by decide +kernel
theorem d_Mo_note_37 : decode prog_13_method_28_code 37 = .ok (.iastore, 1) := by decide +kernel
theorem d_Mo_note_38 : decode prog_13_method_28_code 38 = .ok (.return_, 1) := by decide +kernel
theorem M_Mo_note : lt_M0 m_Mo_note 1 := ⟨lt_m5 161 rfl rfl, lt_m1 13 rfl rfl, ⟨by decide +kernel, by decide +kernel, by decide +kernel⟩, by decide⟩
theorem in_Mo_note : Cond.instanceMethod m_Mo_note.1 ∈ lt_T := lt_m5 160 rfl rfl
theorem se_Mo_note : Cond.selects "LinearSearchModel" m_Mo_note.1 m_Mo_note.1 ∈ lt_T := lt_memS 47 rfl rfl
abbrev m_Mo_isRight : lt_M := (⟨"LinearSearchModel", "isRight", "(II)Z"⟩, prog_13_method_20_code, 3, (some .boolean))
theorem d_Mo_isRight_0 : decode prog_13_method_20_code 0 = .ok (.iload_n 2, 1) := by decide +kernel
theorem d_Mo_isRight_1 : decode prog_13_method_20_code 1 = .ok (.aload_n 0, 1) := by decide +kernel
theorem d_Mo_isRight_2 : decode prog_13_method_20_code 2 = .ok (.getfield 172, 3) := by decide +kernel
theorem d_Mo_isRight_5 : decode prog_13_method_20_code 5 = .ok (.if_icmp .ge 41, 3) := by decide +kernel
theorem d_Mo_isRight_8 : decode prog_13_method_20_code 8 = .ok (.aload_n 0, 1) := by decide +kernel
theorem d_Mo_isRight_9 : decode prog_13_method_20_code 9 = .ok (.getfield 16, 3) := by decide +kernel
theorem d_Mo_isRight_12 : decode prog_13_method_20_code 12 = .ok (.iload_n 1, 1) := by decide +kernel
theorem d_Mo_isRight_13 : decode prog_13_method_20_code 13 = .ok (.iaload, 1) := by decide +kernel
theorem d_Mo_isRight_14 : decode prog_13_method_20_code 14 = .ok (.iconst 1, 1) := by decide +kernel
theorem d_Mo_isRight_15 : decode prog_13_method_20_code 15 = .ok (.if_icmp .eq 27, 3) := by decide +kernel
theorem d_Mo_isRight_18 : decode prog_13_method_20_code 18 = .ok (.aload_n 0, 1) := by decide +kernel
theorem d_Mo_isRight_19 : decode prog_13_method_20_code 19 = .ok (.getfield 16, 3) := by decide +kernel
theorem d_Mo_isRight_22 : decode prog_13_method_20_code 22 = .ok (.iload_n 1, 1) := by decide +kernel
theorem d_Mo_isRight_23 : decode prog_13_method_20_code 23 = .ok (.iaload, 1) := by decide +kernel
theorem d_Mo_isRight_24 : decode prog_13_method_20_code 24 = .ok (.ifCond .ne 22, 3) := by decide +kernel
theorem d_Mo_isRight_27 : decode prog_13_method_20_code 27 = .ok (.aload_n 0, 1) := by decide +kernel
theorem d_Mo_isRight_28 : decode prog_13_method_20_code 28 = .ok (.getfield 19, 3) := by decide +kernel
theorem d_Mo_isRight_31 : decode prog_13_method_20_code 31 = .ok (.iload_n 1, 1) := by decide +kernel
theorem d_Mo_isRight_32 : decode prog_13_method_20_code 32 = .ok (.iaload, 1) := by decide +kernel
theorem d_Mo_isRight_33 : decode prog_13_method_20_code 33 = .ok (.aload_n 0, 1) := by decide +kernel
theorem d_Mo_isRight_34 : decode prog_13_method_20_code 34 = .ok (.getfield 13, 3) := by decide +kernel
theorem d_Mo_isRight_37 : decode prog_13_method_20_code 37 = .ok (.iload_n 2, 1) := by decide +kernel
theorem d_Mo_isRight_38 : decode prog_13_method_20_code 38 = .ok (.iaload, 1) := by decide +kernel
theorem d_Mo_isRight_39 : decode prog_13_method_20_code 39 = .ok (.if_icmp .ne 7, 3) := by decide +kernel
theorem d_Mo_isRight_42 : decode prog_13_method_20_code 42 = .ok (.iconst 1, 1) := by decide +kernel
theorem d_Mo_isRight_43 : decode prog_13_method_20_code 43 = .ok (.goto 4, 3) := by decide +kernel
theorem d_Mo_isRight_46 : decode prog_13_method_20_code 46 = .ok (.iconst 0, 1) := by decide +kernel
theorem d_Mo_isRight_47 : decode prog_13_method_20_code 47 = .ok (.ireturn, 1) := by decide +kernel
theorem M_Mo_isRight : lt_M0 m_Mo_isRight 2 := ⟨lt_m5 165 rfl rfl, lt_m1 13 rfl rfl, ⟨by decide +kernel, by decide +kernel, by decide +kernel⟩, by decide⟩
theorem in_Mo_isRight : Cond.instanceMethod m_Mo_isRight.1 ∈ lt_T := lt_m5 164 rfl rfl
theorem se_Mo_isRight : Cond.selects "LinearSearchModel" m_Mo_isRight.1 m_Mo_isRight.1 ∈ lt_T := lt_memS 48 rfl rfl
abbrev m_Mo_runMarks : lt_M := (⟨"LinearSearchModel", "runMarks", "()V"⟩, prog_13_method_31_code, 2, none)
theorem d_Mo_runMarks_0 : decode prog_13_method_31_code 0 = .ok (.aload_n 0, 1) := by decide +kernel
theorem d_Mo_runMarks_1 : decode prog_13_method_31_code 1 = .ok (.iconst 0, 1) := by decide +kernel
theorem d_Mo_runMarks_2 : decode prog_13_method_31_code 2 = .ok (.putfield 105, 3) := by decide +kernel
theorem d_Mo_runMarks_5 : decode prog_13_method_31_code 5 = .ok (.iconst 0, 1) := by decide +kernel
theorem d_Mo_runMarks_6 : decode prog_13_method_31_code 6 = .ok (.istore_n 1, 1) := by decide +kernel
theorem d_Mo_runMarks_7 : decode prog_13_method_31_code 7 = .ok (.iload_n 1, 1) := by decide +kernel
theorem d_Mo_runMarks_8 : decode prog_13_method_31_code 8 = .ok (.sipush 1344, 3) := by decide +kernel
theorem d_Mo_runMarks_11 : decode prog_13_method_31_code 11 = .ok (.if_icmp .ge 16, 3) := by decide +kernel
theorem d_Mo_runMarks_14 : decode prog_13_method_31_code 14 = .ok (.aload_n 0, 1) := by decide +kernel
theorem d_Mo_runMarks_15 : decode prog_13_method_31_code 15 = .ok (.getfield 58, 3) := by decide +kernel
theorem d_Mo_runMarks_18 : decode prog_13_method_31_code 18 = .ok (.iload_n 1, 1) := by decide +kernel
theorem d_Mo_runMarks_19 : decode prog_13_method_31_code 19 = .ok (.iconst 0, 1) := by decide +kernel
theorem d_Mo_runMarks_20 : decode prog_13_method_31_code 20 = .ok (.bastore, 1) := by decide +kernel
theorem d_Mo_runMarks_21 : decode prog_13_method_31_code 21 = .ok (.iinc 1 1, 3) := by decide +kernel
theorem d_Mo_runMarks_24 : decode prog_13_method_31_code 24 = .ok (.goto (-17), 3) := by decide +kernel
theorem d_Mo_runMarks_27 : decode prog_13_method_31_code 27 = .ok (.iconst 0, 1) := by decide +kernel
theorem d_Mo_runMarks_28 : decode prog_13_method_31_code 28 = .ok (.istore_n 1, 1) := by decide +kernel
theorem d_Mo_runMarks_29 : decode prog_13_method_31_code 29 = .ok (.iload_n 1, 1) := by decide +kernel
theorem d_Mo_runMarks_30 : decode prog_13_method_31_code 30 = .ok (.aload_n 0, 1) := by decide +kernel
theorem d_Mo_runMarks_31 : decode prog_13_method_31_code 31 = .ok (.getfield 172, 3) := by decide +kernel
theorem d_Mo_runMarks_34 : decode prog_13_method_31_code 34 = .ok (.if_icmp .gt 21, 3) := by decide +kernel
theorem d_Mo_runMarks_37 : decode prog_13_method_31_code 37 = .ok (.aload_n 0, 1) := by decide +kernel
theorem d_Mo_runMarks_38 : decode prog_13_method_31_code 38 = .ok (.getfield 105, 3) := by decide +kernel
theorem d_Mo_runMarks_41 : decode prog_13_method_31_code 41 = .ok (.ifCond .ne 14, 3) := by decide +kernel
theorem d_Mo_runMarks_44 : decode prog_13_method_31_code 44 = .ok (.aload_n 0, 1) := by decide +kernel
theorem d_Mo_runMarks_45 : decode prog_13_method_31_code 45 = .ok (.iload_n 1, 1) := by decide +kernel
theorem d_Mo_runMarks_46 : decode prog_13_method_31_code 46 = .ok (.invokevirtual 211, 3) := by decide +kernel
theorem d_Mo_runMarks_49 : decode prog_13_method_31_code 49 = .ok (.iinc 1 1, 3) := by decide +kernel
theorem d_Mo_runMarks_52 : decode prog_13_method_31_code 52 = .ok (.goto (-23), 3) := by decide +kernel
theorem d_Mo_runMarks_55 : decode prog_13_method_31_code 55 = .ok (.return_, 1) := by decide +kernel
theorem M_Mo_runMarks : lt_M0 m_Mo_runMarks 0 := ⟨lt_m5 169 rfl rfl, lt_m1 13 rfl rfl, ⟨by decide +kernel, by decide +kernel, by decide +kernel⟩, by decide⟩
theorem in_Mo_runMarks : Cond.instanceMethod m_Mo_runMarks.1 ∈ lt_T := lt_m5 168 rfl rfl
theorem se_Mo_runMarks : Cond.selects "LinearSearchModel" m_Mo_runMarks.1 m_Mo_runMarks.1 ∈ lt_T := lt_memS 49 rfl rfl
abbrev m_Mo_runThread : lt_M := (⟨"LinearSearchModel", "runThread", "(I)V"⟩, prog_13_method_32_code, 6, none)
theorem d_Mo_runThread_0 : decode prog_13_method_32_code 0 = .ok (.aload_n 0, 1) := by decide +kernel
theorem d_Mo_runThread_1 : decode prog_13_method_32_code 1 = .ok (.iconst 0, 1) := by decide +kernel
theorem d_Mo_runThread_2 : decode prog_13_method_32_code 2 = .ok (.putfield 169, 3) := by decide +kernel
theorem d_Mo_runThread_5 : decode prog_13_method_32_code 5 = .ok (.aload_n 0, 1) := by decide +kernel
theorem d_Mo_runThread_6 : decode prog_13_method_32_code 6 = .ok (.iload_n 1, 1) := by decide +kernel
theorem d_Mo_runThread_7 : decode prog_13_method_32_code 7 = .ok (.invokevirtual 205, 3) := by decide +kernel
theorem d_Mo_runThread_10 : decode prog_13_method_32_code 10 = .ok (.iconst 0, 1) := by decide +kernel
theorem d_Mo_runThread_11 : decode prog_13_method_32_code 11 = .ok (.istore_n 2, 1) := by decide +kernel
theorem d_Mo_runThread_12 : decode prog_13_method_32_code 12 = .ok (.iload_n 1, 1) := by decide +kernel
theorem d_Mo_runThread_13 : decode prog_13_method_32_code 13 = .ok (.istore_n 3, 1) := by decide +kernel
theorem d_Mo_runThread_14 : decode prog_13_method_32_code 14 = .ok (.iload_n 2, 1) := by decide +kernel
theorem d_Mo_runThread_15 : decode prog_13_method_32_code 15 = .ok (.iconst (-1), 1) := by decide +kernel
theorem d_Mo_runThread_16 : decode prog_13_method_32_code 16 = .ok (.if_icmp .eq 138, 3) := by decide +kernel
theorem d_Mo_runThread_19 : decode prog_13_method_32_code 19 = .ok (.aload_n 0, 1) := by decide +kernel
theorem d_Mo_runThread_20 : decode prog_13_method_32_code 20 = .ok (.getfield 105, 3) := by decide +kernel
theorem d_Mo_runThread_23 : decode prog_13_method_32_code 23 = .ok (.ifCond .ne 131, 3) := by decide +kernel
theorem d_Mo_runThread_26 : decode prog_13_method_32_code 26 = .ok (.bipush 21, 2) := by decide +kernel
theorem d_Mo_runThread_28 : decode prog_13_method_32_code 28 = .ok (.iload_n 2, 1) := by decide +kernel
theorem d_Mo_runThread_29 : decode prog_13_method_32_code 29 = .ok (.imul, 1) := by decide +kernel
theorem d_Mo_runThread_30 : decode prog_13_method_32_code 30 = .ok (.iload_n 3, 1) := by decide +kernel
theorem d_Mo_runThread_31 : decode prog_13_method_32_code 31 = .ok (.iadd, 1) := by decide +kernel
theorem d_Mo_runThread_32 : decode prog_13_method_32_code 32 = .ok (.istore 4, 2) := by decide +kernel
theorem d_Mo_runThread_34 : decode prog_13_method_32_code 34 = .ok (.iconst (-1), 1) := by decide +kernel
theorem d_Mo_runThread_35 : decode prog_13_method_32_code 35 = .ok (.istore 5, 2) := by decide +kernel
theorem d_Mo_runThread_37 : decode prog_13_method_32_code 37 = .ok (.aload_n 0, 1) := by decide +kernel
theorem d_Mo_runThread_38 : decode prog_13_method_32_code 38 = .ok (.getfield 58, 3) := by decide +kernel
theorem d_Mo_runThread_41 : decode prog_13_method_32_code 41 = .ok (.iload 4, 2) := by decide +kernel
theorem d_Mo_runThread_43 : decode prog_13_method_32_code 43 = .ok (.baload, 1) := by decide +kernel
theorem d_Mo_runThread_44 : decode prog_13_method_32_code 44 = .ok (.ifCond .ne 72, 3) := by decide +kernel
theorem d_Mo_runThread_47 : decode prog_13_method_32_code 47 = .ok (.aload_n 0, 1) := by decide +kernel
theorem d_Mo_runThread_48 : decode prog_13_method_32_code 48 = .ok (.getfield 58, 3) := by decide +kernel
theorem d_Mo_runThread_51 : decode prog_13_method_32_code 51 = .ok (.iload 4, 2) := by decide +kernel
theorem d_Mo_runThread_53 : decode prog_13_method_32_code 53 = .ok (.iconst 1, 1) := by decide +kernel
theorem d_Mo_runThread_54 : decode prog_13_method_32_code 54 = .ok (.bastore, 1) := by decide +kernel
theorem d_Mo_runThread_55 : decode prog_13_method_32_code 55 = .ok (.aload_n 0, 1) := by decide +kernel
theorem d_Mo_runThread_56 : decode prog_13_method_32_code 56 = .ok (.dup, 1) := by decide +kernel
theorem d_Mo_runThread_57 : decode prog_13_method_32_code 57 = .ok (.getfield 189, 3) := by decide +kernel
theorem d_Mo_runThread_60 : decode prog_13_method_32_code 60 = .ok (.iconst 1, 1) := by decide +kernel
theorem d_Mo_runThread_61 : decode prog_13_method_32_code 61 = .ok (.iadd, 1) := by decide +kernel
theorem d_Mo_runThread_62 : decode prog_13_method_32_code 62 = .ok (.putfield 189, 3) := by decide +kernel
theorem d_Mo_runThread_65 : decode prog_13_method_32_code 65 = .ok (.aload_n 0, 1) := by decide +kernel
theorem d_Mo_runThread_66 : decode prog_13_method_32_code 66 = .ok (.getfield 16, 3) := by decide +kernel
theorem d_Mo_runThread_69 : decode prog_13_method_32_code 69 = .ok (.iload_n 2, 1) := by decide +kernel
theorem d_Mo_runThread_70 : decode prog_13_method_32_code 70 = .ok (.iaload, 1) := by decide +kernel
theorem d_Mo_runThread_71 : decode prog_13_method_32_code 71 = .ok (.bipush 7, 2) := by decide +kernel
theorem d_Mo_runThread_73 : decode prog_13_method_32_code 73 = .ok (.if_icmp .ne 8, 3) := by decide +kernel
theorem d_Mo_runThread_76 : decode prog_13_method_32_code 76 = .ok (.aload_n 0, 1) := by decide +kernel
theorem d_Mo_runThread_77 : decode prog_13_method_32_code 77 = .ok (.iload_n 3, 1) := by decide +kernel
theorem d_Mo_runThread_78 : decode prog_13_method_32_code 78 = .ok (.invokevirtual 195, 3) := by decide +kernel
theorem d_Mo_runThread_81 : decode prog_13_method_32_code 81 = .ok (.aload_n 0, 1) := by decide +kernel
theorem d_Mo_runThread_82 : decode prog_13_method_32_code 82 = .ok (.iload_n 2, 1) := by decide +kernel
theorem d_Mo_runThread_83 : decode prog_13_method_32_code 83 = .ok (.iload_n 3, 1) := by decide +kernel
theorem d_Mo_runThread_84 : decode prog_13_method_32_code 84 = .ok (.invokevirtual 198, 3) := by decide +kernel
theorem d_Mo_runThread_87 : decode prog_13_method_32_code 87 = .ok (.ifCond .eq 9, 3) := by decide +kernel
theorem d_Mo_runThread_90 : decode prog_13_method_32_code 90 = .ok (.iload_n 2, 1) := by decide +kernel
theorem d_Mo_runThread_91 : decode prog_13_method_32_code 91 = .ok (.iconst 1, 1) := by decide +kernel
theorem d_Mo_runThread_92 : decode prog_13_method_32_code 92 = .ok (.iadd, 1) := by decide +kernel
theorem d_Mo_runThread_93 : decode prog_13_method_32_code 93 = .ok (.goto 9, 3) := by decide +kernel
theorem d_Mo_runThread_96 : decode prog_13_method_32_code 96 = .ok (.aload_n 0, 1) := by decide +kernel
theorem d_Mo_runThread_97 : decode prog_13_method_32_code 97 = .ok (.iload_n 2, 1) := by decide +kernel
theorem d_Mo_runThread_98 : decode prog_13_method_32_code 98 = .ok (.iload_n 3, 1) := by decide +kernel
theorem d_Mo_runThread_99 : decode prog_13_method_32_code 99 = .ok (.invokevirtual 179, 3) := by decide +kernel
theorem d_Mo_runThread_102 : decode prog_13_method_32_code 102 = .ok (.istore 5, 2) := by decide +kernel
theorem d_Mo_runThread_104 : decode prog_13_method_32_code 104 = .ok (.aload_n 0, 1) := by decide +kernel
theorem d_Mo_runThread_105 : decode prog_13_method_32_code 105 = .ok (.iload_n 2, 1) := by decide +kernel
theorem d_Mo_runThread_106 : decode prog_13_method_32_code 106 = .ok (.iload_n 3, 1) := by decide +kernel
theorem d_Mo_runThread_107 : decode prog_13_method_32_code 107 = .ok (.invokevirtual 198, 3) := by decide +kernel
theorem d_Mo_runThread_110 : decode prog_13_method_32_code 110 = .ok (.ifCond .eq 6, 3) := by decide +kernel
theorem d_Mo_runThread_113 : decode prog_13_method_32_code 113 = .ok (.iinc 3 1, 3) := by decide +kernel
theorem d_Mo_runThread_116 : decode prog_13_method_32_code 116 = .ok (.iload 5, 2) := by decide +kernel
theorem d_Mo_runThread_118 : decode prog_13_method_32_code 118 = .ok (.iconst (-1), 1) := by decide +kernel
theorem d_Mo_runThread_119 : decode prog_13_method_32_code 119 = .ok (.if_icmp .ne 29, 3) := by decide +kernel
theorem d_Mo_runThread_122 : decode prog_13_method_32_code 122 = .ok (.aload_n 0, 1) := by decide +kernel
theorem d_Mo_runThread_123 : decode prog_13_method_32_code 123 = .ok (.invokevirtual 186, 3) := by decide +kernel
theorem d_Mo_runThread_126 : decode prog_13_method_32_code 126 = .ok (.istore 5, 2) := by decide +kernel
theorem d_Mo_runThread_128 : decode prog_13_method_32_code 128 = .ok (.iload 5, 2) := by decide +kernel
theorem d_Mo_runThread_130 : decode prog_13_method_32_code 130 = .ok (.iconst (-1), 1) := by decide +kernel
theorem d_Mo_runThread_131 : decode prog_13_method_32_code 131 = .ok (.if_icmp .ne 7, 3) := by decide +kernel
theorem d_Mo_runThread_134 : decode prog_13_method_32_code 134 = .ok (.iload_n 3, 1) := by decide +kernel
theorem d_Mo_runThread_135 : decode prog_13_method_32_code 135 = .ok (.goto 12, 3) := by decide +kernel
theorem d_Mo_runThread_138 : decode prog_13_method_32_code 138 = .ok (.aload_n 0, 1) := by decide +kernel
theorem d_Mo_runThread_139 : decode prog_13_method_32_code 139 = .ok (.getfield 40, 3) := by decide +kernel
theorem d_Mo_runThread_142 : decode prog_13_method_32_code 142 = .ok (.aload_n 0, 1) := by decide +kernel
theorem d_Mo_runThread_143 : decode prog_13_method_32_code 143 = .ok (.getfield 169, 3) := by decide +kernel
theorem d_Mo_runThread_146 : decode prog_13_method_32_code 146 = .ok (.iaload, 1) := by decide +kernel
theorem d_Mo_runThread_147 : decode prog_13_method_32_code 147 = .ok (.istore_n 3, 1) := by decide +kernel
theorem d_Mo_runThread_148 : decode prog_13_method_32_code 148 = .ok (.iload 5, 2) := by decide +kernel
theorem d_Mo_runThread_150 : decode prog_13_method_32_code 150 = .ok (.istore_n 2, 1) := by decide +kernel
theorem d_Mo_runThread_151 : decode prog_13_method_32_code 151 = .ok (.goto (-137), 3) := by decide +kernel
theorem d_Mo_runThread_154 : decode prog_13_method_32_code 154 = .ok (.return_, 1) := by decide +kernel
theorem M_Mo_runThread : lt_M0 m_Mo_runThread 1 := ⟨lt_m5 173 rfl rfl, lt_m1 13 rfl rfl, ⟨by decide +kernel, by decide +kernel, by decide +kernel⟩, by decide⟩
theorem in_Mo_runThread : Cond.instanceMethod m_Mo_runThread.1 ∈ lt_T := lt_m5 172 rfl rfl
theorem se_Mo_runThread : Cond.selects "LinearSearchModel" m_Mo_runThread.1 m_Mo_runThread.1 ∈ lt_T := lt_memS 50 rfl rfl
abbrev m_Mo_runStates : lt_M := (⟨"LinearSearchModel", "runStates", "()V"⟩, prog_13_method_42_code, 4, none)
theorem d_Mo_runStates_0 : decode prog_13_method_42_code 0 = .ok (.aload_n 0, 1) := by decide +kernel
theorem d_Mo_runStates_1 : decode prog_13_method_42_code 1 = .ok (.invokevirtual 248, 3) := by decide +kernel
theorem d_Mo_runStates_4 : decode prog_13_method_42_code 4 = .ok (.istore_n 1, 1) := by decide +kernel
theorem d_Mo_runStates_5 : decode prog_13_method_42_code 5 = .ok (.aload_n 0, 1) := by decide +kernel
theorem d_Mo_runStates_6 : decode prog_13_method_42_code 6 = .ok (.iconst 0, 1) := by decide +kernel
theorem d_Mo_runStates_7 : decode prog_13_method_42_code 7 = .ok (.putfield 105, 3) := by decide +kernel
theorem d_Mo_runStates_10 : decode prog_13_method_42_code 10 = .ok (.iload_n 1, 1) := by decide +kernel
theorem d_Mo_runStates_11 : decode prog_13_method_42_code 11 = .ok (.bipush (-2), 2) := by decide +kernel
theorem d_Mo_runStates_13 : decode prog_13_method_42_code 13 = .ok (.if_icmp .ne 20, 3) := by decide +kernel
theorem d_Mo_runStates_16 : decode prog_13_method_42_code 16 = .ok (.aload_n 0, 1) := by decide +kernel
theorem d_Mo_runStates_17 : decode prog_13_method_42_code 17 = .ok (.iconst 0, 1) := by decide +kernel
theorem d_Mo_runStates_18 : decode prog_13_method_42_code 18 = .ok (.putfield 189, 3) := by decide +kernel
theorem d_Mo_runStates_21 : decode prog_13_method_42_code 21 = .ok (.aload_n 0, 1) := by decide +kernel
theorem d_Mo_runStates_22 : decode prog_13_method_42_code 22 = .ok (.iconst 0, 1) := by decide +kernel
theorem d_Mo_runStates_23 : decode prog_13_method_42_code 23 = .ok (.putfield 77, 3) := by decide +kernel
theorem d_Mo_runStates_26 : decode prog_13_method_42_code 26 = .ok (.aload_n 0, 1) := by decide +kernel
theorem d_Mo_runStates_27 : decode prog_13_method_42_code 27 = .ok (.iconst 0, 1) := by decide +kernel
theorem d_Mo_runStates_28 : decode prog_13_method_42_code 28 = .ok (.iconst 0, 1) := by decide +kernel
theorem d_Mo_runStates_29 : decode prog_13_method_42_code 29 = .ok (.invokevirtual 251, 3) := by decide +kernel
theorem d_Mo_runStates_32 : decode prog_13_method_42_code 32 = .ok (.return_, 1) := by decide +kernel
theorem d_Mo_runStates_33 : decode prog_13_method_42_code 33 = .ok (.aload_n 0, 1) := by decide +kernel
theorem d_Mo_runStates_34 : decode prog_13_method_42_code 34 = .ok (.getfield 189, 3) := by decide +kernel
theorem d_Mo_runStates_37 : decode prog_13_method_42_code 37 = .ok (.istore_n 2, 1) := by decide +kernel
theorem d_Mo_runStates_38 : decode prog_13_method_42_code 38 = .ok (.iconst 0, 1) := by decide +kernel
theorem d_Mo_runStates_39 : decode prog_13_method_42_code 39 = .ok (.istore_n 3, 1) := by decide +kernel
theorem d_Mo_runStates_40 : decode prog_13_method_42_code 40 = .ok (.iload_n 3, 1) := by decide +kernel
theorem d_Mo_runStates_41 : decode prog_13_method_42_code 41 = .ok (.iload_n 1, 1) := by decide +kernel
theorem d_Mo_runStates_42 : decode prog_13_method_42_code 42 = .ok (.if_icmp .gt 32, 3) := by decide +kernel
theorem d_Mo_runStates_45 : decode prog_13_method_42_code 45 = .ok (.aload_n 0, 1) := by decide +kernel
theorem d_Mo_runStates_46 : decode prog_13_method_42_code 46 = .ok (.getfield 105, 3) := by decide +kernel
theorem d_Mo_runStates_49 : decode prog_13_method_42_code 49 = .ok (.ifCond .eq 13, 3) := by decide +kernel
theorem d_Mo_runStates_52 : decode prog_13_method_42_code 52 = .ok (.aload_n 0, 1) := by decide +kernel
theorem d_Mo_runStates_53 : decode prog_13_method_42_code 53 = .ok (.getfield 84, 3) := by decide +kernel
theorem d_Mo_runStates_56 : decode prog_13_method_42_code 56 = .ok (.iconst 1, 1) := by decide +kernel
theorem d_Mo_runStates_57 : decode prog_13_method_42_code 57 = .ok (.iaload, 1) := by decide +kernel
theorem d_Mo_runStates_58 : decode prog_13_method_42_code 58 = .ok (.iload_n 1, 1) := by decide +kernel
theorem d_Mo_runStates_59 : decode prog_13_method_42_code 59 = .ok (.if_icmp .eq 15, 3) := by decide +kernel
theorem d_Mo_runStates_62 : decode prog_13_method_42_code 62 = .ok (.aload_n 0, 1) := by decide +kernel
theorem d_Mo_runStates_63 : decode prog_13_method_42_code 63 = .ok (.iload_n 3, 1) := by decide +kernel
theorem d_Mo_runStates_64 : decode prog_13_method_42_code 64 = .ok (.iconst 1, 1) := by decide +kernel
theorem d_Mo_runStates_65 : decode prog_13_method_42_code 65 = .ok (.invokevirtual 251, 3) := by decide +kernel
theorem d_Mo_runStates_68 : decode prog_13_method_42_code 68 = .ok (.iinc 3 1, 3) := by decide +kernel
theorem d_Mo_runStates_71 : decode prog_13_method_42_code 71 = .ok (.goto (-31), 3) := by decide +kernel
theorem d_Mo_runStates_74 : decode prog_13_method_42_code 74 = .ok (.aload_n 0, 1) := by decide +kernel
theorem d_Mo_runStates_75 : decode prog_13_method_42_code 75 = .ok (.iload_n 2, 1) := by decide +kernel
theorem d_Mo_runStates_76 : decode prog_13_method_42_code 76 = .ok (.putfield 189, 3) := by decide +kernel
theorem d_Mo_runStates_79 : decode prog_13_method_42_code 79 = .ok (.return_, 1) := by decide +kernel
theorem M_Mo_runStates : lt_M0 m_Mo_runStates 0 := ⟨lt_m5 177 rfl rfl, lt_m1 13 rfl rfl, ⟨by decide +kernel, by decide +kernel, by decide +kernel⟩, by decide⟩
theorem in_Mo_runStates : Cond.instanceMethod m_Mo_runStates.1 ∈ lt_T := lt_m5 176 rfl rfl
theorem se_Mo_runStates : Cond.selects "LinearSearchModel" m_Mo_runStates.1 m_Mo_runStates.1 ∈ lt_T := lt_memS 51 rfl rfl
abbrev m_Mo_endByStates : lt_M := (⟨"LinearSearchModel", "endByStates", "()I"⟩, prog_13_method_41_code, 4, (some .int))
theorem d_Mo_endByStates_0 : decode prog_13_method_41_code 0 = .ok (.aload_n 0, 1) := by decide +kernel
theorem d_Mo_endByStates_1 : decode prog_13_method_41_code 1 = .ok (.iconst 0, 1) := by decide +kernel
theorem d_Mo_endByStates_2 : decode prog_13_method_41_code 2 = .ok (.putfield 225, 3) := by decide +kernel
theorem d_Mo_endByStates_5 : decode prog_13_method_41_code 5 = .ok (.iconst (-1), 1) := by decide +kernel
theorem d_Mo_endByStates_6 : decode prog_13_method_41_code 6 = .ok (.istore_n 1, 1) := by decide +kernel
theorem d_Mo_endByStates_7 : decode prog_13_method_41_code 7 = .ok (.aload_n 0, 1) := by decide +kernel
theorem d_Mo_endByStates_8 : decode prog_13_method_41_code 8 = .ok (.invokevirtual 239, 3) := by decide +kernel
theorem d_Mo_endByStates_11 : decode prog_13_method_41_code 11 = .ok (.istore_n 2, 1) := by decide +kernel
theorem d_Mo_endByStates_12 : decode prog_13_method_41_code 12 = .ok (.iconst 0, 1) := by decide +kernel
theorem d_Mo_endByStates_13 : decode prog_13_method_41_code 13 = .ok (.istore_n 3, 1) := by decide +kernel
theorem d_Mo_endByStates_14 : decode prog_13_method_41_code 14 = .ok (.iload_n 3, 1) := by decide +kernel
theorem d_Mo_endByStates_15 : decode prog_13_method_41_code 15 = .ok (.aload_n 0, 1) := by decide +kernel
theorem d_Mo_endByStates_16 : decode prog_13_method_41_code 16 = .ok (.getfield 172, 3) := by decide +kernel
theorem d_Mo_endByStates_19 : decode prog_13_method_41_code 19 = .ok (.if_icmp .gt 80, 3) := by decide +kernel
theorem d_Mo_endByStates_22 : decode prog_13_method_41_code 22 = .ok (.iload_n 2, 1) := by decide +kernel
theorem d_Mo_endByStates_23 : decode prog_13_method_41_code 23 = .ok (.iconst (-1), 1) := by decide +kernel
theorem d_Mo_endByStates_24 : decode prog_13_method_41_code 24 = .ok (.if_icmp .eq 75, 3) := by decide +kernel
theorem d_Mo_endByStates_27 : decode prog_13_method_41_code 27 = .ok (.aload_n 0, 1) := by decide +kernel
theorem d_Mo_endByStates_28 : decode prog_13_method_41_code 28 = .ok (.iload_n 2, 1) := by decide +kernel
theorem d_Mo_endByStates_29 : decode prog_13_method_41_code 29 = .ok (.invokevirtual 236, 3) := by decide +kernel
theorem d_Mo_endByStates_32 : decode prog_13_method_41_code 32 = .ok (.ifCond .ne 19, 3) := by decide +kernel
theorem d_Mo_endByStates_35 : decode prog_13_method_41_code 35 = .ok (.iload_n 3, 1) := by decide +kernel
theorem d_Mo_endByStates_36 : decode prog_13_method_41_code 36 = .ok (.aload_n 0, 1) := by decide +kernel
theorem d_Mo_endByStates_37 : decode prog_13_method_41_code 37 = .ok (.getfield 172, 3) := by decide +kernel
theorem d_Mo_endByStates_40 : decode prog_13_method_41_code 40 = .ok (.if_icmp .ne 13, 3) := by decide +kernel
theorem d_Mo_endByStates_43 : decode prog_13_method_41_code 43 = .ok (.aload_n 0, 1) := by decide +kernel
theorem d_Mo_endByStates_44 : decode prog_13_method_41_code 44 = .ok (.iload_n 2, 1) := by decide +kernel
theorem d_Mo_endByStates_45 : decode prog_13_method_41_code 45 = .ok (.invokevirtual 242, 3) := by decide +kernel
theorem d_Mo_endByStates_48 : decode prog_13_method_41_code 48 = .ok (.ifCond .eq 5, 3) := by decide +kernel
theorem d_Mo_endByStates_51 : decode prog_13_method_41_code 51 = .ok (.iload_n 3, 1) := by decide +kernel
theorem d_Mo_endByStates_52 : decode prog_13_method_41_code 52 = .ok (.istore_n 1, 1) := by decide +kernel
theorem d_Mo_endByStates_53 : decode prog_13_method_41_code 53 = .ok (.iload_n 3, 1) := by decide +kernel
theorem d_Mo_endByStates_54 : decode prog_13_method_41_code 54 = .ok (.aload_n 0, 1) := by decide +kernel
theorem d_Mo_endByStates_55 : decode prog_13_method_41_code 55 = .ok (.getfield 172, 3) := by decide +kernel
theorem d_Mo_endByStates_58 : decode prog_13_method_41_code 58 = .ok (.if_icmp .eq 21, 3) := by decide +kernel
theorem d_Mo_endByStates_61 : decode prog_13_method_41_code 61 = .ok (.aload_n 0, 1) := by decide +kernel
theorem d_Mo_endByStates_62 : decode prog_13_method_41_code 62 = .ok (.getfield 68, 3) := by decide +kernel
theorem d_Mo_endByStates_65 : decode prog_13_method_41_code 65 = .ok (.iload_n 2, 1) := by decide +kernel
theorem d_Mo_endByStates_66 : decode prog_13_method_41_code 66 = .ok (.baload, 1) := by decide +kernel
theorem d_Mo_endByStates_67 : decode prog_13_method_41_code 67 = .ok (.ifCond .ne 14, 3) := by decide +kernel
theorem d_Mo_endByStates_70 : decode prog_13_method_41_code 70 = .ok (.aload_n 0, 1) := by decide +kernel
theorem d_Mo_endByStates_71 : decode prog_13_method_41_code 71 = .ok (.getfield 62, 3) := by decide +kernel
theorem d_Mo_endByStates_74 : decode prog_13_method_41_code 74 = .ok (.iload_n 2, 1) := by decide +kernel
theorem d_Mo_endByStates_75 : decode prog_13_method_41_code 75 = .ok (.iaload, 1) := by decide +kernel
theorem d_Mo_endByStates_76 : decode prog_13_method_41_code 76 = .ok (.ifCond .ne 5, 3) := by decide +kernel
theorem d_Mo_endByStates_79 : decode prog_13_method_41_code 79 = .ok (.iload_n 1, 1) := by decide +kernel
theorem d_Mo_endByStates_80 : decode prog_13_method_41_code 80 = .ok (.ireturn, 1) := by decide +kernel
theorem d_Mo_endByStates_81 : decode prog_13_method_41_code 81 = .ok (.aload_n 0, 1) := by decide +kernel
theorem d_Mo_endByStates_82 : decode prog_13_method_41_code 82 = .ok (.iload_n 2, 1) := by decide +kernel
theorem d_Mo_endByStates_83 : decode prog_13_method_41_code 83 = .ok (.aload_n 0, 1) := by decide +kernel
theorem d_Mo_endByStates_84 : decode prog_13_method_41_code 84 = .ok (.getfield 13, 3) := by decide +kernel
theorem d_Mo_endByStates_87 : decode prog_13_method_41_code 87 = .ok (.iload_n 3, 1) := by decide +kernel
theorem d_Mo_endByStates_88 : decode prog_13_method_41_code 88 = .ok (.iaload, 1) := by decide +kernel
theorem d_Mo_endByStates_89 : decode prog_13_method_41_code 89 = .ok (.invokevirtual 245, 3) := by decide +kernel
theorem d_Mo_endByStates_92 : decode prog_13_method_41_code 92 = .ok (.istore_n 2, 1) := by decide +kernel
theorem d_Mo_endByStates_93 : decode prog_13_method_41_code 93 = .ok (.iinc 3 1, 3) := by decide +kernel
theorem d_Mo_endByStates_96 : decode prog_13_method_41_code 96 = .ok (.goto (-82), 3) := by decide +kernel
theorem d_Mo_endByStates_99 : decode prog_13_method_41_code 99 = .ok (.bipush (-2), 2) := by decide +kernel
theorem d_Mo_endByStates_101 : decode prog_13_method_41_code 101 = .ok (.ireturn, 1) := by decide +kernel
theorem M_Mo_endByStates : lt_M0 m_Mo_endByStates 0 := ⟨lt_m5 181 rfl rfl, lt_m1 13 rfl rfl, ⟨by decide +kernel, by decide +kernel, by decide +kernel⟩, by decide⟩
theorem in_Mo_endByStates : Cond.instanceMethod m_Mo_endByStates.1 ∈ lt_T := lt_m5 180 rfl rfl
theorem se_Mo_endByStates : Cond.selects "LinearSearchModel" m_Mo_endByStates.1 m_Mo_endByStates.1 ∈ lt_T := lt_memS 52 rfl rfl
abbrev m_Mo_firstState : lt_M := (⟨"LinearSearchModel", "firstState", "()I"⟩, prog_13_method_38_code, 1, (some .int))
theorem d_Mo_firstState_0 : decode prog_13_method_38_code 0 = .ok (.aload_n 0, 1) := by decide +kernel
theorem d_Mo_firstState_1 : decode prog_13_method_38_code 1 = .ok (.dup, 1) := by decide +kernel
theorem d_Mo_firstState_2 : decode prog_13_method_38_code 2 = .ok (.getfield 166, 3) := by decide +kernel
theorem d_Mo_firstState_5 : decode prog_13_method_38_code 5 = .ok (.iconst 1, 1) := by decide +kernel
theorem d_Mo_firstState_6 : decode prog_13_method_38_code 6 = .ok (.iadd, 1) := by decide +kernel
theorem d_Mo_firstState_7 : decode prog_13_method_38_code 7 = .ok (.putfield 166, 3) := by decide +kernel
theorem d_Mo_firstState_10 : decode prog_13_method_38_code 10 = .ok (.aload_n 0, 1) := by decide +kernel
theorem d_Mo_firstState_11 : decode prog_13_method_38_code 11 = .ok (.iconst 0, 1) := by decide +kernel
theorem d_Mo_firstState_12 : decode prog_13_method_38_code 12 = .ok (.putfield 214, 3) := by decide +kernel
theorem d_Mo_firstState_15 : decode prog_13_method_38_code 15 = .ok (.aload_n 0, 1) := by decide +kernel
theorem d_Mo_firstState_16 : decode prog_13_method_38_code 16 = .ok (.iconst 0, 1) := by decide +kernel
theorem d_Mo_firstState_17 : decode prog_13_method_38_code 17 = .ok (.iconst 1, 1) := by decide +kernel
theorem d_Mo_firstState_18 : decode prog_13_method_38_code 18 = .ok (.invokevirtual 228, 3) := by decide +kernel
theorem d_Mo_firstState_21 : decode prog_13_method_38_code 21 = .ok (.aload_n 0, 1) := by decide +kernel
theorem d_Mo_firstState_22 : decode prog_13_method_38_code 22 = .ok (.iconst 1, 1) := by decide +kernel
theorem d_Mo_firstState_23 : decode prog_13_method_38_code 23 = .ok (.invokevirtual 232, 3) := by decide +kernel
theorem d_Mo_firstState_26 : decode prog_13_method_38_code 26 = .ok (.ireturn, 1) := by decide +kernel
theorem M_Mo_firstState : lt_M0 m_Mo_firstState 0 := ⟨lt_m5 185 rfl rfl, lt_m1 13 rfl rfl, ⟨by decide +kernel, by decide +kernel, by decide +kernel⟩, by decide⟩
theorem in_Mo_firstState : Cond.instanceMethod m_Mo_firstState.1 ∈ lt_T := lt_m5 184 rfl rfl
theorem se_Mo_firstState : Cond.selects "LinearSearchModel" m_Mo_firstState.1 m_Mo_firstState.1 ∈ lt_T := lt_memS 53 rfl rfl
abbrev m_Mo_followRow : lt_M := (⟨"LinearSearchModel", "followRow", "(IZ)V"⟩, prog_13_method_33_code, 6, none)
theorem d_Mo_followRow_0 : decode prog_13_method_33_code 0 = .ok (.aload_n 0, 1) := by decide +kernel
theorem d_Mo_followRow_1 : decode prog_13_method_33_code 1 = .ok (.iconst 0, 1) := by decide +kernel
theorem d_Mo_followRow_2 : decode prog_13_method_33_code 2 = .ok (.putfield 169, 3) := by decide +kernel
theorem d_Mo_followRow_5 : decode prog_13_method_33_code 5 = .ok (.iload_n 1, 1) := by decide +kernel
theorem d_Mo_followRow_6 : decode prog_13_method_33_code 6 = .ok (.istore_n 3, 1) := by decide +kernel
theorem d_Mo_followRow_7 : decode prog_13_method_33_code 7 = .ok (.iload_n 3, 1) := by decide +kernel
theorem d_Mo_followRow_8 : decode prog_13_method_33_code 8 = .ok (.iconst (-1), 1) := by decide +kernel
theorem d_Mo_followRow_9 : decode prog_13_method_33_code 9 = .ok (.if_icmp .eq 126, 3) := by decide +kernel
theorem d_Mo_followRow_12 : decode prog_13_method_33_code 12 = .ok (.aload_n 0, 1) := by decide +kernel
theorem d_Mo_followRow_13 : decode prog_13_method_33_code 13 = .ok (.aload_n 0, 1) := by decide +kernel
theorem d_Mo_followRow_14 : decode prog_13_method_33_code 14 = .ok (.getfield 74, 3) := by decide +kernel
theorem d_Mo_followRow_17 : decode prog_13_method_33_code 17 = .ok (.iconst 0, 1) := by decide +kernel
theorem d_Mo_followRow_18 : decode prog_13_method_33_code 18 = .ok (.aload_n 0, 1) := by decide +kernel
theorem d_Mo_followRow_19 : decode prog_13_method_33_code 19 = .ok (.getfield 214, 3) := by decide +kernel
theorem d_Mo_followRow_22 : decode prog_13_method_33_code 22 = .ok (.invokevirtual 217, 3) := by decide +kernel
theorem d_Mo_followRow_25 : decode prog_13_method_33_code 25 = .ok (.ifCond .ne 110, 3) := by decide +kernel
theorem d_Mo_followRow_28 : decode prog_13_method_33_code 28 = .ok (.iconst (-1), 1) := by decide +kernel
theorem d_Mo_followRow_29 : decode prog_13_method_33_code 29 = .ok (.istore 4, 2) := by decide +kernel
theorem d_Mo_followRow_31 : decode prog_13_method_33_code 31 = .ok (.aload_n 0, 1) := by decide +kernel
theorem d_Mo_followRow_32 : decode prog_13_method_33_code 32 = .ok (.getfield 34, 3) := by decide +kernel
theorem d_Mo_followRow_35 : decode prog_13_method_33_code 35 = .ok (.iload_n 3, 1) := by decide +kernel
theorem d_Mo_followRow_36 : decode prog_13_method_33_code 36 = .ok (.iaload, 1) := by decide +kernel
theorem d_Mo_followRow_37 : decode prog_13_method_33_code 37 = .ok (.aload_n 0, 1) := by decide +kernel
theorem d_Mo_followRow_38 : decode prog_13_method_33_code 38 = .ok (.getfield 166, 3) := by decide +kernel
theorem d_Mo_followRow_41 : decode prog_13_method_33_code 41 = .ok (.if_icmp .eq 75, 3) := by decide +kernel
theorem d_Mo_followRow_44 : decode prog_13_method_33_code 44 = .ok (.aload_n 0, 1) := by decide +kernel
theorem d_Mo_followRow_45 : decode prog_13_method_33_code 45 = .ok (.getfield 34, 3) := by decide +kernel
theorem d_Mo_followRow_48 : decode prog_13_method_33_code 48 = .ok (.iload_n 3, 1) := by decide +kernel
theorem d_Mo_followRow_49 : decode prog_13_method_33_code 49 = .ok (.aload_n 0, 1) := by decide +kernel
theorem d_Mo_followRow_50 : decode prog_13_method_33_code 50 = .ok (.getfield 166, 3) := by decide +kernel
theorem d_Mo_followRow_53 : decode prog_13_method_33_code 53 = .ok (.iastore, 1) := by decide +kernel
theorem d_Mo_followRow_54 : decode prog_13_method_33_code 54 = .ok (.aload_n 0, 1) := by decide +kernel
theorem d_Mo_followRow_55 : decode prog_13_method_33_code 55 = .ok (.getfield 16, 3) := by decide +kernel
theorem d_Mo_followRow_58 : decode prog_13_method_33_code 58 = .ok (.iload_n 3, 1) := by decide +kernel
theorem d_Mo_followRow_59 : decode prog_13_method_33_code 59 = .ok (.iaload, 1) := by decide +kernel
theorem d_Mo_followRow_60 : decode prog_13_method_33_code 60 = .ok (.istore 5, 2) := by decide +kernel
theorem d_Mo_followRow_62 : decode prog_13_method_33_code 62 = .ok (.iload 5, 2) := by decide +kernel
theorem d_Mo_followRow_64 : decode prog_13_method_33_code 64 = .ok (.iconst 1, 1) := by decide +kernel
theorem d_Mo_followRow_65 : decode prog_13_method_33_code 65 = .ok (.if_icmp .le 10, 3) := by decide +kernel
theorem d_Mo_followRow_68 : decode prog_13_method_33_code 68 = .ok (.iload 5, 2) := by decide +kernel
theorem d_Mo_followRow_70 : decode prog_13_method_33_code 70 = .ok (.bipush 6, 2) := by decide +kernel
theorem d_Mo_followRow_72 : decode prog_13_method_33_code 72 = .ok (.if_icmp .lt 26, 3) := by decide +kernel
theorem d_Mo_followRow_75 : decode prog_13_method_33_code 75 = .ok (.aload_n 0, 1) := by decide +kernel
theorem d_Mo_followRow_76 : decode prog_13_method_33_code 76 = .ok (.getfield 74, 3) := by decide +kernel
theorem d_Mo_followRow_79 : decode prog_13_method_33_code 79 = .ok (.aload_n 0, 1) := by decide +kernel
theorem d_Mo_followRow_80 : decode prog_13_method_33_code 80 = .ok (.getfield 214, 3) := by decide +kernel
theorem d_Mo_followRow_83 : decode prog_13_method_33_code 83 = .ok (.iload_n 3, 1) := by decide +kernel
theorem d_Mo_followRow_84 : decode prog_13_method_33_code 84 = .ok (.iastore, 1) := by decide +kernel
theorem d_Mo_followRow_85 : decode prog_13_method_33_code 85 = .ok (.aload_n 0, 1) := by decide +kernel
theorem d_Mo_followRow_86 : decode prog_13_method_33_code 86 = .ok (.dup, 1) := by decide +kernel
theorem d_Mo_followRow_87 : decode prog_13_method_33_code 87 = .ok (.getfield 214, 3) := by decide +kernel
theorem d_Mo_followRow_90 : decode prog_13_method_33_code 90 = .ok (.iconst 1, 1) := by decide +kernel
theorem d_Mo_followRow_91 : decode prog_13_method_33_code 91 = .ok (.iadd, 1) := by decide +kernel
theorem d_Mo_followRow_92 : decode prog_13_method_33_code 92 = .ok (.putfield 214, 3) := by decide +kernel
theorem d_Mo_followRow_95 : decode prog_13_method_33_code 95 = .ok (.goto 21, 3) := by decide +kernel
theorem d_Mo_followRow_98 : decode prog_13_method_33_code 98 = .ok (.iload 5, 2) := by decide +kernel
theorem d_Mo_followRow_100 : decode prog_13_method_33_code 100 = .ok (.iconst 5, 1) := by decide +kernel
theorem d_Mo_followRow_101 : decode prog_13_method_33_code 101 = .ok (.if_icmp .ne 7, 3) := by decide +kernel
theorem d_Mo_followRow_104 : decode prog_13_method_33_code 104 = .ok (.iload_n 2, 1) := by decide +kernel
theorem d_Mo_followRow_105 : decode prog_13_method_33_code 105 = .ok (.ifCond .eq 11, 3) := by decide +kernel
theorem d_Mo_followRow_108 : decode prog_13_method_33_code 108 = .ok (.aload_n 0, 1) := by decide +kernel
theorem d_Mo_followRow_109 : decode prog_13_method_33_code 109 = .ok (.iload_n 3, 1) := by decide +kernel
theorem d_Mo_followRow_110 : decode prog_13_method_33_code 110 = .ok (.iconst 0, 1) := by decide +kernel
theorem d_Mo_followRow_111 : decode prog_13_method_33_code 111 = .ok (.invokevirtual 179, 3) := by decide +kernel
theorem d_Mo_followRow_114 : decode prog_13_method_33_code 114 = .ok (.istore 4, 2) := by decide +kernel
theorem d_Mo_followRow_116 : decode prog_13_method_33_code 116 = .ok (.iload 4, 2) := by decide +kernel
theorem d_Mo_followRow_118 : decode prog_13_method_33_code 118 = .ok (.iconst (-1), 1) := by decide +kernel
theorem d_Mo_followRow_119 : decode prog_13_method_33_code 119 = .ok (.if_icmp .ne 10, 3) := by decide +kernel
theorem d_Mo_followRow_122 : decode prog_13_method_33_code 122 = .ok (.aload_n 0, 1) := by decide +kernel
theorem d_Mo_followRow_123 : decode prog_13_method_33_code 123 = .ok (.invokevirtual 186, 3) := by decide +kernel
theorem d_Mo_followRow_126 : decode prog_13_method_33_code 126 = .ok (.goto 5, 3) := by decide +kernel
theorem d_Mo_followRow_129 : decode prog_13_method_33_code 129 = .ok (.iload 4, 2) := by decide +kernel
theorem d_Mo_followRow_131 : decode prog_13_method_33_code 131 = .ok (.istore_n 3, 1) := by decide +kernel
theorem d_Mo_followRow_132 : decode prog_13_method_33_code 132 = .ok (.goto (-125), 3) := by decide +kernel
theorem d_Mo_followRow_135 : decode prog_13_method_33_code 135 = .ok (.return_, 1) := by decide +kernel
theorem M_Mo_followRow : lt_M0 m_Mo_followRow 2 := ⟨lt_m5 189 rfl rfl, lt_m1 13 rfl rfl, ⟨by decide +kernel, by decide +kernel, by decide +kernel⟩, by decide⟩
theorem in_Mo_followRow : Cond.instanceMethod m_Mo_followRow.1 ∈ lt_T := lt_m5 188 rfl rfl
theorem se_Mo_followRow : Cond.selects "LinearSearchModel" m_Mo_followRow.1 m_Mo_followRow.1 ∈ lt_T := lt_memS 54 rfl rfl
abbrev m_Mo_hasFound : lt_M := (⟨"LinearSearchModel", "hasFound", "([III)Z"⟩, prog_13_method_34_code, 4, (some .boolean))
theorem d_Mo_hasFound_0 : decode prog_13_method_34_code 0 = .ok (.iload_n 3, 1) := by decide +kernel
theorem d_Mo_hasFound_1 : decode prog_13_method_34_code 1 = .ok (.ifCond .le 24, 3) := by decide +kernel
theorem d_Mo_hasFound_4 : decode prog_13_method_34_code 4 = .ok (.aload_n 0, 1) := by decide +kernel
theorem d_Mo_hasFound_5 : decode prog_13_method_34_code 5 = .ok (.getfield 16, 3) := by decide +kernel
theorem d_Mo_hasFound_8 : decode prog_13_method_34_code 8 = .ok (.aload_n 1, 1) := by decide +kernel
theorem d_Mo_hasFound_9 : decode prog_13_method_34_code 9 = .ok (.iload_n 2, 1) := by decide +kernel
theorem d_Mo_hasFound_10 : decode prog_13_method_34_code 10 = .ok (.iload_n 3, 1) := by decide +kernel
theorem d_Mo_hasFound_11 : decode prog_13_method_34_code 11 = .ok (.iadd, 1) := by decide +kernel
theorem d_Mo_hasFound_12 : decode prog_13_method_34_code 12 = .ok (.iconst 1, 1) := by decide +kernel
theorem d_Mo_hasFound_13 : decode prog_13_method_34_code 13 = .ok (.isub, 1) := by decide +kernel
theorem d_Mo_hasFound_14 : decode prog_13_method_34_code 14 = .ok (.iaload, 1) := by decide +kernel
theorem d_Mo_hasFound_15 : decode prog_13_method_34_code 15 = .ok (.iaload, 1) := by decide +kernel
theorem d_Mo_hasFound_16 : decode prog_13_method_34_code 16 = .ok (.bipush 7, 2) := by decide +kernel
theorem d_Mo_hasFound_18 : decode prog_13_method_34_code 18 = .ok (.if_icmp .ne 7, 3) := by decide +kernel
theorem d_Mo_hasFound_21 : decode prog_13_method_34_code 21 = .ok (.iconst 1, 1) := by decide +kernel
theorem d_Mo_hasFound_22 : decode prog_13_method_34_code 22 = .ok (.goto 4, 3) := by decide +kernel
theorem d_Mo_hasFound_25 : decode prog_13_method_34_code 25 = .ok (.iconst 0, 1) := by decide +kernel
theorem d_Mo_hasFound_26 : decode prog_13_method_34_code 26 = .ok (.ireturn, 1) := by decide +kernel
theorem M_Mo_hasFound : lt_M0 m_Mo_hasFound 3 := ⟨lt_m5 193 rfl rfl, lt_m1 13 rfl rfl, ⟨by decide +kernel, by decide +kernel, by decide +kernel⟩, by decide⟩
theorem in_Mo_hasFound : Cond.instanceMethod m_Mo_hasFound.1 ∈ lt_T := lt_m5 192 rfl rfl
theorem se_Mo_hasFound : Cond.selects "LinearSearchModel" m_Mo_hasFound.1 m_Mo_hasFound.1 ∈ lt_T := lt_memS 55 rfl rfl
abbrev m_Mo_stateOf : lt_M := (⟨"LinearSearchModel", "stateOf", "(Z)I"⟩, prog_13_method_37_code, 4, (some .int))
theorem d_Mo_stateOf_0 : decode prog_13_method_37_code 0 = .ok (.iconst 0, 1) := by decide +kernel
theorem d_Mo_stateOf_1 : decode prog_13_method_37_code 1 = .ok (.istore_n 2, 1) := by decide +kernel
theorem d_Mo_stateOf_2 : decode prog_13_method_37_code 2 = .ok (.iload_n 2, 1) := by decide +kernel
theorem d_Mo_stateOf_3 : decode prog_13_method_37_code 3 = .ok (.aload_n 0, 1) := by decide +kernel
theorem d_Mo_stateOf_4 : decode prog_13_method_37_code 4 = .ok (.getfield 151, 3) := by decide +kernel
theorem d_Mo_stateOf_7 : decode prog_13_method_37_code 7 = .ok (.if_icmp .ge 20, 3) := by decide +kernel
theorem d_Mo_stateOf_10 : decode prog_13_method_37_code 10 = .ok (.aload_n 0, 1) := by decide +kernel
theorem d_Mo_stateOf_11 : decode prog_13_method_37_code 11 = .ok (.iload_n 2, 1) := by decide +kernel
theorem d_Mo_stateOf_12 : decode prog_13_method_37_code 12 = .ok (.iload_n 1, 1) := by decide +kernel
theorem d_Mo_stateOf_13 : decode prog_13_method_37_code 13 = .ok (.invokevirtual 221, 3) := by decide +kernel
theorem d_Mo_stateOf_16 : decode prog_13_method_37_code 16 = .ok (.ifCond .eq 5, 3) := by decide +kernel
theorem d_Mo_stateOf_19 : decode prog_13_method_37_code 19 = .ok (.iload_n 2, 1) := by decide +kernel
theorem d_Mo_stateOf_20 : decode prog_13_method_37_code 20 = .ok (.ireturn, 1) := by decide +kernel
theorem d_Mo_stateOf_21 : decode prog_13_method_37_code 21 = .ok (.iinc 2 1, 3) := by decide +kernel
theorem d_Mo_stateOf_24 : decode prog_13_method_37_code 24 = .ok (.goto (-22), 3) := by decide +kernel
theorem d_Mo_stateOf_27 : decode prog_13_method_37_code 27 = .ok (.aload_n 0, 1) := by decide +kernel
theorem d_Mo_stateOf_28 : decode prog_13_method_37_code 28 = .ok (.getfield 151, 3) := by decide +kernel
theorem d_Mo_stateOf_31 : decode prog_13_method_37_code 31 = .ok (.aload_n 0, 1) := by decide +kernel
theorem d_Mo_stateOf_32 : decode prog_13_method_37_code 32 = .ok (.getfield 99, 3) := by decide +kernel
theorem d_Mo_stateOf_35 : decode prog_13_method_37_code 35 = .ok (.if_icmp .ne 38, 3) := by decide +kernel
theorem d_Mo_stateOf_38 : decode prog_13_method_37_code 38 = .ok (.aload_n 0, 1) := by decide +kernel
theorem d_Mo_stateOf_39 : decode prog_13_method_37_code 39 = .ok (.iconst 0, 1) := by decide +kernel
theorem d_Mo_stateOf_40 : decode prog_13_method_37_code 40 = .ok (.putfield 151, 3) := by decide +kernel
theorem d_Mo_stateOf_43 : decode prog_13_method_37_code 43 = .ok (.aload_n 0, 1) := by decide +kernel
theorem d_Mo_stateOf_44 : decode prog_13_method_37_code 44 = .ok (.dup, 1) := by decide +kernel
theorem d_Mo_stateOf_45 : decode prog_13_method_37_code 45 = .ok (.getfield 154, 3) := by decide +kernel
theorem d_Mo_stateOf_48 : decode prog_13_method_37_code 48 = .ok (.iconst 1, 1) := by decide +kernel
theorem d_Mo_stateOf_49 : decode prog_13_method_37_code 49 = .ok (.iadd, 1) := by decide +kernel
theorem d_Mo_stateOf_50 : decode prog_13_method_37_code 50 = .ok (.putfield 154, 3) := by decide +kernel
theorem d_Mo_stateOf_53 : decode prog_13_method_37_code 53 = .ok (.aload_n 0, 1) := by decide +kernel
theorem d_Mo_stateOf_54 : decode prog_13_method_37_code 54 = .ok (.dup, 1) := by decide +kernel
theorem d_Mo_stateOf_55 : decode prog_13_method_37_code 55 = .ok (.getfield 225, 3) := by decide +kernel
theorem d_Mo_stateOf_58 : decode prog_13_method_37_code 58 = .ok (.iconst 1, 1) := by decide +kernel
theorem d_Mo_stateOf_59 : decode prog_13_method_37_code 59 = .ok (.iadd, 1) := by decide +kernel
theorem d_Mo_stateOf_60 : decode prog_13_method_37_code 60 = .ok (.putfield 225, 3) := by decide +kernel
theorem d_Mo_stateOf_63 : decode prog_13_method_37_code 63 = .ok (.aload_n 0, 1) := by decide +kernel
theorem d_Mo_stateOf_64 : decode prog_13_method_37_code 64 = .ok (.getfield 225, 3) := by decide +kernel
theorem d_Mo_stateOf_67 : decode prog_13_method_37_code 67 = .ok (.iconst 3, 1) := by decide +kernel
theorem d_Mo_stateOf_68 : decode prog_13_method_37_code 68 = .ok (.if_icmp .ne 5, 3) := by decide +kernel
theorem d_Mo_stateOf_71 : decode prog_13_method_37_code 71 = .ok (.iconst (-1), 1) := by decide +kernel
theorem d_Mo_stateOf_72 : decode prog_13_method_37_code 72 = .ok (.ireturn, 1) := by decide +kernel
theorem d_Mo_stateOf_73 : decode prog_13_method_37_code 73 = .ok (.aload_n 0, 1) := by decide +kernel
theorem d_Mo_stateOf_74 : decode prog_13_method_37_code 74 = .ok (.getfield 151, 3) := by decide +kernel
theorem d_Mo_stateOf_77 : decode prog_13_method_37_code 77 = .ok (.istore_n 2, 1) := by decide +kernel
theorem d_Mo_stateOf_78 : decode prog_13_method_37_code 78 = .ok (.aload_n 0, 1) := by decide +kernel
theorem d_Mo_stateOf_79 : decode prog_13_method_37_code 79 = .ok (.dup, 1) := by decide +kernel
theorem d_Mo_stateOf_80 : decode prog_13_method_37_code 80 = .ok (.getfield 151, 3) := by decide +kernel
theorem d_Mo_stateOf_83 : decode prog_13_method_37_code 83 = .ok (.iconst 1, 1) := by decide +kernel
theorem d_Mo_stateOf_84 : decode prog_13_method_37_code 84 = .ok (.iadd, 1) := by decide +kernel
theorem d_Mo_stateOf_85 : decode prog_13_method_37_code 85 = .ok (.putfield 151, 3) := by decide +kernel
theorem d_Mo_stateOf_88 : decode prog_13_method_37_code 88 = .ok (.aload_n 0, 1) := by decide +kernel
theorem d_Mo_stateOf_89 : decode prog_13_method_37_code 89 = .ok (.dup, 1) := by decide +kernel
theorem d_Mo_stateOf_90 : decode prog_13_method_37_code 90 = .ok (.getfield 189, 3) := by decide +kernel
theorem d_Mo_stateOf_93 : decode prog_13_method_37_code 93 = .ok (.iconst 1, 1) := by decide +kernel
theorem d_Mo_stateOf_94 : decode prog_13_method_37_code 94 = .ok (.iadd, 1) := by decide +kernel
theorem d_Mo_stateOf_95 : decode prog_13_method_37_code 95 = .ok (.putfield 189, 3) := by decide +kernel
theorem d_Mo_stateOf_98 : decode prog_13_method_37_code 98 = .ok (.aload_n 0, 1) := by decide +kernel
theorem d_Mo_stateOf_99 : decode prog_13_method_37_code 99 = .ok (.getfield 62, 3) := by decide +kernel
theorem d_Mo_stateOf_102 : decode prog_13_method_37_code 102 = .ok (.iload_n 2, 1) := by decide +kernel
theorem d_Mo_stateOf_103 : decode prog_13_method_37_code 103 = .ok (.aload_n 0, 1) := by decide +kernel
theorem d_Mo_stateOf_104 : decode prog_13_method_37_code 104 = .ok (.getfield 214, 3) := by decide +kernel
theorem d_Mo_stateOf_107 : decode prog_13_method_37_code 107 = .ok (.iastore, 1) := by decide +kernel
theorem d_Mo_stateOf_108 : decode prog_13_method_37_code 108 = .ok (.aload_n 0, 1) := by decide +kernel
theorem d_Mo_stateOf_109 : decode prog_13_method_37_code 109 = .ok (.getfield 68, 3) := by decide +kernel
theorem d_Mo_stateOf_112 : decode prog_13_method_37_code 112 = .ok (.iload_n 2, 1) := by decide +kernel
theorem d_Mo_stateOf_113 : decode prog_13_method_37_code 113 = .ok (.iload_n 1, 1) := by decide +kernel
theorem d_Mo_stateOf_114 : decode prog_13_method_37_code 114 = .ok (.bastore, 1) := by decide +kernel
theorem d_Mo_stateOf_115 : decode prog_13_method_37_code 115 = .ok (.iconst 0, 1) := by decide +kernel
theorem d_Mo_stateOf_116 : decode prog_13_method_37_code 116 = .ok (.istore_n 3, 1) := by decide +kernel
theorem d_Mo_stateOf_117 : decode prog_13_method_37_code 117 = .ok (.iload_n 3, 1) := by decide +kernel
theorem d_Mo_stateOf_118 : decode prog_13_method_37_code 118 = .ok (.aload_n 0, 1) := by decide +kernel
theorem d_Mo_stateOf_119 : decode prog_13_method_37_code 119 = .ok (.getfield 214, 3) := by decide +kernel
theorem d_Mo_stateOf_122 : decode prog_13_method_37_code 122 = .ok (.if_icmp .ge 26, 3) := by decide +kernel
theorem d_Mo_stateOf_125 : decode prog_13_method_37_code 125 = .ok (.aload_n 0, 1) := by decide +kernel
theorem d_Mo_stateOf_126 : decode prog_13_method_37_code 126 = .ok (.getfield 65, 3) := by decide +kernel
theorem d_Mo_stateOf_129 : decode prog_13_method_37_code 129 = .ok (.bipush 64, 2) := by decide +kernel
theorem d_Mo_stateOf_131 : decode prog_13_method_37_code 131 = .ok (.iload_n 2, 1) := by decide +kernel
theorem d_Mo_stateOf_132 : decode prog_13_method_37_code 132 = .ok (.imul, 1) := by decide +kernel
theorem d_Mo_stateOf_133 : decode prog_13_method_37_code 133 = .ok (.iload_n 3, 1) := by decide +kernel
theorem d_Mo_stateOf_134 : decode prog_13_method_37_code 134 = .ok (.iadd, 1) := by decide +kernel
theorem d_Mo_stateOf_135 : decode prog_13_method_37_code 135 = .ok (.aload_n 0, 1) := by decide +kernel
theorem d_Mo_stateOf_136 : decode prog_13_method_37_code 136 = .ok (.getfield 74, 3) := by decide +kernel
theorem d_Mo_stateOf_139 : decode prog_13_method_37_code 139 = .ok (.iload_n 3, 1) := by decide +kernel
theorem d_Mo_stateOf_140 : decode prog_13_method_37_code 140 = .ok (.iaload, 1) := by decide +kernel
theorem d_Mo_stateOf_141 : decode prog_13_method_37_code 141 = .ok (.iastore, 1) := by decide +kernel
theorem d_Mo_stateOf_142 : decode prog_13_method_37_code 142 = .ok (.iinc 3 1, 3) := by decide +kernel
theorem d_Mo_stateOf_145 : decode prog_13_method_37_code 145 = .ok (.goto (-28), 3) := by decide +kernel
theorem d_Mo_stateOf_148 : decode prog_13_method_37_code 148 = .ok (.iconst 0, 1) := by decide +kernel
theorem d_Mo_stateOf_149 : decode prog_13_method_37_code 149 = .ok (.istore_n 3, 1) := by decide +kernel
theorem d_Mo_stateOf_150 : decode prog_13_method_37_code 150 = .ok (.iload_n 3, 1) := by decide +kernel
theorem d_Mo_stateOf_151 : decode prog_13_method_37_code 151 = .ok (.bipush 8, 2) := by decide +kernel
theorem d_Mo_stateOf_153 : decode prog_13_method_37_code 153 = .ok (.if_icmp .ge 21, 3) := by decide +kernel
theorem d_Mo_stateOf_156 : decode prog_13_method_37_code 156 = .ok (.aload_n 0, 1) := by decide +kernel
theorem d_Mo_stateOf_157 : decode prog_13_method_37_code 157 = .ok (.getfield 71, 3) := by decide +kernel
theorem d_Mo_stateOf_160 : decode prog_13_method_37_code 160 = .ok (.bipush 8, 2) := by decide +kernel
theorem d_Mo_stateOf_162 : decode prog_13_method_37_code 162 = .ok (.iload_n 2, 1) := by decide +kernel
theorem d_Mo_stateOf_163 : decode prog_13_method_37_code 163 = .ok (.imul, 1) := by decide +kernel
theorem d_Mo_stateOf_164 : decode prog_13_method_37_code 164 = .ok (.iload_n 3, 1) := by decide +kernel
theorem d_Mo_stateOf_165 : decode prog_13_method_37_code 165 = .ok (.iadd, 1) := by decide +kernel
theorem d_Mo_stateOf_166 : decode prog_13_method_37_code 166 = .ok (.iconst (-1), 1) := by decide +kernel
theorem d_Mo_stateOf_167 : decode prog_13_method_37_code 167 = .ok (.iastore, 1) := by decide +kernel
theorem d_Mo_stateOf_168 : decode prog_13_method_37_code 168 = .ok (.iinc 3 1, 3) := by decide +kernel
theorem d_Mo_stateOf_171 : decode prog_13_method_37_code 171 = .ok (.goto (-21), 3) := by decide +kernel
theorem d_Mo_stateOf_174 : decode prog_13_method_37_code 174 = .ok (.iload_n 2, 1) := by decide +kernel
theorem d_Mo_stateOf_175 : decode prog_13_method_37_code 175 = .ok (.ireturn, 1) := by decide +kernel
theorem M_Mo_stateOf : lt_M0 m_Mo_stateOf 1 := ⟨lt_m5 197 rfl rfl, lt_m1 13 rfl rfl, ⟨by decide +kernel, by decide +kernel, by decide +kernel⟩, by decide⟩
theorem in_Mo_stateOf : Cond.instanceMethod m_Mo_stateOf.1 ∈ lt_T := lt_m5 196 rfl rfl
theorem se_Mo_stateOf : Cond.selects "LinearSearchModel" m_Mo_stateOf.1 m_Mo_stateOf.1 ∈ lt_T := lt_memS 56 rfl rfl
abbrev m_Mo_isRow : lt_M := (⟨"LinearSearchModel", "isRow", "(IZ)Z"⟩, prog_13_method_36_code, 5, (some .boolean))
theorem d_Mo_isRow_0 : decode prog_13_method_36_code 0 = .ok (.aload_n 0, 1) := by decide +kernel
theorem d_Mo_isRow_1 : decode prog_13_method_36_code 1 = .ok (.getfield 62, 3) := by decide +kernel
theorem d_Mo_isRow_4 : decode prog_13_method_36_code 4 = .ok (.iload_n 1, 1) := by decide +kernel
theorem d_Mo_isRow_5 : decode prog_13_method_36_code 5 = .ok (.iaload, 1) := by decide +kernel
theorem d_Mo_isRow_6 : decode prog_13_method_36_code 6 = .ok (.aload_n 0, 1) := by decide +kernel
theorem d_Mo_isRow_7 : decode prog_13_method_36_code 7 = .ok (.getfield 214, 3) := by decide +kernel
theorem d_Mo_isRow_10 : decode prog_13_method_36_code 10 = .ok (.if_icmp .ne 17, 3) := by decide +kernel
theorem d_Mo_isRow_13 : decode prog_13_method_36_code 13 = .ok (.aload_n 0, 1) := by decide +kernel
theorem d_Mo_isRow_14 : decode prog_13_method_36_code 14 = .ok (.getfield 68, 3) := by decide +kernel
theorem d_Mo_isRow_17 : decode prog_13_method_36_code 17 = .ok (.iload_n 1, 1) := by decide +kernel
theorem d_Mo_isRow_18 : decode prog_13_method_36_code 18 = .ok (.baload, 1) := by decide +kernel
theorem d_Mo_isRow_19 : decode prog_13_method_36_code 19 = .ok (.iload_n 2, 1) := by decide +kernel
theorem d_Mo_isRow_20 : decode prog_13_method_36_code 20 = .ok (.if_icmp .ne 7, 3) := by decide +kernel
theorem d_Mo_isRow_23 : decode prog_13_method_36_code 23 = .ok (.iconst 1, 1) := by decide +kernel
theorem d_Mo_isRow_24 : decode prog_13_method_36_code 24 = .ok (.goto 4, 3) := by decide +kernel
theorem d_Mo_isRow_27 : decode prog_13_method_36_code 27 = .ok (.iconst 0, 1) := by decide +kernel
theorem d_Mo_isRow_28 : decode prog_13_method_36_code 28 = .ok (.istore_n 3, 1) := by decide +kernel
theorem d_Mo_isRow_29 : decode prog_13_method_36_code 29 = .ok (.iconst 0, 1) := by decide +kernel
theorem d_Mo_isRow_30 : decode prog_13_method_36_code 30 = .ok (.istore 4, 2) := by decide +kernel
theorem d_Mo_isRow_32 : decode prog_13_method_36_code 32 = .ok (.iload 4, 2) := by decide +kernel
theorem d_Mo_isRow_34 : decode prog_13_method_36_code 34 = .ok (.aload_n 0, 1) := by decide +kernel
theorem d_Mo_isRow_35 : decode prog_13_method_36_code 35 = .ok (.getfield 214, 3) := by decide +kernel
theorem d_Mo_isRow_38 : decode prog_13_method_36_code 38 = .ok (.if_icmp .ge 41, 3) := by decide +kernel
theorem d_Mo_isRow_41 : decode prog_13_method_36_code 41 = .ok (.iload_n 3, 1) := by decide +kernel
theorem d_Mo_isRow_42 : decode prog_13_method_36_code 42 = .ok (.ifCond .eq 37, 3) := by decide +kernel
theorem d_Mo_isRow_45 : decode prog_13_method_36_code 45 = .ok (.aload_n 0, 1) := by decide +kernel
theorem d_Mo_isRow_46 : decode prog_13_method_36_code 46 = .ok (.getfield 65, 3) := by decide +kernel
theorem d_Mo_isRow_49 : decode prog_13_method_36_code 49 = .ok (.bipush 64, 2) := by decide +kernel
theorem d_Mo_isRow_51 : decode prog_13_method_36_code 51 = .ok (.iload_n 1, 1) := by decide +kernel
theorem d_Mo_isRow_52 : decode prog_13_method_36_code 52 = .ok (.imul, 1) := by decide +kernel
theorem d_Mo_isRow_53 : decode prog_13_method_36_code 53 = .ok (.iload 4, 2) := by decide +kernel
theorem d_Mo_isRow_55 : decode prog_13_method_36_code 55 = .ok (.iadd, 1) := by decide +kernel
theorem d_Mo_isRow_56 : decode prog_13_method_36_code 56 = .ok (.iaload, 1) := by decide +kernel
theorem d_Mo_isRow_57 : decode prog_13_method_36_code 57 = .ok (.aload_n 0, 1) := by decide +kernel
theorem d_Mo_isRow_58 : decode prog_13_method_36_code 58 = .ok (.getfield 74, 3) := by decide +kernel
theorem d_Mo_isRow_61 : decode prog_13_method_36_code 61 = .ok (.iload 4, 2) := by decide +kernel
theorem d_Mo_isRow_63 : decode prog_13_method_36_code 63 = .ok (.iaload, 1) := by decide +kernel
theorem d_Mo_isRow_64 : decode prog_13_method_36_code 64 = .ok (.if_icmp .ne 7, 3) := by decide +kernel
theorem d_Mo_isRow_67 : decode prog_13_method_36_code 67 = .ok (.iconst 1, 1) := by decide +kernel
theorem d_Mo_isRow_68 : decode prog_13_method_36_code 68 = .ok (.goto 4, 3) := by decide +kernel
theorem d_Mo_isRow_71 : decode prog_13_method_36_code 71 = .ok (.iconst 0, 1) := by decide +kernel
theorem d_Mo_isRow_72 : decode prog_13_method_36_code 72 = .ok (.istore_n 3, 1) := by decide +kernel
theorem d_Mo_isRow_73 : decode prog_13_method_36_code 73 = .ok (.iinc 4 1, 3) := by decide +kernel
theorem d_Mo_isRow_76 : decode prog_13_method_36_code 76 = .ok (.goto (-44), 3) := by decide +kernel
theorem d_Mo_isRow_79 : decode prog_13_method_36_code 79 = .ok (.iload_n 3, 1) := by decide +kernel
theorem d_Mo_isRow_80 : decode prog_13_method_36_code 80 = .ok (.ireturn, 1) := by decide +kernel
theorem M_Mo_isRow : lt_M0 m_Mo_isRow 2 := ⟨lt_m5 201 rfl rfl, lt_m1 13 rfl rfl, ⟨by decide +kernel, by decide +kernel, by decide +kernel⟩, by decide⟩
theorem in_Mo_isRow : Cond.instanceMethod m_Mo_isRow.1 ∈ lt_T := lt_m5 200 rfl rfl
theorem se_Mo_isRow : Cond.selects "LinearSearchModel" m_Mo_isRow.1 m_Mo_isRow.1 ∈ lt_T := lt_memS 57 rfl rfl
abbrev m_Mo_isFinal : lt_M := (⟨"LinearSearchModel", "isFinal", "(I)Z"⟩, prog_13_method_35_code, 2, (some .boolean))
theorem d_Mo_isFinal_0 : decode prog_13_method_35_code 0 = .ok (.aload_n 0, 1) := by decide +kernel
theorem d_Mo_isFinal_1 : decode prog_13_method_35_code 1 = .ok (.aload_n 0, 1) := by decide +kernel
theorem d_Mo_isFinal_2 : decode prog_13_method_35_code 2 = .ok (.getfield 65, 3) := by decide +kernel
theorem d_Mo_isFinal_5 : decode prog_13_method_35_code 5 = .ok (.bipush 64, 2) := by decide +kernel
theorem d_Mo_isFinal_7 : decode prog_13_method_35_code 7 = .ok (.iload_n 1, 1) := by decide +kernel
theorem d_Mo_isFinal_8 : decode prog_13_method_35_code 8 = .ok (.imul, 1) := by decide +kernel
theorem d_Mo_isFinal_9 : decode prog_13_method_35_code 9 = .ok (.aload_n 0, 1) := by decide +kernel
theorem d_Mo_isFinal_10 : decode prog_13_method_35_code 10 = .ok (.getfield 62, 3) := by decide +kernel
theorem d_Mo_isFinal_13 : decode prog_13_method_35_code 13 = .ok (.iload_n 1, 1) := by decide +kernel
theorem d_Mo_isFinal_14 : decode prog_13_method_35_code 14 = .ok (.iaload, 1) := by decide +kernel
theorem d_Mo_isFinal_15 : decode prog_13_method_35_code 15 = .ok (.invokevirtual 217, 3) := by decide +kernel
theorem d_Mo_isFinal_18 : decode prog_13_method_35_code 18 = .ok (.ireturn, 1) := by decide +kernel
theorem M_Mo_isFinal : lt_M0 m_Mo_isFinal 1 := ⟨lt_m5 205 rfl rfl, lt_m1 13 rfl rfl, ⟨by decide +kernel, by decide +kernel, by decide +kernel⟩, by decide⟩
theorem in_Mo_isFinal : Cond.instanceMethod m_Mo_isFinal.1 ∈ lt_T := lt_m5 204 rfl rfl
theorem se_Mo_isFinal : Cond.selects "LinearSearchModel" m_Mo_isFinal.1 m_Mo_isFinal.1 ∈ lt_T := lt_memS 58 rfl rfl
abbrev m_Mo_endsBehind : lt_M := (⟨"LinearSearchModel", "endsBehind", "(I)Z"⟩, prog_13_method_40_code, 5, (some .boolean))
theorem d_Mo_endsBehind_0 : decode prog_13_method_40_code 0 = .ok (.iconst 0, 1) := by decide +kernel
theorem d_Mo_endsBehind_1 : decode prog_13_method_40_code 1 = .ok (.istore_n 2, 1) := by decide +kernel
theorem d_Mo_endsBehind_2 : decode prog_13_method_40_code 2 = .ok (.aload_n 0, 1) := by decide +kernel
theorem d_Mo_endsBehind_3 : decode prog_13_method_40_code 3 = .ok (.dup, 1) := by decide +kernel
theorem d_Mo_endsBehind_4 : decode prog_13_method_40_code 4 = .ok (.getfield 166, 3) := by decide +kernel
theorem d_Mo_endsBehind_7 : decode prog_13_method_40_code 7 = .ok (.iconst 1, 1) := by decide +kernel
theorem d_Mo_endsBehind_8 : decode prog_13_method_40_code 8 = .ok (.iadd, 1) := by decide +kernel
theorem d_Mo_endsBehind_9 : decode prog_13_method_40_code 9 = .ok (.putfield 166, 3) := by decide +kernel
theorem d_Mo_endsBehind_12 : decode prog_13_method_40_code 12 = .ok (.iconst 0, 1) := by decide +kernel
theorem d_Mo_endsBehind_13 : decode prog_13_method_40_code 13 = .ok (.istore_n 3, 1) := by decide +kernel
theorem d_Mo_endsBehind_14 : decode prog_13_method_40_code 14 = .ok (.iload_n 3, 1) := by decide +kernel
theorem d_Mo_endsBehind_15 : decode prog_13_method_40_code 15 = .ok (.aload_n 0, 1) := by decide +kernel
theorem d_Mo_endsBehind_16 : decode prog_13_method_40_code 16 = .ok (.getfield 62, 3) := by decide +kernel
theorem d_Mo_endsBehind_19 : decode prog_13_method_40_code 19 = .ok (.iload_n 1, 1) := by decide +kernel
theorem d_Mo_endsBehind_20 : decode prog_13_method_40_code 20 = .ok (.iaload, 1) := by decide +kernel
theorem d_Mo_endsBehind_21 : decode prog_13_method_40_code 21 = .ok (.if_icmp .ge 109, 3) := by decide +kernel
theorem d_Mo_endsBehind_24 : decode prog_13_method_40_code 24 = .ok (.aload_n 0, 1) := by decide +kernel
theorem d_Mo_endsBehind_25 : decode prog_13_method_40_code 25 = .ok (.getfield 16, 3) := by decide +kernel
theorem d_Mo_endsBehind_28 : decode prog_13_method_40_code 28 = .ok (.aload_n 0, 1) := by decide +kernel
theorem d_Mo_endsBehind_29 : decode prog_13_method_40_code 29 = .ok (.getfield 65, 3) := by decide +kernel
theorem d_Mo_endsBehind_32 : decode prog_13_method_40_code 32 = .ok (.bipush 64, 2) := by decide +kernel
theorem d_Mo_endsBehind_34 : decode prog_13_method_40_code 34 = .ok (.iload_n 1, 1) := by decide +kernel
theorem d_Mo_endsBehind_35 : decode prog_13_method_40_code 35 = .ok (.imul, 1) := by decide +kernel
theorem d_Mo_endsBehind_36 : decode prog_13_method_40_code 36 = .ok (.iload_n 3, 1) := by decide +kernel
theorem d_Mo_endsBehind_37 : decode prog_13_method_40_code 37 = .ok (.iadd, 1) := by decide +kernel
theorem d_Mo_endsBehind_38 : decode prog_13_method_40_code 38 = .ok (.iaload, 1) := by decide +kernel
theorem d_Mo_endsBehind_39 : decode prog_13_method_40_code 39 = .ok (.iaload, 1) := by decide +kernel
theorem d_Mo_endsBehind_40 : decode prog_13_method_40_code 40 = .ok (.bipush 6, 2) := by decide +kernel
theorem d_Mo_endsBehind_42 : decode prog_13_method_40_code 42 = .ok (.if_icmp .eq 6, 3) := by decide +kernel
theorem d_Mo_endsBehind_45 : decode prog_13_method_40_code 45 = .ok (.goto 79, 3) := by decide +kernel
theorem d_Mo_endsBehind_48 : decode prog_13_method_40_code 48 = .ok (.aload_n 0, 1) := by decide +kernel
theorem d_Mo_endsBehind_49 : decode prog_13_method_40_code 49 = .ok (.getfield 49, 3) := by decide +kernel
theorem d_Mo_endsBehind_52 : decode prog_13_method_40_code 52 = .ok (.iconst 0, 1) := by decide +kernel
theorem d_Mo_endsBehind_53 : decode prog_13_method_40_code 53 = .ok (.iconst 0, 1) := by decide +kernel
theorem d_Mo_endsBehind_54 : decode prog_13_method_40_code 54 = .ok (.iastore, 1) := by decide +kernel
theorem d_Mo_endsBehind_55 : decode prog_13_method_40_code 55 = .ok (.aload_n 0, 1) := by decide +kernel
theorem d_Mo_endsBehind_56 : decode prog_13_method_40_code 56 = .ok (.aload_n 0, 1) := by decide +kernel
theorem d_Mo_endsBehind_57 : decode prog_13_method_40_code 57 = .ok (.getfield 65, 3) := by decide +kernel
theorem d_Mo_endsBehind_60 : decode prog_13_method_40_code 60 = .ok (.bipush 64, 2) := by decide +kernel
theorem d_Mo_endsBehind_62 : decode prog_13_method_40_code 62 = .ok (.iload_n 1, 1) := by decide +kernel
theorem d_Mo_endsBehind_63 : decode prog_13_method_40_code 63 = .ok (.imul, 1) := by decide +kernel
theorem d_Mo_endsBehind_64 : decode prog_13_method_40_code 64 = .ok (.iload_n 3, 1) := by decide +kernel
theorem d_Mo_endsBehind_65 : decode prog_13_method_40_code 65 = .ok (.iadd, 1) := by decide +kernel
theorem d_Mo_endsBehind_66 : decode prog_13_method_40_code 66 = .ok (.iaload, 1) := by decide +kernel
theorem d_Mo_endsBehind_67 : decode prog_13_method_40_code 67 = .ok (.iconst 1, 1) := by decide +kernel
theorem d_Mo_endsBehind_68 : decode prog_13_method_40_code 68 = .ok (.iadd, 1) := by decide +kernel
theorem d_Mo_endsBehind_69 : decode prog_13_method_40_code 69 = .ok (.aload_n 0, 1) := by decide +kernel
theorem d_Mo_endsBehind_70 : decode prog_13_method_40_code 70 = .ok (.getfield 172, 3) := by decide +kernel
theorem d_Mo_endsBehind_73 : decode prog_13_method_40_code 73 = .ok (.iconst 0, 1) := by decide +kernel
theorem d_Mo_endsBehind_74 : decode prog_13_method_40_code 74 = .ok (.invokevirtual 202, 3) := by decide +kernel
theorem d_Mo_endsBehind_77 : decode prog_13_method_40_code 77 = .ok (.iconst 0, 1) := by decide +kernel
theorem d_Mo_endsBehind_78 : decode prog_13_method_40_code 78 = .ok (.istore 4, 2) := by decide +kernel
theorem d_Mo_endsBehind_80 : decode prog_13_method_40_code 80 = .ok (.iload 4, 2) := by decide +kernel
theorem d_Mo_endsBehind_82 : decode prog_13_method_40_code 82 = .ok (.aload_n 0, 1) := by decide +kernel
theorem d_Mo_endsBehind_83 : decode prog_13_method_40_code 83 = .ok (.getfield 49, 3) := by decide +kernel
theorem d_Mo_endsBehind_86 : decode prog_13_method_40_code 86 = .ok (.iconst 0, 1) := by decide +kernel
theorem d_Mo_endsBehind_87 : decode prog_13_method_40_code 87 = .ok (.iaload, 1) := by decide +kernel
theorem d_Mo_endsBehind_88 : decode prog_13_method_40_code 88 = .ok (.if_icmp .ge 36, 3) := by decide +kernel
theorem d_Mo_endsBehind_91 : decode prog_13_method_40_code 91 = .ok (.iload_n 2, 1) := by decide +kernel
theorem d_Mo_endsBehind_92 : decode prog_13_method_40_code 92 = .ok (.ifCond .ne 20, 3) := by decide +kernel
theorem d_Mo_endsBehind_95 : decode prog_13_method_40_code 95 = .ok (.aload_n 0, 1) := by decide +kernel
theorem d_Mo_endsBehind_96 : decode prog_13_method_40_code 96 = .ok (.getfield 16, 3) := by decide +kernel
theorem d_Mo_endsBehind_99 : decode prog_13_method_40_code 99 = .ok (.aload_n 0, 1) := by decide +kernel
theorem d_Mo_endsBehind_100 : decode prog_13_method_40_code 100 = .ok (.getfield 52, 3) := by decide +kernel
theorem d_Mo_endsBehind_103 : decode prog_13_method_40_code 103 = .ok (.iload 4, 2) := by decide +kernel
theorem d_Mo_endsBehind_105 : decode prog_13_method_40_code 105 = .ok (.iaload, 1) := by decide +kernel
theorem d_Mo_endsBehind_106 : decode prog_13_method_40_code 106 = .ok (.iaload, 1) := by decide +kernel
theorem d_Mo_endsBehind_107 : decode prog_13_method_40_code 107 = .ok (.bipush 7, 2) := by decide +kernel
theorem d_Mo_endsBehind_109 : decode prog_13_method_40_code 109 = .ok (.if_icmp .ne 7, 3) := by decide +kernel
theorem d_Mo_endsBehind_112 : decode prog_13_method_40_code 112 = .ok (.iconst 1, 1) := by decide +kernel
theorem d_Mo_endsBehind_113 : decode prog_13_method_40_code 113 = .ok (.goto 4, 3) := by decide +kernel
theorem d_Mo_endsBehind_116 : decode prog_13_method_40_code 116 = .ok (.iconst 0, 1) := by decide +kernel
theorem d_Mo_endsBehind_117 : decode prog_13_method_40_code 117 = .ok (.istore_n 2, 1) := by decide +kernel
theorem d_Mo_endsBehind_118 : decode prog_13_method_40_code 118 = .ok (.iinc 4 1, 3) := by decide +kernel
theorem d_Mo_endsBehind_121 : decode prog_13_method_40_code 121 = .ok (.goto (-41), 3) := by decide +kernel
theorem d_Mo_endsBehind_124 : decode prog_13_method_40_code 124 = .ok (.iinc 3 1, 3) := by decide +kernel
theorem d_Mo_endsBehind_127 : decode prog_13_method_40_code 127 = .ok (.goto (-113), 3) := by decide +kernel
theorem d_Mo_endsBehind_130 : decode prog_13_method_40_code 130 = .ok (.iload_n 2, 1) := by decide +kernel
theorem d_Mo_endsBehind_131 : decode prog_13_method_40_code 131 = .ok (.ireturn, 1) := by decide +kernel
theorem M_Mo_endsBehind : lt_M0 m_Mo_endsBehind 1 := ⟨lt_m5 209 rfl rfl, lt_m1 13 rfl rfl, ⟨by decide +kernel, by decide +kernel, by decide +kernel⟩, by decide⟩
theorem in_Mo_endsBehind : Cond.instanceMethod m_Mo_endsBehind.1 ∈ lt_T := lt_m5 208 rfl rfl
theorem se_Mo_endsBehind : Cond.selects "LinearSearchModel" m_Mo_endsBehind.1 m_Mo_endsBehind.1 ∈ lt_T := lt_memS 59 rfl rfl
abbrev m_Mo_nextState : lt_M := (⟨"LinearSearchModel", "nextState", "(II)I"⟩, prog_13_method_39_code, 6, (some .int))
theorem d_Mo_nextState_0 : decode prog_13_method_39_code 0 = .ok (.aload_n 0, 1) := by decide +kernel
theorem d_Mo_nextState_1 : decode prog_13_method_39_code 1 = .ok (.getfield 71, 3) := by decide +kernel
theorem d_Mo_nextState_4 : decode prog_13_method_39_code 4 = .ok (.bipush 8, 2) := by decide +kernel
theorem d_Mo_nextState_6 : decode prog_13_method_39_code 6 = .ok (.iload_n 1, 1) := by decide +kernel
theorem d_Mo_nextState_7 : decode prog_13_method_39_code 7 = .ok (.imul, 1) := by decide +kernel
theorem d_Mo_nextState_8 : decode prog_13_method_39_code 8 = .ok (.iload_n 2, 1) := by decide +kernel
theorem d_Mo_nextState_9 : decode prog_13_method_39_code 9 = .ok (.iadd, 1) := by decide +kernel
theorem d_Mo_nextState_10 : decode prog_13_method_39_code 10 = .ok (.iaload, 1) := by decide +kernel
theorem d_Mo_nextState_11 : decode prog_13_method_39_code 11 = .ok (.iconst (-1), 1) := by decide +kernel
theorem d_Mo_nextState_12 : decode prog_13_method_39_code 12 = .ok (.if_icmp .eq 15, 3) := by decide +kernel
theorem d_Mo_nextState_15 : decode prog_13_method_39_code 15 = .ok (.aload_n 0, 1) := by decide +kernel
theorem d_Mo_nextState_16 : decode prog_13_method_39_code 16 = .ok (.getfield 71, 3) := by decide +kernel
theorem d_Mo_nextState_19 : decode prog_13_method_39_code 19 = .ok (.bipush 8, 2) := by decide +kernel
theorem d_Mo_nextState_21 : decode prog_13_method_39_code 21 = .ok (.iload_n 1, 1) := by decide +kernel
theorem d_Mo_nextState_22 : decode prog_13_method_39_code 22 = .ok (.imul, 1) := by decide +kernel
theorem d_Mo_nextState_23 : decode prog_13_method_39_code 23 = .ok (.iload_n 2, 1) := by decide +kernel
theorem d_Mo_nextState_24 : decode prog_13_method_39_code 24 = .ok (.iadd, 1) := by decide +kernel
theorem d_Mo_nextState_25 : decode prog_13_method_39_code 25 = .ok (.iaload, 1) := by decide +kernel
theorem d_Mo_nextState_26 : decode prog_13_method_39_code 26 = .ok (.ireturn, 1) := by decide +kernel
theorem d_Mo_nextState_27 : decode prog_13_method_39_code 27 = .ok (.aload_n 0, 1) := by decide +kernel
theorem d_Mo_nextState_28 : decode prog_13_method_39_code 28 = .ok (.dup, 1) := by decide +kernel
theorem d_Mo_nextState_29 : decode prog_13_method_39_code 29 = .ok (.getfield 166, 3) := by decide +kernel
theorem d_Mo_nextState_32 : decode prog_13_method_39_code 32 = .ok (.iconst 1, 1) := by decide +kernel
theorem d_Mo_nextState_33 : decode prog_13_method_39_code 33 = .ok (.iadd, 1) := by decide +kernel
theorem d_Mo_nextState_34 : decode prog_13_method_39_code 34 = .ok (.putfield 166, 3) := by decide +kernel
theorem d_Mo_nextState_37 : decode prog_13_method_39_code 37 = .ok (.aload_n 0, 1) := by decide +kernel
theorem d_Mo_nextState_38 : decode prog_13_method_39_code 38 = .ok (.iconst 0, 1) := by decide +kernel
theorem d_Mo_nextState_39 : decode prog_13_method_39_code 39 = .ok (.putfield 214, 3) := by decide +kernel
theorem d_Mo_nextState_42 : decode prog_13_method_39_code 42 = .ok (.iconst 0, 1) := by decide +kernel
theorem d_Mo_nextState_43 : decode prog_13_method_39_code 43 = .ok (.istore_n 3, 1) := by decide +kernel
theorem d_Mo_nextState_44 : decode prog_13_method_39_code 44 = .ok (.iload_n 3, 1) := by decide +kernel
theorem d_Mo_nextState_45 : decode prog_13_method_39_code 45 = .ok (.aload_n 0, 1) := by decide +kernel
theorem d_Mo_nextState_46 : decode prog_13_method_39_code 46 = .ok (.getfield 62, 3) := by decide +kernel
theorem d_Mo_nextState_49 : decode prog_13_method_39_code 49 = .ok (.iload_n 1, 1) := by decide +kernel
theorem d_Mo_nextState_50 : decode prog_13_method_39_code 50 = .ok (.iaload, 1) := by decide +kernel
theorem d_Mo_nextState_51 : decode prog_13_method_39_code 51 = .ok (.if_icmp .ge 63, 3) := by decide +kernel
theorem d_Mo_nextState_54 : decode prog_13_method_39_code 54 = .ok (.aload_n 0, 1) := by decide +kernel
theorem d_Mo_nextState_55 : decode prog_13_method_39_code 55 = .ok (.getfield 65, 3) := by decide +kernel
theorem d_Mo_nextState_58 : decode prog_13_method_39_code 58 = .ok (.bipush 64, 2) := by decide +kernel
theorem d_Mo_nextState_60 : decode prog_13_method_39_code 60 = .ok (.iload_n 1, 1) := by decide +kernel
theorem d_Mo_nextState_61 : decode prog_13_method_39_code 61 = .ok (.imul, 1) := by decide +kernel
theorem d_Mo_nextState_62 : decode prog_13_method_39_code 62 = .ok (.iload_n 3, 1) := by decide +kernel
theorem d_Mo_nextState_63 : decode prog_13_method_39_code 63 = .ok (.iadd, 1) := by decide +kernel
theorem d_Mo_nextState_64 : decode prog_13_method_39_code 64 = .ok (.iaload, 1) := by decide +kernel
theorem d_Mo_nextState_65 : decode prog_13_method_39_code 65 = .ok (.istore 4, 2) := by decide +kernel
theorem d_Mo_nextState_67 : decode prog_13_method_39_code 67 = .ok (.aload_n 0, 1) := by decide +kernel
theorem d_Mo_nextState_68 : decode prog_13_method_39_code 68 = .ok (.getfield 16, 3) := by decide +kernel
theorem d_Mo_nextState_71 : decode prog_13_method_39_code 71 = .ok (.iload 4, 2) := by decide +kernel
theorem d_Mo_nextState_73 : decode prog_13_method_39_code 73 = .ok (.iaload, 1) := by decide +kernel
theorem d_Mo_nextState_74 : decode prog_13_method_39_code 74 = .ok (.iconst 1, 1) := by decide +kernel
theorem d_Mo_nextState_75 : decode prog_13_method_39_code 75 = .ok (.if_icmp .eq 24, 3) := by decide +kernel
theorem d_Mo_nextState_78 : decode prog_13_method_39_code 78 = .ok (.aload_n 0, 1) := by decide +kernel
theorem d_Mo_nextState_79 : decode prog_13_method_39_code 79 = .ok (.getfield 16, 3) := by decide +kernel
theorem d_Mo_nextState_82 : decode prog_13_method_39_code 82 = .ok (.iload 4, 2) := by decide +kernel
theorem d_Mo_nextState_84 : decode prog_13_method_39_code 84 = .ok (.iaload, 1) := by decide +kernel
theorem d_Mo_nextState_85 : decode prog_13_method_39_code 85 = .ok (.ifCond .ne 23, 3) := by decide +kernel
theorem d_Mo_nextState_88 : decode prog_13_method_39_code 88 = .ok (.aload_n 0, 1) := by decide +kernel
theorem d_Mo_nextState_89 : decode prog_13_method_39_code 89 = .ok (.getfield 19, 3) := by decide +kernel
theorem d_Mo_nextState_92 : decode prog_13_method_39_code 92 = .ok (.iload 4, 2) := by decide +kernel
theorem d_Mo_nextState_94 : decode prog_13_method_39_code 94 = .ok (.iaload, 1) := by decide +kernel
theorem d_Mo_nextState_95 : decode prog_13_method_39_code 95 = .ok (.iload_n 2, 1) := by decide +kernel
theorem d_Mo_nextState_96 : decode prog_13_method_39_code 96 = .ok (.if_icmp .ne 12, 3) := by decide +kernel
theorem d_Mo_nextState_99 : decode prog_13_method_39_code 99 = .ok (.aload_n 0, 1) := by decide +kernel
theorem d_Mo_nextState_100 : decode prog_13_method_39_code 100 = .ok (.iload 4, 2) := by decide +kernel
theorem d_Mo_nextState_102 : decode prog_13_method_39_code 102 = .ok (.iconst 1, 1) := by decide +kernel
theorem d_Mo_nextState_103 : decode prog_13_method_39_code 103 = .ok (.iadd, 1) := by decide +kernel
theorem d_Mo_nextState_104 : decode prog_13_method_39_code 104 = .ok (.iconst 0, 1) := by decide +kernel
theorem d_Mo_nextState_105 : decode prog_13_method_39_code 105 = .ok (.invokevirtual 228, 3) := by decide +kernel
theorem d_Mo_nextState_108 : decode prog_13_method_39_code 108 = .ok (.iinc 3 1, 3) := by decide +kernel
theorem d_Mo_nextState_111 : decode prog_13_method_39_code 111 = .ok (.goto (-67), 3) := by decide +kernel
theorem d_Mo_nextState_114 : decode prog_13_method_39_code 114 = .ok (.aload_n 0, 1) := by decide +kernel
theorem d_Mo_nextState_115 : decode prog_13_method_39_code 115 = .ok (.getfield 68, 3) := by decide +kernel
theorem d_Mo_nextState_118 : decode prog_13_method_39_code 118 = .ok (.iload_n 1, 1) := by decide +kernel
theorem d_Mo_nextState_119 : decode prog_13_method_39_code 119 = .ok (.baload, 1) := by decide +kernel
theorem d_Mo_nextState_120 : decode prog_13_method_39_code 120 = .ok (.ifCond .eq 15, 3) := by decide +kernel
theorem d_Mo_nextState_123 : decode prog_13_method_39_code 123 = .ok (.aload_n 0, 1) := by decide +kernel
theorem d_Mo_nextState_124 : decode prog_13_method_39_code 124 = .ok (.iload_n 1, 1) := by decide +kernel
theorem d_Mo_nextState_125 : decode prog_13_method_39_code 125 = .ok (.invokevirtual 236, 3) := by decide +kernel
theorem d_Mo_nextState_128 : decode prog_13_method_39_code 128 = .ok (.ifCond .ne 7, 3) := by decide +kernel
theorem d_Mo_nextState_131 : decode prog_13_method_39_code 131 = .ok (.iconst 1, 1) := by decide +kernel
theorem d_Mo_nextState_132 : decode prog_13_method_39_code 132 = .ok (.goto 4, 3) := by decide +kernel
theorem d_Mo_nextState_135 : decode prog_13_method_39_code 135 = .ok (.iconst 0, 1) := by decide +kernel
theorem d_Mo_nextState_136 : decode prog_13_method_39_code 136 = .ok (.istore_n 3, 1) := by decide +kernel
theorem d_Mo_nextState_137 : decode prog_13_method_39_code 137 = .ok (.iload_n 3, 1) := by decide +kernel
theorem d_Mo_nextState_138 : decode prog_13_method_39_code 138 = .ok (.ifCond .eq 9, 3) := by decide +kernel
theorem d_Mo_nextState_141 : decode prog_13_method_39_code 141 = .ok (.aload_n 0, 1) := by decide +kernel
theorem d_Mo_nextState_142 : decode prog_13_method_39_code 142 = .ok (.iconst 0, 1) := by decide +kernel
theorem d_Mo_nextState_143 : decode prog_13_method_39_code 143 = .ok (.iconst 0, 1) := by decide +kernel
theorem d_Mo_nextState_144 : decode prog_13_method_39_code 144 = .ok (.invokevirtual 228, 3) := by decide +kernel
theorem d_Mo_nextState_147 : decode prog_13_method_39_code 147 = .ok (.aload_n 0, 1) := by decide +kernel
theorem d_Mo_nextState_148 : decode prog_13_method_39_code 148 = .ok (.getfield 154, 3) := by decide +kernel
theorem d_Mo_nextState_151 : decode prog_13_method_39_code 151 = .ok (.istore 4, 2) := by decide +kernel
theorem d_Mo_nextState_153 : decode prog_13_method_39_code 153 = .ok (.aload_n 0, 1) := by decide +kernel
theorem d_Mo_nextState_154 : decode prog_13_method_39_code 154 = .ok (.iload_n 3, 1) := by decide +kernel
theorem d_Mo_nextState_155 : decode prog_13_method_39_code 155 = .ok (.invokevirtual 232, 3) := by decide +kernel
theorem d_Mo_nextState_158 : decode prog_13_method_39_code 158 = .ok (.istore 5, 2) := by decide +kernel
theorem d_Mo_nextState_160 : decode prog_13_method_39_code 160 = .ok (.aload_n 0, 1) := by decide +kernel
theorem d_Mo_nextState_161 : decode prog_13_method_39_code 161 = .ok (.getfield 154, 3) := by decide +kernel
theorem d_Mo_nextState_164 : decode prog_13_method_39_code 164 = .ok (.iload 4, 2) := by decide +kernel
theorem d_Mo_nextState_166 : decode prog_13_method_39_code 166 = .ok (.if_icmp .ne 16, 3) := by decide +kernel
theorem d_Mo_nextState_169 : decode prog_13_method_39_code 169 = .ok (.aload_n 0, 1) := by decide +kernel
theorem d_Mo_nextState_170 : decode prog_13_method_39_code 170 = .ok (.getfield 71, 3) := by decide +kernel
theorem d_Mo_nextState_173 : decode prog_13_method_39_code 173 = .ok (.bipush 8, 2) := by decide +kernel
theorem d_Mo_nextState_175 : decode prog_13_method_39_code 175 = .ok (.iload_n 1, 1) := by decide +kernel
theorem d_Mo_nextState_176 : decode prog_13_method_39_code 176 = .ok (.imul, 1) := by decide +kernel
theorem d_Mo_nextState_177 : decode prog_13_method_39_code 177 = .ok (.iload_n 2, 1) := by decide +kernel
theorem d_Mo_nextState_178 : decode prog_13_method_39_code 178 = .ok (.iadd, 1) := by decide +kernel
theorem d_Mo_nextState_179 : decode prog_13_method_39_code 179 = .ok (.iload 5, 2) := by decide +kernel
theorem d_Mo_nextState_181 : decode prog_13_method_39_code 181 = .ok (.iastore, 1) := by decide +kernel
theorem d_Mo_nextState_182 : decode prog_13_method_39_code 182 = .ok (.iload 5, 2) := by decide +kernel
theorem d_Mo_nextState_184 : decode prog_13_method_39_code 184 = .ok (.ireturn, 1) := by decide +kernel
theorem M_Mo_nextState : lt_M0 m_Mo_nextState 2 := ⟨lt_m5 213 rfl rfl, lt_m1 13 rfl rfl, ⟨by decide +kernel, by decide +kernel, by decide +kernel⟩, by decide⟩
theorem in_Mo_nextState : Cond.instanceMethod m_Mo_nextState.1 ∈ lt_T := lt_m5 212 rfl rfl
theorem se_Mo_nextState : Cond.selects "LinearSearchModel" m_Mo_nextState.1 m_Mo_nextState.1 ∈ lt_T := lt_memS 60 rfl rfl
abbrev m_Mo_runSingle : lt_M := (⟨"LinearSearchModel", "runSingle", "()V"⟩, prog_13_method_43_code, 5, none)
theorem d_Mo_runSingle_0 : decode prog_13_method_43_code 0 = .ok (.aload_n 0, 1) := by decide +kernel
theorem d_Mo_runSingle_1 : decode prog_13_method_43_code 1 = .ok (.iconst 0, 1) := by decide +kernel
theorem d_Mo_runSingle_2 : decode prog_13_method_43_code 2 = .ok (.putfield 105, 3) := by decide +kernel
theorem d_Mo_runSingle_5 : decode prog_13_method_43_code 5 = .ok (.aload_n 0, 1) := by decide +kernel
theorem d_Mo_runSingle_6 : decode prog_13_method_43_code 6 = .ok (.iconst 1, 1) := by decide +kernel
theorem d_Mo_runSingle_7 : decode prog_13_method_43_code 7 = .ok (.putfield 189, 3) := by decide +kernel
theorem d_Mo_runSingle_10 : decode prog_13_method_43_code 10 = .ok (.aload_n 0, 1) := by decide +kernel
theorem d_Mo_runSingle_11 : decode prog_13_method_43_code 11 = .ok (.iconst 0, 1) := by decide +kernel
theorem d_Mo_runSingle_12 : decode prog_13_method_43_code 12 = .ok (.invokevirtual 205, 3) := by decide +kernel
theorem d_Mo_runSingle_15 : decode prog_13_method_43_code 15 = .ok (.iconst 0, 1) := by decide +kernel
theorem d_Mo_runSingle_16 : decode prog_13_method_43_code 16 = .ok (.istore_n 1, 1) := by decide +kernel
theorem d_Mo_runSingle_17 : decode prog_13_method_43_code 17 = .ok (.iconst 0, 1) := by decide +kernel
theorem d_Mo_runSingle_18 : decode prog_13_method_43_code 18 = .ok (.istore_n 2, 1) := by decide +kernel
theorem d_Mo_runSingle_19 : decode prog_13_method_43_code 19 = .ok (.iload_n 2, 1) := by decide +kernel
theorem d_Mo_runSingle_20 : decode prog_13_method_43_code 20 = .ok (.aload_n 0, 1) := by decide +kernel
theorem d_Mo_runSingle_21 : decode prog_13_method_43_code 21 = .ok (.getfield 172, 3) := by decide +kernel
theorem d_Mo_runSingle_24 : decode prog_13_method_43_code 24 = .ok (.if_icmp .gt 155, 3) := by decide +kernel
theorem d_Mo_runSingle_27 : decode prog_13_method_43_code 27 = .ok (.iload_n 1, 1) := by decide +kernel
theorem d_Mo_runSingle_28 : decode prog_13_method_43_code 28 = .ok (.iconst (-1), 1) := by decide +kernel
theorem d_Mo_runSingle_29 : decode prog_13_method_43_code 29 = .ok (.if_icmp .eq 150, 3) := by decide +kernel
theorem d_Mo_runSingle_32 : decode prog_13_method_43_code 32 = .ok (.aload_n 0, 1) := by decide +kernel
theorem d_Mo_runSingle_33 : decode prog_13_method_43_code 33 = .ok (.dup, 1) := by decide +kernel
theorem d_Mo_runSingle_34 : decode prog_13_method_43_code 34 = .ok (.getfield 166, 3) := by decide +kernel
theorem d_Mo_runSingle_37 : decode prog_13_method_43_code 37 = .ok (.iconst 1, 1) := by decide +kernel
theorem d_Mo_runSingle_38 : decode prog_13_method_43_code 38 = .ok (.iadd, 1) := by decide +kernel
theorem d_Mo_runSingle_39 : decode prog_13_method_43_code 39 = .ok (.putfield 166, 3) := by decide +kernel
theorem d_Mo_runSingle_42 : decode prog_13_method_43_code 42 = .ok (.aload_n 0, 1) := by decide +kernel
theorem d_Mo_runSingle_43 : decode prog_13_method_43_code 43 = .ok (.getfield 49, 3) := by decide +kernel
theorem d_Mo_runSingle_46 : decode prog_13_method_43_code 46 = .ok (.iconst 0, 1) := by decide +kernel
theorem d_Mo_runSingle_47 : decode prog_13_method_43_code 47 = .ok (.iconst 0, 1) := by decide +kernel
theorem d_Mo_runSingle_48 : decode prog_13_method_43_code 48 = .ok (.iastore, 1) := by decide +kernel
theorem d_Mo_runSingle_49 : decode prog_13_method_43_code 49 = .ok (.aload_n 0, 1) := by decide +kernel
theorem d_Mo_runSingle_50 : decode prog_13_method_43_code 50 = .ok (.iload_n 1, 1) := by decide +kernel
theorem d_Mo_runSingle_51 : decode prog_13_method_43_code 51 = .ok (.iload_n 2, 1) := by decide +kernel
theorem d_Mo_runSingle_52 : decode prog_13_method_43_code 52 = .ok (.iconst 0, 1) := by decide +kernel
theorem d_Mo_runSingle_53 : decode prog_13_method_43_code 53 = .ok (.invokevirtual 202, 3) := by decide +kernel
theorem d_Mo_runSingle_56 : decode prog_13_method_43_code 56 = .ok (.iconst (-1), 1) := by decide +kernel
theorem d_Mo_runSingle_57 : decode prog_13_method_43_code 57 = .ok (.istore_n 1, 1) := by decide +kernel
theorem d_Mo_runSingle_58 : decode prog_13_method_43_code 58 = .ok (.iconst (-1), 1) := by decide +kernel
theorem d_Mo_runSingle_59 : decode prog_13_method_43_code 59 = .ok (.istore_n 3, 1) := by decide +kernel
theorem d_Mo_runSingle_60 : decode prog_13_method_43_code 60 = .ok (.iconst 0, 1) := by decide +kernel
theorem d_Mo_runSingle_61 : decode prog_13_method_43_code 61 = .ok (.istore 4, 2) := by decide +kernel
theorem d_Mo_runSingle_63 : decode prog_13_method_43_code 63 = .ok (.iload 4, 2) := by decide +kernel
theorem d_Mo_runSingle_65 : decode prog_13_method_43_code 65 = .ok (.aload_n 0, 1) := by decide +kernel
theorem d_Mo_runSingle_66 : decode prog_13_method_43_code 66 = .ok (.getfield 49, 3) := by decide +kernel
theorem d_Mo_runSingle_69 : decode prog_13_method_43_code 69 = .ok (.iconst 0, 1) := by decide +kernel
theorem d_Mo_runSingle_70 : decode prog_13_method_43_code 70 = .ok (.iaload, 1) := by decide +kernel
theorem d_Mo_runSingle_71 : decode prog_13_method_43_code 71 = .ok (.if_icmp .ge 70, 3) := by decide +kernel
theorem d_Mo_runSingle_74 : decode prog_13_method_43_code 74 = .ok (.iload 4, 2) := by decide +kernel
theorem d_Mo_runSingle_76 : decode prog_13_method_43_code 76 = .ok (.ifCond .lt 65, 3) := by decide +kernel
theorem d_Mo_runSingle_79 : decode prog_13_method_43_code 79 = .ok (.aload_n 0, 1) := by decide +kernel
theorem d_Mo_runSingle_80 : decode prog_13_method_43_code 80 = .ok (.getfield 16, 3) := by decide +kernel
theorem d_Mo_runSingle_83 : decode prog_13_method_43_code 83 = .ok (.aload_n 0, 1) := by decide +kernel
theorem d_Mo_runSingle_84 : decode prog_13_method_43_code 84 = .ok (.getfield 52, 3) := by decide +kernel
theorem d_Mo_runSingle_87 : decode prog_13_method_43_code 87 = .ok (.iload 4, 2) := by decide +kernel
theorem d_Mo_runSingle_89 : decode prog_13_method_43_code 89 = .ok (.iaload, 1) := by decide +kernel
theorem d_Mo_runSingle_90 : decode prog_13_method_43_code 90 = .ok (.iaload, 1) := by decide +kernel
theorem d_Mo_runSingle_91 : decode prog_13_method_43_code 91 = .ok (.bipush 7, 2) := by decide +kernel
theorem d_Mo_runSingle_93 : decode prog_13_method_43_code 93 = .ok (.if_icmp .ne 24, 3) := by decide +kernel
theorem d_Mo_runSingle_96 : decode prog_13_method_43_code 96 = .ok (.aload_n 0, 1) := by decide +kernel
theorem d_Mo_runSingle_97 : decode prog_13_method_43_code 97 = .ok (.iload 4, 2) := by decide +kernel
theorem d_Mo_runSingle_99 : decode prog_13_method_43_code 99 = .ok (.invokevirtual 192, 3) := by decide +kernel
theorem d_Mo_runSingle_102 : decode prog_13_method_43_code 102 = .ok (.aload_n 0, 1) := by decide +kernel
theorem d_Mo_runSingle_103 : decode prog_13_method_43_code 103 = .ok (.iload_n 2, 1) := by decide +kernel
theorem d_Mo_runSingle_104 : decode prog_13_method_43_code 104 = .ok (.invokevirtual 195, 3) := by decide +kernel
theorem d_Mo_runSingle_107 : decode prog_13_method_43_code 107 = .ok (.aload_n 0, 1) := by decide +kernel
theorem d_Mo_runSingle_108 : decode prog_13_method_43_code 108 = .ok (.getfield 49, 3) := by decide +kernel
theorem d_Mo_runSingle_111 : decode prog_13_method_43_code 111 = .ok (.iconst 0, 1) := by decide +kernel
theorem d_Mo_runSingle_112 : decode prog_13_method_43_code 112 = .ok (.iconst 0, 1) := by decide +kernel
theorem d_Mo_runSingle_113 : decode prog_13_method_43_code 113 = .ok (.iastore, 1) := by decide +kernel
theorem d_Mo_runSingle_114 : decode prog_13_method_43_code 114 = .ok (.goto 21, 3) := by decide +kernel
theorem d_Mo_runSingle_117 : decode prog_13_method_43_code 117 = .ok (.aload_n 0, 1) := by decide +kernel
theorem d_Mo_runSingle_118 : decode prog_13_method_43_code 118 = .ok (.aload_n 0, 1) := by decide +kernel
theorem d_Mo_runSingle_119 : decode prog_13_method_43_code 119 = .ok (.getfield 52, 3) := by decide +kernel
theorem d_Mo_runSingle_122 : decode prog_13_method_43_code 122 = .ok (.iload 4, 2) := by decide +kernel
theorem d_Mo_runSingle_124 : decode prog_13_method_43_code 124 = .ok (.iaload, 1) := by decide +kernel
theorem d_Mo_runSingle_125 : decode prog_13_method_43_code 125 = .ok (.iload_n 2, 1) := by decide +kernel
theorem d_Mo_runSingle_126 : decode prog_13_method_43_code 126 = .ok (.invokevirtual 198, 3) := by decide +kernel
theorem d_Mo_runSingle_129 : decode prog_13_method_43_code 129 = .ok (.ifCond .eq 6, 3) := by decide +kernel
theorem d_Mo_runSingle_132 : decode prog_13_method_43_code 132 = .ok (.iload 4, 2) := by decide +kernel
theorem d_Mo_runSingle_134 : decode prog_13_method_43_code 134 = .ok (.istore_n 3, 1) := by decide +kernel
theorem d_Mo_runSingle_135 : decode prog_13_method_43_code 135 = .ok (.iinc 4 1, 3) := by decide +kernel
theorem d_Mo_runSingle_138 : decode prog_13_method_43_code 138 = .ok (.goto (-75), 3) := by decide +kernel
theorem d_Mo_runSingle_141 : decode prog_13_method_43_code 141 = .ok (.iload_n 3, 1) := by decide +kernel
theorem d_Mo_runSingle_142 : decode prog_13_method_43_code 142 = .ok (.iconst (-1), 1) := by decide +kernel
theorem d_Mo_runSingle_143 : decode prog_13_method_43_code 143 = .ok (.if_icmp .ne 6, 3) := by decide +kernel
theorem d_Mo_runSingle_146 : decode prog_13_method_43_code 146 = .ok (.goto 27, 3) := by decide +kernel
theorem d_Mo_runSingle_149 : decode prog_13_method_43_code 149 = .ok (.aload_n 0, 1) := by decide +kernel
theorem d_Mo_runSingle_150 : decode prog_13_method_43_code 150 = .ok (.iload_n 3, 1) := by decide +kernel
theorem d_Mo_runSingle_151 : decode prog_13_method_43_code 151 = .ok (.invokevirtual 192, 3) := by decide +kernel
theorem d_Mo_runSingle_154 : decode prog_13_method_43_code 154 = .ok (.aload_n 0, 1) := by decide +kernel
theorem d_Mo_runSingle_155 : decode prog_13_method_43_code 155 = .ok (.getfield 52, 3) := by decide +kernel
theorem d_Mo_runSingle_158 : decode prog_13_method_43_code 158 = .ok (.iload_n 3, 1) := by decide +kernel
theorem d_Mo_runSingle_159 : decode prog_13_method_43_code 159 = .ok (.iaload, 1) := by decide +kernel
theorem d_Mo_runSingle_160 : decode prog_13_method_43_code 160 = .ok (.iconst 1, 1) := by decide +kernel
theorem d_Mo_runSingle_161 : decode prog_13_method_43_code 161 = .ok (.iadd, 1) := by decide +kernel
theorem d_Mo_runSingle_162 : decode prog_13_method_43_code 162 = .ok (.istore_n 1, 1) := by decide +kernel
theorem d_Mo_runSingle_163 : decode prog_13_method_43_code 163 = .ok (.aload_n 0, 1) := by decide +kernel
theorem d_Mo_runSingle_164 : decode prog_13_method_43_code 164 = .ok (.dup, 1) := by decide +kernel
theorem d_Mo_runSingle_165 : decode prog_13_method_43_code 165 = .ok (.getfield 189, 3) := by decide +kernel
theorem d_Mo_runSingle_168 : decode prog_13_method_43_code 168 = .ok (.iconst 1, 1) := by decide +kernel
theorem d_Mo_runSingle_169 : decode prog_13_method_43_code 169 = .ok (.iadd, 1) := by decide +kernel
theorem d_Mo_runSingle_170 : decode prog_13_method_43_code 170 = .ok (.putfield 189, 3) := by decide +kernel
theorem d_Mo_runSingle_173 : decode prog_13_method_43_code 173 = .ok (.iinc 2 1, 3) := by decide +kernel
theorem d_Mo_runSingle_176 : decode prog_13_method_43_code 176 = .ok (.goto (-157), 3) := by decide +kernel
theorem d_Mo_runSingle_179 : decode prog_13_method_43_code 179 = .ok (.return_, 1) := by decide +kernel
theorem M_Mo_runSingle : lt_M0 m_Mo_runSingle 0 := ⟨lt_m5 217 rfl rfl, lt_m1 13 rfl rfl, ⟨by decide +kernel, by decide +kernel, by decide +kernel⟩, by decide⟩
theorem in_Mo_runSingle : Cond.instanceMethod m_Mo_runSingle.1 ∈ lt_T := lt_m5 216 rfl rfl
theorem se_Mo_runSingle : Cond.selects "LinearSearchModel" m_Mo_runSingle.1 m_Mo_runSingle.1 ∈ lt_T := lt_memS 61 rfl rfl
abbrev m_Mo_slot : lt_M := (⟨"LinearSearchModel", "slot", "(IZ)I"⟩, prog_13_method_45_code, 3, (some .int))
theorem d_Mo_slot_0 : decode prog_13_method_45_code 0 = .ok (.aload_n 0, 1) := by decide +kernel
theorem d_Mo_slot_1 : decode prog_13_method_45_code 1 = .ok (.iload_n 1, 1) := by decide +kernel
theorem d_Mo_slot_2 : decode prog_13_method_45_code 2 = .ok (.ifCond .lt 8, 3) := by decide +kernel
theorem d_Mo_slot_5 : decode prog_13_method_45_code 5 = .ok (.iload_n 1, 1) := by decide +kernel
theorem d_Mo_slot_6 : decode prog_13_method_45_code 6 = .ok (.iconst 3, 1) := by decide +kernel
theorem d_Mo_slot_7 : decode prog_13_method_45_code 7 = .ok (.if_icmp .le 7, 3) := by decide +kernel
theorem d_Mo_slot_10 : decode prog_13_method_45_code 10 = .ok (.iconst 1, 1) := by decide +kernel
theorem d_Mo_slot_11 : decode prog_13_method_45_code 11 = .ok (.goto 4, 3) := by decide +kernel
theorem d_Mo_slot_14 : decode prog_13_method_45_code 14 = .ok (.iconst 0, 1) := by decide +kernel
theorem d_Mo_slot_15 : decode prog_13_method_45_code 15 = .ok (.putfield 102, 3) := by decide +kernel
theorem d_Mo_slot_18 : decode prog_13_method_45_code 18 = .ok (.aload_n 0, 1) := by decide +kernel
theorem d_Mo_slot_19 : decode prog_13_method_45_code 19 = .ok (.getfield 102, 3) := by decide +kernel
theorem d_Mo_slot_22 : decode prog_13_method_45_code 22 = .ok (.ifCond .le 5, 3) := by decide +kernel
theorem d_Mo_slot_25 : decode prog_13_method_45_code 25 = .ok (.iconst 0, 1) := by decide +kernel
theorem d_Mo_slot_26 : decode prog_13_method_45_code 26 = .ok (.ireturn, 1) := by decide +kernel
theorem d_Mo_slot_27 : decode prog_13_method_45_code 27 = .ok (.aload_n 0, 1) := by decide +kernel
theorem d_Mo_slot_28 : decode prog_13_method_45_code 28 = .ok (.getfield 105, 3) := by decide +kernel
theorem d_Mo_slot_31 : decode prog_13_method_45_code 31 = .ok (.ifCond .eq 24, 3) := by decide +kernel
theorem d_Mo_slot_34 : decode prog_13_method_45_code 34 = .ok (.aload_n 0, 1) := by decide +kernel
theorem d_Mo_slot_35 : decode prog_13_method_45_code 35 = .ok (.getfield 84, 3) := by decide +kernel
theorem d_Mo_slot_38 : decode prog_13_method_45_code 38 = .ok (.iconst 2, 1) := by decide +kernel
theorem d_Mo_slot_39 : decode prog_13_method_45_code 39 = .ok (.iload_n 1, 1) := by decide +kernel
theorem d_Mo_slot_40 : decode prog_13_method_45_code 40 = .ok (.imul, 1) := by decide +kernel
theorem d_Mo_slot_41 : decode prog_13_method_45_code 41 = .ok (.iload_n 2, 1) := by decide +kernel
theorem d_Mo_slot_42 : decode prog_13_method_45_code 42 = .ok (.ifCond .eq 7, 3) := by decide +kernel
theorem d_Mo_slot_45 : decode prog_13_method_45_code 45 = .ok (.iconst 1, 1) := by decide +kernel
theorem d_Mo_slot_46 : decode prog_13_method_45_code 46 = .ok (.goto 4, 3) := by decide +kernel
theorem d_Mo_slot_49 : decode prog_13_method_45_code 49 = .ok (.iconst 0, 1) := by decide +kernel
theorem d_Mo_slot_50 : decode prog_13_method_45_code 50 = .ok (.iadd, 1) := by decide +kernel
theorem d_Mo_slot_51 : decode prog_13_method_45_code 51 = .ok (.iaload, 1) := by decide +kernel
theorem d_Mo_slot_52 : decode prog_13_method_45_code 52 = .ok (.goto 4, 3) := by decide +kernel
theorem d_Mo_slot_55 : decode prog_13_method_45_code 55 = .ok (.iconst (-1), 1) := by decide +kernel
theorem d_Mo_slot_56 : decode prog_13_method_45_code 56 = .ok (.ireturn, 1) := by decide +kernel
theorem M_Mo_slot : lt_M0 m_Mo_slot 2 := ⟨lt_m5 221 rfl rfl, lt_m1 13 rfl rfl, ⟨by decide +kernel, by decide +kernel, by decide +kernel⟩, by decide⟩
theorem in_Mo_slot : Cond.instanceMethod m_Mo_slot.1 ∈ lt_T := lt_m5 219 rfl rfl
theorem se_Mo_slot : Cond.selects "LinearSearchModel" m_Mo_slot.1 m_Mo_slot.1 ∈ lt_T := lt_m5 220 rfl rfl
abbrev m_Mo_work : lt_M := (⟨"LinearSearchModel", "work", "()I"⟩, prog_13_method_46_code, 1, (some .int))
theorem d_Mo_work_0 : decode prog_13_method_46_code 0 = .ok (.aload_n 0, 1) := by decide +kernel
theorem d_Mo_work_1 : decode prog_13_method_46_code 1 = .ok (.iconst 0, 1) := by decide +kernel
theorem d_Mo_work_2 : decode prog_13_method_46_code 2 = .ok (.putfield 102, 3) := by decide +kernel
theorem d_Mo_work_5 : decode prog_13_method_46_code 5 = .ok (.aload_n 0, 1) := by decide +kernel
theorem d_Mo_work_6 : decode prog_13_method_46_code 6 = .ok (.getfield 81, 3) := by decide +kernel
theorem d_Mo_work_9 : decode prog_13_method_46_code 9 = .ok (.ireturn, 1) := by decide +kernel
theorem M_Mo_work : lt_M0 m_Mo_work 0 := ⟨lt_m5 225 rfl rfl, lt_m1 13 rfl rfl, ⟨by decide +kernel, by decide +kernel, by decide +kernel⟩, by decide⟩
theorem in_Mo_work : Cond.instanceMethod m_Mo_work.1 ∈ lt_T := lt_m5 223 rfl rfl
theorem se_Mo_work : Cond.selects "LinearSearchModel" m_Mo_work.1 m_Mo_work.1 ∈ lt_T := lt_m5 224 rfl rfl
abbrev m_Mo_matcher : lt_M := (⟨"LinearSearchModel", "matcher", "()I"⟩, prog_13_method_47_code, 1, (some .int))
theorem d_Mo_matcher_0 : decode prog_13_method_47_code 0 = .ok (.aload_n 0, 1) := by decide +kernel
theorem d_Mo_matcher_1 : decode prog_13_method_47_code 1 = .ok (.iconst 0, 1) := by decide +kernel
theorem d_Mo_matcher_2 : decode prog_13_method_47_code 2 = .ok (.putfield 102, 3) := by decide +kernel
theorem d_Mo_matcher_5 : decode prog_13_method_47_code 5 = .ok (.aload_n 0, 1) := by decide +kernel
theorem d_Mo_matcher_6 : decode prog_13_method_47_code 6 = .ok (.getfield 77, 3) := by decide +kernel
theorem d_Mo_matcher_9 : decode prog_13_method_47_code 9 = .ok (.ireturn, 1) := by decide +kernel
theorem M_Mo_matcher : lt_M0 m_Mo_matcher 0 := ⟨lt_m5 229 rfl rfl, lt_m1 13 rfl rfl, ⟨by decide +kernel, by decide +kernel, by decide +kernel⟩, by decide⟩
theorem in_Mo_matcher : Cond.instanceMethod m_Mo_matcher.1 ∈ lt_T := lt_m5 227 rfl rfl
theorem se_Mo_matcher : Cond.selects "LinearSearchModel" m_Mo_matcher.1 m_Mo_matcher.1 ∈ lt_T := lt_m5 228 rfl rfl
abbrev m_Mo_states : lt_M := (⟨"LinearSearchModel", "states", "()I"⟩, prog_13_method_48_code, 1, (some .int))
theorem d_Mo_states_0 : decode prog_13_method_48_code 0 = .ok (.aload_n 0, 1) := by decide +kernel
theorem d_Mo_states_1 : decode prog_13_method_48_code 1 = .ok (.iconst 0, 1) := by decide +kernel
theorem d_Mo_states_2 : decode prog_13_method_48_code 2 = .ok (.putfield 102, 3) := by decide +kernel
theorem d_Mo_states_5 : decode prog_13_method_48_code 5 = .ok (.aload_n 0, 1) := by decide +kernel
theorem d_Mo_states_6 : decode prog_13_method_48_code 6 = .ok (.getfield 151, 3) := by decide +kernel
theorem d_Mo_states_9 : decode prog_13_method_48_code 9 = .ok (.ireturn, 1) := by decide +kernel
theorem M_Mo_states : lt_M0 m_Mo_states 0 := ⟨lt_m5 233 rfl rfl, lt_m1 13 rfl rfl, ⟨by decide +kernel, by decide +kernel, by decide +kernel⟩, by decide⟩
theorem in_Mo_states : Cond.instanceMethod m_Mo_states.1 ∈ lt_T := lt_m5 231 rfl rfl
theorem se_Mo_states : Cond.selects "LinearSearchModel" m_Mo_states.1 m_Mo_states.1 ∈ lt_T := lt_m5 232 rfl rfl
abbrev m_Mo_flushes : lt_M := (⟨"LinearSearchModel", "flushes", "()I"⟩, prog_13_method_49_code, 1, (some .int))
theorem d_Mo_flushes_0 : decode prog_13_method_49_code 0 = .ok (.aload_n 0, 1) := by decide +kernel
theorem d_Mo_flushes_1 : decode prog_13_method_49_code 1 = .ok (.iconst 0, 1) := by decide +kernel
theorem d_Mo_flushes_2 : decode prog_13_method_49_code 2 = .ok (.putfield 102, 3) := by decide +kernel
theorem d_Mo_flushes_5 : decode prog_13_method_49_code 5 = .ok (.aload_n 0, 1) := by decide +kernel
theorem d_Mo_flushes_6 : decode prog_13_method_49_code 6 = .ok (.getfield 154, 3) := by decide +kernel
theorem d_Mo_flushes_9 : decode prog_13_method_49_code 9 = .ok (.ireturn, 1) := by decide +kernel
theorem M_Mo_flushes : lt_M0 m_Mo_flushes 0 := ⟨lt_m5 237 rfl rfl, lt_m1 13 rfl rfl, ⟨by decide +kernel, by decide +kernel, by decide +kernel⟩, by decide⟩
theorem in_Mo_flushes : Cond.instanceMethod m_Mo_flushes.1 ∈ lt_T := lt_m5 235 rfl rfl
theorem se_Mo_flushes : Cond.selects "LinearSearchModel" m_Mo_flushes.1 m_Mo_flushes.1 ∈ lt_T := lt_m5 236 rfl rfl
abbrev m_Mo_breaks : lt_M := (⟨"LinearSearchModel", "breaks", "()I"⟩, prog_13_method_50_code, 6, (some .int))
theorem d_Mo_breaks_0 : decode prog_13_method_50_code 0 = .ok (.aload_n 0, 1) := by decide +kernel
theorem d_Mo_breaks_1 : decode prog_13_method_50_code 1 = .ok (.aload_n 0, 1) := by decide +kernel
theorem d_Mo_breaks_2 : decode prog_13_method_50_code 2 = .ok (.getfield 148, 3) := by decide +kernel
theorem d_Mo_breaks_5 : decode prog_13_method_50_code 5 = .ok (.ifCond .ne 7, 3) := by decide +kernel
theorem d_Mo_breaks_8 : decode prog_13_method_50_code 8 = .ok (.iconst 1, 1) := by decide +kernel
theorem d_Mo_breaks_9 : decode prog_13_method_50_code 9 = .ok (.goto 4, 3) := by decide +kernel
theorem d_Mo_breaks_12 : decode prog_13_method_50_code 12 = .ok (.iconst 0, 1) := by decide +kernel
theorem d_Mo_breaks_13 : decode prog_13_method_50_code 13 = .ok (.putfield 102, 3) := by decide +kernel
theorem d_Mo_breaks_16 : decode prog_13_method_50_code 16 = .ok (.aload_n 0, 1) := by decide +kernel
theorem d_Mo_breaks_17 : decode prog_13_method_50_code 17 = .ok (.getfield 102, 3) := by decide +kernel
theorem d_Mo_breaks_20 : decode prog_13_method_50_code 20 = .ok (.ifCond .le 5, 3) := by decide +kernel
theorem d_Mo_breaks_23 : decode prog_13_method_50_code 23 = .ok (.iconst 0, 1) := by decide +kernel
theorem d_Mo_breaks_24 : decode prog_13_method_50_code 24 = .ok (.ireturn, 1) := by decide +kernel
theorem d_Mo_breaks_25 : decode prog_13_method_50_code 25 = .ok (.aload_n 0, 1) := by decide +kernel
theorem d_Mo_breaks_26 : decode prog_13_method_50_code 26 = .ok (.getfield 105, 3) := by decide +kernel
theorem d_Mo_breaks_29 : decode prog_13_method_50_code 29 = .ok (.istore_n 1, 1) := by decide +kernel
theorem d_Mo_breaks_30 : decode prog_13_method_50_code 30 = .ok (.iconst 0, 1) := by decide +kernel
theorem d_Mo_breaks_31 : decode prog_13_method_50_code 31 = .ok (.istore_n 2, 1) := by decide +kernel
theorem d_Mo_breaks_32 : decode prog_13_method_50_code 32 = .ok (.iload_n 2, 1) := by decide +kernel
theorem d_Mo_breaks_33 : decode prog_13_method_50_code 33 = .ok (.bipush 8, 2) := by decide +kernel
theorem d_Mo_breaks_35 : decode prog_13_method_50_code 35 = .ok (.if_icmp .ge 21, 3) := by decide +kernel
theorem d_Mo_breaks_38 : decode prog_13_method_50_code 38 = .ok (.aload_n 0, 1) := by decide +kernel
theorem d_Mo_breaks_39 : decode prog_13_method_50_code 39 = .ok (.getfield 96, 3) := by decide +kernel
theorem d_Mo_breaks_42 : decode prog_13_method_50_code 42 = .ok (.iload_n 2, 1) := by decide +kernel
theorem d_Mo_breaks_43 : decode prog_13_method_50_code 43 = .ok (.aload_n 0, 1) := by decide +kernel
theorem d_Mo_breaks_44 : decode prog_13_method_50_code 44 = .ok (.getfield 84, 3) := by decide +kernel
theorem d_Mo_breaks_47 : decode prog_13_method_50_code 47 = .ok (.iload_n 2, 1) := by decide +kernel
theorem d_Mo_breaks_48 : decode prog_13_method_50_code 48 = .ok (.iaload, 1) := by decide +kernel
theorem d_Mo_breaks_49 : decode prog_13_method_50_code 49 = .ok (.iastore, 1) := by decide +kernel
theorem d_Mo_breaks_50 : decode prog_13_method_50_code 50 = .ok (.iinc 2 1, 3) := by decide +kernel
theorem d_Mo_breaks_53 : decode prog_13_method_50_code 53 = .ok (.goto (-21), 3) := by decide +kernel
theorem d_Mo_breaks_56 : decode prog_13_method_50_code 56 = .ok (.iconst 0, 1) := by decide +kernel
theorem d_Mo_breaks_57 : decode prog_13_method_50_code 57 = .ok (.istore_n 2, 1) := by decide +kernel
theorem d_Mo_breaks_58 : decode prog_13_method_50_code 58 = .ok (.iconst (-1), 1) := by decide +kernel
theorem d_Mo_breaks_59 : decode prog_13_method_50_code 59 = .ok (.istore_n 3, 1) := by decide +kernel
theorem d_Mo_breaks_60 : decode prog_13_method_50_code 60 = .ok (.iconst 0, 1) := by decide +kernel
theorem d_Mo_breaks_61 : decode prog_13_method_50_code 61 = .ok (.istore 4, 2) := by decide +kernel
theorem d_Mo_breaks_63 : decode prog_13_method_50_code 63 = .ok (.iload 4, 2) := by decide +kernel
theorem d_Mo_breaks_65 : decode prog_13_method_50_code 65 = .ok (.aload_n 0, 1) := by decide +kernel
theorem d_Mo_breaks_66 : decode prog_13_method_50_code 66 = .ok (.getfield 172, 3) := by decide +kernel
theorem d_Mo_breaks_69 : decode prog_13_method_50_code 69 = .ok (.if_icmp .gt 102, 3) := by decide +kernel
theorem d_Mo_breaks_72 : decode prog_13_method_50_code 72 = .ok (.aload_n 0, 1) := by decide +kernel
theorem d_Mo_breaks_73 : decode prog_13_method_50_code 73 = .ok (.iload 4, 2) := by decide +kernel
theorem d_Mo_breaks_75 : decode prog_13_method_50_code 75 = .ok (.iconst 0, 1) := by decide +kernel
theorem d_Mo_breaks_76 : decode prog_13_method_50_code 76 = .ok (.invokevirtual 251, 3) := by decide +kernel
theorem d_Mo_breaks_79 : decode prog_13_method_50_code 79 = .ok (.aload_n 0, 1) := by decide +kernel
theorem d_Mo_breaks_80 : decode prog_13_method_50_code 80 = .ok (.getfield 105, 3) := by decide +kernel
theorem d_Mo_breaks_83 : decode prog_13_method_50_code 83 = .ok (.ifCond .ne 14, 3) := by decide +kernel
theorem d_Mo_breaks_86 : decode prog_13_method_50_code 86 = .ok (.aload_n 0, 1) := by decide +kernel
theorem d_Mo_breaks_87 : decode prog_13_method_50_code 87 = .ok (.getfield 172, 3) := by decide +kernel
theorem d_Mo_breaks_90 : decode prog_13_method_50_code 90 = .ok (.iconst 1, 1) := by decide +kernel
theorem d_Mo_breaks_91 : decode prog_13_method_50_code 91 = .ok (.iadd, 1) := by decide +kernel
theorem d_Mo_breaks_92 : decode prog_13_method_50_code 92 = .ok (.istore 4, 2) := by decide +kernel
theorem d_Mo_breaks_94 : decode prog_13_method_50_code 94 = .ok (.goto (-31), 3) := by decide +kernel
theorem d_Mo_breaks_97 : decode prog_13_method_50_code 97 = .ok (.aload_n 0, 1) := by decide +kernel
theorem d_Mo_breaks_98 : decode prog_13_method_50_code 98 = .ok (.getfield 84, 3) := by decide +kernel
theorem d_Mo_breaks_101 : decode prog_13_method_50_code 101 = .ok (.iconst 0, 1) := by decide +kernel
theorem d_Mo_breaks_102 : decode prog_13_method_50_code 102 = .ok (.iaload, 1) := by decide +kernel
theorem d_Mo_breaks_103 : decode prog_13_method_50_code 103 = .ok (.aload_n 0, 1) := by decide +kernel
theorem d_Mo_breaks_104 : decode prog_13_method_50_code 104 = .ok (.getfield 84, 3) := by decide +kernel
theorem d_Mo_breaks_107 : decode prog_13_method_50_code 107 = .ok (.iconst 1, 1) := by decide +kernel
theorem d_Mo_breaks_108 : decode prog_13_method_50_code 108 = .ok (.iaload, 1) := by decide +kernel
theorem d_Mo_breaks_109 : decode prog_13_method_50_code 109 = .ok (.if_icmp .ne 7, 3) := by decide +kernel
theorem d_Mo_breaks_112 : decode prog_13_method_50_code 112 = .ok (.iconst 1, 1) := by decide +kernel
theorem d_Mo_breaks_113 : decode prog_13_method_50_code 113 = .ok (.goto 4, 3) := by decide +kernel
theorem d_Mo_breaks_116 : decode prog_13_method_50_code 116 = .ok (.iconst 0, 1) := by decide +kernel
theorem d_Mo_breaks_117 : decode prog_13_method_50_code 117 = .ok (.istore 5, 2) := by decide +kernel
theorem d_Mo_breaks_119 : decode prog_13_method_50_code 119 = .ok (.iload_n 2, 1) := by decide +kernel
theorem d_Mo_breaks_120 : decode prog_13_method_50_code 120 = .ok (.iload 5, 2) := by decide +kernel
theorem d_Mo_breaks_122 : decode prog_13_method_50_code 122 = .ok (.ifCond .eq 17, 3) := by decide +kernel
theorem d_Mo_breaks_125 : decode prog_13_method_50_code 125 = .ok (.aload_n 0, 1) := by decide +kernel
theorem d_Mo_breaks_126 : decode prog_13_method_50_code 126 = .ok (.getfield 84, 3) := by decide +kernel
theorem d_Mo_breaks_129 : decode prog_13_method_50_code 129 = .ok (.iconst 0, 1) := by decide +kernel
theorem d_Mo_breaks_130 : decode prog_13_method_50_code 130 = .ok (.iaload, 1) := by decide +kernel
theorem d_Mo_breaks_131 : decode prog_13_method_50_code 131 = .ok (.iload_n 3, 1) := by decide +kernel
theorem d_Mo_breaks_132 : decode prog_13_method_50_code 132 = .ok (.if_icmp .ne 7, 3) := by decide +kernel
theorem d_Mo_breaks_135 : decode prog_13_method_50_code 135 = .ok (.iconst 0, 1) := by decide +kernel
theorem d_Mo_breaks_136 : decode prog_13_method_50_code 136 = .ok (.goto 4, 3) := by decide +kernel
theorem d_Mo_breaks_139 : decode prog_13_method_50_code 139 = .ok (.iconst 1, 1) := by decide +kernel
theorem d_Mo_breaks_140 : decode prog_13_method_50_code 140 = .ok (.iadd, 1) := by decide +kernel
theorem d_Mo_breaks_141 : decode prog_13_method_50_code 141 = .ok (.istore_n 2, 1) := by decide +kernel
theorem d_Mo_breaks_142 : decode prog_13_method_50_code 142 = .ok (.aload_n 0, 1) := by decide +kernel
theorem d_Mo_breaks_143 : decode prog_13_method_50_code 143 = .ok (.getfield 84, 3) := by decide +kernel
theorem d_Mo_breaks_146 : decode prog_13_method_50_code 146 = .ok (.iconst 1, 1) := by decide +kernel
theorem d_Mo_breaks_147 : decode prog_13_method_50_code 147 = .ok (.iaload, 1) := by decide +kernel
theorem d_Mo_breaks_148 : decode prog_13_method_50_code 148 = .ok (.istore_n 3, 1) := by decide +kernel
theorem d_Mo_breaks_149 : decode prog_13_method_50_code 149 = .ok (.aload_n 0, 1) := by decide +kernel
theorem d_Mo_breaks_150 : decode prog_13_method_50_code 150 = .ok (.getfield 84, 3) := by decide +kernel
theorem d_Mo_breaks_153 : decode prog_13_method_50_code 153 = .ok (.iconst 1, 1) := by decide +kernel
theorem d_Mo_breaks_154 : decode prog_13_method_50_code 154 = .ok (.iaload, 1) := by decide +kernel
theorem d_Mo_breaks_155 : decode prog_13_method_50_code 155 = .ok (.iload 5, 2) := by decide +kernel
theorem d_Mo_breaks_157 : decode prog_13_method_50_code 157 = .ok (.ifCond .eq 7, 3) := by decide +kernel
theorem d_Mo_breaks_160 : decode prog_13_method_50_code 160 = .ok (.iconst 1, 1) := by decide +kernel
theorem d_Mo_breaks_161 : decode prog_13_method_50_code 161 = .ok (.goto 4, 3) := by decide +kernel
theorem d_Mo_breaks_164 : decode prog_13_method_50_code 164 = .ok (.iconst 0, 1) := by decide +kernel
theorem d_Mo_breaks_165 : decode prog_13_method_50_code 165 = .ok (.iadd, 1) := by decide +kernel
theorem d_Mo_breaks_166 : decode prog_13_method_50_code 166 = .ok (.istore 4, 2) := by decide +kernel
theorem d_Mo_breaks_168 : decode prog_13_method_50_code 168 = .ok (.goto (-105), 3) := by decide +kernel
theorem d_Mo_breaks_171 : decode prog_13_method_50_code 171 = .ok (.aload_n 0, 1) := by decide +kernel
theorem d_Mo_breaks_172 : decode prog_13_method_50_code 172 = .ok (.iload_n 1, 1) := by decide +kernel
theorem d_Mo_breaks_173 : decode prog_13_method_50_code 173 = .ok (.putfield 105, 3) := by decide +kernel
theorem d_Mo_breaks_176 : decode prog_13_method_50_code 176 = .ok (.iconst 0, 1) := by decide +kernel
theorem d_Mo_breaks_177 : decode prog_13_method_50_code 177 = .ok (.istore 5, 2) := by decide +kernel
theorem d_Mo_breaks_179 : decode prog_13_method_50_code 179 = .ok (.iload 5, 2) := by decide +kernel
theorem d_Mo_breaks_181 : decode prog_13_method_50_code 181 = .ok (.bipush 8, 2) := by decide +kernel
theorem d_Mo_breaks_183 : decode prog_13_method_50_code 183 = .ok (.if_icmp .ge 23, 3) := by decide +kernel
theorem d_Mo_breaks_186 : decode prog_13_method_50_code 186 = .ok (.aload_n 0, 1) := by decide +kernel
theorem d_Mo_breaks_187 : decode prog_13_method_50_code 187 = .ok (.getfield 84, 3) := by decide +kernel
theorem d_Mo_breaks_190 : decode prog_13_method_50_code 190 = .ok (.iload 5, 2) := by decide +kernel
theorem d_Mo_breaks_192 : decode prog_13_method_50_code 192 = .ok (.aload_n 0, 1) := by decide +kernel
theorem d_Mo_breaks_193 : decode prog_13_method_50_code 193 = .ok (.getfield 96, 3) := by decide +kernel
theorem d_Mo_breaks_196 : decode prog_13_method_50_code 196 = .ok (.iload 5, 2) := by decide +kernel
theorem d_Mo_breaks_198 : decode prog_13_method_50_code 198 = .ok (.iaload, 1) := by decide +kernel
theorem d_Mo_breaks_199 : decode prog_13_method_50_code 199 = .ok (.iastore, 1) := by decide +kernel
theorem d_Mo_breaks_200 : decode prog_13_method_50_code 200 = .ok (.iinc 5 1, 3) := by decide +kernel
theorem d_Mo_breaks_203 : decode prog_13_method_50_code 203 = .ok (.goto (-24), 3) := by decide +kernel
theorem d_Mo_breaks_206 : decode prog_13_method_50_code 206 = .ok (.iload_n 2, 1) := by decide +kernel
theorem d_Mo_breaks_207 : decode prog_13_method_50_code 207 = .ok (.ireturn, 1) := by decide +kernel
theorem M_Mo_breaks : lt_M0 m_Mo_breaks 0 := ⟨lt_m6 1 rfl rfl, lt_m1 13 rfl rfl, ⟨by decide +kernel, by decide +kernel, by decide +kernel⟩, by decide⟩
theorem in_Mo_breaks : Cond.instanceMethod m_Mo_breaks.1 ∈ lt_T := lt_m5 239 rfl rfl
theorem se_Mo_breaks : Cond.selects "LinearSearchModel" m_Mo_breaks.1 m_Mo_breaks.1 ∈ lt_T := lt_m6 0 rfl rfl
end
section
/-! LINKS: what the entries of the constant pools stand for -/
theorem nc_C : Cond.initialized "LinearSearch" ∈ lt_T := lt_m1 1 rfl rfl
theorem nc_Wr : Cond.initialized "LinearSearch$Writer" ∈ lt_T := lt_m1 2 rfl rfl
theorem nc_Tx : Cond.initialized "LinearSearch$Text" ∈ lt_T := lt_m1 3 rfl rfl
theorem nc_Ls : Cond.initialized "LinearSearch$Lists" ∈ lt_T := lt_m1 4 rfl rfl
theorem nc_Fo : Cond.initialized "LinearSearch$Follower" ∈ lt_T := lt_m1 5 rfl rfl
theorem nc_TL : Cond.initialized "LinearSearch$ThreadList" ∈ lt_T := lt_m1 6 rfl rfl
theorem nc_Ma : Cond.initialized "LinearSearch$Marks" ∈ lt_T := lt_m1 7 rfl rfl
theorem nc_Si : Cond.initialized "LinearSearch$Single" ∈ lt_T := lt_m1 8 rfl rfl
theorem nc_Pr : Cond.initialized "LinearSearch$Program" ∈ lt_T := lt_m1 9 rfl rfl
theorem nc_Au : Cond.initialized "LinearSearch$Automaton" ∈ lt_T := lt_m1 10 rfl rfl
theorem nc_St : Cond.initialized "LinearSearch$State" ∈ lt_T := lt_m1 11 rfl rfl
theorem nc_Mo : Cond.initialized "LinearSearchModel" ∈ lt_T := lt_m1 13 rfl rfl
theorem lc_La_8 : Cond.classLink "LinearSearchLaw" 8 "LinearSearch" ∈ lt_T := lt_m1 21 rfl rfl
theorem ic_C : Cond.instantiable "LinearSearch" 14 ∈ lt_T := lt_m1 22 rfl rfl
theorem lo_C_3 : Cond.methodLink "LinearSearch" 3 Lib.objectInit ∈ lt_T := lt_m1 26 rfl rfl
theorem lc_C_13 : Cond.classLink "LinearSearch" 13 "LinearSearch$Writer" ∈ lt_T := lt_m1 29 rfl rfl
theorem ic_Wr : Cond.instantiable "LinearSearch$Writer" 5 ∈ lt_T := lt_m1 30 rfl rfl
theorem lm_C_15 : lt_lkM "LinearSearch" 15 m_Wr_init.1 := Or.inr ⟨"LinearSearch", lt_n1 31 rfl rfl⟩
theorem lo_Wr_3 : Cond.methodLink "LinearSearch$Writer" 3 Lib.objectInit ∈ lt_T := lt_m1 34 rfl rfl
theorem fl_Wr_9 : Cond.fieldLink "LinearSearch$Writer" 9 (F_Wr 0).1 (F_Wr 0).2.1 (F_Wr 0).2.2.1 ∈ lt_T := lt_m1 35 rfl rfl
theorem lf_Wr_9 : lt_lkF "LinearSearch$Writer" 9 (F_Wr 0) := Or.inl fl_Wr_9
theorem fl_Wr_15 : Cond.fieldLink "LinearSearch$Writer" 15 (F_Wr 1).1 (F_Wr 1).2.1 (F_Wr 1).2.2.1 ∈ lt_T := lt_m1 36 rfl rfl
theorem lf_Wr_15 : lt_lkF "LinearSearch$Writer" 15 (F_Wr 1) := Or.inl fl_Wr_15
theorem fl_Wr_23 : Cond.fieldLink "LinearSearch$Writer" 23 (F_Wr 2).1 (F_Wr 2).2.1 (F_Wr 2).2.2.1 ∈ lt_T := lt_m1 37 rfl rfl
theorem lf_Wr_23 : lt_lkF "LinearSearch$Writer" 23 (F_Wr 2) := Or.inl fl_Wr_23
theorem fl_Wr_26 : Cond.fieldLink "LinearSearch$Writer" 26 (F_Wr 3).1 (F_Wr 3).2.1 (F_Wr 3).2.2.1 ∈ lt_T := lt_m1 38 rfl rfl
theorem lf_Wr_26 : lt_lkF "LinearSearch$Writer" 26 (F_Wr 3) := Or.inl fl_Wr_26
theorem fl_Wr_19 : Cond.fieldLink "LinearSearch$Writer" 19 (F_Wr 4).1 (F_Wr 4).2.1 (F_Wr 4).2.2.1 ∈ lt_T := lt_m1 39 rfl rfl
theorem lf_Wr_19 : lt_lkF "LinearSearch$Writer" 19 (F_Wr 4) := Or.inl fl_Wr_19
theorem ac_char : Cond.arrayClass .char ∈ lt_T := lt_m1 51 rfl rfl
theorem lc_C_20 : Cond.classLink "LinearSearch" 20 "LinearSearch$Text" ∈ lt_T := lt_m1 52 rfl rfl
theorem ic_Tx : Cond.instantiable "LinearSearch$Text" 2 ∈ lt_T := lt_m1 53 rfl rfl
theorem lm_C_22 : lt_lkM "LinearSearch" 22 m_Tx_init.1 := Or.inr ⟨"LinearSearch", lt_n1 54 rfl rfl⟩
theorem lo_Tx_3 : Cond.methodLink "LinearSearch$Text" 3 Lib.objectInit ∈ lt_T := lt_m1 57 rfl rfl
theorem fl_Tx_9 : Cond.fieldLink "LinearSearch$Text" 9 (F_Tx 0).1 (F_Tx 0).2.1 (F_Tx 0).2.2.1 ∈ lt_T := lt_m1 58 rfl rfl
theorem lf_Tx_9 : lt_lkF "LinearSearch$Text" 9 (F_Tx 0) := Or.inl fl_Tx_9
theorem fl_Tx_15 : Cond.fieldLink "LinearSearch$Text" 15 (F_Tx 1).1 (F_Tx 1).2.1 (F_Tx 1).2.2.1 ∈ lt_T := lt_m1 59 rfl rfl
theorem lf_Tx_15 : lt_lkF "LinearSearch$Text" 15 (F_Tx 1) := Or.inl fl_Tx_15
theorem ac_int : Cond.arrayClass .int ∈ lt_T := lt_m1 65 rfl rfl
theorem lc_C_27 : Cond.classLink "LinearSearch" 27 "LinearSearch$Lists" ∈ lt_T := lt_m1 66 rfl rfl
theorem ic_Ls : Cond.instantiable "LinearSearch$Lists" 4 ∈ lt_T := lt_m1 67 rfl rfl
theorem lm_C_29 : lt_lkM "LinearSearch" 29 m_Ls_init.1 := Or.inr ⟨"LinearSearch", lt_n1 68 rfl rfl⟩
theorem lo_Ls_3 : Cond.methodLink "LinearSearch$Lists" 3 Lib.objectInit ∈ lt_T := lt_m1 71 rfl rfl
theorem lc_Ls_9 : Cond.classLink "LinearSearch$Lists" 9 "LinearSearch$Follower" ∈ lt_T := lt_m1 72 rfl rfl
theorem ic_Fo : Cond.instantiable "LinearSearch$Follower" 9 ∈ lt_T := lt_m1 73 rfl rfl
theorem lm_Ls_11 : lt_lkM "LinearSearch$Lists" 11 m_Fo_init.1 := Or.inr ⟨"LinearSearch", lt_n1 74 rfl rfl⟩
theorem lo_Fo_3 : Cond.methodLink "LinearSearch$Follower" 3 Lib.objectInit ∈ lt_T := lt_m1 77 rfl rfl
theorem fl_Fo_11 : Cond.fieldLink "LinearSearch$Follower" 11 (F_Fo 0).1 (F_Fo 0).2.1 (F_Fo 0).2.2.1 ∈ lt_T := lt_m1 78 rfl rfl
theorem lf_Fo_11 : lt_lkF "LinearSearch$Follower" 11 (F_Fo 0) := Or.inl fl_Fo_11
theorem fl_Fo_15 : Cond.fieldLink "LinearSearch$Follower" 15 (F_Fo 1).1 (F_Fo 1).2.1 (F_Fo 1).2.2.1 ∈ lt_T := lt_m1 79 rfl rfl
theorem lf_Fo_15 : lt_lkF "LinearSearch$Follower" 15 (F_Fo 1) := Or.inl fl_Fo_15
theorem fl_Fo_34 : Cond.fieldLink "LinearSearch$Follower" 34 (F_Fo 2).1 (F_Fo 2).2.1 (F_Fo 2).2.2.1 ∈ lt_T := lt_m1 80 rfl rfl
theorem lf_Fo_34 : lt_lkF "LinearSearch$Follower" 34 (F_Fo 2) := Or.inl fl_Fo_34
theorem fl_Fo_37 : Cond.fieldLink "LinearSearch$Follower" 37 (F_Fo 3).1 (F_Fo 3).2.1 (F_Fo 3).2.2.1 ∈ lt_T := lt_m1 81 rfl rfl
theorem lf_Fo_37 : lt_lkF "LinearSearch$Follower" 37 (F_Fo 3) := Or.inl fl_Fo_37
theorem fl_Fo_41 : Cond.fieldLink "LinearSearch$Follower" 41 (F_Fo 4).1 (F_Fo 4).2.1 (F_Fo 4).2.2.1 ∈ lt_T := lt_m1 82 rfl rfl
theorem lf_Fo_41 : lt_lkF "LinearSearch$Follower" 41 (F_Fo 4) := Or.inl fl_Fo_41
theorem fl_Fo_19 : Cond.fieldLink "LinearSearch$Follower" 19 (F_Fo 5).1 (F_Fo 5).2.1 (F_Fo 5).2.2.1 ∈ lt_T := lt_m1 83 rfl rfl
theorem lf_Fo_19 : lt_lkF "LinearSearch$Follower" 19 (F_Fo 5) := Or.inl fl_Fo_19
theorem fl_Fo_23 : Cond.fieldLink "LinearSearch$Follower" 23 (F_Fo 6).1 (F_Fo 6).2.1 (F_Fo 6).2.2.1 ∈ lt_T := lt_m1 84 rfl rfl
theorem lf_Fo_23 : lt_lkF "LinearSearch$Follower" 23 (F_Fo 6) := Or.inl fl_Fo_23
theorem fl_Fo_27 : Cond.fieldLink "LinearSearch$Follower" 27 (F_Fo 7).1 (F_Fo 7).2.1 (F_Fo 7).2.2.1 ∈ lt_T := lt_m1 85 rfl rfl
theorem lf_Fo_27 : lt_lkF "LinearSearch$Follower" 27 (F_Fo 7) := Or.inl fl_Fo_27
theorem fl_Fo_31 : Cond.fieldLink "LinearSearch$Follower" 31 (F_Fo 8).1 (F_Fo 8).2.1 (F_Fo 8).2.2.1 ∈ lt_T := lt_m1 86 rfl rfl
theorem lf_Fo_31 : lt_lkF "LinearSearch$Follower" 31 (F_Fo 8) := Or.inl fl_Fo_31
theorem ac_long : Cond.arrayClass .long ∈ lt_T := lt_m1 106 rfl rfl
theorem lc_Ls_18 : Cond.classLink "LinearSearch$Lists" 18 "LinearSearch$ThreadList" ∈ lt_T := lt_m1 107 rfl rfl
theorem ic_TL : Cond.instantiable "LinearSearch$ThreadList" 3 ∈ lt_T := lt_m1 108 rfl rfl
theorem lm_Ls_20 : lt_lkM "LinearSearch$Lists" 20 m_TL_init.1 := Or.inr ⟨"LinearSearch", lt_n1 109 rfl rfl⟩
theorem lo_TL_3 : Cond.methodLink "LinearSearch$ThreadList" 3 Lib.objectInit ∈ lt_T := lt_m1 112 rfl rfl
theorem fl_TL_9 : Cond.fieldLink "LinearSearch$ThreadList" 9 (F_TL 0).1 (F_TL 0).2.1 (F_TL 0).2.2.1 ∈ lt_T := lt_m1 113 rfl rfl
theorem lf_TL_9 : lt_lkF "LinearSearch$ThreadList" 9 (F_TL 0) := Or.inl fl_TL_9
theorem fl_TL_15 : Cond.fieldLink "LinearSearch$ThreadList" 15 (F_TL 1).1 (F_TL 1).2.1 (F_TL 1).2.2.1 ∈ lt_T := lt_m1 114 rfl rfl
theorem lf_TL_15 : lt_lkF "LinearSearch$ThreadList" 15 (F_TL 1) := Or.inl fl_TL_15
theorem fl_TL_19 : Cond.fieldLink "LinearSearch$ThreadList" 19 (F_TL 2).1 (F_TL 2).2.1 (F_TL 2).2.2.1 ∈ lt_T := lt_m1 115 rfl rfl
theorem lf_TL_19 : lt_lkF "LinearSearch$ThreadList" 19 (F_TL 2) := Or.inl fl_TL_19
theorem fl_Ls_12 : Cond.fieldLink "LinearSearch$Lists" 12 (F_Ls 0).1 (F_Ls 0).2.1 (F_Ls 0).2.2.1 ∈ lt_T := lt_m1 123 rfl rfl
theorem lf_Ls_12 : lt_lkF "LinearSearch$Lists" 12 (F_Ls 0) := Or.inl fl_Ls_12
theorem fl_Ls_21 : Cond.fieldLink "LinearSearch$Lists" 21 (F_Ls 1).1 (F_Ls 1).2.1 (F_Ls 1).2.2.1 ∈ lt_T := lt_m1 124 rfl rfl
theorem lf_Ls_21 : lt_lkF "LinearSearch$Lists" 21 (F_Ls 1) := Or.inl fl_Ls_21
theorem fl_Ls_25 : Cond.fieldLink "LinearSearch$Lists" 25 (F_Ls 2).1 (F_Ls 2).2.1 (F_Ls 2).2.2.1 ∈ lt_T := lt_m1 125 rfl rfl
theorem lf_Ls_25 : lt_lkF "LinearSearch$Lists" 25 (F_Ls 2) := Or.inl fl_Ls_25
theorem fl_Ls_28 : Cond.fieldLink "LinearSearch$Lists" 28 (F_Ls 3).1 (F_Ls 3).2.1 (F_Ls 3).2.2.1 ∈ lt_T := lt_m1 126 rfl rfl
theorem lf_Ls_28 : lt_lkF "LinearSearch$Lists" 28 (F_Ls 3) := Or.inl fl_Ls_28
theorem lc_C_34 : Cond.classLink "LinearSearch" 34 "LinearSearch$Marks" ∈ lt_T := lt_m1 136 rfl rfl
theorem ic_Ma : Cond.instantiable "LinearSearch$Marks" 8 ∈ lt_T := lt_m1 137 rfl rfl
theorem lm_C_36 : lt_lkM "LinearSearch" 36 m_Ma_init.1 := Or.inr ⟨"LinearSearch", lt_n1 138 rfl rfl⟩
theorem lo_Ma_3 : Cond.methodLink "LinearSearch$Marks" 3 Lib.objectInit ∈ lt_T := lt_m1 141 rfl rfl
theorem fl_Ma_9 : Cond.fieldLink "LinearSearch$Marks" 9 (F_Ma 0).1 (F_Ma 0).2.1 (F_Ma 0).2.2.1 ∈ lt_T := lt_m1 142 rfl rfl
theorem lf_Ma_9 : lt_lkF "LinearSearch$Marks" 9 (F_Ma 0) := Or.inl fl_Ma_9
theorem fl_Ma_15 : Cond.fieldLink "LinearSearch$Marks" 15 (F_Ma 1).1 (F_Ma 1).2.1 (F_Ma 1).2.2.1 ∈ lt_T := lt_m1 143 rfl rfl
theorem lf_Ma_15 : lt_lkF "LinearSearch$Marks" 15 (F_Ma 1) := Or.inl fl_Ma_15
theorem fl_Ma_19 : Cond.fieldLink "LinearSearch$Marks" 19 (F_Ma 2).1 (F_Ma 2).2.1 (F_Ma 2).2.2.1 ∈ lt_T := lt_m1 144 rfl rfl
theorem lf_Ma_19 : lt_lkF "LinearSearch$Marks" 19 (F_Ma 2) := Or.inl fl_Ma_19
theorem fl_Ma_22 : Cond.fieldLink "LinearSearch$Marks" 22 (F_Ma 3).1 (F_Ma 3).2.1 (F_Ma 3).2.2.1 ∈ lt_T := lt_m1 145 rfl rfl
theorem lf_Ma_22 : lt_lkF "LinearSearch$Marks" 22 (F_Ma 3) := Or.inl fl_Ma_22
theorem fl_Ma_53 : Cond.fieldLink "LinearSearch$Marks" 53 (F_Ma 4).1 (F_Ma 4).2.1 (F_Ma 4).2.2.1 ∈ lt_T := lt_m1 146 rfl rfl
theorem lf_Ma_53 : lt_lkF "LinearSearch$Marks" 53 (F_Ma 4) := Or.inl fl_Ma_53
theorem fl_Ma_25 : Cond.fieldLink "LinearSearch$Marks" 25 (F_Ma 5).1 (F_Ma 5).2.1 (F_Ma 5).2.2.1 ∈ lt_T := lt_m1 147 rfl rfl
theorem lf_Ma_25 : lt_lkF "LinearSearch$Marks" 25 (F_Ma 5) := Or.inl fl_Ma_25
theorem fl_Ma_29 : Cond.fieldLink "LinearSearch$Marks" 29 (F_Ma 6).1 (F_Ma 6).2.1 (F_Ma 6).2.2.1 ∈ lt_T := lt_m1 148 rfl rfl
theorem lf_Ma_29 : lt_lkF "LinearSearch$Marks" 29 (F_Ma 6) := Or.inl fl_Ma_29
theorem fl_Ma_33 : Cond.fieldLink "LinearSearch$Marks" 33 (F_Ma 7).1 (F_Ma 7).2.1 (F_Ma 7).2.2.1 ∈ lt_T := lt_m1 149 rfl rfl
theorem lf_Ma_33 : lt_lkF "LinearSearch$Marks" 33 (F_Ma 7) := Or.inl fl_Ma_33
theorem lc_C_41 : Cond.classLink "LinearSearch" 41 "LinearSearch$Single" ∈ lt_T := lt_m1 167 rfl rfl
theorem ic_Si : Cond.instantiable "LinearSearch$Single" 6 ∈ lt_T := lt_m1 168 rfl rfl
theorem lm_C_43 : lt_lkM "LinearSearch" 43 m_Si_init.1 := Or.inr ⟨"LinearSearch", lt_n1 169 rfl rfl⟩
theorem lo_Si_3 : Cond.methodLink "LinearSearch$Single" 3 Lib.objectInit ∈ lt_T := lt_m1 172 rfl rfl
theorem lc_Si_9 : Cond.classLink "LinearSearch$Single" 9 "LinearSearch$Follower" ∈ lt_T := lt_m1 173 rfl rfl
theorem lm_Si_11 : lt_lkM "LinearSearch$Single" 11 m_Fo_init.1 := Or.inr ⟨"LinearSearch", lt_n1 174 rfl rfl⟩
theorem lc_Si_18 : Cond.classLink "LinearSearch$Single" 18 "LinearSearch$ThreadList" ∈ lt_T := lt_m1 175 rfl rfl
theorem lm_Si_20 : lt_lkM "LinearSearch$Single" 20 m_TL_init.1 := Or.inr ⟨"LinearSearch", lt_n1 176 rfl rfl⟩
theorem fl_Si_12 : Cond.fieldLink "LinearSearch$Single" 12 (F_Si 0).1 (F_Si 0).2.1 (F_Si 0).2.2.1 ∈ lt_T := lt_m1 177 rfl rfl
theorem lf_Si_12 : lt_lkF "LinearSearch$Single" 12 (F_Si 0) := Or.inl fl_Si_12
theorem fl_Si_21 : Cond.fieldLink "LinearSearch$Single" 21 (F_Si 1).1 (F_Si 1).2.1 (F_Si 1).2.2.1 ∈ lt_T := lt_m1 178 rfl rfl
theorem lf_Si_21 : lt_lkF "LinearSearch$Single" 21 (F_Si 1) := Or.inl fl_Si_21
theorem fl_Si_25 : Cond.fieldLink "LinearSearch$Single" 25 (F_Si 2).1 (F_Si 2).2.1 (F_Si 2).2.2.1 ∈ lt_T := lt_m1 179 rfl rfl
theorem lf_Si_25 : lt_lkF "LinearSearch$Single" 25 (F_Si 2) := Or.inl fl_Si_25
theorem fl_Si_66 : Cond.fieldLink "LinearSearch$Single" 66 (F_Si 3).1 (F_Si 3).2.1 (F_Si 3).2.2.1 ∈ lt_T := lt_m1 180 rfl rfl
theorem lf_Si_66 : lt_lkF "LinearSearch$Single" 66 (F_Si 3) := Or.inl fl_Si_66
theorem fl_Si_70 : Cond.fieldLink "LinearSearch$Single" 70 (F_Si 4).1 (F_Si 4).2.1 (F_Si 4).2.2.1 ∈ lt_T := lt_m1 181 rfl rfl
theorem lf_Si_70 : lt_lkF "LinearSearch$Single" 70 (F_Si 4) := Or.inl fl_Si_70
theorem fl_Si_77 : Cond.fieldLink "LinearSearch$Single" 77 (F_Si 5).1 (F_Si 5).2.1 (F_Si 5).2.2.1 ∈ lt_T := lt_m1 182 rfl rfl
theorem lf_Si_77 : lt_lkF "LinearSearch$Single" 77 (F_Si 5) := Or.inl fl_Si_77
theorem lc_C_48 : Cond.classLink "LinearSearch" 48 "LinearSearch$Program" ∈ lt_T := lt_m1 196 rfl rfl
theorem ic_Pr : Cond.instantiable "LinearSearch$Program" 4 ∈ lt_T := lt_m1 197 rfl rfl
theorem lm_C_50 : lt_lkM "LinearSearch" 50 m_Pr_init.1 := Or.inr ⟨"LinearSearch", lt_n1 198 rfl rfl⟩
theorem lo_Pr_3 : Cond.methodLink "LinearSearch$Program" 3 Lib.objectInit ∈ lt_T := lt_m1 201 rfl rfl
theorem fl_Pr_9 : Cond.fieldLink "LinearSearch$Program" 9 (F_Pr 0).1 (F_Pr 0).2.1 (F_Pr 0).2.2.1 ∈ lt_T := lt_m1 202 rfl rfl
theorem lf_Pr_9 : lt_lkF "LinearSearch$Program" 9 (F_Pr 0) := Or.inl fl_Pr_9
theorem fl_Pr_15 : Cond.fieldLink "LinearSearch$Program" 15 (F_Pr 1).1 (F_Pr 1).2.1 (F_Pr 1).2.2.1 ∈ lt_T := lt_m1 203 rfl rfl
theorem lf_Pr_15 : lt_lkF "LinearSearch$Program" 15 (F_Pr 1) := Or.inl fl_Pr_15
theorem fl_Pr_18 : Cond.fieldLink "LinearSearch$Program" 18 (F_Pr 2).1 (F_Pr 2).2.1 (F_Pr 2).2.2.1 ∈ lt_T := lt_m1 204 rfl rfl
theorem lf_Pr_18 : lt_lkF "LinearSearch$Program" 18 (F_Pr 2) := Or.inl fl_Pr_18
theorem fl_Pr_21 : Cond.fieldLink "LinearSearch$Program" 21 (F_Pr 3).1 (F_Pr 3).2.1 (F_Pr 3).2.2.1 ∈ lt_T := lt_m1 205 rfl rfl
theorem lf_Pr_21 : lt_lkF "LinearSearch$Program" 21 (F_Pr 3) := Or.inl fl_Pr_21
theorem lc_C_69 : Cond.classLink "LinearSearch" 69 "LinearSearch$Automaton" ∈ lt_T := lt_m1 215 rfl rfl
theorem ic_Au : Cond.instantiable "LinearSearch$Automaton" 8 ∈ lt_T := lt_m1 216 rfl rfl
theorem lm_C_71 : lt_lkM "LinearSearch" 71 m_Au_init.1 := Or.inl (lt_m1 217 rfl rfl)
theorem lo_Au_3 : Cond.methodLink "LinearSearch$Automaton" 3 Lib.objectInit ∈ lt_T := lt_m1 220 rfl rfl
theorem lc_Au_9 : Cond.classLink "LinearSearch$Automaton" 9 "LinearSearch$Follower" ∈ lt_T := lt_m1 221 rfl rfl
theorem lm_Au_11 : lt_lkM "LinearSearch$Automaton" 11 m_Fo_init.1 := Or.inr ⟨"LinearSearch", lt_n1 222 rfl rfl⟩
theorem lc_Au_18 : Cond.classLink "LinearSearch$Automaton" 18 "LinearSearch$ThreadList" ∈ lt_T := lt_m1 223 rfl rfl
theorem lm_Au_20 : lt_lkM "LinearSearch$Automaton" 20 m_TL_init.1 := Or.inr ⟨"LinearSearch", lt_n1 224 rfl rfl⟩
theorem lc_Au_25 : Cond.classLink "LinearSearch$Automaton" 25 "LinearSearch$State" ∈ lt_T := lt_m1 225 rfl rfl
theorem ic_St : Cond.instantiable "LinearSearch$State" 5 ∈ lt_T := lt_m1 226 rfl rfl
theorem lm_Au_27 : lt_lkM "LinearSearch$Automaton" 27 m_St_init.1 := Or.inr ⟨"LinearSearch", lt_n1 227 rfl rfl⟩
theorem lo_St_3 : Cond.methodLink "LinearSearch$State" 3 Lib.objectInit ∈ lt_T := lt_m1 230 rfl rfl
theorem fl_St_9 : Cond.fieldLink "LinearSearch$State" 9 (F_St 0).1 (F_St 0).2.1 (F_St 0).2.2.1 ∈ lt_T := lt_m1 231 rfl rfl
theorem lf_St_9 : lt_lkF "LinearSearch$State" 9 (F_St 0) := Or.inl fl_St_9
theorem fl_St_15 : Cond.fieldLink "LinearSearch$State" 15 (F_St 1).1 (F_St 1).2.1 (F_St 1).2.2.1 ∈ lt_T := lt_m1 232 rfl rfl
theorem lf_St_15 : lt_lkF "LinearSearch$State" 15 (F_St 1) := Or.inl fl_St_15
theorem fl_St_18 : Cond.fieldLink "LinearSearch$State" 18 (F_St 2).1 (F_St 2).2.1 (F_St 2).2.2.1 ∈ lt_T := lt_m1 233 rfl rfl
theorem lf_St_18 : lt_lkF "LinearSearch$State" 18 (F_St 2) := Or.inl fl_St_18
theorem lf_Au_104 : lt_lkF "LinearSearch$Automaton" 104 (F_St 2) := Or.inr ⟨"LinearSearch", lt_n1 234 rfl rfl⟩
theorem fl_St_22 : Cond.fieldLink "LinearSearch$State" 22 (F_St 3).1 (F_St 3).2.1 (F_St 3).2.2.1 ∈ lt_T := lt_m1 235 rfl rfl
theorem lf_St_22 : lt_lkF "LinearSearch$State" 22 (F_St 3) := Or.inl fl_St_22
theorem fl_St_26 : Cond.fieldLink "LinearSearch$State" 26 (F_St 4).1 (F_St 4).2.1 (F_St 4).2.2.1 ∈ lt_T := lt_m1 236 rfl rfl
theorem lf_St_26 : lt_lkF "LinearSearch$State" 26 (F_St 4) := Or.inl fl_St_26
theorem lf_Au_69 : lt_lkF "LinearSearch$Automaton" 69 (F_St 4) := Or.inr ⟨"LinearSearch", lt_n1 237 rfl rfl⟩
theorem lmm_Au_32 : Cond.methodLink "LinearSearch$Automaton" 32 Lib.Math.max.name ∈ lt_T := lt_m2 9 rfl rfl
theorem ao_St : Cond.arrayOver (.object "LinearSearch$State") ∈ lt_N := lt_n2 12 rfl rfl
theorem fl_Au_12 : Cond.fieldLink "LinearSearch$Automaton" 12 (F_Au 0).1 (F_Au 0).2.1 (F_Au 0).2.2.1 ∈ lt_T := lt_m2 13 rfl rfl
theorem lf_Au_12 : lt_lkF "LinearSearch$Automaton" 12 (F_Au 0) := Or.inl fl_Au_12
theorem fl_Au_21 : Cond.fieldLink "LinearSearch$Automaton" 21 (F_Au 1).1 (F_Au 1).2.1 (F_Au 1).2.2.1 ∈ lt_T := lt_m2 14 rfl rfl
theorem lf_Au_21 : lt_lkF "LinearSearch$Automaton" 21 (F_Au 1) := Or.inl fl_Au_21
theorem fl_Au_38 : Cond.fieldLink "LinearSearch$Automaton" 38 (F_Au 2).1 (F_Au 2).2.1 (F_Au 2).2.2.1 ∈ lt_T := lt_m2 15 rfl rfl
theorem lf_Au_38 : lt_lkF "LinearSearch$Automaton" 38 (F_Au 2) := Or.inl fl_Au_38
theorem fl_Au_28 : Cond.fieldLink "LinearSearch$Automaton" 28 (F_Au 3).1 (F_Au 3).2.1 (F_Au 3).2.2.1 ∈ lt_T := lt_m2 16 rfl rfl
theorem lf_Au_28 : lt_lkF "LinearSearch$Automaton" 28 (F_Au 3) := Or.inl fl_Au_28
theorem fl_Au_42 : Cond.fieldLink "LinearSearch$Automaton" 42 (F_Au 4).1 (F_Au 4).2.1 (F_Au 4).2.2.1 ∈ lt_T := lt_m2 17 rfl rfl
theorem lf_Au_42 : lt_lkF "LinearSearch$Automaton" 42 (F_Au 4) := Or.inl fl_Au_42
theorem fl_Au_46 : Cond.fieldLink "LinearSearch$Automaton" 46 (F_Au 5).1 (F_Au 5).2.1 (F_Au 5).2.2.1 ∈ lt_T := lt_m2 18 rfl rfl
theorem lf_Au_46 : lt_lkF "LinearSearch$Automaton" 46 (F_Au 5) := Or.inl fl_Au_46
theorem fl_Au_52 : Cond.fieldLink "LinearSearch$Automaton" 52 (F_Au 6).1 (F_Au 6).2.1 (F_Au 6).2.2.1 ∈ lt_T := lt_m2 19 rfl rfl
theorem lf_Au_52 : lt_lkF "LinearSearch$Automaton" 52 (F_Au 6) := Or.inl fl_Au_52
theorem fl_Au_49 : Cond.fieldLink "LinearSearch$Automaton" 49 (F_Au 7).1 (F_Au 7).2.1 (F_Au 7).2.2.1 ∈ lt_T := lt_m2 20 rfl rfl
theorem lf_Au_49 : lt_lkF "LinearSearch$Automaton" 49 (F_Au 7) := Or.inl fl_Au_49
theorem fl_C_9 : Cond.fieldLink "LinearSearch" 9 (F_C 0).1 (F_C 0).2.1 (F_C 0).2.2.1 ∈ lt_T := lt_m2 38 rfl rfl
theorem lf_C_9 : lt_lkF "LinearSearch" 9 (F_C 0) := Or.inl fl_C_9
theorem fl_C_78 : Cond.fieldLink "LinearSearch" 78 (F_C 1).1 (F_C 1).2.1 (F_C 1).2.2.1 ∈ lt_T := lt_m2 39 rfl rfl
theorem lf_C_78 : lt_lkF "LinearSearch" 78 (F_C 1) := Or.inl fl_C_78
theorem fl_C_16 : Cond.fieldLink "LinearSearch" 16 (F_C 2).1 (F_C 2).2.1 (F_C 2).2.2.1 ∈ lt_T := lt_m2 40 rfl rfl
theorem lf_C_16 : lt_lkF "LinearSearch" 16 (F_C 2) := Or.inl fl_C_16
theorem fl_C_23 : Cond.fieldLink "LinearSearch" 23 (F_C 3).1 (F_C 3).2.1 (F_C 3).2.2.1 ∈ lt_T := lt_m2 41 rfl rfl
theorem lf_C_23 : lt_lkF "LinearSearch" 23 (F_C 3) := Or.inl fl_C_23
theorem fl_C_30 : Cond.fieldLink "LinearSearch" 30 (F_C 4).1 (F_C 4).2.1 (F_C 4).2.2.1 ∈ lt_T := lt_m2 42 rfl rfl
theorem lf_C_30 : lt_lkF "LinearSearch" 30 (F_C 4) := Or.inl fl_C_30
theorem fl_C_37 : Cond.fieldLink "LinearSearch" 37 (F_C 5).1 (F_C 5).2.1 (F_C 5).2.2.1 ∈ lt_T := lt_m2 43 rfl rfl
theorem lf_C_37 : lt_lkF "LinearSearch" 37 (F_C 5) := Or.inl fl_C_37
theorem fl_C_44 : Cond.fieldLink "LinearSearch" 44 (F_C 6).1 (F_C 6).2.1 (F_C 6).2.2.1 ∈ lt_T := lt_m2 44 rfl rfl
theorem lf_C_44 : lt_lkF "LinearSearch" 44 (F_C 6) := Or.inl fl_C_44
theorem fl_C_74 : Cond.fieldLink "LinearSearch" 74 (F_C 7).1 (F_C 7).2.1 (F_C 7).2.2.1 ∈ lt_T := lt_m2 45 rfl rfl
theorem lf_C_74 : lt_lkF "LinearSearch" 74 (F_C 7) := Or.inl fl_C_74
theorem fl_C_51 : Cond.fieldLink "LinearSearch" 51 (F_C 8).1 (F_C 8).2.1 (F_C 8).2.2.1 ∈ lt_T := lt_m2 46 rfl rfl
theorem lf_C_51 : lt_lkF "LinearSearch" 51 (F_C 8) := Or.inl fl_C_51
theorem fl_C_55 : Cond.fieldLink "LinearSearch" 55 (F_C 9).1 (F_C 9).2.1 (F_C 9).2.2.1 ∈ lt_T := lt_m2 47 rfl rfl
theorem lf_C_55 : lt_lkF "LinearSearch" 55 (F_C 9) := Or.inl fl_C_55
theorem fl_C_96 : Cond.fieldLink "LinearSearch" 96 (F_C 10).1 (F_C 10).2.1 (F_C 10).2.2.1 ∈ lt_T := lt_m2 48 rfl rfl
theorem lf_C_96 : lt_lkF "LinearSearch" 96 (F_C 10) := Or.inl fl_C_96
theorem fl_C_58 : Cond.fieldLink "LinearSearch" 58 (F_C 11).1 (F_C 11).2.1 (F_C 11).2.2.1 ∈ lt_T := lt_m2 49 rfl rfl
theorem lf_C_58 : lt_lkF "LinearSearch" 58 (F_C 11) := Or.inl fl_C_58
theorem fl_C_62 : Cond.fieldLink "LinearSearch" 62 (F_C 12).1 (F_C 12).2.1 (F_C 12).2.2.1 ∈ lt_T := lt_m2 50 rfl rfl
theorem lf_C_62 : lt_lkF "LinearSearch" 62 (F_C 12) := Or.inl fl_C_62
theorem fl_C_66 : Cond.fieldLink "LinearSearch" 66 (F_C 13).1 (F_C 13).2.1 (F_C 13).2.2.1 ∈ lt_T := lt_m2 51 rfl rfl
theorem lf_C_66 : lt_lkF "LinearSearch" 66 (F_C 13) := Or.inl fl_C_66
theorem lm_C_132 : lt_lkM "LinearSearch" 132 m_Tx_add.1 := Or.inl (lt_m2 93 rfl rfl)
theorem lm_C_103 : lt_lkM "LinearSearch" 103 m_C_forgetSearch.1 := Or.inl (lt_m2 97 rfl rfl)
theorem lm_C_153 : lt_lkM "LinearSearch" 153 m_C_note.1 := Or.inl (lt_m2 101 rfl rfl)
theorem lm_C_136 : lt_lkM "LinearSearch" 136 m_Tx_empty.1 := Or.inl (lt_m2 109 rfl rfl)
theorem lm_C_173 : lt_lkM "LinearSearch" 173 m_Au_keptCount.1 := Or.inl (lt_m2 125 rfl rfl)
theorem lm_C_176 : lt_lkM "LinearSearch" 176 m_Au_flushCount.1 := Or.inl (lt_m2 133 rfl rfl)
theorem lc_La_13 : Cond.classLink "LinearSearchLaw" 13 "java/lang/IllegalArgumentException" ∈ lt_T := lt_m2 143 rfl rfl
theorem lm_C_81 : lt_lkM "LinearSearch" 81 m_Wr_write.1 := Or.inl (lt_m2 148 rfl rfl)
theorem lm_Wr_29 : lt_lkM "LinearSearch$Writer" 29 m_Pr_empty.1 := Or.inl (lt_m2 152 rfl rfl)
theorem lm_Wr_34 : lt_lkM "LinearSearch$Writer" 34 m_Wr_writeChoice.1 := Or.inl (lt_m2 156 rfl rfl)
theorem lm_Wr_46 : lt_lkM "LinearSearch$Writer" 46 m_Pr_size.1 := Or.inl (lt_m2 160 rfl rfl)
theorem lm_Wr_49 : lt_lkM "LinearSearch$Writer" 49 m_Wr_writeSequence.1 := Or.inl (lt_m2 164 rfl rfl)
theorem lm_Wr_38 : lt_lkM "LinearSearch$Writer" 38 m_Wr_peek.1 := Or.inl (lt_m2 168 rfl rfl)
theorem lm_Wr_66 : lt_lkM "LinearSearch$Writer" 66 m_Wr_writePiece.1 := Or.inl (lt_m2 172 rfl rfl)
theorem lm_Wr_69 : lt_lkM "LinearSearch$Writer" 69 m_Wr_writeAtom.1 := Or.inl (lt_m2 176 rfl rfl)
theorem lm_Wr_42 : lt_lkM "LinearSearch$Writer" 42 m_Pr_add.1 := Or.inl (lt_m2 180 rfl rfl)
theorem lm_Wr_76 : lt_lkM "LinearSearch$Writer" 76 m_Wr_writeGroup.1 := Or.inl (lt_m2 184 rfl rfl)
theorem lm_Wr_72 : lt_lkM "LinearSearch$Writer" 72 m_Wr_writeSign.1 := Or.inl (lt_m2 188 rfl rfl)
theorem lm_Wr_52 : lt_lkM "LinearSearch$Writer" 52 m_Pr_insertSplit.1 := Or.inl (lt_m2 192 rfl rfl)
theorem lm_Wr_59 : lt_lkM "LinearSearch$Writer" 59 m_Pr_aimSplit.1 := Or.inl (lt_m2 196 rfl rfl)
theorem lm_Wr_56 : lt_lkM "LinearSearch$Writer" 56 m_Pr_addOpenGo.1 := Or.inl (lt_m2 200 rfl rfl)
theorem lm_Pr_32 : lt_lkM "LinearSearch$Program" 32 m_Pr_add.1 := Or.inl (lt_m2 204 rfl rfl)
theorem lm_Wr_63 : lt_lkM "LinearSearch$Writer" 63 m_Pr_closeChoice.1 := Or.inl (lt_m2 205 rfl rfl)
theorem lmm_Pr_36 : Cond.methodLink "LinearSearch$Program" 36 Lib.Math.max.name ∈ lt_T := lt_m2 209 rfl rfl
theorem lc_C_85 : Cond.classLink "LinearSearch" 85 "java/lang/IllegalArgumentException" ∈ lt_T := lt_m2 210 rfl rfl
theorem ac_byte : Cond.arrayClass .byte ∈ lt_T := lt_m3 37 rfl rfl
theorem lm_C_92 : lt_lkM "LinearSearch" 92 m_Si_fits.1 := Or.inl (lt_m3 38 rfl rfl)
theorem lm_Si_29 : lt_lkM "LinearSearch$Single" 29 m_Pr_kindAt.1 := Or.inl (lt_m3 42 rfl rfl)
theorem lm_Si_35 : lt_lkM "LinearSearch$Single" 35 m_Pr_size.1 := Or.inl (lt_m3 46 rfl rfl)
theorem lm_Si_39 : lt_lkM "LinearSearch$Single" 39 m_Pr_readsLetter.1 := Or.inl (lt_m3 47 rfl rfl)
theorem lm_Pr_25 : lt_lkM "LinearSearch$Program" 25 m_Pr_kindAt.1 := Or.inl (lt_m3 51 rfl rfl)
theorem lm_Si_43 : lt_lkM "LinearSearch$Single" 43 m_Si_isPlainFrom.1 := Or.inl (lt_m3 52 rfl rfl)
theorem lm_Si_47 : lt_lkM "LinearSearch$Single" 47 m_Fo_begin.1 := Or.inl (lt_m3 56 rfl rfl)
theorem lm_Fo_45 : lt_lkM "LinearSearch$Follower" 45 m_TL_empty.1 := Or.inl (lt_m3 60 rfl rfl)
theorem lm_Si_51 : lt_lkM "LinearSearch$Single" 51 m_Fo_follow.1 := Or.inl (lt_m3 64 rfl rfl)
theorem lm_Fo_56 : lt_lkM "LinearSearch$Follower" 56 m_Fo_push.1 := Or.inl (lt_m3 68 rfl rfl)
theorem lm_Fo_60 : lt_lkM "LinearSearch$Follower" 60 m_Fo_step.1 := Or.inl (lt_m3 72 rfl rfl)
theorem lm_Fo_63 : lt_lkM "LinearSearch$Follower" 63 m_Pr_kindAt.1 := Or.inl (lt_m3 76 rfl rfl)
theorem lm_Fo_69 : lt_lkM "LinearSearch$Follower" 69 m_Pr_yAt.1 := Or.inl (lt_m3 77 rfl rfl)
theorem lm_Fo_72 : lt_lkM "LinearSearch$Follower" 72 m_Pr_xAt.1 := Or.inl (lt_m3 81 rfl rfl)
theorem lm_Fo_75 : lt_lkM "LinearSearch$Follower" 75 m_C_withSlot.1 := Or.inr ⟨"LinearSearch", lt_n3 85 rfl rfl⟩
theorem lj_C_203 : Cond.constantLong "LinearSearch" 203 31 ∈ lt_T := lt_m3 88 rfl rfl
theorem lj_C_205 : Cond.constantLong "LinearSearch" 205 (-1) ∈ lt_T := lt_m3 89 rfl rfl
theorem lm_Fo_79 : lt_lkM "LinearSearch$Follower" 79 m_TL_add.1 := Or.inl (lt_m3 90 rfl rfl)
theorem lm_Si_55 : lt_lkM "LinearSearch$Single" 55 m_Fo_cameTwice.1 := Or.inl (lt_m3 94 rfl rfl)
theorem lm_Si_59 : lt_lkM "LinearSearch$Single" 59 m_TL_size.1 := Or.inl (lt_m3 98 rfl rfl)
theorem lm_Si_60 : lt_lkM "LinearSearch$Single" 60 m_TL_instructionAt.1 := Or.inl (lt_m3 102 rfl rfl)
theorem lm_Si_63 : lt_lkM "LinearSearch$Single" 63 m_Pr_xAt.1 := Or.inl (lt_m3 106 rfl rfl)
theorem lm_C_100 : lt_lkM "LinearSearch" 100 m_Au_reset.1 := Or.inl (lt_m3 107 rfl rfl)
theorem lm_C_106 : lt_lkM "LinearSearch" 106 m_Pr_size.1 := Or.inl (lt_m3 111 rfl rfl)
theorem lc_La_19 : Cond.classLink "LinearSearchLaw" 19 "java/lang/IndexOutOfBoundsException" ∈ lt_T := lt_m3 115 rfl rfl
theorem lc_C_110 : Cond.classLink "LinearSearch" 110 "java/lang/IndexOutOfBoundsException" ∈ lt_T := lt_m3 120 rfl rfl
theorem lm_C_115 : lt_lkM "LinearSearch" 115 m_Pr_kindAt.1 := Or.inl (lt_m3 136 rfl rfl)
theorem lm_C_119 : lt_lkM "LinearSearch" 119 m_Pr_xAt.1 := Or.inl (lt_m3 137 rfl rfl)
theorem lm_C_122 : lt_lkM "LinearSearch" 122 m_Pr_yAt.1 := Or.inl (lt_m3 138 rfl rfl)
theorem lc_La_25 : Cond.classLink "LinearSearchLaw" 25 "java/lang/IllegalStateException" ∈ lt_T := lt_m3 143 rfl rfl
theorem lc_C_127 : Cond.classLink "LinearSearch" 127 "java/lang/IllegalStateException" ∈ lt_T := lt_m3 148 rfl rfl
theorem lm_C_143 : lt_lkM "LinearSearch" 143 m_C_plannedMatcher.1 := Or.inl (lt_m3 173 rfl rfl)
theorem lm_C_179 : lt_lkM "LinearSearch" 179 m_Tx_length.1 := Or.inl (lt_m3 177 rfl rfl)
theorem lm_C_146 : lt_lkM "LinearSearch" 146 m_Ma_find.1 := Or.inl (lt_m3 181 rfl rfl)
theorem lm_Ma_37 : lt_lkM "LinearSearch$Marks" 37 m_Ar_fillJ.1 := Or.inl (lt_m3 185 rfl rfl)
theorem lm_Ma_43 : lt_lkM "LinearSearch$Marks" 43 m_Tx_length.1 := Or.inl (lt_m3 188 rfl rfl)
theorem lm_Ma_49 : lt_lkM "LinearSearch$Marks" 49 m_Ma_findFrom.1 := Or.inl (lt_m3 189 rfl rfl)
theorem lm_Ma_56 : lt_lkM "LinearSearch$Marks" 56 m_C_slotsFrom.1 := Or.inr ⟨"LinearSearch", lt_n3 193 rfl rfl⟩
theorem lm_C_207 : lt_lkM "LinearSearch" 207 m_C_withSlot.1 := Or.inl (lt_m3 196 rfl rfl)
theorem lm_Ma_59 : lt_lkM "LinearSearch$Marks" 59 m_Ma_push.1 := Or.inl (lt_m3 197 rfl rfl)
theorem lm_Ma_63 : lt_lkM "LinearSearch$Marks" 63 m_Ma_mark.1 := Or.inl (lt_m3 201 rfl rfl)
theorem lm_Ma_67 : lt_lkM "LinearSearch$Marks" 67 m_Pr_kindAt.1 := Or.inl (lt_m3 205 rfl rfl)
theorem lm_Ma_73 : lt_lkM "LinearSearch$Marks" 73 m_C_withSlot.1 := Or.inr ⟨"LinearSearch", lt_n3 206 rfl rfl⟩
theorem lm_Ma_77 : lt_lkM "LinearSearch$Marks" 77 m_Ma_step.1 := Or.inl (lt_m3 207 rfl rfl)
theorem lm_Ma_80 : lt_lkM "LinearSearch$Marks" 80 m_Pr_yAt.1 := Or.inl (lt_m3 211 rfl rfl)
theorem lm_Ma_83 : lt_lkM "LinearSearch$Marks" 83 m_Pr_xAt.1 := Or.inl (lt_m3 212 rfl rfl)
theorem lm_Ma_86 : lt_lkM "LinearSearch$Marks" 86 m_Tx_letterAt.1 := Or.inl (lt_m3 213 rfl rfl)
theorem lm_Ma_89 : lt_lkM "LinearSearch$Marks" 89 m_Pr_takes.1 := Or.inl (lt_m3 217 rfl rfl)
theorem lm_Pr_29 : lt_lkM "LinearSearch$Program" 29 m_Pr_xAt.1 := Or.inl (lt_m3 221 rfl rfl)
theorem lm_C_150 : lt_lkM "LinearSearch" 150 m_Ma_marksSet.1 := Or.inl (lt_m3 222 rfl rfl)
theorem lm_C_157 : lt_lkM "LinearSearch" 157 m_C_runAutomaton.1 := Or.inl (lt_m3 226 rfl rfl)
theorem lm_C_188 : lt_lkM "LinearSearch" 188 m_Au_lastEnd.1 := Or.inl (lt_m3 230 rfl rfl)
theorem lm_Au_55 : lt_lkM "LinearSearch$Automaton" 55 m_Au_firstState.1 := Or.inl (lt_m3 234 rfl rfl)
theorem lm_Au_89 : lt_lkM "LinearSearch$Automaton" 89 m_Fo_begin.1 := Or.inl (lt_m3 238 rfl rfl)
theorem lm_Au_93 : lt_lkM "LinearSearch$Automaton" 93 m_Fo_follow.1 := Or.inl (lt_m3 239 rfl rfl)
theorem lm_Au_97 : lt_lkM "LinearSearch$Automaton" 97 m_Au_keep.1 := Or.inl (lt_m4 0 rfl rfl)
theorem lm_Au_123 : lt_lkM "LinearSearch$Automaton" 123 m_St_fill.1 := Or.inl (lt_m4 4 rfl rfl)
theorem lm_St_29 : lt_lkM "LinearSearch$State" 29 m_Ar_fillI.1 := Or.inl (lt_m4 8 rfl rfl)
theorem lm_St_35 : lt_lkM "LinearSearch$State" 35 m_TL_size.1 := Or.inl (lt_m4 11 rfl rfl)
theorem lm_St_40 : lt_lkM "LinearSearch$State" 40 m_TL_instructionAt.1 := Or.inl (lt_m4 12 rfl rfl)
theorem lm_St_44 : lt_lkM "LinearSearch$State" 44 m_Pr_kindAt.1 := Or.inl (lt_m4 13 rfl rfl)
theorem lm_Au_127 : lt_lkM "LinearSearch$Automaton" 127 m_St_isSameAs.1 := Or.inl (lt_m4 14 rfl rfl)
theorem lm_Au_131 : lt_lkM "LinearSearch$Automaton" 131 m_Au_gaveUp.1 := Or.inl (lt_m4 18 rfl rfl)
theorem lm_Au_59 : lt_lkM "LinearSearch$Automaton" 59 m_Tx_length.1 := Or.inl (lt_m4 22 rfl rfl)
theorem lm_Au_65 : lt_lkM "LinearSearch$Automaton" 65 m_Au_stateAt.1 := Or.inl (lt_m4 23 rfl rfl)
theorem lm_Au_73 : lt_lkM "LinearSearch$Automaton" 73 m_Au_foundBehindLasts.1 := Or.inl (lt_m4 27 rfl rfl)
theorem lm_Au_107 : lt_lkM "LinearSearch$Automaton" 107 m_St_entryAt.1 := Or.inl (lt_m4 31 rfl rfl)
theorem lm_Au_134 : lt_lkM "LinearSearch$Automaton" 134 m_Pr_kindAt.1 := Or.inl (lt_m4 35 rfl rfl)
theorem lm_Au_137 : lt_lkM "LinearSearch$Automaton" 137 m_TL_size.1 := Or.inl (lt_m4 36 rfl rfl)
theorem lm_Au_139 : lt_lkM "LinearSearch$Automaton" 139 m_TL_instructionAt.1 := Or.inl (lt_m4 37 rfl rfl)
theorem lm_Au_77 : lt_lkM "LinearSearch$Automaton" 77 m_St_isOver.1 := Or.inl (lt_m4 38 rfl rfl)
theorem lm_Au_81 : lt_lkM "LinearSearch$Automaton" 81 m_Tx_letterAt.1 := Or.inl (lt_m4 42 rfl rfl)
theorem lm_Au_85 : lt_lkM "LinearSearch$Automaton" 85 m_Au_nextState.1 := Or.inl (lt_m4 43 rfl rfl)
theorem lm_Au_101 : lt_lkM "LinearSearch$Automaton" 101 m_St_leadBy.1 := Or.inl (lt_m4 47 rfl rfl)
theorem lm_Au_110 : lt_lkM "LinearSearch$Automaton" 110 m_Pr_takes.1 := Or.inl (lt_m4 51 rfl rfl)
theorem lm_Au_116 : lt_lkM "LinearSearch$Automaton" 116 m_St_opensNext.1 := Or.inl (lt_m4 52 rfl rfl)
theorem lm_Au_119 : lt_lkM "LinearSearch$Automaton" 119 m_St_setLead.1 := Or.inl (lt_m4 56 rfl rfl)
theorem lm_C_192 : lt_lkM "LinearSearch" 192 m_Au_gaveUp.1 := Or.inl (lt_m4 60 rfl rfl)
theorem lm_C_164 : lt_lkM "LinearSearch" 164 m_C_runLists.1 := Or.inl (lt_m4 61 rfl rfl)
theorem lm_C_182 : lt_lkM "LinearSearch" 182 m_Ls_find.1 := Or.inl (lt_m4 65 rfl rfl)
theorem lm_Ls_32 : lt_lkM "LinearSearch$Lists" 32 m_Fo_ruleAt.1 := Or.inl (lt_m4 69 rfl rfl)
theorem lm_Fo_50 : lt_lkM "LinearSearch$Follower" 50 m_Tx_length.1 := Or.inl (lt_m4 72 rfl rfl)
theorem lm_Ls_36 : lt_lkM "LinearSearch$Lists" 36 m_Fo_begin.1 := Or.inl (lt_m4 73 rfl rfl)
theorem lm_Ls_40 : lt_lkM "LinearSearch$Lists" 40 m_C_slotsFrom.1 := Or.inr ⟨"LinearSearch", lt_n4 74 rfl rfl⟩
theorem lm_Ls_44 : lt_lkM "LinearSearch$Lists" 44 m_Fo_follow.1 := Or.inl (lt_m4 75 rfl rfl)
theorem lm_Ls_48 : lt_lkM "LinearSearch$Lists" 48 m_Tx_length.1 := Or.inl (lt_m4 76 rfl rfl)
theorem lm_Ls_54 : lt_lkM "LinearSearch$Lists" 54 m_Tx_letterAt.1 := Or.inl (lt_m4 77 rfl rfl)
theorem lm_Ls_58 : lt_lkM "LinearSearch$Lists" 58 m_Ls_goThrough.1 := Or.inl (lt_m4 78 rfl rfl)
theorem lm_Ls_69 : lt_lkM "LinearSearch$Lists" 69 m_TL_size.1 := Or.inl (lt_m4 82 rfl rfl)
theorem lm_Ls_72 : lt_lkM "LinearSearch$Lists" 72 m_TL_instructionAt.1 := Or.inl (lt_m4 83 rfl rfl)
theorem lm_Ls_75 : lt_lkM "LinearSearch$Lists" 75 m_Pr_kindAt.1 := Or.inl (lt_m4 84 rfl rfl)
theorem lm_Ls_80 : lt_lkM "LinearSearch$Lists" 80 m_TL_slotsAt.1 := Or.inl (lt_m4 85 rfl rfl)
theorem lm_Ls_83 : lt_lkM "LinearSearch$Lists" 83 m_Pr_takes.1 := Or.inl (lt_m4 89 rfl rfl)
theorem lm_Ls_62 : lt_lkM "LinearSearch$Lists" 62 m_C_withSlot.1 := Or.inr ⟨"LinearSearch", lt_n4 90 rfl rfl⟩
theorem lm_Ls_66 : lt_lkM "LinearSearch$Lists" 66 m_Ls_swapLists.1 := Or.inl (lt_m4 91 rfl rfl)
theorem lm_C_185 : lt_lkM "LinearSearch" 185 m_Ls_entriesPassed.1 := Or.inl (lt_m4 95 rfl rfl)
theorem lm_C_196 : lt_lkM "LinearSearch" 196 m_C_leftmostEndingAt.1 := Or.inl (lt_m4 99 rfl rfl)
theorem lm_C_167 : lt_lkM "LinearSearch" 167 m_C_placeIn.1 := Or.inl (lt_m4 103 rfl rfl)
theorem lm_C_200 : lt_lkM "LinearSearch" 200 m_Au_statesMade.1 := Or.inl (lt_m4 106 rfl rfl)
theorem lm_C_160 : lt_lkM "LinearSearch" 160 m_Si_find.1 := Or.inl (lt_m4 110 rfl rfl)
theorem lm_Si_73 : lt_lkM "LinearSearch$Single" 73 m_C_slotsFrom.1 := Or.inr ⟨"LinearSearch", lt_n4 114 rfl rfl⟩
theorem lm_Si_80 : lt_lkM "LinearSearch$Single" 80 m_Tx_length.1 := Or.inl (lt_m4 115 rfl rfl)
theorem lm_Si_85 : lt_lkM "LinearSearch$Single" 85 m_Fo_ruleAt.1 := Or.inl (lt_m4 116 rfl rfl)
theorem lm_Si_89 : lt_lkM "LinearSearch$Single" 89 m_Tx_letterAt.1 := Or.inl (lt_m4 117 rfl rfl)
theorem lm_Si_92 : lt_lkM "LinearSearch$Single" 92 m_Si_goThrough.1 := Or.inl (lt_m4 118 rfl rfl)
theorem lm_Si_96 : lt_lkM "LinearSearch$Single" 96 m_TL_slotsAt.1 := Or.inl (lt_m4 122 rfl rfl)
theorem lm_Si_99 : lt_lkM "LinearSearch$Single" 99 m_C_withSlot.1 := Or.inr ⟨"LinearSearch", lt_n4 123 rfl rfl⟩
theorem lm_Si_103 : lt_lkM "LinearSearch$Single" 103 m_Pr_takes.1 := Or.inl (lt_m4 124 rfl rfl)
theorem lm_C_161 : lt_lkM "LinearSearch" 161 m_Si_lettersPassed.1 := Or.inl (lt_m4 125 rfl rfl)
theorem lc_La_47 : Cond.classLink "LinearSearchLaw" 47 "LinearSearchModel" ∈ lt_T := lt_m4 144 rfl rfl
theorem ic_Mo : Cond.instantiable "LinearSearchModel" 45 ∈ lt_T := lt_m4 145 rfl rfl
theorem lo_Mo_1 : Cond.methodLink "LinearSearchModel" 1 Lib.objectInit ∈ lt_T := lt_m4 149 rfl rfl
theorem fl_Mo_102 : Cond.fieldLink "LinearSearchModel" 102 (F_Mo 0).1 (F_Mo 0).2.1 (F_Mo 0).2.2.1 ∈ lt_T := lt_m4 150 rfl rfl
theorem lf_Mo_102 : lt_lkF "LinearSearchModel" 102 (F_Mo 0) := Or.inl fl_Mo_102
theorem fl_Mo_99 : Cond.fieldLink "LinearSearchModel" 99 (F_Mo 1).1 (F_Mo 1).2.1 (F_Mo 1).2.2.1 ∈ lt_T := lt_m4 151 rfl rfl
theorem lf_Mo_99 : lt_lkF "LinearSearchModel" 99 (F_Mo 1) := Or.inl fl_Mo_99
theorem fl_Mo_109 : Cond.fieldLink "LinearSearchModel" 109 (F_Mo 2).1 (F_Mo 2).2.1 (F_Mo 2).2.2.1 ∈ lt_T := lt_m4 152 rfl rfl
theorem lf_Mo_109 : lt_lkF "LinearSearchModel" 109 (F_Mo 2) := Or.inl fl_Mo_109
theorem fl_Mo_7 : Cond.fieldLink "LinearSearchModel" 7 (F_Mo 3).1 (F_Mo 3).2.1 (F_Mo 3).2.2.1 ∈ lt_T := lt_m4 153 rfl rfl
theorem lf_Mo_7 : lt_lkF "LinearSearchModel" 7 (F_Mo 3) := Or.inl fl_Mo_7
theorem fl_Mo_172 : Cond.fieldLink "LinearSearchModel" 172 (F_Mo 4).1 (F_Mo 4).2.1 (F_Mo 4).2.2.1 ∈ lt_T := lt_m4 154 rfl rfl
theorem lf_Mo_172 : lt_lkF "LinearSearchModel" 172 (F_Mo 4) := Or.inl fl_Mo_172
theorem fl_Mo_13 : Cond.fieldLink "LinearSearchModel" 13 (F_Mo 5).1 (F_Mo 5).2.1 (F_Mo 5).2.2.1 ∈ lt_T := lt_m4 155 rfl rfl
theorem lf_Mo_13 : lt_lkF "LinearSearchModel" 13 (F_Mo 5) := Or.inl fl_Mo_13
theorem fl_Mo_148 : Cond.fieldLink "LinearSearchModel" 148 (F_Mo 6).1 (F_Mo 6).2.1 (F_Mo 6).2.2.1 ∈ lt_T := lt_m4 156 rfl rfl
theorem lf_Mo_148 : lt_lkF "LinearSearchModel" 148 (F_Mo 6) := Or.inl fl_Mo_148
theorem fl_Mo_16 : Cond.fieldLink "LinearSearchModel" 16 (F_Mo 7).1 (F_Mo 7).2.1 (F_Mo 7).2.2.1 ∈ lt_T := lt_m4 157 rfl rfl
theorem lf_Mo_16 : lt_lkF "LinearSearchModel" 16 (F_Mo 7) := Or.inl fl_Mo_16
theorem fl_Mo_19 : Cond.fieldLink "LinearSearchModel" 19 (F_Mo 8).1 (F_Mo 8).2.1 (F_Mo 8).2.2.1 ∈ lt_T := lt_m4 158 rfl rfl
theorem lf_Mo_19 : lt_lkF "LinearSearchModel" 19 (F_Mo 8) := Or.inl fl_Mo_19
theorem fl_Mo_22 : Cond.fieldLink "LinearSearchModel" 22 (F_Mo 9).1 (F_Mo 9).2.1 (F_Mo 9).2.2.1 ∈ lt_T := lt_m4 159 rfl rfl
theorem lf_Mo_22 : lt_lkF "LinearSearchModel" 22 (F_Mo 9) := Or.inl fl_Mo_22
theorem fl_Mo_115 : Cond.fieldLink "LinearSearchModel" 115 (F_Mo 10).1 (F_Mo 10).2.1 (F_Mo 10).2.2.1 ∈ lt_T := lt_m4 160 rfl rfl
theorem lf_Mo_115 : lt_lkF "LinearSearchModel" 115 (F_Mo 10) := Or.inl fl_Mo_115
theorem fl_Mo_25 : Cond.fieldLink "LinearSearchModel" 25 (F_Mo 11).1 (F_Mo 11).2.1 (F_Mo 11).2.2.1 ∈ lt_T := lt_m4 161 rfl rfl
theorem lf_Mo_25 : lt_lkF "LinearSearchModel" 25 (F_Mo 11) := Or.inl fl_Mo_25
theorem fl_Mo_28 : Cond.fieldLink "LinearSearchModel" 28 (F_Mo 12).1 (F_Mo 12).2.1 (F_Mo 12).2.2.1 ∈ lt_T := lt_m4 162 rfl rfl
theorem lf_Mo_28 : lt_lkF "LinearSearchModel" 28 (F_Mo 12) := Or.inl fl_Mo_28
theorem fl_Mo_31 : Cond.fieldLink "LinearSearchModel" 31 (F_Mo 13).1 (F_Mo 13).2.1 (F_Mo 13).2.2.1 ∈ lt_T := lt_m4 163 rfl rfl
theorem lf_Mo_31 : lt_lkF "LinearSearchModel" 31 (F_Mo 13) := Or.inl fl_Mo_31
theorem fl_Mo_112 : Cond.fieldLink "LinearSearchModel" 112 (F_Mo 14).1 (F_Mo 14).2.1 (F_Mo 14).2.2.1 ∈ lt_T := lt_m4 164 rfl rfl
theorem lf_Mo_112 : lt_lkF "LinearSearchModel" 112 (F_Mo 14) := Or.inl fl_Mo_112
theorem fl_Mo_163 : Cond.fieldLink "LinearSearchModel" 163 (F_Mo 15).1 (F_Mo 15).2.1 (F_Mo 15).2.2.1 ∈ lt_T := lt_m4 165 rfl rfl
theorem lf_Mo_163 : lt_lkF "LinearSearchModel" 163 (F_Mo 15) := Or.inl fl_Mo_163
theorem fl_Mo_166 : Cond.fieldLink "LinearSearchModel" 166 (F_Mo 16).1 (F_Mo 16).2.1 (F_Mo 16).2.2.1 ∈ lt_T := lt_m4 166 rfl rfl
theorem lf_Mo_166 : lt_lkF "LinearSearchModel" 166 (F_Mo 16) := Or.inl fl_Mo_166
theorem fl_Mo_34 : Cond.fieldLink "LinearSearchModel" 34 (F_Mo 17).1 (F_Mo 17).2.1 (F_Mo 17).2.2.1 ∈ lt_T := lt_m4 167 rfl rfl
theorem lf_Mo_34 : lt_lkF "LinearSearchModel" 34 (F_Mo 17) := Or.inl fl_Mo_34
theorem fl_Mo_169 : Cond.fieldLink "LinearSearchModel" 169 (F_Mo 18).1 (F_Mo 18).2.1 (F_Mo 18).2.2.1 ∈ lt_T := lt_m4 168 rfl rfl
theorem lf_Mo_169 : lt_lkF "LinearSearchModel" 169 (F_Mo 18) := Or.inl fl_Mo_169
theorem fl_Mo_37 : Cond.fieldLink "LinearSearchModel" 37 (F_Mo 19).1 (F_Mo 19).2.1 (F_Mo 19).2.2.1 ∈ lt_T := lt_m4 169 rfl rfl
theorem lf_Mo_37 : lt_lkF "LinearSearchModel" 37 (F_Mo 19) := Or.inl fl_Mo_37
theorem fl_Mo_40 : Cond.fieldLink "LinearSearchModel" 40 (F_Mo 20).1 (F_Mo 20).2.1 (F_Mo 20).2.2.1 ∈ lt_T := lt_m4 170 rfl rfl
theorem lf_Mo_40 : lt_lkF "LinearSearchModel" 40 (F_Mo 20) := Or.inl fl_Mo_40
theorem fl_Mo_43 : Cond.fieldLink "LinearSearchModel" 43 (F_Mo 21).1 (F_Mo 21).2.1 (F_Mo 21).2.2.1 ∈ lt_T := lt_m4 171 rfl rfl
theorem lf_Mo_43 : lt_lkF "LinearSearchModel" 43 (F_Mo 21) := Or.inl fl_Mo_43
theorem fl_Mo_46 : Cond.fieldLink "LinearSearchModel" 46 (F_Mo 22).1 (F_Mo 22).2.1 (F_Mo 22).2.2.1 ∈ lt_T := lt_m4 172 rfl rfl
theorem lf_Mo_46 : lt_lkF "LinearSearchModel" 46 (F_Mo 22) := Or.inl fl_Mo_46
theorem fl_Mo_49 : Cond.fieldLink "LinearSearchModel" 49 (F_Mo 23).1 (F_Mo 23).2.1 (F_Mo 23).2.2.1 ∈ lt_T := lt_m4 173 rfl rfl
theorem lf_Mo_49 : lt_lkF "LinearSearchModel" 49 (F_Mo 23) := Or.inl fl_Mo_49
theorem fl_Mo_52 : Cond.fieldLink "LinearSearchModel" 52 (F_Mo 24).1 (F_Mo 24).2.1 (F_Mo 24).2.2.1 ∈ lt_T := lt_m4 174 rfl rfl
theorem lf_Mo_52 : lt_lkF "LinearSearchModel" 52 (F_Mo 24) := Or.inl fl_Mo_52
theorem fl_Mo_55 : Cond.fieldLink "LinearSearchModel" 55 (F_Mo 25).1 (F_Mo 25).2.1 (F_Mo 25).2.2.1 ∈ lt_T := lt_m4 175 rfl rfl
theorem lf_Mo_55 : lt_lkF "LinearSearchModel" 55 (F_Mo 25) := Or.inl fl_Mo_55
theorem fl_Mo_58 : Cond.fieldLink "LinearSearchModel" 58 (F_Mo 26).1 (F_Mo 26).2.1 (F_Mo 26).2.2.1 ∈ lt_T := lt_m4 176 rfl rfl
theorem lf_Mo_58 : lt_lkF "LinearSearchModel" 58 (F_Mo 26) := Or.inl fl_Mo_58
theorem fl_Mo_151 : Cond.fieldLink "LinearSearchModel" 151 (F_Mo 27).1 (F_Mo 27).2.1 (F_Mo 27).2.2.1 ∈ lt_T := lt_m4 177 rfl rfl
theorem lf_Mo_151 : lt_lkF "LinearSearchModel" 151 (F_Mo 27) := Or.inl fl_Mo_151
theorem fl_Mo_154 : Cond.fieldLink "LinearSearchModel" 154 (F_Mo 28).1 (F_Mo 28).2.1 (F_Mo 28).2.2.1 ∈ lt_T := lt_m4 178 rfl rfl
theorem lf_Mo_154 : lt_lkF "LinearSearchModel" 154 (F_Mo 28) := Or.inl fl_Mo_154
theorem fl_Mo_225 : Cond.fieldLink "LinearSearchModel" 225 (F_Mo 29).1 (F_Mo 29).2.1 (F_Mo 29).2.2.1 ∈ lt_T := lt_m4 179 rfl rfl
theorem lf_Mo_225 : lt_lkF "LinearSearchModel" 225 (F_Mo 29) := Or.inl fl_Mo_225
theorem fl_Mo_62 : Cond.fieldLink "LinearSearchModel" 62 (F_Mo 30).1 (F_Mo 30).2.1 (F_Mo 30).2.2.1 ∈ lt_T := lt_m4 180 rfl rfl
theorem lf_Mo_62 : lt_lkF "LinearSearchModel" 62 (F_Mo 30) := Or.inl fl_Mo_62
theorem fl_Mo_65 : Cond.fieldLink "LinearSearchModel" 65 (F_Mo 31).1 (F_Mo 31).2.1 (F_Mo 31).2.2.1 ∈ lt_T := lt_m4 181 rfl rfl
theorem lf_Mo_65 : lt_lkF "LinearSearchModel" 65 (F_Mo 31) := Or.inl fl_Mo_65
theorem fl_Mo_68 : Cond.fieldLink "LinearSearchModel" 68 (F_Mo 32).1 (F_Mo 32).2.1 (F_Mo 32).2.2.1 ∈ lt_T := lt_m4 182 rfl rfl
theorem lf_Mo_68 : lt_lkF "LinearSearchModel" 68 (F_Mo 32) := Or.inl fl_Mo_68
theorem fl_Mo_71 : Cond.fieldLink "LinearSearchModel" 71 (F_Mo 33).1 (F_Mo 33).2.1 (F_Mo 33).2.2.1 ∈ lt_T := lt_m4 183 rfl rfl
theorem lf_Mo_71 : lt_lkF "LinearSearchModel" 71 (F_Mo 33) := Or.inl fl_Mo_71
theorem fl_Mo_214 : Cond.fieldLink "LinearSearchModel" 214 (F_Mo 34).1 (F_Mo 34).2.1 (F_Mo 34).2.2.1 ∈ lt_T := lt_m4 184 rfl rfl
theorem lf_Mo_214 : lt_lkF "LinearSearchModel" 214 (F_Mo 34) := Or.inl fl_Mo_214
theorem fl_Mo_74 : Cond.fieldLink "LinearSearchModel" 74 (F_Mo 35).1 (F_Mo 35).2.1 (F_Mo 35).2.2.1 ∈ lt_T := lt_m4 185 rfl rfl
theorem lf_Mo_74 : lt_lkF "LinearSearchModel" 74 (F_Mo 35) := Or.inl fl_Mo_74
theorem fl_Mo_189 : Cond.fieldLink "LinearSearchModel" 189 (F_Mo 36).1 (F_Mo 36).2.1 (F_Mo 36).2.2.1 ∈ lt_T := lt_m4 186 rfl rfl
theorem lf_Mo_189 : lt_lkF "LinearSearchModel" 189 (F_Mo 36) := Or.inl fl_Mo_189
theorem fl_Mo_77 : Cond.fieldLink "LinearSearchModel" 77 (F_Mo 37).1 (F_Mo 37).2.1 (F_Mo 37).2.2.1 ∈ lt_T := lt_m4 187 rfl rfl
theorem lf_Mo_77 : lt_lkF "LinearSearchModel" 77 (F_Mo 37) := Or.inl fl_Mo_77
theorem fl_Mo_81 : Cond.fieldLink "LinearSearchModel" 81 (F_Mo 38).1 (F_Mo 38).2.1 (F_Mo 38).2.2.1 ∈ lt_T := lt_m4 188 rfl rfl
theorem lf_Mo_81 : lt_lkF "LinearSearchModel" 81 (F_Mo 38) := Or.inl fl_Mo_81
theorem fl_Mo_105 : Cond.fieldLink "LinearSearchModel" 105 (F_Mo 39).1 (F_Mo 39).2.1 (F_Mo 39).2.2.1 ∈ lt_T := lt_m4 189 rfl rfl
theorem lf_Mo_105 : lt_lkF "LinearSearchModel" 105 (F_Mo 39) := Or.inl fl_Mo_105
theorem fl_Mo_84 : Cond.fieldLink "LinearSearchModel" 84 (F_Mo 40).1 (F_Mo 40).2.1 (F_Mo 40).2.2.1 ∈ lt_T := lt_m4 190 rfl rfl
theorem lf_Mo_84 : lt_lkF "LinearSearchModel" 84 (F_Mo 40) := Or.inl fl_Mo_84
theorem fl_Mo_87 : Cond.fieldLink "LinearSearchModel" 87 (F_Mo 41).1 (F_Mo 41).2.1 (F_Mo 41).2.2.1 ∈ lt_T := lt_m4 191 rfl rfl
theorem lf_Mo_87 : lt_lkF "LinearSearchModel" 87 (F_Mo 41) := Or.inl fl_Mo_87
theorem fl_Mo_90 : Cond.fieldLink "LinearSearchModel" 90 (F_Mo 42).1 (F_Mo 42).2.1 (F_Mo 42).2.2.1 ∈ lt_T := lt_m4 192 rfl rfl
theorem lf_Mo_90 : lt_lkF "LinearSearchModel" 90 (F_Mo 42) := Or.inl fl_Mo_90
theorem fl_Mo_93 : Cond.fieldLink "LinearSearchModel" 93 (F_Mo 43).1 (F_Mo 43).2.1 (F_Mo 43).2.2.1 ∈ lt_T := lt_m4 193 rfl rfl
theorem lf_Mo_93 : lt_lkF "LinearSearchModel" 93 (F_Mo 43) := Or.inl fl_Mo_93
theorem fl_Mo_96 : Cond.fieldLink "LinearSearchModel" 96 (F_Mo 44).1 (F_Mo 44).2.1 (F_Mo 44).2.2.1 ∈ lt_T := lt_m4 194 rfl rfl
theorem lf_Mo_96 : lt_lkF "LinearSearchModel" 96 (F_Mo 44) := Or.inl fl_Mo_96
theorem ac_boolean : Cond.arrayClass .boolean ∈ lt_T := lt_m5 46 rfl rfl
theorem lm_Mo_140 : lt_lkM "LinearSearchModel" 140 m_Mo_read.1 := Or.inl (lt_m5 63 rfl rfl)
theorem lm_Mo_126 : lt_lkM "LinearSearchModel" 126 m_Mo_push.1 := Or.inl (lt_m5 67 rfl rfl)
theorem lm_Mo_122 : lt_lkM "LinearSearchModel" 122 m_Mo_emit.1 := Or.inl (lt_m5 71 rfl rfl)
theorem lm_Mo_130 : lt_lkM "LinearSearchModel" 130 m_Mo_land.1 := Or.inl (lt_m5 75 rfl rfl)
theorem lm_Mo_133 : lt_lkM "LinearSearchModel" 133 m_Mo_sign.1 := Or.inl (lt_m5 79 rfl rfl)
theorem lm_Mo_118 : lt_lkM "LinearSearchModel" 118 m_Mo_peek.1 := Or.inl (lt_m5 83 rfl rfl)
theorem lm_Mo_136 : lt_lkM "LinearSearchModel" 136 m_Mo_isLetter.1 := Or.inl (lt_m5 87 rfl rfl)
theorem lm_Mo_144 : lt_lkM "LinearSearchModel" 144 m_Mo_fail.1 := Or.inl (lt_m5 90 rfl rfl)
theorem lm_Mo_157 : lt_lkM "LinearSearchModel" 157 m_Mo_noSearch.1 := Or.inl (lt_m5 94 rfl rfl)
theorem lm_Mo_160 : lt_lkM "LinearSearchModel" 160 m_Mo_isSingle.1 := Or.inl (lt_m5 98 rfl rfl)
theorem lm_Mo_251 : lt_lkM "LinearSearchModel" 251 m_Mo_runLists.1 := Or.inl (lt_m5 122 rfl rfl)
theorem lm_Mo_205 : lt_lkM "LinearSearchModel" 205 m_Mo_begin.1 := Or.inl (lt_m5 126 rfl rfl)
theorem lm_Mo_202 : lt_lkM "LinearSearchModel" 202 m_Mo_follow.1 := Or.inl (lt_m5 130 rfl rfl)
theorem lm_Mo_179 : lt_lkM "LinearSearchModel" 179 m_Mo_behind.1 := Or.inl (lt_m5 134 rfl rfl)
theorem lm_Mo_175 : lt_lkM "LinearSearchModel" 175 m_Mo_otherWay.1 := Or.inl (lt_m5 138 rfl rfl)
theorem lm_Mo_183 : lt_lkM "LinearSearchModel" 183 m_Mo_enter.1 := Or.inl (lt_m5 142 rfl rfl)
theorem lm_Mo_186 : lt_lkM "LinearSearchModel" 186 m_Mo_back.1 := Or.inl (lt_m5 146 rfl rfl)
theorem lm_Mo_208 : lt_lkM "LinearSearchModel" 208 m_Mo_go.1 := Or.inl (lt_m5 150 rfl rfl)
theorem lm_Mo_192 : lt_lkM "LinearSearchModel" 192 m_Mo_take.1 := Or.inl (lt_m5 154 rfl rfl)
theorem lm_Mo_195 : lt_lkM "LinearSearchModel" 195 m_Mo_note.1 := Or.inl (lt_m5 158 rfl rfl)
theorem lm_Mo_198 : lt_lkM "LinearSearchModel" 198 m_Mo_isRight.1 := Or.inl (lt_m5 162 rfl rfl)
theorem lm_Mo_254 : lt_lkM "LinearSearchModel" 254 m_Mo_runMarks.1 := Or.inl (lt_m5 166 rfl rfl)
theorem lm_Mo_211 : lt_lkM "LinearSearchModel" 211 m_Mo_runThread.1 := Or.inl (lt_m5 170 rfl rfl)
theorem lm_Mo_257 : lt_lkM "LinearSearchModel" 257 m_Mo_runStates.1 := Or.inl (lt_m5 174 rfl rfl)
theorem lm_Mo_248 : lt_lkM "LinearSearchModel" 248 m_Mo_endByStates.1 := Or.inl (lt_m5 178 rfl rfl)
theorem lm_Mo_239 : lt_lkM "LinearSearchModel" 239 m_Mo_firstState.1 := Or.inl (lt_m5 182 rfl rfl)
theorem lm_Mo_228 : lt_lkM "LinearSearchModel" 228 m_Mo_followRow.1 := Or.inl (lt_m5 186 rfl rfl)
theorem lm_Mo_217 : lt_lkM "LinearSearchModel" 217 m_Mo_hasFound.1 := Or.inl (lt_m5 190 rfl rfl)
theorem lm_Mo_232 : lt_lkM "LinearSearchModel" 232 m_Mo_stateOf.1 := Or.inl (lt_m5 194 rfl rfl)
theorem lm_Mo_221 : lt_lkM "LinearSearchModel" 221 m_Mo_isRow.1 := Or.inl (lt_m5 198 rfl rfl)
theorem lm_Mo_236 : lt_lkM "LinearSearchModel" 236 m_Mo_isFinal.1 := Or.inl (lt_m5 202 rfl rfl)
theorem lm_Mo_242 : lt_lkM "LinearSearchModel" 242 m_Mo_endsBehind.1 := Or.inl (lt_m5 206 rfl rfl)
theorem lm_Mo_245 : lt_lkM "LinearSearchModel" 245 m_Mo_nextState.1 := Or.inl (lt_m5 210 rfl rfl)
theorem lm_Mo_260 : lt_lkM "LinearSearchModel" 260 m_Mo_runSingle.1 := Or.inl (lt_m5 214 rfl rfl)
theorem in_obj : Cond.instanceMethod Lib.objectInit ∈ lt_T := lt_m1 27 rfl rfl
theorem co_obj : Cond.code Lib.objectInit ⟨#[0xb1]⟩ 1 none ∈ lt_T := lt_m1 28 rfl rfl
theorem mm_st : Cond.static Lib.Math.max.name ∈ lt_T := lt_m2 10 rfl rfl
theorem mm_in : Cond.initialized "java/lang/Math" ∈ lt_T := lt_m1 12 rfl rfl
theorem mm_co : Cond.code Lib.Math.max.name Lib.Math.max.code 2 (some .int) ∈ lt_T := lt_m2 11 rfl rfl
end
section
/-! SMALL LAWS for the decompiler's proofs -/
theorem x_b {α β : Type} {o : Option α} {f : α → Option β} {b : β} (h : o.bind f = some b) : ∃ a, o = some a ∧ f a = some b := by
  cases o with
  | none => cases h
  | some a => exact ⟨a, rfl, h⟩
theorem x_nm {α β : Type} {a : α} {f : α → Option β} {b : β} (h : (some a).bind f = some b) : f a = some b := h
theorem x_ifp {α : Type} {c : Prop} [Decidable c] {A B r : α} (hc : c) (h : (if c then A else B) = r) : A = r := by
  rw [if_pos hc] at h; exact h
theorem x_ifn {α : Type} {c : Prop} [Decidable c] {A B r : α} (hc : ¬ c) (h : (if c then A else B) = r) : B = r := by
  rw [if_neg hc] at h; exact h
def x_z (v : Int32) : Option Int32 := if v = 0 ∨ v = 1 then some v else none
theorem x_z_some {v z : Int32} (h : x_z v = some z) : v = z ∧ (v = 0 ∨ v = 1) := by
  unfold x_z at h
  split at h
  · next hz => cases h; exact ⟨rfl, hz⟩
  · cases h
theorem x_zn {v : Int32} (h : v = 0 ∨ v = 1) : narrow .boolean (.int v) = .int v := by
  rcases h with rfl | rfl <;> decide
def lk_at (pc0 : Nat) (lo0 : List (Nat × mV)) (st0 : List mV) (σ0 : hv_S) (mc0 ms0 : Nat) : Nat → List (Nat × mV) → List mV → hv_S → Nat → Nat → Prop := fun pc lo st σ mc ms => pc = pc0 ∧ lo = lo0 ∧ st = st0 ∧ σ = σ0 ∧ mc = mc0 ∧ ms = ms0
def lt_kd (ty : FieldType) : Nat := match ty with
  | .long => 1
  | .object _ => 2
  | .array _ => 2
  | .float => 3
  | .double => 3
  | _ => 0
section LKO
variable {G : lt_G} {μ : lt_M} {d pc : Nat} {lo lo' : List (Nat × mV)} {st : List mV} {σ : hv_S} {mc ms : Nat} {X : Nat → List (Nat × mV) → List mV → hv_S → Nat → Nat → Prop}
/-- a join: the slots that stay live, what is new among them, what stands new on the stack behind k popped values -/
theorem Lk.joinA {lo1 : List (Nat × mV)} (J : Nat) (is : List Nat) (up : List (Nat × mV)) (hk : mk_sel (up ++ lo) is = some lo1) (k : Nat) (new : List mV) (h : Lk G μ d pc lo st σ mc ms (lk_at J lo1 (new ++ st.drop k) σ mc ms)) (kk : Lk G μ d J lo1 (new ++ st.drop k) σ mc ms X) : Lk G μ d pc lo st σ mc ms X :=
  Lk.trans h (fun pc' lo' st' σ' mc' ms' hy => by obtain ⟨rfl, rfl, rfl, rfl, rfl, rfl⟩ := hy; exact kk)
theorem Lk.joinS {lo1 : List (Nat × mV)} (J : Nat) (is : List Nat) (up : List (Nat × mV)) (hk : mk_sel (up ++ lo) is = some lo1) (k : Nat) (new : List mV) (σ1 : hv_S) (h : Lk G μ d pc lo st σ mc ms (lk_at J lo1 (new ++ st.drop k) σ1 mc ms)) (kk : Lk G μ d J lo1 (new ++ st.drop k) σ1 mc ms X) : Lk G μ d pc lo st σ mc ms X :=
  Lk.trans h (fun pc' lo' st' σ' mc' ms' hy => by obtain ⟨rfl, rfl, rfl, rfl, rfl, rfl⟩ := hy; exact kk)
theorem lk_getI {a ci k idx : Nat} {r : Option Nat} {C : String} {T : u_T} {N : Nat} (hd : decode μ.2.1 pc = .ok (.getfield idx, 3)) (hx : x_ob σ ci r = some a) (hci : ci < 1000) (hcl : lt_cl[ci]? = some (C, T, N)) (hk : k < N) (hlk : lt_lkF μ.1.cls idx (T k)) (hty : lt_kd (lt_ty ci k) = 0) (kk : Lk G μ d (pc + 3) lo (vI (hv_I σ a k) :: st) σ mc ms X) : Lk G μ d pc lo (vR r :: st) σ mc ms X :=
  lk_get hd hx hci hcl hk hlk (by cases h : lt_ty ci k <;> first | rfl | (rw [h] at hty; cases hty)) kk
theorem lk_getJ {a ci k idx : Nat} {r : Option Nat} {C : String} {T : u_T} {N : Nat} (hd : decode μ.2.1 pc = .ok (.getfield idx, 3)) (hx : x_ob σ ci r = some a) (hci : ci < 1000) (hcl : lt_cl[ci]? = some (C, T, N)) (hk : k < N) (hlk : lt_lkF μ.1.cls idx (T k)) (hty : lt_kd (lt_ty ci k) = 1) (kk : Lk G μ d (pc + 3) lo (vJ (hv_J σ a k) :: st) σ mc ms X) : Lk G μ d pc lo (vR r :: st) σ mc ms X :=
  lk_get hd hx hci hcl hk hlk (by cases h : lt_ty ci k <;> first | rfl | (rw [h] at hty; cases hty)) kk
theorem lk_getR {a ci k idx : Nat} {r : Option Nat} {C : String} {T : u_T} {N : Nat} (hd : decode μ.2.1 pc = .ok (.getfield idx, 3)) (hx : x_ob σ ci r = some a) (hci : ci < 1000) (hcl : lt_cl[ci]? = some (C, T, N)) (hk : k < N) (hlk : lt_lkF μ.1.cls idx (T k)) (hty : lt_kd (lt_ty ci k) = 2) (kk : Lk G μ d (pc + 3) lo (vR (hv_R σ a k) :: st) σ mc ms X) : Lk G μ d pc lo (vR r :: st) σ mc ms X :=
  lk_get hd hx hci hcl hk hlk (by cases h : lt_ty ci k <;> first | rfl | (rw [h] at hty; cases hty)) kk
theorem lk_callV0 {μ' : lt_M} {d' : Nat} {as st0 : List mV} {σ1 : hv_S} {r : Option mV} {ci b idx : Nat} {rr : Option Nat} {C : String} {T : u_T} {N : Nat} (hd : decode μ.2.1 pc = .ok (.invokevirtual idx, 3)) (hx : x_ob σ ci rr = some b) (hct : Ck G μ' d' 0 0 (vR (some b) :: as) σ r σ1) (hdd : d' + 1 ≤ d) (hst : st0 = as.reverse ++ vR rr :: st) (hM : lt_M0 μ' as.length) (hlk : lt_lkM μ.1.cls idx μ'.1) (hin : Cond.instanceMethod μ'.1 ∈ lt_T) (hse : Cond.selects C μ'.1 μ'.1 ∈ lt_T)
    (hci : ci < 1000) (hcl : lt_cl[ci]? = some (C, T, N)) (hcat : (st.map mcat).sum ≤ 8) (kk : Lk G μ d (pc + 3) lo (r.toList ++ st) σ1 0 0 X) : Lk G μ d pc lo st0 σ 0 0 X := lk_callV (mc := 0) (ms := 0) hd hx hct hdd hst hM hlk hin hse hci hcl hcat kk
theorem lk_callS0 {μ' : lt_M} {d' : Nat} {as st0 : List mV} {σ1 : hv_S} {r : Option mV} {idx : Nat} (hd : decode μ.2.1 pc = .ok (.invokestatic idx, 3)) (hct : Ck G μ' d' 0 0 as σ r σ1) (hdd : d' + 1 ≤ d) (hst : st0 = as.reverse ++ st) (hM : lt_M0 μ' as.length) (hlk : lt_lkM μ.1.cls idx μ'.1) (hstc : Cond.static μ'.1 ∈ lt_T)
    (hcat : (st.map mcat).sum ≤ 8) (kk : Lk G μ d (pc + 3) lo (r.toList ++ st) σ1 0 0 X) : Lk G μ d pc lo st0 σ 0 0 X := lk_callS (mc := 0) (ms := 0) hd hct hdd hst hM hlk hstc hcat kk
theorem lk_mmax {idx : Nat} {x y : Int32} (hd : decode μ.2.1 pc = .ok (.invokestatic idx, 3)) (hlk : Cond.methodLink μ.1.cls idx Lib.Math.max.name ∈ lt_T) (hst : Cond.static Lib.Math.max.name ∈ lt_T) (hini : Cond.initialized "java/lang/Math" ∈ lt_T) (hco : Cond.code Lib.Math.max.name Lib.Math.max.code 2 (some .int) ∈ lt_T) (hdd : 1 ≤ d) (hcat : (st.map mcat).sum ≤ 8) (kk : Lk G μ d (pc + 3) lo (vI (if x < y then y else x) :: st) σ mc ms X) : Lk G μ d pc lo (vI y :: vI x :: st) σ mc ms X := by
  intro p l e R s m args below meth c hC A hA Q hX H locs cells slots ls hl hH h1 h2
  have kk' := kk p l e R s m args below meth c hC A hA Q hX H locs cells slots ls hl hH h1 h2
  obtain ⟨hx, hb, -, hml, hown, hts, hnw, hK, -, -, hfr, hlo⟩ := hC
  exact va_mmax hx hb (by rw [hml]; exact hl.1.symm) hown (hts _ hlk) (hts _ hst) (hts _ hini) (hts _ hco) (by omega) (by rw [mk_cats]; omega) (by omega) (by omega) hd kk'
end LKO
end
section
/-! WHAT THE METHODS DO: partial functions f_ over the view, loops L_, and the proofs c_, l_ that the bytecode does so; printed by wip/whole/gen_dec.py -/
def f_Tx_add (z0 : Nat) (x1 : Int32) (s : hv_S) : Option (Int32 × hv_S) :=
  (some (x1 - (97 : Int32))).bind fun y1 =>
  if y1 < 0 then
    some ((0, s))
  else
    if 8 ≤ y1 then
      some ((0, s))
    else
      (x_ob s 2 ((some z0))).bind fun a2 =>
      if (hv_I s a2 1) < 0 then
        some ((0, s))
      else
        (x_ar s 0 (hv_R s a2 0)).bind fun q3 =>
        if (hv_I s a2 1) < (nI q3.2) then
          (x_ix q3.2 (hv_I s a2 1)).bind fun k4 =>
          (some (hv_setI s q3.1 k4 y1)).bind fun s5 =>
          (some (hv_setI s5 a2 1 ((hv_I s5 a2 1) + (1 : Int32)))).bind fun s6 =>
          some ((1, s6))
        else
          some ((0, s))
set_option maxRecDepth 4000 in
set_option maxHeartbeats 2000000 in
theorem c_Tx_add {G : lt_G} {z0 : Nat} {x1 : Int32} {s : hv_S} {p : Int32 × hv_S} (h : f_Tx_add z0 x1 s = some p) : Ck G m_Tx_add 1 0 0 [vR (some z0), vI x1] s (some (vI p.1)) p.2 := by
  refine Ck.of (by decide) (Nat.le_of_ble_eq_true rfl) ?_
  unfold f_Tx_add at h
  refine lk_iload_n d_Tx_add_0 rfl ?_
  refine lk_bipush (v := 97) d_Tx_add_1 rfl ?_
  refine lk_isub d_Tx_add_3 ?_
  replace h := x_nm h
  refine lk_istore_n d_Tx_add_4 (by decide) rfl ?_
  refine lk_iload_n d_Tx_add_5 rfl ?_
  refine lk_if_lt (tgt := 34) d_Tx_add_6 (by decide) (fun hc => ?_) (fun hc => ?_)
  · replace h := x_ifp hc h
    refine lk_iconst (v := 0) d_Tx_add_34 rfl ?_
    cases h
    exact Lk.stop ⟨rfl, Or.inr (Or.inl ⟨_, _, d_Tx_add_35, rfl, rfl, rfl, rfl⟩)⟩
  · replace h := x_ifn hc h
    refine lk_iload_n d_Tx_add_9 rfl ?_
    refine lk_bipush (v := 8) d_Tx_add_10 rfl ?_
    refine lk_icmp_ge (tgt := 34) d_Tx_add_12 (by decide) (fun hc => ?_) (fun hc => ?_)
    · replace h := x_ifp hc h
      refine lk_iconst (v := 0) d_Tx_add_34 rfl ?_
      cases h
      exact Lk.stop ⟨rfl, Or.inr (Or.inl ⟨_, _, d_Tx_add_35, rfl, rfl, rfl, rfl⟩)⟩
    · replace h := x_ifn hc h
      refine lk_aload_n d_Tx_add_15 rfl ?_
      obtain ⟨a2, ha2, h⟩ := x_b h
      refine lk_getI (k := 1) d_Tx_add_16 ha2 (by decide) rfl (by decide) lf_Tx_15 rfl ?_
      refine lk_if_lt (tgt := 34) d_Tx_add_19 (by decide) (fun hc => ?_) (fun hc => ?_)
      · replace h := x_ifp hc h
        refine lk_iconst (v := 0) d_Tx_add_34 rfl ?_
        cases h
        exact Lk.stop ⟨rfl, Or.inr (Or.inl ⟨_, _, d_Tx_add_35, rfl, rfl, rfl, rfl⟩)⟩
      · replace h := x_ifn hc h
        refine lk_aload_n d_Tx_add_22 rfl ?_
        refine lk_getI (k := 1) d_Tx_add_23 ha2 (by decide) rfl (by decide) lf_Tx_15 rfl ?_
        refine lk_aload_n d_Tx_add_26 rfl ?_
        refine lk_getR (k := 0) d_Tx_add_27 ha2 (by decide) rfl (by decide) lf_Tx_9 rfl ?_
        obtain ⟨q3, hq3, h⟩ := x_b h
        refine lk_alen d_Tx_add_30 hq3 (by decide) ?_
        refine lk_icmp_lt (tgt := 36) d_Tx_add_31 (by decide) (fun hc => ?_) (fun hc => ?_)
        · replace h := x_ifp hc h
          refine lk_aload_n d_Tx_add_36 rfl ?_
          refine lk_getR (k := 0) d_Tx_add_37 ha2 (by decide) rfl (by decide) lf_Tx_9 rfl ?_
          refine lk_aload_n d_Tx_add_40 rfl ?_
          refine lk_getI (k := 1) d_Tx_add_41 ha2 (by decide) rfl (by decide) lf_Tx_15 rfl ?_
          refine lk_iload_n d_Tx_add_44 rfl ?_
          obtain ⟨k4, hk4, h⟩ := x_b h
          replace h := x_nm h
          refine lk_iast d_Tx_add_45 hq3 hk4 ?_
          refine lk_aload_n d_Tx_add_46 rfl ?_
          refine lk_dup d_Tx_add_47 rfl ?_
          refine lk_getI (k := 1) d_Tx_add_48 ha2 (by decide) rfl (by decide) lf_Tx_15 rfl ?_
          refine lk_iconst (v := 1) d_Tx_add_51 rfl ?_
          refine lk_iadd d_Tx_add_52 ?_
          replace h := x_nm h
          refine lk_putI (k := 1) d_Tx_add_53 ha2 (by decide) rfl (by decide) lf_Tx_15 rfl rfl ?_
          refine lk_iconst (v := 1) d_Tx_add_56 rfl ?_
          cases h
          exact Lk.stop ⟨rfl, Or.inr (Or.inl ⟨_, _, d_Tx_add_57, rfl, rfl, rfl, rfl⟩)⟩
        · replace h := x_ifn hc h
          refine lk_iconst (v := 0) d_Tx_add_34 rfl ?_
          cases h
          exact Lk.stop ⟨rfl, Or.inr (Or.inl ⟨_, _, d_Tx_add_35, rfl, rfl, rfl, rfl⟩)⟩
def f_Tx_empty (z0 : Nat) (s : hv_S) : Option (hv_S) :=
  (x_ob s 2 ((some z0))).bind fun a1 =>
  (some (hv_setI s a1 1 0)).bind fun s2 =>
  some s2
set_option maxRecDepth 4000 in
set_option maxHeartbeats 2000000 in
theorem c_Tx_empty {G : lt_G} {z0 : Nat} {s : hv_S} {p : hv_S} (h : f_Tx_empty z0 s = some p) : Ck G m_Tx_empty 1 0 0 [vR (some z0)] s none p := by
  refine Ck.of (by decide) (Nat.le_of_ble_eq_true rfl) ?_
  unfold f_Tx_empty at h
  refine lk_aload_n d_Tx_empty_0 rfl ?_
  refine lk_iconst (v := 0) d_Tx_empty_1 rfl ?_
  obtain ⟨a1, ha1, h⟩ := x_b h
  replace h := x_nm h
  refine lk_putI (k := 1) d_Tx_empty_2 ha1 (by decide) rfl (by decide) lf_Tx_15 rfl rfl ?_
  cases h
  exact Lk.stop ⟨rfl, Or.inl ⟨d_Tx_empty_5, rfl, rfl, rfl⟩⟩
def f_Tx_length (z0 : Nat) (s : hv_S) : Option (Int32 × hv_S) :=
  (x_ob s 2 ((some z0))).bind fun a1 =>
  some ((hv_I s a1 1, s))
set_option maxRecDepth 4000 in
set_option maxHeartbeats 2000000 in
theorem c_Tx_length {G : lt_G} {z0 : Nat} {s : hv_S} {p : Int32 × hv_S} (h : f_Tx_length z0 s = some p) : Ck G m_Tx_length 1 0 0 [vR (some z0)] s (some (vI p.1)) p.2 := by
  refine Ck.of (by decide) (Nat.le_of_ble_eq_true rfl) ?_
  unfold f_Tx_length at h
  refine lk_aload_n d_Tx_length_0 rfl ?_
  obtain ⟨a1, ha1, h⟩ := x_b h
  refine lk_getI (k := 1) d_Tx_length_1 ha1 (by decide) rfl (by decide) lf_Tx_15 rfl ?_
  cases h
  exact Lk.stop ⟨rfl, Or.inr (Or.inl ⟨_, _, d_Tx_length_4, rfl, rfl, rfl, rfl⟩)⟩
def f_Tx_letterAt (z0 : Nat) (x1 : Int32) (s : hv_S) : Option (Int32 × hv_S) :=
  ((
    if x1 < 0 then
      some ((-1))
    else
      (x_ob s 2 ((some z0))).bind fun a1 =>
      if (hv_I s a1 1) ≤ x1 then
        some ((-1))
      else
        (x_ar s 0 (hv_R s a1 0)).bind fun q2 =>
        if (nI q2.2) ≤ x1 then
          some ((-1))
        else
          (x_ix q2.2 x1).bind fun k3 =>
          some (hv_I s q2.1 k3)
  ) : Option (Int32)).bind fun t4 =>
  some ((t4, s))
set_option maxRecDepth 4000 in
set_option maxHeartbeats 2000000 in
theorem c_Tx_letterAt {G : lt_G} {z0 : Nat} {x1 : Int32} {s : hv_S} {p : Int32 × hv_S} (h : f_Tx_letterAt z0 x1 s = some p) : Ck G m_Tx_letterAt 1 0 0 [vR (some z0), vI x1] s (some (vI p.1)) p.2 := by
  refine Ck.of (by decide) (Nat.le_of_ble_eq_true rfl) ?_
  unfold f_Tx_letterAt at h
  refine lk_iload_n d_Tx_letterAt_0 rfl ?_
  obtain ⟨t4, hj, h⟩ := x_b h
  refine Lk.joinA 31 [] [] rfl 1 [vI t4] ?_ ?_
  · replace h := hj
    refine lk_if_lt (tgt := 30) d_Tx_letterAt_1 (by decide) (fun hc => ?_) (fun hc => ?_)
    · replace h := x_ifp hc h
      refine lk_iconst (v := (-1)) d_Tx_letterAt_30 rfl ?_
      cases h
      refine Lk.sel [] rfl ?_
      exact Lk.stop ⟨rfl, rfl, rfl, rfl, rfl, rfl⟩
    · replace h := x_ifn hc h
      refine lk_iload_n d_Tx_letterAt_4 rfl ?_
      refine lk_aload_n d_Tx_letterAt_5 rfl ?_
      obtain ⟨a1, ha1, h⟩ := x_b h
      refine lk_getI (k := 1) d_Tx_letterAt_6 ha1 (by decide) rfl (by decide) lf_Tx_15 rfl ?_
      refine lk_icmp_ge (tgt := 30) d_Tx_letterAt_9 (by decide) (fun hc => ?_) (fun hc => ?_)
      · replace h := x_ifp hc h
        refine lk_iconst (v := (-1)) d_Tx_letterAt_30 rfl ?_
        cases h
        refine Lk.sel [] rfl ?_
        exact Lk.stop ⟨rfl, rfl, rfl, rfl, rfl, rfl⟩
      · replace h := x_ifn hc h
        refine lk_iload_n d_Tx_letterAt_12 rfl ?_
        refine lk_aload_n d_Tx_letterAt_13 rfl ?_
        refine lk_getR (k := 0) d_Tx_letterAt_14 ha1 (by decide) rfl (by decide) lf_Tx_9 rfl ?_
        obtain ⟨q2, hq2, h⟩ := x_b h
        refine lk_alen d_Tx_letterAt_17 hq2 (by decide) ?_
        refine lk_icmp_ge (tgt := 30) d_Tx_letterAt_18 (by decide) (fun hc => ?_) (fun hc => ?_)
        · replace h := x_ifp hc h
          refine lk_iconst (v := (-1)) d_Tx_letterAt_30 rfl ?_
          cases h
          refine Lk.sel [] rfl ?_
          exact Lk.stop ⟨rfl, rfl, rfl, rfl, rfl, rfl⟩
        · replace h := x_ifn hc h
          refine lk_aload_n d_Tx_letterAt_21 rfl ?_
          refine lk_getR (k := 0) d_Tx_letterAt_22 ha1 (by decide) rfl (by decide) lf_Tx_9 rfl ?_
          refine lk_iload_n d_Tx_letterAt_25 rfl ?_
          obtain ⟨k3, hk3, h⟩ := x_b h
          refine lk_iald d_Tx_letterAt_26 hq2 hk3 ?_
          refine lk_goto (tgt := 31) d_Tx_letterAt_27 (by decide) ?_
          cases h
          refine Lk.sel [] rfl ?_
          exact Lk.stop ⟨rfl, rfl, rfl, rfl, rfl, rfl⟩
  · clear hj
    cases h
    exact Lk.stop ⟨rfl, Or.inr (Or.inl ⟨_, _, d_Tx_letterAt_31, rfl, rfl, rfl, rfl⟩)⟩
def f_TL_empty (z0 : Nat) (s : hv_S) : Option (hv_S) :=
  (x_ob s 5 ((some z0))).bind fun a1 =>
  (some (hv_setI s a1 2 0)).bind fun s2 =>
  some s2
set_option maxRecDepth 4000 in
set_option maxHeartbeats 2000000 in
theorem c_TL_empty {G : lt_G} {z0 : Nat} {s : hv_S} {p : hv_S} (h : f_TL_empty z0 s = some p) : Ck G m_TL_empty 1 0 0 [vR (some z0)] s none p := by
  refine Ck.of (by decide) (Nat.le_of_ble_eq_true rfl) ?_
  unfold f_TL_empty at h
  refine lk_aload_n d_TL_empty_0 rfl ?_
  refine lk_iconst (v := 0) d_TL_empty_1 rfl ?_
  obtain ⟨a1, ha1, h⟩ := x_b h
  replace h := x_nm h
  refine lk_putI (k := 2) d_TL_empty_2 ha1 (by decide) rfl (by decide) lf_TL_19 rfl rfl ?_
  cases h
  exact Lk.stop ⟨rfl, Or.inl ⟨d_TL_empty_5, rfl, rfl, rfl⟩⟩
def f_TL_size (z0 : Nat) (s : hv_S) : Option (Int32 × hv_S) :=
  (x_ob s 5 ((some z0))).bind fun a1 =>
  some ((hv_I s a1 2, s))
set_option maxRecDepth 4000 in
set_option maxHeartbeats 2000000 in
theorem c_TL_size {G : lt_G} {z0 : Nat} {s : hv_S} {p : Int32 × hv_S} (h : f_TL_size z0 s = some p) : Ck G m_TL_size 1 0 0 [vR (some z0)] s (some (vI p.1)) p.2 := by
  refine Ck.of (by decide) (Nat.le_of_ble_eq_true rfl) ?_
  unfold f_TL_size at h
  refine lk_aload_n d_TL_size_0 rfl ?_
  obtain ⟨a1, ha1, h⟩ := x_b h
  refine lk_getI (k := 2) d_TL_size_1 ha1 (by decide) rfl (by decide) lf_TL_19 rfl ?_
  cases h
  exact Lk.stop ⟨rfl, Or.inr (Or.inl ⟨_, _, d_TL_size_4, rfl, rfl, rfl, rfl⟩)⟩
def f_TL_add (z0 : Nat) (x1 : Int32) (w2 : Int64) (s : hv_S) : Option (hv_S) :=
  (x_ob s 5 ((some z0))).bind fun a1 =>
  ((
    if (hv_I s a1 2) < 0 then
      some s
    else
      if 25 ≤ (hv_I s a1 2) then
        some s
      else
        (x_ar s 0 (hv_R s a1 0)).bind fun q2 =>
        (x_ix q2.2 (hv_I s a1 2)).bind fun k3 =>
        (some (hv_setI s q2.1 k3 x1)).bind fun s4 =>
        (x_ar s4 1 (hv_R s4 a1 1)).bind fun q5 =>
        (x_ix q5.2 (hv_I s4 a1 2)).bind fun k6 =>
        (some (hv_setJ s4 q5.1 k6 w2)).bind fun s7 =>
        (some (hv_setI s7 a1 2 ((hv_I s7 a1 2) + (1 : Int32)))).bind fun s8 =>
        some s8
  ) : Option (hv_S)).bind fun t9 =>
  some t9
set_option maxRecDepth 4000 in
set_option maxHeartbeats 2000000 in
theorem c_TL_add {G : lt_G} {z0 : Nat} {x1 : Int32} {w2 : Int64} {s : hv_S} {p : hv_S} (h : f_TL_add z0 x1 w2 s = some p) : Ck G m_TL_add 1 0 0 [vR (some z0), vI x1, vJ w2] s none p := by
  refine Ck.of (by decide) (Nat.le_of_ble_eq_true rfl) ?_
  unfold f_TL_add at h
  refine lk_aload_n d_TL_add_0 rfl ?_
  obtain ⟨a1, ha1, h⟩ := x_b h
  refine lk_getI (k := 2) d_TL_add_1 ha1 (by decide) rfl (by decide) lf_TL_19 rfl ?_
  obtain ⟨t9, hj, h⟩ := x_b h
  refine Lk.joinS 46 [] [] rfl 1 [] t9 ?_ ?_
  · replace h := hj
    refine lk_if_lt (tgt := 46) d_TL_add_4 (by decide) (fun hc => ?_) (fun hc => ?_)
    · replace h := x_ifp hc h
      cases h
      refine Lk.sel [] rfl ?_
      exact Lk.stop ⟨rfl, rfl, rfl, rfl, rfl, rfl⟩
    · replace h := x_ifn hc h
      refine lk_aload_n d_TL_add_7 rfl ?_
      refine lk_getI (k := 2) d_TL_add_8 ha1 (by decide) rfl (by decide) lf_TL_19 rfl ?_
      refine lk_bipush (v := 25) d_TL_add_11 rfl ?_
      refine lk_icmp_ge (tgt := 46) d_TL_add_13 (by decide) (fun hc => ?_) (fun hc => ?_)
      · replace h := x_ifp hc h
        cases h
        refine Lk.sel [] rfl ?_
        exact Lk.stop ⟨rfl, rfl, rfl, rfl, rfl, rfl⟩
      · replace h := x_ifn hc h
        refine lk_aload_n d_TL_add_16 rfl ?_
        refine lk_getR (k := 0) d_TL_add_17 ha1 (by decide) rfl (by decide) lf_TL_9 rfl ?_
        refine lk_aload_n d_TL_add_20 rfl ?_
        refine lk_getI (k := 2) d_TL_add_21 ha1 (by decide) rfl (by decide) lf_TL_19 rfl ?_
        refine lk_iload_n d_TL_add_24 rfl ?_
        obtain ⟨q2, hq2, h⟩ := x_b h
        obtain ⟨k3, hk3, h⟩ := x_b h
        replace h := x_nm h
        refine lk_iast d_TL_add_25 hq2 hk3 ?_
        refine lk_aload_n d_TL_add_26 rfl ?_
        refine lk_getR (k := 1) d_TL_add_27 ha1 (by decide) rfl (by decide) lf_TL_15 rfl ?_
        refine lk_aload_n d_TL_add_30 rfl ?_
        refine lk_getI (k := 2) d_TL_add_31 ha1 (by decide) rfl (by decide) lf_TL_19 rfl ?_
        refine lk_lload_n d_TL_add_34 rfl ?_
        obtain ⟨q5, hq5, h⟩ := x_b h
        obtain ⟨k6, hk6, h⟩ := x_b h
        replace h := x_nm h
        refine lk_last d_TL_add_35 hq5 hk6 ?_
        refine lk_aload_n d_TL_add_36 rfl ?_
        refine lk_dup d_TL_add_37 rfl ?_
        refine lk_getI (k := 2) d_TL_add_38 ha1 (by decide) rfl (by decide) lf_TL_19 rfl ?_
        refine lk_iconst (v := 1) d_TL_add_41 rfl ?_
        refine lk_iadd d_TL_add_42 ?_
        replace h := x_nm h
        refine lk_putI (k := 2) d_TL_add_43 ha1 (by decide) rfl (by decide) lf_TL_19 rfl rfl ?_
        cases h
        refine Lk.sel [] rfl ?_
        exact Lk.stop ⟨rfl, rfl, rfl, rfl, rfl, rfl⟩
  · clear hj
    cases h
    exact Lk.stop ⟨rfl, Or.inl ⟨d_TL_add_46, rfl, rfl, rfl⟩⟩
def f_TL_instructionAt (z0 : Nat) (x1 : Int32) (s : hv_S) : Option (Int32 × hv_S) :=
  ((
    if x1 < 0 then
      some ((-1))
    else
      (x_ob s 5 ((some z0))).bind fun a1 =>
      if (hv_I s a1 2) ≤ x1 then
        some ((-1))
      else
        if 25 ≤ x1 then
          some ((-1))
        else
          (x_ar s 0 (hv_R s a1 0)).bind fun q2 =>
          (x_ix q2.2 x1).bind fun k3 =>
          some (hv_I s q2.1 k3)
  ) : Option (Int32)).bind fun t4 =>
  some ((t4, s))
set_option maxRecDepth 4000 in
set_option maxHeartbeats 2000000 in
theorem c_TL_instructionAt {G : lt_G} {z0 : Nat} {x1 : Int32} {s : hv_S} {p : Int32 × hv_S} (h : f_TL_instructionAt z0 x1 s = some p) : Ck G m_TL_instructionAt 1 0 0 [vR (some z0), vI x1] s (some (vI p.1)) p.2 := by
  refine Ck.of (by decide) (Nat.le_of_ble_eq_true rfl) ?_
  unfold f_TL_instructionAt at h
  refine lk_iload_n d_TL_instructionAt_0 rfl ?_
  obtain ⟨t4, hj, h⟩ := x_b h
  refine Lk.joinA 28 [] [] rfl 1 [vI t4] ?_ ?_
  · replace h := hj
    refine lk_if_lt (tgt := 27) d_TL_instructionAt_1 (by decide) (fun hc => ?_) (fun hc => ?_)
    · replace h := x_ifp hc h
      refine lk_iconst (v := (-1)) d_TL_instructionAt_27 rfl ?_
      cases h
      refine Lk.sel [] rfl ?_
      exact Lk.stop ⟨rfl, rfl, rfl, rfl, rfl, rfl⟩
    · replace h := x_ifn hc h
      refine lk_iload_n d_TL_instructionAt_4 rfl ?_
      refine lk_aload_n d_TL_instructionAt_5 rfl ?_
      obtain ⟨a1, ha1, h⟩ := x_b h
      refine lk_getI (k := 2) d_TL_instructionAt_6 ha1 (by decide) rfl (by decide) lf_TL_19 rfl ?_
      refine lk_icmp_ge (tgt := 27) d_TL_instructionAt_9 (by decide) (fun hc => ?_) (fun hc => ?_)
      · replace h := x_ifp hc h
        refine lk_iconst (v := (-1)) d_TL_instructionAt_27 rfl ?_
        cases h
        refine Lk.sel [] rfl ?_
        exact Lk.stop ⟨rfl, rfl, rfl, rfl, rfl, rfl⟩
      · replace h := x_ifn hc h
        refine lk_iload_n d_TL_instructionAt_12 rfl ?_
        refine lk_bipush (v := 25) d_TL_instructionAt_13 rfl ?_
        refine lk_icmp_ge (tgt := 27) d_TL_instructionAt_15 (by decide) (fun hc => ?_) (fun hc => ?_)
        · replace h := x_ifp hc h
          refine lk_iconst (v := (-1)) d_TL_instructionAt_27 rfl ?_
          cases h
          refine Lk.sel [] rfl ?_
          exact Lk.stop ⟨rfl, rfl, rfl, rfl, rfl, rfl⟩
        · replace h := x_ifn hc h
          refine lk_aload_n d_TL_instructionAt_18 rfl ?_
          refine lk_getR (k := 0) d_TL_instructionAt_19 ha1 (by decide) rfl (by decide) lf_TL_9 rfl ?_
          refine lk_iload_n d_TL_instructionAt_22 rfl ?_
          obtain ⟨q2, hq2, h⟩ := x_b h
          obtain ⟨k3, hk3, h⟩ := x_b h
          refine lk_iald d_TL_instructionAt_23 hq2 hk3 ?_
          refine lk_goto (tgt := 28) d_TL_instructionAt_24 (by decide) ?_
          cases h
          refine Lk.sel [] rfl ?_
          exact Lk.stop ⟨rfl, rfl, rfl, rfl, rfl, rfl⟩
  · clear hj
    cases h
    exact Lk.stop ⟨rfl, Or.inr (Or.inl ⟨_, _, d_TL_instructionAt_28, rfl, rfl, rfl, rfl⟩)⟩
def f_TL_slotsAt (z0 : Nat) (x1 : Int32) (s : hv_S) : Option (Int64 × hv_S) :=
  ((
    if x1 < 0 then
      some 0
    else
      (x_ob s 5 ((some z0))).bind fun a1 =>
      if (hv_I s a1 2) ≤ x1 then
        some 0
      else
        if 25 ≤ x1 then
          some 0
        else
          (x_ar s 1 (hv_R s a1 1)).bind fun q2 =>
          (x_ix q2.2 x1).bind fun k3 =>
          some (hv_J s q2.1 k3)
  ) : Option (Int64)).bind fun t4 =>
  some ((t4, s))
set_option maxRecDepth 4000 in
set_option maxHeartbeats 2000000 in
theorem c_TL_slotsAt {G : lt_G} {z0 : Nat} {x1 : Int32} {s : hv_S} {p : Int64 × hv_S} (h : f_TL_slotsAt z0 x1 s = some p) : Ck G m_TL_slotsAt 1 0 0 [vR (some z0), vI x1] s (some (vJ p.1)) p.2 := by
  refine Ck.of (by decide) (Nat.le_of_ble_eq_true rfl) ?_
  unfold f_TL_slotsAt at h
  refine lk_iload_n d_TL_slotsAt_0 rfl ?_
  obtain ⟨t4, hj, h⟩ := x_b h
  refine Lk.joinA 28 [] [] rfl 1 [vJ t4] ?_ ?_
  · replace h := hj
    refine lk_if_lt (tgt := 27) d_TL_slotsAt_1 (by decide) (fun hc => ?_) (fun hc => ?_)
    · replace h := x_ifp hc h
      refine lk_lconst (v := 0) d_TL_slotsAt_27 rfl ?_
      cases h
      refine Lk.sel [] rfl ?_
      exact Lk.stop ⟨rfl, rfl, rfl, rfl, rfl, rfl⟩
    · replace h := x_ifn hc h
      refine lk_iload_n d_TL_slotsAt_4 rfl ?_
      refine lk_aload_n d_TL_slotsAt_5 rfl ?_
      obtain ⟨a1, ha1, h⟩ := x_b h
      refine lk_getI (k := 2) d_TL_slotsAt_6 ha1 (by decide) rfl (by decide) lf_TL_19 rfl ?_
      refine lk_icmp_ge (tgt := 27) d_TL_slotsAt_9 (by decide) (fun hc => ?_) (fun hc => ?_)
      · replace h := x_ifp hc h
        refine lk_lconst (v := 0) d_TL_slotsAt_27 rfl ?_
        cases h
        refine Lk.sel [] rfl ?_
        exact Lk.stop ⟨rfl, rfl, rfl, rfl, rfl, rfl⟩
      · replace h := x_ifn hc h
        refine lk_iload_n d_TL_slotsAt_12 rfl ?_
        refine lk_bipush (v := 25) d_TL_slotsAt_13 rfl ?_
        refine lk_icmp_ge (tgt := 27) d_TL_slotsAt_15 (by decide) (fun hc => ?_) (fun hc => ?_)
        · replace h := x_ifp hc h
          refine lk_lconst (v := 0) d_TL_slotsAt_27 rfl ?_
          cases h
          refine Lk.sel [] rfl ?_
          exact Lk.stop ⟨rfl, rfl, rfl, rfl, rfl, rfl⟩
        · replace h := x_ifn hc h
          refine lk_aload_n d_TL_slotsAt_18 rfl ?_
          refine lk_getR (k := 1) d_TL_slotsAt_19 ha1 (by decide) rfl (by decide) lf_TL_15 rfl ?_
          refine lk_iload_n d_TL_slotsAt_22 rfl ?_
          obtain ⟨q2, hq2, h⟩ := x_b h
          obtain ⟨k3, hk3, h⟩ := x_b h
          refine lk_lald d_TL_slotsAt_23 hq2 hk3 ?_
          refine lk_goto (tgt := 28) d_TL_slotsAt_24 (by decide) ?_
          cases h
          refine Lk.sel [] rfl ?_
          exact Lk.stop ⟨rfl, rfl, rfl, rfl, rfl, rfl⟩
  · clear hj
    cases h
    exact Lk.stop ⟨rfl, Or.inr (Or.inr (Or.inl ⟨_, d_TL_slotsAt_28, rfl, rfl, rfl⟩))⟩
def f_Pr_empty (z0 : Nat) (s : hv_S) : Option (hv_S) :=
  (x_ob s 8 ((some z0))).bind fun a1 =>
  (some (hv_setI s a1 3 0)).bind fun s2 =>
  some s2
set_option maxRecDepth 4000 in
set_option maxHeartbeats 2000000 in
theorem c_Pr_empty {G : lt_G} {z0 : Nat} {s : hv_S} {p : hv_S} (h : f_Pr_empty z0 s = some p) : Ck G m_Pr_empty 1 0 0 [vR (some z0)] s none p := by
  refine Ck.of (by decide) (Nat.le_of_ble_eq_true rfl) ?_
  unfold f_Pr_empty at h
  refine lk_aload_n d_Pr_empty_0 rfl ?_
  refine lk_iconst (v := 0) d_Pr_empty_1 rfl ?_
  obtain ⟨a1, ha1, h⟩ := x_b h
  replace h := x_nm h
  refine lk_putI (k := 3) d_Pr_empty_2 ha1 (by decide) rfl (by decide) lf_Pr_21 rfl rfl ?_
  cases h
  exact Lk.stop ⟨rfl, Or.inl ⟨d_Pr_empty_5, rfl, rfl, rfl⟩⟩
def f_Pr_size (z0 : Nat) (s : hv_S) : Option (Int32 × hv_S) :=
  (x_ob s 8 ((some z0))).bind fun a1 =>
  some ((hv_I s a1 3, s))
set_option maxRecDepth 4000 in
set_option maxHeartbeats 2000000 in
theorem c_Pr_size {G : lt_G} {z0 : Nat} {s : hv_S} {p : Int32 × hv_S} (h : f_Pr_size z0 s = some p) : Ck G m_Pr_size 1 0 0 [vR (some z0)] s (some (vI p.1)) p.2 := by
  refine Ck.of (by decide) (Nat.le_of_ble_eq_true rfl) ?_
  unfold f_Pr_size at h
  refine lk_aload_n d_Pr_size_0 rfl ?_
  obtain ⟨a1, ha1, h⟩ := x_b h
  refine lk_getI (k := 3) d_Pr_size_1 ha1 (by decide) rfl (by decide) lf_Pr_21 rfl ?_
  cases h
  exact Lk.stop ⟨rfl, Or.inr (Or.inl ⟨_, _, d_Pr_size_4, rfl, rfl, rfl, rfl⟩)⟩
def f_Pr_kindAt (z0 : Nat) (x1 : Int32) (s : hv_S) : Option (Int32 × hv_S) :=
  ((
    if x1 < 0 then
      some ((-1))
    else
      (x_ob s 8 ((some z0))).bind fun a1 =>
      if (hv_I s a1 3) ≤ x1 then
        some ((-1))
      else
        if 49 ≤ x1 then
          some ((-1))
        else
          (x_ar s 0 (hv_R s a1 0)).bind fun q2 =>
          (x_ix q2.2 x1).bind fun k3 =>
          some (hv_I s q2.1 k3)
  ) : Option (Int32)).bind fun t4 =>
  some ((t4, s))
set_option maxRecDepth 4000 in
set_option maxHeartbeats 2000000 in
theorem c_Pr_kindAt {G : lt_G} {z0 : Nat} {x1 : Int32} {s : hv_S} {p : Int32 × hv_S} (h : f_Pr_kindAt z0 x1 s = some p) : Ck G m_Pr_kindAt 1 0 0 [vR (some z0), vI x1] s (some (vI p.1)) p.2 := by
  refine Ck.of (by decide) (Nat.le_of_ble_eq_true rfl) ?_
  unfold f_Pr_kindAt at h
  refine lk_iload_n d_Pr_kindAt_0 rfl ?_
  obtain ⟨t4, hj, h⟩ := x_b h
  refine Lk.joinA 28 [] [] rfl 1 [vI t4] ?_ ?_
  · replace h := hj
    refine lk_if_lt (tgt := 27) d_Pr_kindAt_1 (by decide) (fun hc => ?_) (fun hc => ?_)
    · replace h := x_ifp hc h
      refine lk_iconst (v := (-1)) d_Pr_kindAt_27 rfl ?_
      cases h
      refine Lk.sel [] rfl ?_
      exact Lk.stop ⟨rfl, rfl, rfl, rfl, rfl, rfl⟩
    · replace h := x_ifn hc h
      refine lk_iload_n d_Pr_kindAt_4 rfl ?_
      refine lk_aload_n d_Pr_kindAt_5 rfl ?_
      obtain ⟨a1, ha1, h⟩ := x_b h
      refine lk_getI (k := 3) d_Pr_kindAt_6 ha1 (by decide) rfl (by decide) lf_Pr_21 rfl ?_
      refine lk_icmp_ge (tgt := 27) d_Pr_kindAt_9 (by decide) (fun hc => ?_) (fun hc => ?_)
      · replace h := x_ifp hc h
        refine lk_iconst (v := (-1)) d_Pr_kindAt_27 rfl ?_
        cases h
        refine Lk.sel [] rfl ?_
        exact Lk.stop ⟨rfl, rfl, rfl, rfl, rfl, rfl⟩
      · replace h := x_ifn hc h
        refine lk_iload_n d_Pr_kindAt_12 rfl ?_
        refine lk_bipush (v := 49) d_Pr_kindAt_13 rfl ?_
        refine lk_icmp_ge (tgt := 27) d_Pr_kindAt_15 (by decide) (fun hc => ?_) (fun hc => ?_)
        · replace h := x_ifp hc h
          refine lk_iconst (v := (-1)) d_Pr_kindAt_27 rfl ?_
          cases h
          refine Lk.sel [] rfl ?_
          exact Lk.stop ⟨rfl, rfl, rfl, rfl, rfl, rfl⟩
        · replace h := x_ifn hc h
          refine lk_aload_n d_Pr_kindAt_18 rfl ?_
          refine lk_getR (k := 0) d_Pr_kindAt_19 ha1 (by decide) rfl (by decide) lf_Pr_9 rfl ?_
          refine lk_iload_n d_Pr_kindAt_22 rfl ?_
          obtain ⟨q2, hq2, h⟩ := x_b h
          obtain ⟨k3, hk3, h⟩ := x_b h
          refine lk_iald d_Pr_kindAt_23 hq2 hk3 ?_
          refine lk_goto (tgt := 28) d_Pr_kindAt_24 (by decide) ?_
          cases h
          refine Lk.sel [] rfl ?_
          exact Lk.stop ⟨rfl, rfl, rfl, rfl, rfl, rfl⟩
  · clear hj
    cases h
    exact Lk.stop ⟨rfl, Or.inr (Or.inl ⟨_, _, d_Pr_kindAt_28, rfl, rfl, rfl, rfl⟩)⟩
def f_Pr_xAt (z0 : Nat) (x1 : Int32) (s : hv_S) : Option (Int32 × hv_S) :=
  ((
    if x1 < 0 then
      some 0
    else
      (x_ob s 8 ((some z0))).bind fun a1 =>
      if (hv_I s a1 3) ≤ x1 then
        some 0
      else
        if 49 ≤ x1 then
          some 0
        else
          (x_ar s 0 (hv_R s a1 1)).bind fun q2 =>
          (x_ix q2.2 x1).bind fun k3 =>
          some (hv_I s q2.1 k3)
  ) : Option (Int32)).bind fun t4 =>
  some ((t4, s))
set_option maxRecDepth 4000 in
set_option maxHeartbeats 2000000 in
theorem c_Pr_xAt {G : lt_G} {z0 : Nat} {x1 : Int32} {s : hv_S} {p : Int32 × hv_S} (h : f_Pr_xAt z0 x1 s = some p) : Ck G m_Pr_xAt 1 0 0 [vR (some z0), vI x1] s (some (vI p.1)) p.2 := by
  refine Ck.of (by decide) (Nat.le_of_ble_eq_true rfl) ?_
  unfold f_Pr_xAt at h
  refine lk_iload_n d_Pr_xAt_0 rfl ?_
  obtain ⟨t4, hj, h⟩ := x_b h
  refine Lk.joinA 28 [] [] rfl 1 [vI t4] ?_ ?_
  · replace h := hj
    refine lk_if_lt (tgt := 27) d_Pr_xAt_1 (by decide) (fun hc => ?_) (fun hc => ?_)
    · replace h := x_ifp hc h
      refine lk_iconst (v := 0) d_Pr_xAt_27 rfl ?_
      cases h
      refine Lk.sel [] rfl ?_
      exact Lk.stop ⟨rfl, rfl, rfl, rfl, rfl, rfl⟩
    · replace h := x_ifn hc h
      refine lk_iload_n d_Pr_xAt_4 rfl ?_
      refine lk_aload_n d_Pr_xAt_5 rfl ?_
      obtain ⟨a1, ha1, h⟩ := x_b h
      refine lk_getI (k := 3) d_Pr_xAt_6 ha1 (by decide) rfl (by decide) lf_Pr_21 rfl ?_
      refine lk_icmp_ge (tgt := 27) d_Pr_xAt_9 (by decide) (fun hc => ?_) (fun hc => ?_)
      · replace h := x_ifp hc h
        refine lk_iconst (v := 0) d_Pr_xAt_27 rfl ?_
        cases h
        refine Lk.sel [] rfl ?_
        exact Lk.stop ⟨rfl, rfl, rfl, rfl, rfl, rfl⟩
      · replace h := x_ifn hc h
        refine lk_iload_n d_Pr_xAt_12 rfl ?_
        refine lk_bipush (v := 49) d_Pr_xAt_13 rfl ?_
        refine lk_icmp_ge (tgt := 27) d_Pr_xAt_15 (by decide) (fun hc => ?_) (fun hc => ?_)
        · replace h := x_ifp hc h
          refine lk_iconst (v := 0) d_Pr_xAt_27 rfl ?_
          cases h
          refine Lk.sel [] rfl ?_
          exact Lk.stop ⟨rfl, rfl, rfl, rfl, rfl, rfl⟩
        · replace h := x_ifn hc h
          refine lk_aload_n d_Pr_xAt_18 rfl ?_
          refine lk_getR (k := 1) d_Pr_xAt_19 ha1 (by decide) rfl (by decide) lf_Pr_15 rfl ?_
          refine lk_iload_n d_Pr_xAt_22 rfl ?_
          obtain ⟨q2, hq2, h⟩ := x_b h
          obtain ⟨k3, hk3, h⟩ := x_b h
          refine lk_iald d_Pr_xAt_23 hq2 hk3 ?_
          refine lk_goto (tgt := 28) d_Pr_xAt_24 (by decide) ?_
          cases h
          refine Lk.sel [] rfl ?_
          exact Lk.stop ⟨rfl, rfl, rfl, rfl, rfl, rfl⟩
  · clear hj
    cases h
    exact Lk.stop ⟨rfl, Or.inr (Or.inl ⟨_, _, d_Pr_xAt_28, rfl, rfl, rfl, rfl⟩)⟩
def f_Pr_yAt (z0 : Nat) (x1 : Int32) (s : hv_S) : Option (Int32 × hv_S) :=
  ((
    if x1 < 0 then
      some 0
    else
      (x_ob s 8 ((some z0))).bind fun a1 =>
      if (hv_I s a1 3) ≤ x1 then
        some 0
      else
        if 49 ≤ x1 then
          some 0
        else
          (x_ar s 0 (hv_R s a1 2)).bind fun q2 =>
          (x_ix q2.2 x1).bind fun k3 =>
          some (hv_I s q2.1 k3)
  ) : Option (Int32)).bind fun t4 =>
  some ((t4, s))
set_option maxRecDepth 4000 in
set_option maxHeartbeats 2000000 in
theorem c_Pr_yAt {G : lt_G} {z0 : Nat} {x1 : Int32} {s : hv_S} {p : Int32 × hv_S} (h : f_Pr_yAt z0 x1 s = some p) : Ck G m_Pr_yAt 1 0 0 [vR (some z0), vI x1] s (some (vI p.1)) p.2 := by
  refine Ck.of (by decide) (Nat.le_of_ble_eq_true rfl) ?_
  unfold f_Pr_yAt at h
  refine lk_iload_n d_Pr_yAt_0 rfl ?_
  obtain ⟨t4, hj, h⟩ := x_b h
  refine Lk.joinA 28 [] [] rfl 1 [vI t4] ?_ ?_
  · replace h := hj
    refine lk_if_lt (tgt := 27) d_Pr_yAt_1 (by decide) (fun hc => ?_) (fun hc => ?_)
    · replace h := x_ifp hc h
      refine lk_iconst (v := 0) d_Pr_yAt_27 rfl ?_
      cases h
      refine Lk.sel [] rfl ?_
      exact Lk.stop ⟨rfl, rfl, rfl, rfl, rfl, rfl⟩
    · replace h := x_ifn hc h
      refine lk_iload_n d_Pr_yAt_4 rfl ?_
      refine lk_aload_n d_Pr_yAt_5 rfl ?_
      obtain ⟨a1, ha1, h⟩ := x_b h
      refine lk_getI (k := 3) d_Pr_yAt_6 ha1 (by decide) rfl (by decide) lf_Pr_21 rfl ?_
      refine lk_icmp_ge (tgt := 27) d_Pr_yAt_9 (by decide) (fun hc => ?_) (fun hc => ?_)
      · replace h := x_ifp hc h
        refine lk_iconst (v := 0) d_Pr_yAt_27 rfl ?_
        cases h
        refine Lk.sel [] rfl ?_
        exact Lk.stop ⟨rfl, rfl, rfl, rfl, rfl, rfl⟩
      · replace h := x_ifn hc h
        refine lk_iload_n d_Pr_yAt_12 rfl ?_
        refine lk_bipush (v := 49) d_Pr_yAt_13 rfl ?_
        refine lk_icmp_ge (tgt := 27) d_Pr_yAt_15 (by decide) (fun hc => ?_) (fun hc => ?_)
        · replace h := x_ifp hc h
          refine lk_iconst (v := 0) d_Pr_yAt_27 rfl ?_
          cases h
          refine Lk.sel [] rfl ?_
          exact Lk.stop ⟨rfl, rfl, rfl, rfl, rfl, rfl⟩
        · replace h := x_ifn hc h
          refine lk_aload_n d_Pr_yAt_18 rfl ?_
          refine lk_getR (k := 2) d_Pr_yAt_19 ha1 (by decide) rfl (by decide) lf_Pr_18 rfl ?_
          refine lk_iload_n d_Pr_yAt_22 rfl ?_
          obtain ⟨q2, hq2, h⟩ := x_b h
          obtain ⟨k3, hk3, h⟩ := x_b h
          refine lk_iald d_Pr_yAt_23 hq2 hk3 ?_
          refine lk_goto (tgt := 28) d_Pr_yAt_24 (by decide) ?_
          cases h
          refine Lk.sel [] rfl ?_
          exact Lk.stop ⟨rfl, rfl, rfl, rfl, rfl, rfl⟩
  · clear hj
    cases h
    exact Lk.stop ⟨rfl, Or.inr (Or.inl ⟨_, _, d_Pr_yAt_28, rfl, rfl, rfl, rfl⟩)⟩
def f_Pr_takes (z0 : Nat) (x1 : Int32) (x2 : Int32) (s : hv_S) : Option (Int32 × hv_S) :=
  (x_ob s 8 ((some z0))).bind fun a1 =>
  (f_Pr_kindAt a1 x1 s).bind fun p2 =>
  ((
    if x2 = ((-1)) then
      some (0, p2.2)
    else
      if p2.1 = 1 then
        some (1, p2.2)
      else
        if p2.1 = 0 then
          (x_ob p2.2 8 ((some z0))).bind fun a3 =>
          (f_Pr_xAt a3 x1 p2.2).bind fun p4 =>
          if p4.1 = x2 then
            some (1, p4.2)
          else
            some (0, p4.2)
        else
          some (0, p2.2)
  ) : Option (Int32 × hv_S)).bind fun t5 =>
  (x_z t5.1).bind fun z6 =>
  some ((z6, t5.2))
set_option maxRecDepth 4000 in
set_option maxHeartbeats 2000000 in
theorem c_Pr_takes {G : lt_G} {z0 : Nat} {x1 : Int32} {x2 : Int32} {s : hv_S} {p : Int32 × hv_S} (h : f_Pr_takes z0 x1 x2 s = some p) : Ck G m_Pr_takes 2 0 0 [vR (some z0), vI x1, vI x2] s (some (vI p.1)) p.2 := by
  refine Ck.of (by decide) (Nat.le_of_ble_eq_true rfl) ?_
  unfold f_Pr_takes at h
  refine lk_aload_n d_Pr_takes_0 rfl ?_
  refine lk_iload_n d_Pr_takes_1 rfl ?_
  obtain ⟨a1, ha1, h⟩ := x_b h
  obtain ⟨p2, hp2, h⟩ := x_b h
  refine lk_callV0 d_Pr_takes_2 ha1 (c_Pr_kindAt hp2) (Nat.le_of_ble_eq_true rfl) rfl M_Pr_kindAt lm_Pr_25 in_Pr_kindAt se_Pr_kindAt (by decide) rfl (Nat.le_of_ble_eq_true rfl) ?_
  refine lk_istore_n d_Pr_takes_5 (by decide) rfl ?_
  refine lk_iload_n d_Pr_takes_6 rfl ?_
  refine lk_iconst (v := (-1)) d_Pr_takes_7 rfl ?_
  obtain ⟨t5, hj, h⟩ := x_b h
  refine Lk.joinS 34 [] [] rfl 2 [vI t5.1] t5.2 ?_ ?_
  · replace h := hj
    refine lk_icmp_eq (tgt := 33) d_Pr_takes_8 (by decide) (fun hc => ?_) (fun hc => ?_)
    · replace h := x_ifp hc h
      refine lk_iconst (v := 0) d_Pr_takes_33 rfl ?_
      cases h
      refine Lk.sel [] rfl ?_
      exact Lk.stop ⟨rfl, rfl, rfl, rfl, rfl, rfl⟩
    · replace h := x_ifn hc h
      refine lk_iload_n d_Pr_takes_11 rfl ?_
      refine lk_iconst (v := 1) d_Pr_takes_12 rfl ?_
      refine lk_icmp_eq (tgt := 29) d_Pr_takes_13 (by decide) (fun hc => ?_) (fun hc => ?_)
      · replace h := x_ifp hc h
        refine lk_iconst (v := 1) d_Pr_takes_29 rfl ?_
        refine lk_goto (tgt := 34) d_Pr_takes_30 (by decide) ?_
        cases h
        refine Lk.sel [] rfl ?_
        exact Lk.stop ⟨rfl, rfl, rfl, rfl, rfl, rfl⟩
      · replace h := x_ifn hc h
        refine lk_iload_n d_Pr_takes_16 rfl ?_
        refine lk_if_ne (tgt := 33) d_Pr_takes_17 (by decide) (fun hc => ?_) (fun hc => ?_)
        · replace h := x_ifn hc h
          refine lk_iconst (v := 0) d_Pr_takes_33 rfl ?_
          cases h
          refine Lk.sel [] rfl ?_
          exact Lk.stop ⟨rfl, rfl, rfl, rfl, rfl, rfl⟩
        · replace h := x_ifp hc h
          refine lk_aload_n d_Pr_takes_20 rfl ?_
          refine lk_iload_n d_Pr_takes_21 rfl ?_
          obtain ⟨a3, ha3, h⟩ := x_b h
          obtain ⟨p4, hp4, h⟩ := x_b h
          refine lk_callV0 d_Pr_takes_22 ha3 (c_Pr_xAt hp4) (Nat.le_of_ble_eq_true rfl) rfl M_Pr_xAt lm_Pr_29 in_Pr_xAt se_Pr_xAt (by decide) rfl (Nat.le_of_ble_eq_true rfl) ?_
          refine lk_iload_n d_Pr_takes_25 rfl ?_
          refine lk_icmp_ne (tgt := 33) d_Pr_takes_26 (by decide) (fun hc => ?_) (fun hc => ?_)
          · replace h := x_ifn hc h
            refine lk_iconst (v := 0) d_Pr_takes_33 rfl ?_
            cases h
            refine Lk.sel [] rfl ?_
            exact Lk.stop ⟨rfl, rfl, rfl, rfl, rfl, rfl⟩
          · replace h := x_ifp hc h
            refine lk_iconst (v := 1) d_Pr_takes_29 rfl ?_
            refine lk_goto (tgt := 34) d_Pr_takes_30 (by decide) ?_
            cases h
            refine Lk.sel [] rfl ?_
            exact Lk.stop ⟨rfl, rfl, rfl, rfl, rfl, rfl⟩
  · clear hj
    obtain ⟨z6, hz60, h⟩ := x_b h
    obtain ⟨rfl, hz6⟩ := x_z_some hz60
    cases h
    exact Lk.stop ⟨rfl, Or.inr (Or.inl ⟨_, _, d_Pr_takes_34, rfl, x_zn hz6, rfl, rfl⟩)⟩
def f_Pr_readsLetter (z0 : Nat) (x1 : Int32) (s : hv_S) : Option (Int32 × hv_S) :=
  (x_ob s 8 ((some z0))).bind fun a1 =>
  (f_Pr_kindAt a1 x1 s).bind fun p2 =>
  ((
    if p2.1 = 0 then
      some 1
    else
      if p2.1 = 1 then
        some 1
      else
        some 0
  ) : Option (Int32)).bind fun t3 =>
  (x_z t3).bind fun z4 =>
  some ((z4, p2.2))
set_option maxRecDepth 4000 in
set_option maxHeartbeats 2000000 in
theorem c_Pr_readsLetter {G : lt_G} {z0 : Nat} {x1 : Int32} {s : hv_S} {p : Int32 × hv_S} (h : f_Pr_readsLetter z0 x1 s = some p) : Ck G m_Pr_readsLetter 2 0 0 [vR (some z0), vI x1] s (some (vI p.1)) p.2 := by
  refine Ck.of (by decide) (Nat.le_of_ble_eq_true rfl) ?_
  unfold f_Pr_readsLetter at h
  refine lk_aload_n d_Pr_readsLetter_0 rfl ?_
  refine lk_iload_n d_Pr_readsLetter_1 rfl ?_
  obtain ⟨a1, ha1, h⟩ := x_b h
  obtain ⟨p2, hp2, h⟩ := x_b h
  refine lk_callV0 d_Pr_readsLetter_2 ha1 (c_Pr_kindAt hp2) (Nat.le_of_ble_eq_true rfl) rfl M_Pr_kindAt lm_Pr_25 in_Pr_kindAt se_Pr_kindAt (by decide) rfl (Nat.le_of_ble_eq_true rfl) ?_
  refine lk_istore_n d_Pr_readsLetter_5 (by decide) rfl ?_
  refine lk_iload_n d_Pr_readsLetter_6 rfl ?_
  obtain ⟨t3, hj, h⟩ := x_b h
  refine Lk.joinA 20 [] [] rfl 1 [vI t3] ?_ ?_
  · replace h := hj
    refine lk_if_eq (tgt := 15) d_Pr_readsLetter_7 (by decide) (fun hc => ?_) (fun hc => ?_)
    · replace h := x_ifp hc h
      refine lk_iconst (v := 1) d_Pr_readsLetter_15 rfl ?_
      refine lk_goto (tgt := 20) d_Pr_readsLetter_16 (by decide) ?_
      cases h
      refine Lk.sel [] rfl ?_
      exact Lk.stop ⟨rfl, rfl, rfl, rfl, rfl, rfl⟩
    · replace h := x_ifn hc h
      refine lk_iload_n d_Pr_readsLetter_10 rfl ?_
      refine lk_iconst (v := 1) d_Pr_readsLetter_11 rfl ?_
      refine lk_icmp_ne (tgt := 19) d_Pr_readsLetter_12 (by decide) (fun hc => ?_) (fun hc => ?_)
      · replace h := x_ifn hc h
        refine lk_iconst (v := 0) d_Pr_readsLetter_19 rfl ?_
        cases h
        refine Lk.sel [] rfl ?_
        exact Lk.stop ⟨rfl, rfl, rfl, rfl, rfl, rfl⟩
      · replace h := x_ifp hc h
        refine lk_iconst (v := 1) d_Pr_readsLetter_15 rfl ?_
        refine lk_goto (tgt := 20) d_Pr_readsLetter_16 (by decide) ?_
        cases h
        refine Lk.sel [] rfl ?_
        exact Lk.stop ⟨rfl, rfl, rfl, rfl, rfl, rfl⟩
  · clear hj
    obtain ⟨z4, hz40, h⟩ := x_b h
    obtain ⟨rfl, hz4⟩ := x_z_some hz40
    cases h
    exact Lk.stop ⟨rfl, Or.inr (Or.inl ⟨_, _, d_Pr_readsLetter_20, rfl, x_zn hz4, rfl, rfl⟩)⟩
def f_Pr_add (z0 : Nat) (x1 : Int32) (x2 : Int32) (s : hv_S) : Option (hv_S) :=
  (x_ob s 8 ((some z0))).bind fun a1 =>
  ((
    if (hv_I s a1 3) < 0 then
      some s
    else
      if 49 ≤ (hv_I s a1 3) then
        some s
      else
        (x_ar s 0 (hv_R s a1 0)).bind fun q2 =>
        (x_ix q2.2 (hv_I s a1 3)).bind fun k3 =>
        (some (hv_setI s q2.1 k3 x1)).bind fun s4 =>
        (x_ar s4 0 (hv_R s4 a1 1)).bind fun q5 =>
        (x_ix q5.2 (hv_I s4 a1 3)).bind fun k6 =>
        (some (hv_setI s4 q5.1 k6 x2)).bind fun s7 =>
        (x_ar s7 0 (hv_R s7 a1 2)).bind fun q8 =>
        (x_ix q8.2 (hv_I s7 a1 3)).bind fun k9 =>
        (some (hv_setI s7 q8.1 k9 0)).bind fun s10 =>
        (some (hv_setI s10 a1 3 ((hv_I s10 a1 3) + (1 : Int32)))).bind fun s11 =>
        some s11
  ) : Option (hv_S)).bind fun t12 =>
  some t12
set_option maxRecDepth 4000 in
set_option maxHeartbeats 2000000 in
theorem c_Pr_add {G : lt_G} {z0 : Nat} {x1 : Int32} {x2 : Int32} {s : hv_S} {p : hv_S} (h : f_Pr_add z0 x1 x2 s = some p) : Ck G m_Pr_add 1 0 0 [vR (some z0), vI x1, vI x2] s none p := by
  refine Ck.of (by decide) (Nat.le_of_ble_eq_true rfl) ?_
  unfold f_Pr_add at h
  refine lk_aload_n d_Pr_add_0 rfl ?_
  obtain ⟨a1, ha1, h⟩ := x_b h
  refine lk_getI (k := 3) d_Pr_add_1 ha1 (by decide) rfl (by decide) lf_Pr_21 rfl ?_
  obtain ⟨t12, hj, h⟩ := x_b h
  refine Lk.joinS 56 [] [] rfl 1 [] t12 ?_ ?_
  · replace h := hj
    refine lk_if_lt (tgt := 56) d_Pr_add_4 (by decide) (fun hc => ?_) (fun hc => ?_)
    · replace h := x_ifp hc h
      cases h
      refine Lk.sel [] rfl ?_
      exact Lk.stop ⟨rfl, rfl, rfl, rfl, rfl, rfl⟩
    · replace h := x_ifn hc h
      refine lk_aload_n d_Pr_add_7 rfl ?_
      refine lk_getI (k := 3) d_Pr_add_8 ha1 (by decide) rfl (by decide) lf_Pr_21 rfl ?_
      refine lk_bipush (v := 49) d_Pr_add_11 rfl ?_
      refine lk_icmp_ge (tgt := 56) d_Pr_add_13 (by decide) (fun hc => ?_) (fun hc => ?_)
      · replace h := x_ifp hc h
        cases h
        refine Lk.sel [] rfl ?_
        exact Lk.stop ⟨rfl, rfl, rfl, rfl, rfl, rfl⟩
      · replace h := x_ifn hc h
        refine lk_aload_n d_Pr_add_16 rfl ?_
        refine lk_getR (k := 0) d_Pr_add_17 ha1 (by decide) rfl (by decide) lf_Pr_9 rfl ?_
        refine lk_aload_n d_Pr_add_20 rfl ?_
        refine lk_getI (k := 3) d_Pr_add_21 ha1 (by decide) rfl (by decide) lf_Pr_21 rfl ?_
        refine lk_iload_n d_Pr_add_24 rfl ?_
        obtain ⟨q2, hq2, h⟩ := x_b h
        obtain ⟨k3, hk3, h⟩ := x_b h
        replace h := x_nm h
        refine lk_iast d_Pr_add_25 hq2 hk3 ?_
        refine lk_aload_n d_Pr_add_26 rfl ?_
        refine lk_getR (k := 1) d_Pr_add_27 ha1 (by decide) rfl (by decide) lf_Pr_15 rfl ?_
        refine lk_aload_n d_Pr_add_30 rfl ?_
        refine lk_getI (k := 3) d_Pr_add_31 ha1 (by decide) rfl (by decide) lf_Pr_21 rfl ?_
        refine lk_iload_n d_Pr_add_34 rfl ?_
        obtain ⟨q5, hq5, h⟩ := x_b h
        obtain ⟨k6, hk6, h⟩ := x_b h
        replace h := x_nm h
        refine lk_iast d_Pr_add_35 hq5 hk6 ?_
        refine lk_aload_n d_Pr_add_36 rfl ?_
        refine lk_getR (k := 2) d_Pr_add_37 ha1 (by decide) rfl (by decide) lf_Pr_18 rfl ?_
        refine lk_aload_n d_Pr_add_40 rfl ?_
        refine lk_getI (k := 3) d_Pr_add_41 ha1 (by decide) rfl (by decide) lf_Pr_21 rfl ?_
        refine lk_iconst (v := 0) d_Pr_add_44 rfl ?_
        obtain ⟨q8, hq8, h⟩ := x_b h
        obtain ⟨k9, hk9, h⟩ := x_b h
        replace h := x_nm h
        refine lk_iast d_Pr_add_45 hq8 hk9 ?_
        refine lk_aload_n d_Pr_add_46 rfl ?_
        refine lk_dup d_Pr_add_47 rfl ?_
        refine lk_getI (k := 3) d_Pr_add_48 ha1 (by decide) rfl (by decide) lf_Pr_21 rfl ?_
        refine lk_iconst (v := 1) d_Pr_add_51 rfl ?_
        refine lk_iadd d_Pr_add_52 ?_
        replace h := x_nm h
        refine lk_putI (k := 3) d_Pr_add_53 ha1 (by decide) rfl (by decide) lf_Pr_21 rfl rfl ?_
        cases h
        refine Lk.sel [] rfl ?_
        exact Lk.stop ⟨rfl, rfl, rfl, rfl, rfl, rfl⟩
  · clear hj
    cases h
    exact Lk.stop ⟨rfl, Or.inl ⟨d_Pr_add_56, rfl, rfl, rfl⟩⟩
def f_Pr_addOpenGo (z0 : Nat) (s : hv_S) : Option (hv_S) :=
  (x_ob s 8 ((some z0))).bind fun a1 =>
  (f_Pr_add a1 3 ((-1)) s).bind fun p2 =>
  some p2
set_option maxRecDepth 4000 in
set_option maxHeartbeats 2000000 in
theorem c_Pr_addOpenGo {G : lt_G} {z0 : Nat} {s : hv_S} {p : hv_S} (h : f_Pr_addOpenGo z0 s = some p) : Ck G m_Pr_addOpenGo 2 0 0 [vR (some z0)] s none p := by
  refine Ck.of (by decide) (Nat.le_of_ble_eq_true rfl) ?_
  unfold f_Pr_addOpenGo at h
  refine lk_aload_n d_Pr_addOpenGo_0 rfl ?_
  refine lk_iconst (v := 3) d_Pr_addOpenGo_1 rfl ?_
  refine lk_iconst (v := (-1)) d_Pr_addOpenGo_2 rfl ?_
  obtain ⟨a1, ha1, h⟩ := x_b h
  obtain ⟨p2, hp2, h⟩ := x_b h
  refine lk_callV0 d_Pr_addOpenGo_3 ha1 (c_Pr_add hp2) (Nat.le_of_ble_eq_true rfl) rfl M_Pr_add lm_Pr_32 in_Pr_add se_Pr_add (by decide) rfl (Nat.le_of_ble_eq_true rfl) ?_
  cases h
  exact Lk.stop ⟨rfl, Or.inl ⟨d_Pr_addOpenGo_6, rfl, rfl, rfl⟩⟩
def f_Pr_aimSplit (z0 : Nat) (x1 : Int32) (x2 : Int32) (x3 : Int32) (s : hv_S) : Option (hv_S) :=
  ((
    if x1 < 0 then
      some s
    else
      (x_ob s 8 ((some z0))).bind fun a1 =>
      if (hv_I s a1 3) ≤ x1 then
        some s
      else
        if 49 ≤ x1 then
          some s
        else
          (x_ar s 0 (hv_R s a1 1)).bind fun q2 =>
          (x_ix q2.2 x1).bind fun k3 =>
          (some (hv_setI s q2.1 k3 x2)).bind fun s4 =>
          (x_ar s4 0 (hv_R s4 a1 2)).bind fun q5 =>
          (x_ix q5.2 x1).bind fun k6 =>
          (some (hv_setI s4 q5.1 k6 x3)).bind fun s7 =>
          some s7
  ) : Option (hv_S)).bind fun t8 =>
  some t8
set_option maxRecDepth 4000 in
set_option maxHeartbeats 2000000 in
theorem c_Pr_aimSplit {G : lt_G} {z0 : Nat} {x1 : Int32} {x2 : Int32} {x3 : Int32} {s : hv_S} {p : hv_S} (h : f_Pr_aimSplit z0 x1 x2 x3 s = some p) : Ck G m_Pr_aimSplit 1 0 0 [vR (some z0), vI x1, vI x2, vI x3] s none p := by
  refine Ck.of (by decide) (Nat.le_of_ble_eq_true rfl) ?_
  unfold f_Pr_aimSplit at h
  refine lk_iload_n d_Pr_aimSplit_0 rfl ?_
  obtain ⟨t8, hj, h⟩ := x_b h
  refine Lk.joinS 32 [] [] rfl 1 [] t8 ?_ ?_
  · replace h := hj
    refine lk_if_lt (tgt := 32) d_Pr_aimSplit_1 (by decide) (fun hc => ?_) (fun hc => ?_)
    · replace h := x_ifp hc h
      cases h
      refine Lk.sel [] rfl ?_
      exact Lk.stop ⟨rfl, rfl, rfl, rfl, rfl, rfl⟩
    · replace h := x_ifn hc h
      refine lk_iload_n d_Pr_aimSplit_4 rfl ?_
      refine lk_aload_n d_Pr_aimSplit_5 rfl ?_
      obtain ⟨a1, ha1, h⟩ := x_b h
      refine lk_getI (k := 3) d_Pr_aimSplit_6 ha1 (by decide) rfl (by decide) lf_Pr_21 rfl ?_
      refine lk_icmp_ge (tgt := 32) d_Pr_aimSplit_9 (by decide) (fun hc => ?_) (fun hc => ?_)
      · replace h := x_ifp hc h
        cases h
        refine Lk.sel [] rfl ?_
        exact Lk.stop ⟨rfl, rfl, rfl, rfl, rfl, rfl⟩
      · replace h := x_ifn hc h
        refine lk_iload_n d_Pr_aimSplit_12 rfl ?_
        refine lk_bipush (v := 49) d_Pr_aimSplit_13 rfl ?_
        refine lk_icmp_ge (tgt := 32) d_Pr_aimSplit_15 (by decide) (fun hc => ?_) (fun hc => ?_)
        · replace h := x_ifp hc h
          cases h
          refine Lk.sel [] rfl ?_
          exact Lk.stop ⟨rfl, rfl, rfl, rfl, rfl, rfl⟩
        · replace h := x_ifn hc h
          refine lk_aload_n d_Pr_aimSplit_18 rfl ?_
          refine lk_getR (k := 1) d_Pr_aimSplit_19 ha1 (by decide) rfl (by decide) lf_Pr_15 rfl ?_
          refine lk_iload_n d_Pr_aimSplit_22 rfl ?_
          refine lk_iload_n d_Pr_aimSplit_23 rfl ?_
          obtain ⟨q2, hq2, h⟩ := x_b h
          obtain ⟨k3, hk3, h⟩ := x_b h
          replace h := x_nm h
          refine lk_iast d_Pr_aimSplit_24 hq2 hk3 ?_
          refine lk_aload_n d_Pr_aimSplit_25 rfl ?_
          refine lk_getR (k := 2) d_Pr_aimSplit_26 ha1 (by decide) rfl (by decide) lf_Pr_18 rfl ?_
          refine lk_iload_n d_Pr_aimSplit_29 rfl ?_
          refine lk_iload_n d_Pr_aimSplit_30 rfl ?_
          obtain ⟨q5, hq5, h⟩ := x_b h
          obtain ⟨k6, hk6, h⟩ := x_b h
          replace h := x_nm h
          refine lk_iast d_Pr_aimSplit_31 hq5 hk6 ?_
          cases h
          refine Lk.sel [] rfl ?_
          exact Lk.stop ⟨rfl, rfl, rfl, rfl, rfl, rfl⟩
  · clear hj
    cases h
    exact Lk.stop ⟨rfl, Or.inl ⟨d_Pr_aimSplit_32, rfl, rfl, rfl⟩⟩
end
section
/-! WHAT THE METHODS DO: partial functions f_ over the view, loops L_, and the proofs c_, l_ that the bytecode does so; printed by wip/whole/gen_dec.py -/
def L_Ar_fillI_5 : Nat → Option Nat → Int32 → Int32 → Int32 → hv_S → Option (hv_S)
  | 0, _, _, _, _, _ => none
  | n + 1, x0, x1, x2, x3, s =>
    if x3 ≤ x2 then
      some s
    else
      (x_ar s 0 x0).bind fun q2 =>
      (x_ix q2.2 x2).bind fun k3 =>
      (some (hv_setI s q2.1 k3 x1)).bind fun s4 =>
      L_Ar_fillI_5 n x0 x1 (x2 + 1) x3 s4
set_option maxRecDepth 4000 in
set_option maxHeartbeats 2000000 in
theorem l_Ar_fillI_5 {G : lt_G} : ∀ (n : Nat) (x0 : Option Nat) (x1 : Int32) (x2 : Int32) (x3 : Int32) (s : hv_S) (e0 : hv_S), L_Ar_fillI_5 n x0 x1 x2 x3 s = some e0 → Lk G m_Ar_fillI 1 5 [(0, vR x0), (1, vI x1), (2, vI x2), (3, vI x3)] [] s 0 0 (lk_at 20 [] [] e0 0 0) := by
  intro n
  induction n with
  | zero => intro x0 x1 x2 x3 s e0 h; cases h
  | succ n ih =>
    intro x0 x1 x2 x3 s e0 h
    unfold L_Ar_fillI_5 at h
    refine lk_iload_n d_Ar_fillI_5 rfl ?_
    refine lk_iload_n d_Ar_fillI_6 rfl ?_
    refine lk_icmp_ge (tgt := 20) d_Ar_fillI_7 (by decide) (fun hc => ?_) (fun hc => ?_)
    · replace h := x_ifp hc h
      cases h
      refine Lk.sel [] rfl ?_
      exact Lk.stop ⟨rfl, rfl, rfl, rfl, rfl, rfl⟩
    · replace h := x_ifn hc h
      refine lk_aload_n d_Ar_fillI_10 rfl ?_
      refine lk_iload_n d_Ar_fillI_11 rfl ?_
      refine lk_iload_n d_Ar_fillI_12 rfl ?_
      obtain ⟨q2, hq2, h⟩ := x_b h
      obtain ⟨k3, hk3, h⟩ := x_b h
      replace h := x_nm h
      refine lk_iast d_Ar_fillI_13 hq2 hk3 ?_
      refine lk_iinc (v := _ + 1) d_Ar_fillI_14 rfl rfl (by decide) rfl ?_
      refine lk_goto (tgt := 5) d_Ar_fillI_17 (by decide) ?_
      refine Lk.sel [0, 1, 2, 3] rfl ?_
      exact ih _ _ _ _ _ _ h
def f_Ar_fillI (r0 : Option Nat) (x1 : Int32) (s : hv_S) : Option (hv_S) :=
  (x_ar s 0 r0).bind fun q1 =>
  (L_Ar_fillI_5 100000 r0 x1 0 (nI q1.2) s).bind fun e5 =>
  some e5
set_option maxRecDepth 4000 in
set_option maxHeartbeats 2000000 in
theorem c_Ar_fillI {G : lt_G} {r0 : Option Nat} {x1 : Int32} {s : hv_S} {p : hv_S} (h : f_Ar_fillI r0 x1 s = some p) : Ck G m_Ar_fillI 1 0 0 [vR r0, vI x1] s none p := by
  refine Ck.of (by decide) (Nat.le_of_ble_eq_true rfl) ?_
  unfold f_Ar_fillI at h
  refine lk_iconst (v := 0) d_Ar_fillI_0 rfl ?_
  refine lk_istore_n d_Ar_fillI_1 (by decide) rfl ?_
  refine lk_aload_n d_Ar_fillI_2 rfl ?_
  obtain ⟨q1, hq1, h⟩ := x_b h
  refine lk_alen d_Ar_fillI_3 hq1 (by decide) ?_
  refine lk_istore_n d_Ar_fillI_4 (by decide) rfl ?_
  obtain ⟨e5, hl, h⟩ := x_b h
  refine Lk.sel [0, 1, 2, 3] rfl ?_
  refine Lk.trans (l_Ar_fillI_5 _ _ _ _ _ _ _ hl) ?_
  intro pc' lo' st' s' mc' ms' hx
  obtain ⟨rfl, rfl, rfl, rfl, rfl, rfl⟩ := hx
  cases h
  exact Lk.stop ⟨rfl, Or.inl ⟨d_Ar_fillI_20, rfl, rfl, rfl⟩⟩
def L_Ar_fillJ_6 : Nat → Option Nat → Int64 → Int32 → Int32 → hv_S → Option (hv_S)
  | 0, _, _, _, _, _ => none
  | n + 1, x0, x1, x3, x4, s =>
    if x4 ≤ x3 then
      some s
    else
      (x_ar s 1 x0).bind fun q2 =>
      (x_ix q2.2 x3).bind fun k3 =>
      (some (hv_setJ s q2.1 k3 x1)).bind fun s4 =>
      L_Ar_fillJ_6 n x0 x1 (x3 + 1) x4 s4
set_option maxRecDepth 4000 in
set_option maxHeartbeats 2000000 in
theorem l_Ar_fillJ_6 {G : lt_G} : ∀ (n : Nat) (x0 : Option Nat) (x1 : Int64) (x3 : Int32) (x4 : Int32) (s : hv_S) (e0 : hv_S), L_Ar_fillJ_6 n x0 x1 x3 x4 s = some e0 → Lk G m_Ar_fillJ 1 6 [(0, vR x0), (1, vJ x1), (3, vI x3), (4, vI x4)] [] s 0 0 (lk_at 22 [] [] e0 0 0) := by
  intro n
  induction n with
  | zero => intro x0 x1 x3 x4 s e0 h; cases h
  | succ n ih =>
    intro x0 x1 x3 x4 s e0 h
    unfold L_Ar_fillJ_6 at h
    refine lk_iload_n d_Ar_fillJ_6 rfl ?_
    refine lk_iload d_Ar_fillJ_7 rfl ?_
    refine lk_icmp_ge (tgt := 22) d_Ar_fillJ_9 (by decide) (fun hc => ?_) (fun hc => ?_)
    · replace h := x_ifp hc h
      cases h
      refine Lk.sel [] rfl ?_
      exact Lk.stop ⟨rfl, rfl, rfl, rfl, rfl, rfl⟩
    · replace h := x_ifn hc h
      refine lk_aload_n d_Ar_fillJ_12 rfl ?_
      refine lk_iload_n d_Ar_fillJ_13 rfl ?_
      refine lk_lload_n d_Ar_fillJ_14 rfl ?_
      obtain ⟨q2, hq2, h⟩ := x_b h
      obtain ⟨k3, hk3, h⟩ := x_b h
      replace h := x_nm h
      refine lk_last d_Ar_fillJ_15 hq2 hk3 ?_
      refine lk_iinc (v := _ + 1) d_Ar_fillJ_16 rfl rfl (by decide) rfl ?_
      refine lk_goto (tgt := 6) d_Ar_fillJ_19 (by decide) ?_
      refine Lk.sel [0, 1, 3, 4] rfl ?_
      exact ih _ _ _ _ _ _ h
def f_Ar_fillJ (r0 : Option Nat) (w1 : Int64) (s : hv_S) : Option (hv_S) :=
  (x_ar s 1 r0).bind fun q1 =>
  (L_Ar_fillJ_6 100000 r0 w1 0 (nI q1.2) s).bind fun e5 =>
  some e5
set_option maxRecDepth 4000 in
set_option maxHeartbeats 2000000 in
theorem c_Ar_fillJ {G : lt_G} {r0 : Option Nat} {w1 : Int64} {s : hv_S} {p : hv_S} (h : f_Ar_fillJ r0 w1 s = some p) : Ck G m_Ar_fillJ 1 0 0 [vR r0, vJ w1] s none p := by
  refine Ck.of (by decide) (Nat.le_of_ble_eq_true rfl) ?_
  unfold f_Ar_fillJ at h
  refine lk_iconst (v := 0) d_Ar_fillJ_0 rfl ?_
  refine lk_istore_n d_Ar_fillJ_1 (by decide) rfl ?_
  refine lk_aload_n d_Ar_fillJ_2 rfl ?_
  obtain ⟨q1, hq1, h⟩ := x_b h
  refine lk_alen d_Ar_fillJ_3 hq1 (by decide) ?_
  refine lk_istore d_Ar_fillJ_4 (by decide) rfl ?_
  obtain ⟨e5, hl, h⟩ := x_b h
  refine Lk.sel [0, 1, 3, 4] rfl ?_
  refine Lk.trans (l_Ar_fillJ_6 _ _ _ _ _ _ _ hl) ?_
  intro pc' lo' st' s' mc' ms' hx
  obtain ⟨rfl, rfl, rfl, rfl, rfl, rfl⟩ := hx
  cases h
  exact Lk.stop ⟨rfl, Or.inl ⟨d_Ar_fillJ_22, rfl, rfl, rfl⟩⟩
def L_Pr_insertSplit_27 : Nat → Option Nat → Int32 → Int32 → hv_S → Option (hv_S)
  | 0, _, _, _, _ => none
  | n + 1, x0, x1, x2, s =>
    if x2 ≤ x1 then
      some s
    else
      (x_ob s 8 x0).bind fun a2 =>
      (x_ar s 0 (hv_R s a2 0)).bind fun q3 =>
      (x_ix q3.2 (x2 - (1 : Int32))).bind fun k4 =>
      (some (hv_I s q3.1 k4)).bind fun y5 =>
      ((
        if y5 = 2 then
          some 1
        else
          if y5 = 3 then
            some 1
          else
            some 0
      ) : Option (Int32)).bind fun t6 =>
      (x_ix q3.2 x2).bind fun k7 =>
      (some (hv_setI s q3.1 k7 y5)).bind fun s8 =>
      ((
        if t6 = 0 then
          (x_ar s8 0 (hv_R s8 a2 1)).bind fun q9 =>
          (x_ix q9.2 (x2 - (1 : Int32))).bind fun k10 =>
          some (hv_I s8 q9.1 k10)
        else
          (x_ar s8 0 (hv_R s8 a2 1)).bind fun q11 =>
          (x_ix q11.2 (x2 - (1 : Int32))).bind fun k12 =>
          if (hv_I s8 q11.1 k12) < x1 then
            (x_ix q11.2 (x2 - (1 : Int32))).bind fun k13 =>
            some (hv_I s8 q11.1 k13)
          else
            (x_ix q11.2 (x2 - (1 : Int32))).bind fun k14 =>
            some ((hv_I s8 q11.1 k14) + (1 : Int32))
      ) : Option (Int32)).bind fun t15 =>
      (x_ar s8 0 (hv_R s8 a2 1)).bind fun q16 =>
      (x_ix q16.2 x2).bind fun k17 =>
      (some (hv_setI s8 q16.1 k17 t15)).bind fun s18 =>
      ((
        if y5 = 2 then
          (x_ar s18 0 (hv_R s18 a2 2)).bind fun q21 =>
          (x_ix q21.2 (x2 - (1 : Int32))).bind fun k22 =>
          if (hv_I s18 q21.1 k22) < x1 then
            (x_ix q21.2 (x2 - (1 : Int32))).bind fun k23 =>
            some (hv_I s18 q21.1 k23)
          else
            (x_ix q21.2 (x2 - (1 : Int32))).bind fun k24 =>
            some ((hv_I s18 q21.1 k24) + (1 : Int32))
        else
          (x_ar s18 0 (hv_R s18 a2 2)).bind fun q19 =>
          (x_ix q19.2 (x2 - (1 : Int32))).bind fun k20 =>
          some (hv_I s18 q19.1 k20)
      ) : Option (Int32)).bind fun t25 =>
      (x_ar s18 0 (hv_R s18 a2 2)).bind fun q26 =>
      (x_ix q26.2 x2).bind fun k27 =>
      (some (hv_setI s18 q26.1 k27 t25)).bind fun s28 =>
      L_Pr_insertSplit_27 n x0 x1 (x2 + (-1)) s28
set_option maxRecDepth 4000 in
set_option maxHeartbeats 2000000 in
theorem l_Pr_insertSplit_27 {G : lt_G} : ∀ (n : Nat) (x0 : Option Nat) (x1 : Int32) (x2 : Int32) (s : hv_S) (e0 : hv_S), L_Pr_insertSplit_27 n x0 x1 x2 s = some e0 → Lk G m_Pr_insertSplit 1 27 [(0, vR x0), (1, vI x1), (2, vI x2)] [] s 0 0 (lk_at 159 [(0, vR x0), (1, vI x1)] [] e0 0 0) := by
  intro n
  induction n with
  | zero => intro x0 x1 x2 s e0 h; cases h
  | succ n ih =>
    intro x0 x1 x2 s e0 h
    unfold L_Pr_insertSplit_27 at h
    refine lk_iload_n d_Pr_insertSplit_27 rfl ?_
    refine lk_iload_n d_Pr_insertSplit_28 rfl ?_
    refine lk_icmp_le (tgt := 159) d_Pr_insertSplit_29 (by decide) (fun hc => ?_) (fun hc => ?_)
    · replace h := x_ifp hc h
      cases h
      refine Lk.sel [0, 1] rfl ?_
      exact Lk.stop ⟨rfl, rfl, rfl, rfl, rfl, rfl⟩
    · replace h := x_ifn hc h
      refine lk_aload_n d_Pr_insertSplit_32 rfl ?_
      obtain ⟨a2, ha2, h⟩ := x_b h
      refine lk_getR (k := 0) d_Pr_insertSplit_33 ha2 (by decide) rfl (by decide) lf_Pr_9 rfl ?_
      refine lk_iload_n d_Pr_insertSplit_36 rfl ?_
      refine lk_iconst (v := 1) d_Pr_insertSplit_37 rfl ?_
      refine lk_isub d_Pr_insertSplit_38 ?_
      obtain ⟨q3, hq3, h⟩ := x_b h
      obtain ⟨k4, hk4, h⟩ := x_b h
      refine lk_iald d_Pr_insertSplit_39 hq3 hk4 ?_
      replace h := x_nm h
      refine lk_istore_n d_Pr_insertSplit_40 (by decide) rfl ?_
      refine lk_iload_n d_Pr_insertSplit_41 rfl ?_
      refine lk_iconst (v := 2) d_Pr_insertSplit_42 rfl ?_
      obtain ⟨t6, hj, h⟩ := x_b h
      refine Lk.joinA 56 [0, 1, 2, 3] [] rfl 2 [vI t6] ?_ ?_
      · replace h := hj
        refine lk_icmp_eq (tgt := 51) d_Pr_insertSplit_43 (by decide) (fun hc => ?_) (fun hc => ?_)
        · replace h := x_ifp hc h
          refine lk_iconst (v := 1) d_Pr_insertSplit_51 rfl ?_
          refine lk_goto (tgt := 56) d_Pr_insertSplit_52 (by decide) ?_
          cases h
          refine Lk.sel [0, 1, 2, 3] rfl ?_
          exact Lk.stop ⟨rfl, rfl, rfl, rfl, rfl, rfl⟩
        · replace h := x_ifn hc h
          refine lk_iload_n d_Pr_insertSplit_46 rfl ?_
          refine lk_iconst (v := 3) d_Pr_insertSplit_47 rfl ?_
          refine lk_icmp_ne (tgt := 55) d_Pr_insertSplit_48 (by decide) (fun hc => ?_) (fun hc => ?_)
          · replace h := x_ifn hc h
            refine lk_iconst (v := 0) d_Pr_insertSplit_55 rfl ?_
            cases h
            refine Lk.sel [0, 1, 2, 3] rfl ?_
            exact Lk.stop ⟨rfl, rfl, rfl, rfl, rfl, rfl⟩
          · replace h := x_ifp hc h
            refine lk_iconst (v := 1) d_Pr_insertSplit_51 rfl ?_
            refine lk_goto (tgt := 56) d_Pr_insertSplit_52 (by decide) ?_
            cases h
            refine Lk.sel [0, 1, 2, 3] rfl ?_
            exact Lk.stop ⟨rfl, rfl, rfl, rfl, rfl, rfl⟩
      · clear hj
        refine lk_istore d_Pr_insertSplit_56 (by decide) rfl ?_
        refine lk_aload_n d_Pr_insertSplit_58 rfl ?_
        refine lk_getR (k := 0) d_Pr_insertSplit_59 ha2 (by decide) rfl (by decide) lf_Pr_9 rfl ?_
        refine lk_iload_n d_Pr_insertSplit_62 rfl ?_
        refine lk_iload_n d_Pr_insertSplit_63 rfl ?_
        obtain ⟨k7, hk7, h⟩ := x_b h
        replace h := x_nm h
        refine lk_iast d_Pr_insertSplit_64 hq3 hk7 ?_
        refine lk_aload_n d_Pr_insertSplit_65 rfl ?_
        refine lk_getR (k := 1) d_Pr_insertSplit_66 ha2 (by decide) rfl (by decide) lf_Pr_15 rfl ?_
        refine lk_iload_n d_Pr_insertSplit_69 rfl ?_
        refine lk_iload d_Pr_insertSplit_70 rfl ?_
        obtain ⟨t15, hj, h⟩ := x_b h
        refine Lk.joinA 108 [0, 1, 2, 3] [] rfl 1 [vI t15] ?_ ?_
        · replace h := hj
          refine lk_if_eq (tgt := 100) d_Pr_insertSplit_72 (by decide) (fun hc => ?_) (fun hc => ?_)
          · replace h := x_ifp hc h
            refine lk_aload_n d_Pr_insertSplit_100 rfl ?_
            refine lk_getR (k := 1) d_Pr_insertSplit_101 ha2 (by decide) rfl (by decide) lf_Pr_15 rfl ?_
            refine lk_iload_n d_Pr_insertSplit_104 rfl ?_
            refine lk_iconst (v := 1) d_Pr_insertSplit_105 rfl ?_
            refine lk_isub d_Pr_insertSplit_106 ?_
            obtain ⟨q9, hq9, h⟩ := x_b h
            obtain ⟨k10, hk10, h⟩ := x_b h
            refine lk_iald d_Pr_insertSplit_107 hq9 hk10 ?_
            cases h
            refine Lk.sel [0, 1, 2, 3] rfl ?_
            exact Lk.stop ⟨rfl, rfl, rfl, rfl, rfl, rfl⟩
          · replace h := x_ifn hc h
            refine lk_aload_n d_Pr_insertSplit_75 rfl ?_
            refine lk_getR (k := 1) d_Pr_insertSplit_76 ha2 (by decide) rfl (by decide) lf_Pr_15 rfl ?_
            refine lk_iload_n d_Pr_insertSplit_79 rfl ?_
            refine lk_iconst (v := 1) d_Pr_insertSplit_80 rfl ?_
            refine lk_isub d_Pr_insertSplit_81 ?_
            obtain ⟨q11, hq11, h⟩ := x_b h
            obtain ⟨k12, hk12, h⟩ := x_b h
            refine lk_iald d_Pr_insertSplit_82 hq11 hk12 ?_
            refine lk_iload_n d_Pr_insertSplit_83 rfl ?_
            refine lk_icmp_lt (tgt := 100) d_Pr_insertSplit_84 (by decide) (fun hc => ?_) (fun hc => ?_)
            · replace h := x_ifp hc h
              refine lk_aload_n d_Pr_insertSplit_100 rfl ?_
              refine lk_getR (k := 1) d_Pr_insertSplit_101 ha2 (by decide) rfl (by decide) lf_Pr_15 rfl ?_
              refine lk_iload_n d_Pr_insertSplit_104 rfl ?_
              refine lk_iconst (v := 1) d_Pr_insertSplit_105 rfl ?_
              refine lk_isub d_Pr_insertSplit_106 ?_
              obtain ⟨k13, hk13, h⟩ := x_b h
              refine lk_iald d_Pr_insertSplit_107 hq11 hk13 ?_
              cases h
              refine Lk.sel [0, 1, 2, 3] rfl ?_
              exact Lk.stop ⟨rfl, rfl, rfl, rfl, rfl, rfl⟩
            · replace h := x_ifn hc h
              refine lk_aload_n d_Pr_insertSplit_87 rfl ?_
              refine lk_getR (k := 1) d_Pr_insertSplit_88 ha2 (by decide) rfl (by decide) lf_Pr_15 rfl ?_
              refine lk_iload_n d_Pr_insertSplit_91 rfl ?_
              refine lk_iconst (v := 1) d_Pr_insertSplit_92 rfl ?_
              refine lk_isub d_Pr_insertSplit_93 ?_
              obtain ⟨k14, hk14, h⟩ := x_b h
              refine lk_iald d_Pr_insertSplit_94 hq11 hk14 ?_
              refine lk_iconst (v := 1) d_Pr_insertSplit_95 rfl ?_
              refine lk_iadd d_Pr_insertSplit_96 ?_
              refine lk_goto (tgt := 108) d_Pr_insertSplit_97 (by decide) ?_
              cases h
              refine Lk.sel [0, 1, 2, 3] rfl ?_
              exact Lk.stop ⟨rfl, rfl, rfl, rfl, rfl, rfl⟩
        · clear hj
          obtain ⟨q16, hq16, h⟩ := x_b h
          obtain ⟨k17, hk17, h⟩ := x_b h
          replace h := x_nm h
          refine lk_iast d_Pr_insertSplit_108 hq16 hk17 ?_
          refine lk_aload_n d_Pr_insertSplit_109 rfl ?_
          refine lk_getR (k := 2) d_Pr_insertSplit_110 ha2 (by decide) rfl (by decide) lf_Pr_18 rfl ?_
          refine lk_iload_n d_Pr_insertSplit_113 rfl ?_
          refine lk_iload_n d_Pr_insertSplit_114 rfl ?_
          refine lk_iconst (v := 2) d_Pr_insertSplit_115 rfl ?_
          obtain ⟨t25, hj, h⟩ := x_b h
          refine Lk.joinA 152 [0, 1, 2] [] rfl 2 [vI t25] ?_ ?_
          · replace h := hj
            refine lk_icmp_ne (tgt := 144) d_Pr_insertSplit_116 (by decide) (fun hc => ?_) (fun hc => ?_)
            · replace h := x_ifn hc h
              refine lk_aload_n d_Pr_insertSplit_144 rfl ?_
              refine lk_getR (k := 2) d_Pr_insertSplit_145 ha2 (by decide) rfl (by decide) lf_Pr_18 rfl ?_
              refine lk_iload_n d_Pr_insertSplit_148 rfl ?_
              refine lk_iconst (v := 1) d_Pr_insertSplit_149 rfl ?_
              refine lk_isub d_Pr_insertSplit_150 ?_
              obtain ⟨q19, hq19, h⟩ := x_b h
              obtain ⟨k20, hk20, h⟩ := x_b h
              refine lk_iald d_Pr_insertSplit_151 hq19 hk20 ?_
              cases h
              refine Lk.sel [0, 1, 2] rfl ?_
              exact Lk.stop ⟨rfl, rfl, rfl, rfl, rfl, rfl⟩
            · replace h := x_ifp hc h
              refine lk_aload_n d_Pr_insertSplit_119 rfl ?_
              refine lk_getR (k := 2) d_Pr_insertSplit_120 ha2 (by decide) rfl (by decide) lf_Pr_18 rfl ?_
              refine lk_iload_n d_Pr_insertSplit_123 rfl ?_
              refine lk_iconst (v := 1) d_Pr_insertSplit_124 rfl ?_
              refine lk_isub d_Pr_insertSplit_125 ?_
              obtain ⟨q21, hq21, h⟩ := x_b h
              obtain ⟨k22, hk22, h⟩ := x_b h
              refine lk_iald d_Pr_insertSplit_126 hq21 hk22 ?_
              refine lk_iload_n d_Pr_insertSplit_127 rfl ?_
              refine lk_icmp_lt (tgt := 144) d_Pr_insertSplit_128 (by decide) (fun hc => ?_) (fun hc => ?_)
              · replace h := x_ifp hc h
                refine lk_aload_n d_Pr_insertSplit_144 rfl ?_
                refine lk_getR (k := 2) d_Pr_insertSplit_145 ha2 (by decide) rfl (by decide) lf_Pr_18 rfl ?_
                refine lk_iload_n d_Pr_insertSplit_148 rfl ?_
                refine lk_iconst (v := 1) d_Pr_insertSplit_149 rfl ?_
                refine lk_isub d_Pr_insertSplit_150 ?_
                obtain ⟨k23, hk23, h⟩ := x_b h
                refine lk_iald d_Pr_insertSplit_151 hq21 hk23 ?_
                cases h
                refine Lk.sel [0, 1, 2] rfl ?_
                exact Lk.stop ⟨rfl, rfl, rfl, rfl, rfl, rfl⟩
              · replace h := x_ifn hc h
                refine lk_aload_n d_Pr_insertSplit_131 rfl ?_
                refine lk_getR (k := 2) d_Pr_insertSplit_132 ha2 (by decide) rfl (by decide) lf_Pr_18 rfl ?_
                refine lk_iload_n d_Pr_insertSplit_135 rfl ?_
                refine lk_iconst (v := 1) d_Pr_insertSplit_136 rfl ?_
                refine lk_isub d_Pr_insertSplit_137 ?_
                obtain ⟨k24, hk24, h⟩ := x_b h
                refine lk_iald d_Pr_insertSplit_138 hq21 hk24 ?_
                refine lk_iconst (v := 1) d_Pr_insertSplit_139 rfl ?_
                refine lk_iadd d_Pr_insertSplit_140 ?_
                refine lk_goto (tgt := 152) d_Pr_insertSplit_141 (by decide) ?_
                cases h
                refine Lk.sel [0, 1, 2] rfl ?_
                exact Lk.stop ⟨rfl, rfl, rfl, rfl, rfl, rfl⟩
          · clear hj
            obtain ⟨q26, hq26, h⟩ := x_b h
            obtain ⟨k27, hk27, h⟩ := x_b h
            replace h := x_nm h
            refine lk_iast d_Pr_insertSplit_152 hq26 hk27 ?_
            refine lk_iinc (v := _ + (-1)) d_Pr_insertSplit_153 rfl rfl (by decide) rfl ?_
            refine lk_goto (tgt := 27) d_Pr_insertSplit_156 (by decide) ?_
            refine Lk.sel [0, 1, 2] rfl ?_
            exact ih _ _ _ _ _ h
def f_Pr_insertSplit (z0 : Nat) (x1 : Int32) (s : hv_S) : Option (hv_S) :=
  if x1 < 0 then
    some s
  else
    (x_ob s 8 ((some z0))).bind fun a1 =>
    if (hv_I s a1 3) < x1 then
      some s
    else
      if (hv_I s a1 3) < 49 then
        (L_Pr_insertSplit_27 100000 ((some z0)) x1 (hv_I s a1 3) s).bind fun e29 =>
        (x_ob e29 8 ((some z0))).bind fun a30 =>
        (x_ar e29 0 (hv_R e29 a30 0)).bind fun q31 =>
        (x_ix q31.2 x1).bind fun k32 =>
        (some (hv_setI e29 q31.1 k32 2)).bind fun s33 =>
        (some (hv_setI s33 a30 3 ((hv_I s33 a30 3) + (1 : Int32)))).bind fun s34 =>
        some s34
      else
        some s
set_option maxRecDepth 4000 in
set_option maxHeartbeats 2000000 in
theorem c_Pr_insertSplit {G : lt_G} {z0 : Nat} {x1 : Int32} {s : hv_S} {p : hv_S} (h : f_Pr_insertSplit z0 x1 s = some p) : Ck G m_Pr_insertSplit 1 0 0 [vR (some z0), vI x1] s none p := by
  refine Ck.of (by decide) (Nat.le_of_ble_eq_true rfl) ?_
  unfold f_Pr_insertSplit at h
  refine lk_iload_n d_Pr_insertSplit_0 rfl ?_
  refine lk_if_lt (tgt := 21) d_Pr_insertSplit_1 (by decide) (fun hc => ?_) (fun hc => ?_)
  · replace h := x_ifp hc h
    cases h
    exact Lk.stop ⟨rfl, Or.inl ⟨d_Pr_insertSplit_21, rfl, rfl, rfl⟩⟩
  · replace h := x_ifn hc h
    refine lk_iload_n d_Pr_insertSplit_4 rfl ?_
    refine lk_aload_n d_Pr_insertSplit_5 rfl ?_
    obtain ⟨a1, ha1, h⟩ := x_b h
    refine lk_getI (k := 3) d_Pr_insertSplit_6 ha1 (by decide) rfl (by decide) lf_Pr_21 rfl ?_
    refine lk_icmp_gt (tgt := 21) d_Pr_insertSplit_9 (by decide) (fun hc => ?_) (fun hc => ?_)
    · replace h := x_ifp hc h
      cases h
      exact Lk.stop ⟨rfl, Or.inl ⟨d_Pr_insertSplit_21, rfl, rfl, rfl⟩⟩
    · replace h := x_ifn hc h
      refine lk_aload_n d_Pr_insertSplit_12 rfl ?_
      refine lk_getI (k := 3) d_Pr_insertSplit_13 ha1 (by decide) rfl (by decide) lf_Pr_21 rfl ?_
      refine lk_bipush (v := 49) d_Pr_insertSplit_16 rfl ?_
      refine lk_icmp_lt (tgt := 22) d_Pr_insertSplit_18 (by decide) (fun hc => ?_) (fun hc => ?_)
      · replace h := x_ifp hc h
        refine lk_aload_n d_Pr_insertSplit_22 rfl ?_
        refine lk_getI (k := 3) d_Pr_insertSplit_23 ha1 (by decide) rfl (by decide) lf_Pr_21 rfl ?_
        refine lk_istore_n d_Pr_insertSplit_26 (by decide) rfl ?_
        obtain ⟨e29, hl, h⟩ := x_b h
        refine Lk.sel [0, 1, 2] rfl ?_
        refine Lk.trans (l_Pr_insertSplit_27 _ _ _ _ _ _ hl) ?_
        intro pc' lo' st' s' mc' ms' hx
        obtain ⟨rfl, rfl, rfl, rfl, rfl, rfl⟩ := hx
        refine lk_aload_n d_Pr_insertSplit_159 rfl ?_
        obtain ⟨a30, ha30, h⟩ := x_b h
        refine lk_getR (k := 0) d_Pr_insertSplit_160 ha30 (by decide) rfl (by decide) lf_Pr_9 rfl ?_
        refine lk_iload_n d_Pr_insertSplit_163 rfl ?_
        refine lk_iconst (v := 2) d_Pr_insertSplit_164 rfl ?_
        obtain ⟨q31, hq31, h⟩ := x_b h
        obtain ⟨k32, hk32, h⟩ := x_b h
        replace h := x_nm h
        refine lk_iast d_Pr_insertSplit_165 hq31 hk32 ?_
        refine lk_aload_n d_Pr_insertSplit_166 rfl ?_
        refine lk_dup d_Pr_insertSplit_167 rfl ?_
        refine lk_getI (k := 3) d_Pr_insertSplit_168 ha30 (by decide) rfl (by decide) lf_Pr_21 rfl ?_
        refine lk_iconst (v := 1) d_Pr_insertSplit_171 rfl ?_
        refine lk_iadd d_Pr_insertSplit_172 ?_
        replace h := x_nm h
        refine lk_putI (k := 3) d_Pr_insertSplit_173 ha30 (by decide) rfl (by decide) lf_Pr_21 rfl rfl ?_
        cases h
        exact Lk.stop ⟨rfl, Or.inl ⟨d_Pr_insertSplit_176, rfl, rfl, rfl⟩⟩
      · replace h := x_ifn hc h
        cases h
        exact Lk.stop ⟨rfl, Or.inl ⟨d_Pr_insertSplit_21, rfl, rfl, rfl⟩⟩
def L_Pr_closeChoice_6 : Nat → Option Nat → Int32 → hv_S → Option (hv_S)
  | 0, _, _, _ => none
  | n + 1, x0, x2, s =>
    (x_ob s 8 x0).bind fun a2 =>
    if (hv_I s a2 3) ≤ x2 then
      some s
    else
      if 49 ≤ x2 then
        some s
      else
        (x_ar s 0 (hv_R s a2 0)).bind fun q3 =>
        (x_ix q3.2 x2).bind fun k4 =>
        ((
          if (hv_I s q3.1 k4) = 3 then
            (x_ar s 0 (hv_R s a2 1)).bind fun q5 =>
            (x_ix q5.2 x2).bind fun k6 =>
            if (hv_I s q5.1 k6) = ((-1)) then
              (x_ix q5.2 x2).bind fun k7 =>
              (some (hv_setI s q5.1 k7 (hv_I s a2 3))).bind fun s8 =>
              some s8
            else
              some s
          else
            some s
        ) : Option (hv_S)).bind fun t9 =>
        L_Pr_closeChoice_6 n x0 (x2 + 1) t9
set_option maxRecDepth 4000 in
set_option maxHeartbeats 2000000 in
theorem l_Pr_closeChoice_6 {G : lt_G} : ∀ (n : Nat) (x0 : Option Nat) (x2 : Int32) (s : hv_S) (e0 : hv_S), L_Pr_closeChoice_6 n x0 x2 s = some e0 → Lk G m_Pr_closeChoice 1 6 [(0, vR x0), (2, vI x2)] [] s 0 0 (lk_at 56 [] [] e0 0 0) := by
  intro n
  induction n with
  | zero => intro x0 x2 s e0 h; cases h
  | succ n ih =>
    intro x0 x2 s e0 h
    unfold L_Pr_closeChoice_6 at h
    refine lk_iload_n d_Pr_closeChoice_6 rfl ?_
    refine lk_aload_n d_Pr_closeChoice_7 rfl ?_
    obtain ⟨a2, ha2, h⟩ := x_b h
    refine lk_getI (k := 3) d_Pr_closeChoice_8 ha2 (by decide) rfl (by decide) lf_Pr_21 rfl ?_
    refine lk_icmp_ge (tgt := 56) d_Pr_closeChoice_11 (by decide) (fun hc => ?_) (fun hc => ?_)
    · replace h := x_ifp hc h
      cases h
      refine Lk.sel [] rfl ?_
      exact Lk.stop ⟨rfl, rfl, rfl, rfl, rfl, rfl⟩
    · replace h := x_ifn hc h
      refine lk_iload_n d_Pr_closeChoice_14 rfl ?_
      refine lk_bipush (v := 49) d_Pr_closeChoice_15 rfl ?_
      refine lk_icmp_ge (tgt := 56) d_Pr_closeChoice_17 (by decide) (fun hc => ?_) (fun hc => ?_)
      · replace h := x_ifp hc h
        cases h
        refine Lk.sel [] rfl ?_
        exact Lk.stop ⟨rfl, rfl, rfl, rfl, rfl, rfl⟩
      · replace h := x_ifn hc h
        refine lk_aload_n d_Pr_closeChoice_20 rfl ?_
        refine lk_getR (k := 0) d_Pr_closeChoice_21 ha2 (by decide) rfl (by decide) lf_Pr_9 rfl ?_
        refine lk_iload_n d_Pr_closeChoice_24 rfl ?_
        obtain ⟨q3, hq3, h⟩ := x_b h
        obtain ⟨k4, hk4, h⟩ := x_b h
        refine lk_iald d_Pr_closeChoice_25 hq3 hk4 ?_
        refine lk_iconst (v := 3) d_Pr_closeChoice_26 rfl ?_
        obtain ⟨t9, hj, h⟩ := x_b h
        refine Lk.joinS 50 [0, 2] [] rfl 2 [] t9 ?_ ?_
        · replace h := hj
          refine lk_icmp_ne (tgt := 50) d_Pr_closeChoice_27 (by decide) (fun hc => ?_) (fun hc => ?_)
          · replace h := x_ifn hc h
            cases h
            refine Lk.sel [0, 2] rfl ?_
            exact Lk.stop ⟨rfl, rfl, rfl, rfl, rfl, rfl⟩
          · replace h := x_ifp hc h
            refine lk_aload_n d_Pr_closeChoice_30 rfl ?_
            refine lk_getR (k := 1) d_Pr_closeChoice_31 ha2 (by decide) rfl (by decide) lf_Pr_15 rfl ?_
            refine lk_iload_n d_Pr_closeChoice_34 rfl ?_
            obtain ⟨q5, hq5, h⟩ := x_b h
            obtain ⟨k6, hk6, h⟩ := x_b h
            refine lk_iald d_Pr_closeChoice_35 hq5 hk6 ?_
            refine lk_iconst (v := (-1)) d_Pr_closeChoice_36 rfl ?_
            refine lk_icmp_ne (tgt := 50) d_Pr_closeChoice_37 (by decide) (fun hc => ?_) (fun hc => ?_)
            · replace h := x_ifn hc h
              cases h
              refine Lk.sel [0, 2] rfl ?_
              exact Lk.stop ⟨rfl, rfl, rfl, rfl, rfl, rfl⟩
            · replace h := x_ifp hc h
              refine lk_aload_n d_Pr_closeChoice_40 rfl ?_
              refine lk_getR (k := 1) d_Pr_closeChoice_41 ha2 (by decide) rfl (by decide) lf_Pr_15 rfl ?_
              refine lk_iload_n d_Pr_closeChoice_44 rfl ?_
              refine lk_aload_n d_Pr_closeChoice_45 rfl ?_
              refine lk_getI (k := 3) d_Pr_closeChoice_46 ha2 (by decide) rfl (by decide) lf_Pr_21 rfl ?_
              obtain ⟨k7, hk7, h⟩ := x_b h
              replace h := x_nm h
              refine lk_iast d_Pr_closeChoice_49 hq5 hk7 ?_
              cases h
              refine Lk.sel [0, 2] rfl ?_
              exact Lk.stop ⟨rfl, rfl, rfl, rfl, rfl, rfl⟩
        · clear hj
          refine lk_iinc (v := _ + 1) d_Pr_closeChoice_50 rfl rfl (by decide) rfl ?_
          refine lk_goto (tgt := 6) d_Pr_closeChoice_53 (by decide) ?_
          refine Lk.sel [0, 2] rfl ?_
          exact ih _ _ _ _ h
def f_Pr_closeChoice (z0 : Nat) (x1 : Int32) (s : hv_S) : Option (hv_S) :=
  (some (if x1 < 0 then 0 else x1)).bind fun y1 =>
  (L_Pr_closeChoice_6 100000 ((some z0)) y1 s).bind fun e10 =>
  some e10
set_option maxRecDepth 4000 in
set_option maxHeartbeats 2000000 in
theorem c_Pr_closeChoice {G : lt_G} {z0 : Nat} {x1 : Int32} {s : hv_S} {p : hv_S} (h : f_Pr_closeChoice z0 x1 s = some p) : Ck G m_Pr_closeChoice 1 0 0 [vR (some z0), vI x1] s none p := by
  refine Ck.of (by decide) (Nat.le_of_ble_eq_true rfl) ?_
  unfold f_Pr_closeChoice at h
  refine lk_iload_n d_Pr_closeChoice_0 rfl ?_
  refine lk_iconst (v := 0) d_Pr_closeChoice_1 rfl ?_
  refine lk_mmax d_Pr_closeChoice_2 lmm_Pr_36 mm_st mm_in mm_co (Nat.le_of_ble_eq_true rfl) (Nat.le_of_ble_eq_true rfl) ?_
  replace h := x_nm h
  refine lk_istore_n d_Pr_closeChoice_5 (by decide) rfl ?_
  obtain ⟨e10, hl, h⟩ := x_b h
  refine Lk.sel [0, 2] rfl ?_
  refine Lk.trans (l_Pr_closeChoice_6 _ _ _ _ _ hl) ?_
  intro pc' lo' st' s' mc' ms' hx
  obtain ⟨rfl, rfl, rfl, rfl, rfl, rfl⟩ := hx
  cases h
  exact Lk.stop ⟨rfl, Or.inl ⟨d_Pr_closeChoice_56, rfl, rfl, rfl⟩⟩
end
section
/-! WHAT THE METHODS DO: partial functions f_ over the view, loops L_, and the proofs c_, l_ that the bytecode does so; printed by wip/whole/gen_dec.py -/
def f_C_withSlot (w0 : Int64) (x2 : Int32) (x3 : Int32) (s : hv_S) : Option (Int64 × hv_S) :=
  (some ((5 : Int32) * x2)).bind fun y1 =>
  some (((w0 &&& (((31 : Int64) <<< (y1.toInt64 &&& 63)) ^^^ ((-1)))) ||| (((x3 + (1 : Int32)).toInt64) <<< (y1.toInt64 &&& 63)), s))
set_option maxRecDepth 4000 in
set_option maxHeartbeats 2000000 in
theorem c_C_withSlot {G : lt_G} {w0 : Int64} {x2 : Int32} {x3 : Int32} {s : hv_S} {p : Int64 × hv_S} (h : f_C_withSlot w0 x2 x3 s = some p) : Ck G m_C_withSlot 1 0 0 [vJ w0, vI x2, vI x3] s (some (vJ p.1)) p.2 := by
  refine Ck.of (by decide) (Nat.le_of_ble_eq_true rfl) ?_
  unfold f_C_withSlot at h
  refine lk_iconst (v := 5) d_C_withSlot_0 rfl ?_
  refine lk_iload_n d_C_withSlot_1 rfl ?_
  refine lk_imul d_C_withSlot_2 ?_
  replace h := x_nm h
  refine lk_istore d_C_withSlot_3 (by decide) rfl ?_
  refine lk_lload_n d_C_withSlot_5 rfl ?_
  refine lk_ldc2 d_C_withSlot_6 lj_C_203 ?_
  refine lk_iload d_C_withSlot_9 rfl ?_
  refine lk_lshl d_C_withSlot_11 ?_
  refine lk_ldc2 d_C_withSlot_12 lj_C_205 ?_
  refine lk_lxor d_C_withSlot_15 ?_
  refine lk_land d_C_withSlot_16 ?_
  refine lk_iload_n d_C_withSlot_17 rfl ?_
  refine lk_iconst (v := 1) d_C_withSlot_18 rfl ?_
  refine lk_iadd d_C_withSlot_19 ?_
  refine lk_i2l d_C_withSlot_20 ?_
  refine lk_iload d_C_withSlot_21 rfl ?_
  refine lk_lshl d_C_withSlot_23 ?_
  refine lk_lor d_C_withSlot_24 ?_
  cases h
  exact Lk.stop ⟨rfl, Or.inr (Or.inr (Or.inl ⟨_, d_C_withSlot_25, rfl, rfl, rfl⟩))⟩
def f_C_placeIn (w0 : Int64) (x2 : Int32) (s : hv_S) : Option (Int32 × hv_S) :=
  some ((((((w0.toUInt64 >>> (((5 : Int32) * x2).toInt64.toUInt64 &&& Int64.toUInt64 63)).toInt64) &&& (31 : Int64)).toInt32) - (1 : Int32), s))
set_option maxRecDepth 4000 in
set_option maxHeartbeats 2000000 in
theorem c_C_placeIn {G : lt_G} {w0 : Int64} {x2 : Int32} {s : hv_S} {p : Int32 × hv_S} (h : f_C_placeIn w0 x2 s = some p) : Ck G m_C_placeIn 1 0 0 [vJ w0, vI x2] s (some (vI p.1)) p.2 := by
  refine Ck.of (by decide) (Nat.le_of_ble_eq_true rfl) ?_
  unfold f_C_placeIn at h
  refine lk_lload_n d_C_placeIn_0 rfl ?_
  refine lk_iconst (v := 5) d_C_placeIn_1 rfl ?_
  refine lk_iload_n d_C_placeIn_2 rfl ?_
  refine lk_imul d_C_placeIn_3 ?_
  refine lk_lushr d_C_placeIn_4 ?_
  refine lk_ldc2 d_C_placeIn_5 lj_C_203 ?_
  refine lk_land d_C_placeIn_8 ?_
  refine lk_l2i d_C_placeIn_9 ?_
  refine lk_iconst (v := 1) d_C_placeIn_10 rfl ?_
  refine lk_isub d_C_placeIn_11 ?_
  cases h
  exact Lk.stop ⟨rfl, Or.inr (Or.inl ⟨_, _, d_C_placeIn_12, rfl, rfl, rfl, rfl⟩)⟩
def f_C_slotsFrom (x0 : Int32) (s : hv_S) : Option (Int64 × hv_S) :=
  (f_C_withSlot 0 0 x0 s).bind fun p1 =>
  some ((p1.1, p1.2))
set_option maxRecDepth 4000 in
set_option maxHeartbeats 2000000 in
theorem c_C_slotsFrom {G : lt_G} {x0 : Int32} {s : hv_S} {p : Int64 × hv_S} (h : f_C_slotsFrom x0 s = some p) : Ck G m_C_slotsFrom 2 0 0 [vI x0] s (some (vJ p.1)) p.2 := by
  refine Ck.of (by decide) (Nat.le_of_ble_eq_true rfl) ?_
  unfold f_C_slotsFrom at h
  refine lk_lconst (v := 0) d_C_slotsFrom_0 rfl ?_
  refine lk_iconst (v := 0) d_C_slotsFrom_1 rfl ?_
  refine lk_iload_n d_C_slotsFrom_2 rfl ?_
  obtain ⟨p1, hp1, h⟩ := x_b h
  refine lk_callS0 d_C_slotsFrom_3 (c_C_withSlot hp1) (Nat.le_of_ble_eq_true rfl) rfl M_C_withSlot lm_C_207 st_C_withSlot (Nat.le_of_ble_eq_true rfl) ?_
  cases h
  exact Lk.stop ⟨rfl, Or.inr (Or.inr (Or.inl ⟨_, d_C_slotsFrom_6, rfl, rfl, rfl⟩))⟩
def L_St_fill_26 : Nat → Option Nat → Option Nat → Option Nat → Int32 → hv_S → Option (hv_S)
  | 0, _, _, _, _, _ => none
  | n + 1, x0, x1, x2, x4, s =>
    (x_ob s 5 x2).bind fun a7 =>
    (f_TL_size a7 s).bind fun p8 =>
    if p8.1 ≤ x4 then
      some p8.2
    else
      if 25 ≤ x4 then
        some p8.2
      else
        (x_ob p8.2 10 x0).bind fun a9 =>
        if (hv_I p8.2 a9 4) = 0 then
          (x_ob p8.2 5 x2).bind fun a10 =>
          (f_TL_instructionAt a10 x4 p8.2).bind fun p11 =>
          (x_ar p11.2 0 (hv_R p8.2 a9 0)).bind fun q12 =>
          (x_ix q12.2 x4).bind fun k13 =>
          (some (hv_setI p11.2 q12.1 k13 p11.1)).bind fun s14 =>
          (x_ob s14 10 x0).bind fun a15 =>
          (x_ar s14 0 (hv_R s14 a15 0)).bind fun q16 =>
          (x_ix q16.2 x4).bind fun k17 =>
          (x_ob s14 8 x1).bind fun a18 =>
          (f_Pr_kindAt a18 (hv_I s14 q16.1 k17) s14).bind fun p19 =>
          ((
            if p19.1 = 7 then
              some 1
            else
              some 0
          ) : Option (Int32)).bind fun t20 =>
          (x_ob p19.2 10 x0).bind fun a21 =>
          (x_z t20).bind fun z22 =>
          (some (hv_setI p19.2 a21 4 z22)).bind fun s23 =>
          (some (hv_setI s23 a21 2 ((hv_I s23 a21 2) + (1 : Int32)))).bind fun s24 =>
          L_St_fill_26 n x0 x1 x2 (x4 + 1) s24
        else
          some p8.2
set_option maxRecDepth 4000 in
set_option maxHeartbeats 2000000 in
theorem l_St_fill_26 {G : lt_G} : ∀ (n : Nat) (x0 : Option Nat) (x1 : Option Nat) (x2 : Option Nat) (x4 : Int32) (s : hv_S) (e0 : hv_S), L_St_fill_26 n x0 x1 x2 x4 s = some e0 → Lk G m_St_fill 2 26 [(0, vR x0), (1, vR x1), (2, vR x2), (4, vI x4)] [] s 0 0 (lk_at 103 [] [] e0 0 0) := by
  intro n
  induction n with
  | zero => intro x0 x1 x2 x4 s e0 h; cases h
  | succ n ih =>
    intro x0 x1 x2 x4 s e0 h
    unfold L_St_fill_26 at h
    refine lk_iload d_St_fill_26 rfl ?_
    refine lk_aload_n d_St_fill_28 rfl ?_
    obtain ⟨a7, ha7, h⟩ := x_b h
    obtain ⟨p8, hp8, h⟩ := x_b h
    refine lk_callV0 d_St_fill_29 ha7 (c_TL_size hp8) (Nat.le_of_ble_eq_true rfl) rfl M_TL_size lm_St_35 in_TL_size se_TL_size (by decide) rfl (Nat.le_of_ble_eq_true rfl) ?_
    refine lk_icmp_ge (tgt := 103) d_St_fill_32 (by decide) (fun hc => ?_) (fun hc => ?_)
    · replace h := x_ifp hc h
      cases h
      refine Lk.sel [] rfl ?_
      exact Lk.stop ⟨rfl, rfl, rfl, rfl, rfl, rfl⟩
    · replace h := x_ifn hc h
      refine lk_iload d_St_fill_35 rfl ?_
      refine lk_bipush (v := 25) d_St_fill_37 rfl ?_
      refine lk_icmp_ge (tgt := 103) d_St_fill_39 (by decide) (fun hc => ?_) (fun hc => ?_)
      · replace h := x_ifp hc h
        cases h
        refine Lk.sel [] rfl ?_
        exact Lk.stop ⟨rfl, rfl, rfl, rfl, rfl, rfl⟩
      · replace h := x_ifn hc h
        refine lk_aload_n d_St_fill_42 rfl ?_
        obtain ⟨a9, ha9, h⟩ := x_b h
        refine lk_getI (k := 4) d_St_fill_43 ha9 (by decide) rfl (by decide) lf_St_26 rfl ?_
        refine lk_if_ne (tgt := 103) d_St_fill_46 (by decide) (fun hc => ?_) (fun hc => ?_)
        · replace h := x_ifn hc h
          cases h
          refine Lk.sel [] rfl ?_
          exact Lk.stop ⟨rfl, rfl, rfl, rfl, rfl, rfl⟩
        · replace h := x_ifp hc h
          refine lk_aload_n d_St_fill_49 rfl ?_
          refine lk_getR (k := 0) d_St_fill_50 ha9 (by decide) rfl (by decide) lf_St_9 rfl ?_
          refine lk_iload d_St_fill_53 rfl ?_
          refine lk_aload_n d_St_fill_55 rfl ?_
          refine lk_iload d_St_fill_56 rfl ?_
          obtain ⟨a10, ha10, h⟩ := x_b h
          obtain ⟨p11, hp11, h⟩ := x_b h
          refine lk_callV0 d_St_fill_58 ha10 (c_TL_instructionAt hp11) (Nat.le_of_ble_eq_true rfl) rfl M_TL_instructionAt lm_St_40 in_TL_instructionAt se_TL_instructionAt (by decide) rfl (Nat.le_of_ble_eq_true rfl) ?_
          obtain ⟨q12, hq12, h⟩ := x_b h
          obtain ⟨k13, hk13, h⟩ := x_b h
          replace h := x_nm h
          refine lk_iast d_St_fill_61 hq12 hk13 ?_
          refine lk_aload_n d_St_fill_62 rfl ?_
          refine lk_aload_n d_St_fill_63 rfl ?_
          refine lk_aload_n d_St_fill_64 rfl ?_
          obtain ⟨a15, ha15, h⟩ := x_b h
          refine lk_getR (k := 0) d_St_fill_65 ha15 (by decide) rfl (by decide) lf_St_9 rfl ?_
          refine lk_iload d_St_fill_68 rfl ?_
          obtain ⟨q16, hq16, h⟩ := x_b h
          obtain ⟨k17, hk17, h⟩ := x_b h
          refine lk_iald d_St_fill_70 hq16 hk17 ?_
          obtain ⟨a18, ha18, h⟩ := x_b h
          obtain ⟨p19, hp19, h⟩ := x_b h
          refine lk_callV0 d_St_fill_71 ha18 (c_Pr_kindAt hp19) (Nat.le_of_ble_eq_true rfl) rfl M_Pr_kindAt lm_St_44 in_Pr_kindAt se_Pr_kindAt (by decide) rfl (Nat.le_of_ble_eq_true rfl) ?_
          refine lk_bipush (v := 7) d_St_fill_74 rfl ?_
          obtain ⟨t20, hj, h⟩ := x_b h
          refine Lk.joinA 84 [0, 1, 2, 4] [] rfl 2 [vI t20] ?_ ?_
          · replace h := hj
            refine lk_icmp_ne (tgt := 83) d_St_fill_76 (by decide) (fun hc => ?_) (fun hc => ?_)
            · replace h := x_ifn hc h
              refine lk_iconst (v := 0) d_St_fill_83 rfl ?_
              cases h
              refine Lk.sel [0, 1, 2, 4] rfl ?_
              exact Lk.stop ⟨rfl, rfl, rfl, rfl, rfl, rfl⟩
            · replace h := x_ifp hc h
              refine lk_iconst (v := 1) d_St_fill_79 rfl ?_
              refine lk_goto (tgt := 84) d_St_fill_80 (by decide) ?_
              cases h
              refine Lk.sel [0, 1, 2, 4] rfl ?_
              exact Lk.stop ⟨rfl, rfl, rfl, rfl, rfl, rfl⟩
          · clear hj
            obtain ⟨a21, ha21, h⟩ := x_b h
            obtain ⟨z22, hz220, h⟩ := x_b h
            obtain ⟨rfl, hz22⟩ := x_z_some hz220
            replace h := x_nm h
            refine lk_putZ (k := 4) d_St_fill_84 ha21 hz22 (by decide) rfl (by decide) lf_St_26 rfl rfl ?_
            refine lk_aload_n d_St_fill_87 rfl ?_
            refine lk_dup d_St_fill_88 rfl ?_
            refine lk_getI (k := 2) d_St_fill_89 ha21 (by decide) rfl (by decide) lf_St_18 rfl ?_
            refine lk_iconst (v := 1) d_St_fill_92 rfl ?_
            refine lk_iadd d_St_fill_93 ?_
            replace h := x_nm h
            refine lk_putI (k := 2) d_St_fill_94 ha21 (by decide) rfl (by decide) lf_St_18 rfl rfl ?_
            refine lk_iinc (v := _ + 1) d_St_fill_97 rfl rfl (by decide) rfl ?_
            refine lk_goto (tgt := 26) d_St_fill_100 (by decide) ?_
            refine Lk.sel [0, 1, 2, 4] rfl ?_
            exact ih _ _ _ _ _ _ h
def f_St_fill (z0 : Nat) (r1 : Option Nat) (r2 : Option Nat) (x3 : Int32) (s : hv_S) : Option (hv_S) :=
  (x_ob s 10 ((some z0))).bind fun a1 =>
  (some (hv_setI s a1 2 0)).bind fun s2 =>
  (x_z x3).bind fun z3 =>
  (some (hv_setI s2 a1 3 z3)).bind fun s4 =>
  (some (hv_setI s4 a1 4 0)).bind fun s5 =>
  (f_Ar_fillI (hv_R s5 a1 1) ((-1)) s5).bind fun p6 =>
  (L_St_fill_26 100000 ((some z0)) r1 r2 0 p6).bind fun e25 =>
  some e25
set_option maxRecDepth 4000 in
set_option maxHeartbeats 2000000 in
theorem c_St_fill {G : lt_G} {z0 : Nat} {r1 : Option Nat} {r2 : Option Nat} {x3 : Int32} {s : hv_S} {p : hv_S} (h : f_St_fill z0 r1 r2 x3 s = some p) : Ck G m_St_fill 2 0 0 [vR (some z0), vR r1, vR r2, vI x3] s none p := by
  refine Ck.of (by decide) (Nat.le_of_ble_eq_true rfl) ?_
  unfold f_St_fill at h
  refine lk_aload_n d_St_fill_0 rfl ?_
  refine lk_iconst (v := 0) d_St_fill_1 rfl ?_
  obtain ⟨a1, ha1, h⟩ := x_b h
  replace h := x_nm h
  refine lk_putI (k := 2) d_St_fill_2 ha1 (by decide) rfl (by decide) lf_St_18 rfl rfl ?_
  refine lk_aload_n d_St_fill_5 rfl ?_
  refine lk_iload_n d_St_fill_6 rfl ?_
  obtain ⟨z3, hz30, h⟩ := x_b h
  obtain ⟨rfl, hz3⟩ := x_z_some hz30
  replace h := x_nm h
  refine lk_putZ (k := 3) d_St_fill_7 ha1 hz3 (by decide) rfl (by decide) lf_St_22 rfl rfl ?_
  refine lk_aload_n d_St_fill_10 rfl ?_
  refine lk_iconst (v := 0) d_St_fill_11 rfl ?_
  replace h := x_nm h
  refine lk_putZ (k := 4) d_St_fill_12 ha1 (by decide) (by decide) rfl (by decide) lf_St_26 rfl rfl ?_
  refine lk_aload_n d_St_fill_15 rfl ?_
  refine lk_getR (k := 1) d_St_fill_16 ha1 (by decide) rfl (by decide) lf_St_15 rfl ?_
  refine lk_iconst (v := (-1)) d_St_fill_19 rfl ?_
  obtain ⟨p6, hp6, h⟩ := x_b h
  refine lk_callS0 d_St_fill_20 (c_Ar_fillI hp6) (Nat.le_of_ble_eq_true rfl) rfl M_Ar_fillI lm_St_29 st_Ar_fillI (Nat.le_of_ble_eq_true rfl) ?_
  refine lk_iconst (v := 0) d_St_fill_23 rfl ?_
  refine lk_istore d_St_fill_24 (by decide) rfl ?_
  obtain ⟨e25, hl, h⟩ := x_b h
  refine Lk.sel [0, 1, 2, 4] rfl ?_
  refine Lk.trans (l_St_fill_26 _ _ _ _ _ _ _ hl) ?_
  intro pc' lo' st' s' mc' ms' hx
  obtain ⟨rfl, rfl, rfl, rfl, rfl, rfl⟩ := hx
  cases h
  exact Lk.stop ⟨rfl, Or.inl ⟨d_St_fill_103, rfl, rfl, rfl⟩⟩
def L_St_isSameAs_26 : Nat → Option Nat → Option Nat → Int32 → hv_S → Option ((hv_S) ⊕ (Int32 × hv_S))
  | 0, _, _, _, _ => none
  | n + 1, x0, x1, x2, s =>
    (x_ob s 10 x0).bind fun a3 =>
    if (hv_I s a3 2) ≤ x2 then
      some (.inl s)
    else
      if 25 ≤ x2 then
        some (.inl s)
      else
        (x_ar s 0 (hv_R s a3 0)).bind fun q4 =>
        (x_ix q4.2 x2).bind fun k5 =>
        (x_ob s 10 x1).bind fun a6 =>
        (x_ar s 0 (hv_R s a6 0)).bind fun q7 =>
        (x_ix q7.2 x2).bind fun k8 =>
        if (hv_I s q4.1 k5) = (hv_I s q7.1 k8) then
          L_St_isSameAs_26 n x0 x1 (x2 + 1) s
        else
          some (.inr ((0, s)))
set_option maxRecDepth 4000 in
set_option maxHeartbeats 2000000 in
theorem l_St_isSameAs_26 {G : lt_G} : ∀ (n : Nat) (x0 : Option Nat) (x1 : Option Nat) (x2 : Int32) (s : hv_S) (e0 : (hv_S) ⊕ (Int32 × hv_S)), L_St_isSameAs_26 n x0 x1 x2 s = some e0 → Lk G m_St_isSameAs 1 26 [(0, vR x0), (1, vR x1), (2, vI x2)] [] s 0 0 (fun a b c d e f => match e0 with | .inl t => lk_at 63 [] [] t 0 0 a b c d e f | .inr w => lk_end m_St_isSameAs (some (vI w.1)) w.2 a b c d e f) := by
  intro n
  induction n with
  | zero => intro x0 x1 x2 s e0 h; cases h
  | succ n ih =>
    intro x0 x1 x2 s e0 h
    unfold L_St_isSameAs_26 at h
    refine lk_iload_n d_St_isSameAs_26 rfl ?_
    refine lk_aload_n d_St_isSameAs_27 rfl ?_
    obtain ⟨a3, ha3, h⟩ := x_b h
    refine lk_getI (k := 2) d_St_isSameAs_28 ha3 (by decide) rfl (by decide) lf_St_18 rfl ?_
    refine lk_icmp_ge (tgt := 63) d_St_isSameAs_31 (by decide) (fun hc => ?_) (fun hc => ?_)
    · replace h := x_ifp hc h
      cases h
      refine Lk.sel [] rfl ?_
      exact Lk.stop ⟨rfl, rfl, rfl, rfl, rfl, rfl⟩
    · replace h := x_ifn hc h
      refine lk_iload_n d_St_isSameAs_34 rfl ?_
      refine lk_bipush (v := 25) d_St_isSameAs_35 rfl ?_
      refine lk_icmp_ge (tgt := 63) d_St_isSameAs_37 (by decide) (fun hc => ?_) (fun hc => ?_)
      · replace h := x_ifp hc h
        cases h
        refine Lk.sel [] rfl ?_
        exact Lk.stop ⟨rfl, rfl, rfl, rfl, rfl, rfl⟩
      · replace h := x_ifn hc h
        refine lk_aload_n d_St_isSameAs_40 rfl ?_
        refine lk_getR (k := 0) d_St_isSameAs_41 ha3 (by decide) rfl (by decide) lf_St_9 rfl ?_
        refine lk_iload_n d_St_isSameAs_44 rfl ?_
        obtain ⟨q4, hq4, h⟩ := x_b h
        obtain ⟨k5, hk5, h⟩ := x_b h
        refine lk_iald d_St_isSameAs_45 hq4 hk5 ?_
        refine lk_aload_n d_St_isSameAs_46 rfl ?_
        obtain ⟨a6, ha6, h⟩ := x_b h
        refine lk_getR (k := 0) d_St_isSameAs_47 ha6 (by decide) rfl (by decide) lf_St_9 rfl ?_
        refine lk_iload_n d_St_isSameAs_50 rfl ?_
        obtain ⟨q7, hq7, h⟩ := x_b h
        obtain ⟨k8, hk8, h⟩ := x_b h
        refine lk_iald d_St_isSameAs_51 hq7 hk8 ?_
        refine lk_icmp_eq (tgt := 57) d_St_isSameAs_52 (by decide) (fun hc => ?_) (fun hc => ?_)
        · replace h := x_ifp hc h
          refine lk_iinc (v := _ + 1) d_St_isSameAs_57 rfl rfl (by decide) rfl ?_
          refine lk_goto (tgt := 26) d_St_isSameAs_60 (by decide) ?_
          refine Lk.sel [0, 1, 2] rfl ?_
          exact ih _ _ _ _ _ h
        · replace h := x_ifn hc h
          refine lk_iconst (v := 0) d_St_isSameAs_55 rfl ?_
          cases h
          exact Lk.stop ⟨rfl, Or.inr (Or.inl ⟨_, _, d_St_isSameAs_56, rfl, rfl, rfl, rfl⟩)⟩
def f_St_isSameAs (z0 : Nat) (r1 : Option Nat) (s : hv_S) : Option (Int32 × hv_S) :=
  (x_ob s 10 ((some z0))).bind fun a1 =>
  (x_ob s 10 r1).bind fun a2 =>
  if (hv_I s a1 2) = (hv_I s a2 2) then
    if (hv_I s a1 3) = (hv_I s a2 3) then
      (L_St_isSameAs_26 100000 ((some z0)) r1 0 s).bind fun e9r => e9r.elim (fun e9 =>
        some ((1, e9))
      ) (fun w => some w)
    else
      some ((0, s))
  else
    some ((0, s))
set_option maxRecDepth 4000 in
set_option maxHeartbeats 2000000 in
theorem c_St_isSameAs {G : lt_G} {z0 : Nat} {r1 : Option Nat} {s : hv_S} {p : Int32 × hv_S} (h : f_St_isSameAs z0 r1 s = some p) : Ck G m_St_isSameAs 1 0 0 [vR (some z0), vR r1] s (some (vI p.1)) p.2 := by
  refine Ck.of (by decide) (Nat.le_of_ble_eq_true rfl) ?_
  unfold f_St_isSameAs at h
  refine lk_aload_n d_St_isSameAs_0 rfl ?_
  obtain ⟨a1, ha1, h⟩ := x_b h
  refine lk_getI (k := 2) d_St_isSameAs_1 ha1 (by decide) rfl (by decide) lf_St_18 rfl ?_
  refine lk_aload_n d_St_isSameAs_4 rfl ?_
  obtain ⟨a2, ha2, h⟩ := x_b h
  refine lk_getI (k := 2) d_St_isSameAs_5 ha2 (by decide) rfl (by decide) lf_St_18 rfl ?_
  refine lk_icmp_ne (tgt := 22) d_St_isSameAs_8 (by decide) (fun hc => ?_) (fun hc => ?_)
  · replace h := x_ifn hc h
    refine lk_iconst (v := 0) d_St_isSameAs_22 rfl ?_
    cases h
    exact Lk.stop ⟨rfl, Or.inr (Or.inl ⟨_, _, d_St_isSameAs_23, rfl, rfl, rfl, rfl⟩)⟩
  · replace h := x_ifp hc h
    refine lk_aload_n d_St_isSameAs_11 rfl ?_
    refine lk_getI (k := 3) d_St_isSameAs_12 ha1 (by decide) rfl (by decide) lf_St_22 rfl ?_
    refine lk_aload_n d_St_isSameAs_15 rfl ?_
    refine lk_getI (k := 3) d_St_isSameAs_16 ha2 (by decide) rfl (by decide) lf_St_22 rfl ?_
    refine lk_icmp_eq (tgt := 24) d_St_isSameAs_19 (by decide) (fun hc => ?_) (fun hc => ?_)
    · replace h := x_ifp hc h
      refine lk_iconst (v := 0) d_St_isSameAs_24 rfl ?_
      refine lk_istore_n d_St_isSameAs_25 (by decide) rfl ?_
      obtain ⟨e9r, hl, h⟩ := x_b h
      refine Lk.sel [0, 1, 2] rfl ?_
      refine Lk.trans (l_St_isSameAs_26 _ _ _ _ _ _ hl) ?_
      intro pc' lo' st' s' mc' ms' hx
      cases e9r with
      | inl e9 =>
        obtain ⟨rfl, rfl, rfl, rfl, rfl, rfl⟩ := hx
        refine lk_iconst (v := 1) d_St_isSameAs_63 rfl ?_
        cases h
        exact Lk.stop ⟨rfl, Or.inr (Or.inl ⟨_, _, d_St_isSameAs_64, rfl, rfl, rfl, rfl⟩)⟩
      | inr w =>
        cases h
        exact Lk.stop hx
    · replace h := x_ifn hc h
      refine lk_iconst (v := 0) d_St_isSameAs_22 rfl ?_
      cases h
      exact Lk.stop ⟨rfl, Or.inr (Or.inl ⟨_, _, d_St_isSameAs_23, rfl, rfl, rfl, rfl⟩)⟩
def f_St_isOver (z0 : Nat) (s : hv_S) : Option (Int32 × hv_S) :=
  (x_ob s 10 ((some z0))).bind fun a1 =>
  ((
    if (hv_I s a1 3) = 0 then
      if (hv_I s a1 2) = 0 then
        some 1
      else
        some 0
    else
      some 0
  ) : Option (Int32)).bind fun t2 =>
  (x_z t2).bind fun z3 =>
  some ((z3, s))
set_option maxRecDepth 4000 in
set_option maxHeartbeats 2000000 in
theorem c_St_isOver {G : lt_G} {z0 : Nat} {s : hv_S} {p : Int32 × hv_S} (h : f_St_isOver z0 s = some p) : Ck G m_St_isOver 1 0 0 [vR (some z0)] s (some (vI p.1)) p.2 := by
  refine Ck.of (by decide) (Nat.le_of_ble_eq_true rfl) ?_
  unfold f_St_isOver at h
  refine lk_aload_n d_St_isOver_0 rfl ?_
  obtain ⟨a1, ha1, h⟩ := x_b h
  refine lk_getI (k := 3) d_St_isOver_1 ha1 (by decide) rfl (by decide) lf_St_22 rfl ?_
  obtain ⟨t2, hj, h⟩ := x_b h
  refine Lk.joinA 19 [] [] rfl 1 [vI t2] ?_ ?_
  · replace h := hj
    refine lk_if_ne (tgt := 18) d_St_isOver_4 (by decide) (fun hc => ?_) (fun hc => ?_)
    · replace h := x_ifn hc h
      refine lk_iconst (v := 0) d_St_isOver_18 rfl ?_
      cases h
      refine Lk.sel [] rfl ?_
      exact Lk.stop ⟨rfl, rfl, rfl, rfl, rfl, rfl⟩
    · replace h := x_ifp hc h
      refine lk_aload_n d_St_isOver_7 rfl ?_
      refine lk_getI (k := 2) d_St_isOver_8 ha1 (by decide) rfl (by decide) lf_St_18 rfl ?_
      refine lk_if_ne (tgt := 18) d_St_isOver_11 (by decide) (fun hc => ?_) (fun hc => ?_)
      · replace h := x_ifn hc h
        refine lk_iconst (v := 0) d_St_isOver_18 rfl ?_
        cases h
        refine Lk.sel [] rfl ?_
        exact Lk.stop ⟨rfl, rfl, rfl, rfl, rfl, rfl⟩
      · replace h := x_ifp hc h
        refine lk_iconst (v := 1) d_St_isOver_14 rfl ?_
        refine lk_goto (tgt := 19) d_St_isOver_15 (by decide) ?_
        cases h
        refine Lk.sel [] rfl ?_
        exact Lk.stop ⟨rfl, rfl, rfl, rfl, rfl, rfl⟩
  · clear hj
    obtain ⟨z3, hz30, h⟩ := x_b h
    obtain ⟨rfl, hz3⟩ := x_z_some hz30
    cases h
    exact Lk.stop ⟨rfl, Or.inr (Or.inl ⟨_, _, d_St_isOver_19, rfl, x_zn hz3, rfl, rfl⟩)⟩
def f_St_opensNext (z0 : Nat) (s : hv_S) : Option (Int32 × hv_S) :=
  (x_ob s 10 ((some z0))).bind fun a1 =>
  ((
    if (hv_I s a1 3) = 0 then
      some 0
    else
      if (hv_I s a1 4) = 0 then
        some 1
      else
        some 0
  ) : Option (Int32)).bind fun t2 =>
  (x_z t2).bind fun z3 =>
  some ((z3, s))
set_option maxRecDepth 4000 in
set_option maxHeartbeats 2000000 in
theorem c_St_opensNext {G : lt_G} {z0 : Nat} {s : hv_S} {p : Int32 × hv_S} (h : f_St_opensNext z0 s = some p) : Ck G m_St_opensNext 1 0 0 [vR (some z0)] s (some (vI p.1)) p.2 := by
  refine Ck.of (by decide) (Nat.le_of_ble_eq_true rfl) ?_
  unfold f_St_opensNext at h
  refine lk_aload_n d_St_opensNext_0 rfl ?_
  obtain ⟨a1, ha1, h⟩ := x_b h
  refine lk_getI (k := 3) d_St_opensNext_1 ha1 (by decide) rfl (by decide) lf_St_22 rfl ?_
  obtain ⟨t2, hj, h⟩ := x_b h
  refine Lk.joinA 19 [] [] rfl 1 [vI t2] ?_ ?_
  · replace h := hj
    refine lk_if_eq (tgt := 18) d_St_opensNext_4 (by decide) (fun hc => ?_) (fun hc => ?_)
    · replace h := x_ifp hc h
      refine lk_iconst (v := 0) d_St_opensNext_18 rfl ?_
      cases h
      refine Lk.sel [] rfl ?_
      exact Lk.stop ⟨rfl, rfl, rfl, rfl, rfl, rfl⟩
    · replace h := x_ifn hc h
      refine lk_aload_n d_St_opensNext_7 rfl ?_
      refine lk_getI (k := 4) d_St_opensNext_8 ha1 (by decide) rfl (by decide) lf_St_26 rfl ?_
      refine lk_if_ne (tgt := 18) d_St_opensNext_11 (by decide) (fun hc => ?_) (fun hc => ?_)
      · replace h := x_ifn hc h
        refine lk_iconst (v := 0) d_St_opensNext_18 rfl ?_
        cases h
        refine Lk.sel [] rfl ?_
        exact Lk.stop ⟨rfl, rfl, rfl, rfl, rfl, rfl⟩
      · replace h := x_ifp hc h
        refine lk_iconst (v := 1) d_St_opensNext_14 rfl ?_
        refine lk_goto (tgt := 19) d_St_opensNext_15 (by decide) ?_
        cases h
        refine Lk.sel [] rfl ?_
        exact Lk.stop ⟨rfl, rfl, rfl, rfl, rfl, rfl⟩
  · clear hj
    obtain ⟨z3, hz30, h⟩ := x_b h
    obtain ⟨rfl, hz3⟩ := x_z_some hz30
    cases h
    exact Lk.stop ⟨rfl, Or.inr (Or.inl ⟨_, _, d_St_opensNext_19, rfl, x_zn hz3, rfl, rfl⟩)⟩
def f_St_entryAt (z0 : Nat) (x1 : Int32) (s : hv_S) : Option (Int32 × hv_S) :=
  ((
    if x1 < 0 then
      some ((-1))
    else
      (x_ob s 10 ((some z0))).bind fun a1 =>
      if (hv_I s a1 2) ≤ x1 then
        some ((-1))
      else
        if 25 ≤ x1 then
          some ((-1))
        else
          (x_ar s 0 (hv_R s a1 0)).bind fun q2 =>
          (x_ix q2.2 x1).bind fun k3 =>
          some (hv_I s q2.1 k3)
  ) : Option (Int32)).bind fun t4 =>
  some ((t4, s))
set_option maxRecDepth 4000 in
set_option maxHeartbeats 2000000 in
theorem c_St_entryAt {G : lt_G} {z0 : Nat} {x1 : Int32} {s : hv_S} {p : Int32 × hv_S} (h : f_St_entryAt z0 x1 s = some p) : Ck G m_St_entryAt 1 0 0 [vR (some z0), vI x1] s (some (vI p.1)) p.2 := by
  refine Ck.of (by decide) (Nat.le_of_ble_eq_true rfl) ?_
  unfold f_St_entryAt at h
  refine lk_iload_n d_St_entryAt_0 rfl ?_
  obtain ⟨t4, hj, h⟩ := x_b h
  refine Lk.joinA 28 [] [] rfl 1 [vI t4] ?_ ?_
  · replace h := hj
    refine lk_if_lt (tgt := 27) d_St_entryAt_1 (by decide) (fun hc => ?_) (fun hc => ?_)
    · replace h := x_ifp hc h
      refine lk_iconst (v := (-1)) d_St_entryAt_27 rfl ?_
      cases h
      refine Lk.sel [] rfl ?_
      exact Lk.stop ⟨rfl, rfl, rfl, rfl, rfl, rfl⟩
    · replace h := x_ifn hc h
      refine lk_iload_n d_St_entryAt_4 rfl ?_
      refine lk_aload_n d_St_entryAt_5 rfl ?_
      obtain ⟨a1, ha1, h⟩ := x_b h
      refine lk_getI (k := 2) d_St_entryAt_6 ha1 (by decide) rfl (by decide) lf_St_18 rfl ?_
      refine lk_icmp_ge (tgt := 27) d_St_entryAt_9 (by decide) (fun hc => ?_) (fun hc => ?_)
      · replace h := x_ifp hc h
        refine lk_iconst (v := (-1)) d_St_entryAt_27 rfl ?_
        cases h
        refine Lk.sel [] rfl ?_
        exact Lk.stop ⟨rfl, rfl, rfl, rfl, rfl, rfl⟩
      · replace h := x_ifn hc h
        refine lk_iload_n d_St_entryAt_12 rfl ?_
        refine lk_bipush (v := 25) d_St_entryAt_13 rfl ?_
        refine lk_icmp_ge (tgt := 27) d_St_entryAt_15 (by decide) (fun hc => ?_) (fun hc => ?_)
        · replace h := x_ifp hc h
          refine lk_iconst (v := (-1)) d_St_entryAt_27 rfl ?_
          cases h
          refine Lk.sel [] rfl ?_
          exact Lk.stop ⟨rfl, rfl, rfl, rfl, rfl, rfl⟩
        · replace h := x_ifn hc h
          refine lk_aload_n d_St_entryAt_18 rfl ?_
          refine lk_getR (k := 0) d_St_entryAt_19 ha1 (by decide) rfl (by decide) lf_St_9 rfl ?_
          refine lk_iload_n d_St_entryAt_22 rfl ?_
          obtain ⟨q2, hq2, h⟩ := x_b h
          obtain ⟨k3, hk3, h⟩ := x_b h
          refine lk_iald d_St_entryAt_23 hq2 hk3 ?_
          refine lk_goto (tgt := 28) d_St_entryAt_24 (by decide) ?_
          cases h
          refine Lk.sel [] rfl ?_
          exact Lk.stop ⟨rfl, rfl, rfl, rfl, rfl, rfl⟩
  · clear hj
    cases h
    exact Lk.stop ⟨rfl, Or.inr (Or.inl ⟨_, _, d_St_entryAt_28, rfl, rfl, rfl, rfl⟩)⟩
def f_St_leadBy (z0 : Nat) (x1 : Int32) (s : hv_S) : Option (Int32 × hv_S) :=
  ((
    if x1 < 0 then
      some ((-1))
    else
      if 8 ≤ x1 then
        some ((-1))
      else
        (x_ob s 10 ((some z0))).bind fun a1 =>
        (x_ar s 0 (hv_R s a1 1)).bind fun q2 =>
        (x_ix q2.2 x1).bind fun k3 =>
        some (hv_I s q2.1 k3)
  ) : Option (Int32)).bind fun t4 =>
  some ((t4, s))
set_option maxRecDepth 4000 in
set_option maxHeartbeats 2000000 in
theorem c_St_leadBy {G : lt_G} {z0 : Nat} {x1 : Int32} {s : hv_S} {p : Int32 × hv_S} (h : f_St_leadBy z0 x1 s = some p) : Ck G m_St_leadBy 1 0 0 [vR (some z0), vI x1] s (some (vI p.1)) p.2 := by
  refine Ck.of (by decide) (Nat.le_of_ble_eq_true rfl) ?_
  unfold f_St_leadBy at h
  refine lk_iload_n d_St_leadBy_0 rfl ?_
  obtain ⟨t4, hj, h⟩ := x_b h
  refine Lk.joinA 20 [] [] rfl 1 [vI t4] ?_ ?_
  · replace h := hj
    refine lk_if_lt (tgt := 19) d_St_leadBy_1 (by decide) (fun hc => ?_) (fun hc => ?_)
    · replace h := x_ifp hc h
      refine lk_iconst (v := (-1)) d_St_leadBy_19 rfl ?_
      cases h
      refine Lk.sel [] rfl ?_
      exact Lk.stop ⟨rfl, rfl, rfl, rfl, rfl, rfl⟩
    · replace h := x_ifn hc h
      refine lk_iload_n d_St_leadBy_4 rfl ?_
      refine lk_bipush (v := 8) d_St_leadBy_5 rfl ?_
      refine lk_icmp_ge (tgt := 19) d_St_leadBy_7 (by decide) (fun hc => ?_) (fun hc => ?_)
      · replace h := x_ifp hc h
        refine lk_iconst (v := (-1)) d_St_leadBy_19 rfl ?_
        cases h
        refine Lk.sel [] rfl ?_
        exact Lk.stop ⟨rfl, rfl, rfl, rfl, rfl, rfl⟩
      · replace h := x_ifn hc h
        refine lk_aload_n d_St_leadBy_10 rfl ?_
        obtain ⟨a1, ha1, h⟩ := x_b h
        refine lk_getR (k := 1) d_St_leadBy_11 ha1 (by decide) rfl (by decide) lf_St_15 rfl ?_
        refine lk_iload_n d_St_leadBy_14 rfl ?_
        obtain ⟨q2, hq2, h⟩ := x_b h
        obtain ⟨k3, hk3, h⟩ := x_b h
        refine lk_iald d_St_leadBy_15 hq2 hk3 ?_
        refine lk_goto (tgt := 20) d_St_leadBy_16 (by decide) ?_
        cases h
        refine Lk.sel [] rfl ?_
        exact Lk.stop ⟨rfl, rfl, rfl, rfl, rfl, rfl⟩
  · clear hj
    cases h
    exact Lk.stop ⟨rfl, Or.inr (Or.inl ⟨_, _, d_St_leadBy_20, rfl, rfl, rfl, rfl⟩)⟩
def f_St_setLead (z0 : Nat) (x1 : Int32) (x2 : Int32) (s : hv_S) : Option (hv_S) :=
  ((
    if x1 < 0 then
      some s
    else
      if 8 ≤ x1 then
        some s
      else
        (x_ob s 10 ((some z0))).bind fun a1 =>
        (x_ar s 0 (hv_R s a1 1)).bind fun q2 =>
        (x_ix q2.2 x1).bind fun k3 =>
        (some (hv_setI s q2.1 k3 x2)).bind fun s4 =>
        some s4
  ) : Option (hv_S)).bind fun t5 =>
  some t5
set_option maxRecDepth 4000 in
set_option maxHeartbeats 2000000 in
theorem c_St_setLead {G : lt_G} {z0 : Nat} {x1 : Int32} {x2 : Int32} {s : hv_S} {p : hv_S} (h : f_St_setLead z0 x1 x2 s = some p) : Ck G m_St_setLead 1 0 0 [vR (some z0), vI x1, vI x2] s none p := by
  refine Ck.of (by decide) (Nat.le_of_ble_eq_true rfl) ?_
  unfold f_St_setLead at h
  refine lk_iload_n d_St_setLead_0 rfl ?_
  obtain ⟨t5, hj, h⟩ := x_b h
  refine Lk.joinS 17 [] [] rfl 1 [] t5 ?_ ?_
  · replace h := hj
    refine lk_if_lt (tgt := 17) d_St_setLead_1 (by decide) (fun hc => ?_) (fun hc => ?_)
    · replace h := x_ifp hc h
      cases h
      refine Lk.sel [] rfl ?_
      exact Lk.stop ⟨rfl, rfl, rfl, rfl, rfl, rfl⟩
    · replace h := x_ifn hc h
      refine lk_iload_n d_St_setLead_4 rfl ?_
      refine lk_bipush (v := 8) d_St_setLead_5 rfl ?_
      refine lk_icmp_ge (tgt := 17) d_St_setLead_7 (by decide) (fun hc => ?_) (fun hc => ?_)
      · replace h := x_ifp hc h
        cases h
        refine Lk.sel [] rfl ?_
        exact Lk.stop ⟨rfl, rfl, rfl, rfl, rfl, rfl⟩
      · replace h := x_ifn hc h
        refine lk_aload_n d_St_setLead_10 rfl ?_
        obtain ⟨a1, ha1, h⟩ := x_b h
        refine lk_getR (k := 1) d_St_setLead_11 ha1 (by decide) rfl (by decide) lf_St_15 rfl ?_
        refine lk_iload_n d_St_setLead_14 rfl ?_
        refine lk_iload_n d_St_setLead_15 rfl ?_
        obtain ⟨q2, hq2, h⟩ := x_b h
        obtain ⟨k3, hk3, h⟩ := x_b h
        replace h := x_nm h
        refine lk_iast d_St_setLead_16 hq2 hk3 ?_
        cases h
        refine Lk.sel [] rfl ?_
        exact Lk.stop ⟨rfl, rfl, rfl, rfl, rfl, rfl⟩
  · clear hj
    cases h
    exact Lk.stop ⟨rfl, Or.inl ⟨d_St_setLead_17, rfl, rfl, rfl⟩⟩
def f_Fo_begin (z0 : Nat) (r1 : Option Nat) (r2 : Option Nat) (x3 : Int32) (x4 : Int32) (s : hv_S) : Option (hv_S) :=
  (x_ob s 4 ((some z0))).bind fun a1 =>
  (some (hv_setR s a1 5 r1)).bind fun s2 =>
  (some (hv_setR s2 a1 6 r2)).bind fun s3 =>
  (some (hv_setI s3 a1 7 x3)).bind fun s4 =>
  (some (hv_setI s4 a1 8 x4)).bind fun s5 =>
  (some (hv_setI s5 a1 2 0)).bind fun s6 =>
  (some (hv_setJ s6 a1 3 0)).bind fun s7 =>
  (some (hv_setI s7 a1 4 0)).bind fun s8 =>
  ((
    if (hv_R s8 a1 6) = none then
      some s8
    else
      (x_ob s8 5 (hv_R s8 a1 6)).bind fun a9 =>
      (f_TL_empty a9 s8).bind fun p10 =>
      some p10
  ) : Option (hv_S)).bind fun t11 =>
  some t11
set_option maxRecDepth 4000 in
set_option maxHeartbeats 2000000 in
theorem c_Fo_begin {G : lt_G} {z0 : Nat} {r1 : Option Nat} {r2 : Option Nat} {x3 : Int32} {x4 : Int32} {s : hv_S} {p : hv_S} (h : f_Fo_begin z0 r1 r2 x3 x4 s = some p) : Ck G m_Fo_begin 2 0 0 [vR (some z0), vR r1, vR r2, vI x3, vI x4] s none p := by
  refine Ck.of (by decide) (Nat.le_of_ble_eq_true rfl) ?_
  unfold f_Fo_begin at h
  refine lk_aload_n d_Fo_begin_0 rfl ?_
  refine lk_aload_n d_Fo_begin_1 rfl ?_
  obtain ⟨a1, ha1, h⟩ := x_b h
  replace h := x_nm h
  refine lk_putR (k := 5) d_Fo_begin_2 ha1 (by decide) rfl (by decide) lf_Fo_19 rfl rfl ?_
  refine lk_aload_n d_Fo_begin_5 rfl ?_
  refine lk_aload_n d_Fo_begin_6 rfl ?_
  replace h := x_nm h
  refine lk_putR (k := 6) d_Fo_begin_7 ha1 (by decide) rfl (by decide) lf_Fo_23 rfl rfl ?_
  refine lk_aload_n d_Fo_begin_10 rfl ?_
  refine lk_iload_n d_Fo_begin_11 rfl ?_
  replace h := x_nm h
  refine lk_putI (k := 7) d_Fo_begin_12 ha1 (by decide) rfl (by decide) lf_Fo_27 rfl rfl ?_
  refine lk_aload_n d_Fo_begin_15 rfl ?_
  refine lk_iload d_Fo_begin_16 rfl ?_
  replace h := x_nm h
  refine lk_putI (k := 8) d_Fo_begin_18 ha1 (by decide) rfl (by decide) lf_Fo_31 rfl rfl ?_
  refine lk_aload_n d_Fo_begin_21 rfl ?_
  refine lk_iconst (v := 0) d_Fo_begin_22 rfl ?_
  replace h := x_nm h
  refine lk_putI (k := 2) d_Fo_begin_23 ha1 (by decide) rfl (by decide) lf_Fo_34 rfl rfl ?_
  refine lk_aload_n d_Fo_begin_26 rfl ?_
  refine lk_lconst (v := 0) d_Fo_begin_27 rfl ?_
  replace h := x_nm h
  refine lk_putJ (k := 3) d_Fo_begin_28 ha1 (by decide) rfl (by decide) lf_Fo_37 rfl rfl ?_
  refine lk_aload_n d_Fo_begin_31 rfl ?_
  refine lk_iconst (v := 0) d_Fo_begin_32 rfl ?_
  replace h := x_nm h
  refine lk_putZ (k := 4) d_Fo_begin_33 ha1 (by decide) (by decide) rfl (by decide) lf_Fo_41 rfl rfl ?_
  refine lk_aload_n d_Fo_begin_36 rfl ?_
  refine lk_getR (k := 6) d_Fo_begin_37 ha1 (by decide) rfl (by decide) lf_Fo_23 rfl ?_
  obtain ⟨t11, hj, h⟩ := x_b h
  refine Lk.joinS 50 [] [] rfl 1 [] t11 ?_ ?_
  · replace h := hj
    refine lk_ifnull (tgt := 50) d_Fo_begin_40 (by decide) (fun hc => ?_) (fun hc => ?_)
    · replace h := x_ifp hc h
      cases h
      refine Lk.sel [] rfl ?_
      exact Lk.stop ⟨rfl, rfl, rfl, rfl, rfl, rfl⟩
    · replace h := x_ifn hc h
      refine lk_aload_n d_Fo_begin_43 rfl ?_
      refine lk_getR (k := 6) d_Fo_begin_44 ha1 (by decide) rfl (by decide) lf_Fo_23 rfl ?_
      obtain ⟨a9, ha9, h⟩ := x_b h
      obtain ⟨p10, hp10, h⟩ := x_b h
      refine lk_callV0 d_Fo_begin_47 ha9 (c_TL_empty hp10) (Nat.le_of_ble_eq_true rfl) rfl M_TL_empty lm_Fo_45 in_TL_empty se_TL_empty (by decide) rfl (Nat.le_of_ble_eq_true rfl) ?_
      cases h
      refine Lk.sel [] rfl ?_
      exact Lk.stop ⟨rfl, rfl, rfl, rfl, rfl, rfl⟩
  · clear hj
    cases h
    exact Lk.stop ⟨rfl, Or.inl ⟨d_Fo_begin_50, rfl, rfl, rfl⟩⟩
def f_Fo_ruleAt (x0 : Int32) (r1 : Option Nat) (s : hv_S) : Option (Int32 × hv_S) :=
  (x_ob s 2 r1).bind fun a1 =>
  (f_Tx_length a1 s).bind fun p2 =>
  ((
    if x0 = p2.1 then
      some 1
    else
      some 0
  ) : Option (Int32)).bind fun t3 =>
  some ((t3, p2.2))
set_option maxRecDepth 4000 in
set_option maxHeartbeats 2000000 in
theorem c_Fo_ruleAt {G : lt_G} {x0 : Int32} {r1 : Option Nat} {s : hv_S} {p : Int32 × hv_S} (h : f_Fo_ruleAt x0 r1 s = some p) : Ck G m_Fo_ruleAt 2 0 0 [vI x0, vR r1] s (some (vI p.1)) p.2 := by
  refine Ck.of (by decide) (Nat.le_of_ble_eq_true rfl) ?_
  unfold f_Fo_ruleAt at h
  refine lk_iload_n d_Fo_ruleAt_0 rfl ?_
  refine lk_aload_n d_Fo_ruleAt_1 rfl ?_
  obtain ⟨a1, ha1, h⟩ := x_b h
  obtain ⟨p2, hp2, h⟩ := x_b h
  refine lk_callV0 d_Fo_ruleAt_2 ha1 (c_Tx_length hp2) (Nat.le_of_ble_eq_true rfl) rfl M_Tx_length lm_Fo_50 in_Tx_length se_Tx_length (by decide) rfl (Nat.le_of_ble_eq_true rfl) ?_
  obtain ⟨t3, hj, h⟩ := x_b h
  refine Lk.joinA 13 [] [] rfl 2 [vI t3] ?_ ?_
  · replace h := hj
    refine lk_icmp_ne (tgt := 12) d_Fo_ruleAt_5 (by decide) (fun hc => ?_) (fun hc => ?_)
    · replace h := x_ifn hc h
      refine lk_iconst (v := 0) d_Fo_ruleAt_12 rfl ?_
      cases h
      refine Lk.sel [] rfl ?_
      exact Lk.stop ⟨rfl, rfl, rfl, rfl, rfl, rfl⟩
    · replace h := x_ifp hc h
      refine lk_iconst (v := 1) d_Fo_ruleAt_8 rfl ?_
      refine lk_goto (tgt := 13) d_Fo_ruleAt_9 (by decide) ?_
      cases h
      refine Lk.sel [] rfl ?_
      exact Lk.stop ⟨rfl, rfl, rfl, rfl, rfl, rfl⟩
  · clear hj
    cases h
    exact Lk.stop ⟨rfl, Or.inr (Or.inl ⟨_, _, d_Fo_ruleAt_13, rfl, rfl, rfl, rfl⟩)⟩
def f_Fo_cameTwice (z0 : Nat) (s : hv_S) : Option (Int32 × hv_S) :=
  (x_ob s 4 ((some z0))).bind fun a1 =>
  (x_z (hv_I s a1 4)).bind fun z2 =>
  some ((z2, s))
set_option maxRecDepth 4000 in
set_option maxHeartbeats 2000000 in
theorem c_Fo_cameTwice {G : lt_G} {z0 : Nat} {s : hv_S} {p : Int32 × hv_S} (h : f_Fo_cameTwice z0 s = some p) : Ck G m_Fo_cameTwice 1 0 0 [vR (some z0)] s (some (vI p.1)) p.2 := by
  refine Ck.of (by decide) (Nat.le_of_ble_eq_true rfl) ?_
  unfold f_Fo_cameTwice at h
  refine lk_aload_n d_Fo_cameTwice_0 rfl ?_
  obtain ⟨a1, ha1, h⟩ := x_b h
  refine lk_getI (k := 4) d_Fo_cameTwice_1 ha1 (by decide) rfl (by decide) lf_Fo_41 rfl ?_
  obtain ⟨z2, hz20, h⟩ := x_b h
  obtain ⟨rfl, hz2⟩ := x_z_some hz20
  cases h
  exact Lk.stop ⟨rfl, Or.inr (Or.inl ⟨_, _, d_Fo_cameTwice_4, rfl, x_zn hz2, rfl, rfl⟩)⟩
def f_Fo_push (z0 : Nat) (x1 : Int32) (w2 : Int64) (s : hv_S) : Option (hv_S) :=
  ((
    if x1 < 0 then
      some s
    else
      if 49 ≤ x1 then
        some s
      else
        (x_ob s 4 ((some z0))).bind fun a1 =>
        if (hv_I s a1 2) < 0 then
          some s
        else
          if 25 ≤ (hv_I s a1 2) then
            some s
          else
            (x_ar s 0 (hv_R s a1 0)).bind fun q2 =>
            (x_ix q2.2 (hv_I s a1 2)).bind fun k3 =>
            (some (hv_setI s q2.1 k3 x1)).bind fun s4 =>
            (x_ar s4 1 (hv_R s4 a1 1)).bind fun q5 =>
            (x_ix q5.2 (hv_I s4 a1 2)).bind fun k6 =>
            (some (hv_setJ s4 q5.1 k6 w2)).bind fun s7 =>
            (some (hv_setI s7 a1 2 ((hv_I s7 a1 2) + (1 : Int32)))).bind fun s8 =>
            some s8
  ) : Option (hv_S)).bind fun t9 =>
  some t9
set_option maxRecDepth 4000 in
set_option maxHeartbeats 2000000 in
theorem c_Fo_push {G : lt_G} {z0 : Nat} {x1 : Int32} {w2 : Int64} {s : hv_S} {p : hv_S} (h : f_Fo_push z0 x1 w2 s = some p) : Ck G m_Fo_push 1 0 0 [vR (some z0), vI x1, vJ w2] s none p := by
  refine Ck.of (by decide) (Nat.le_of_ble_eq_true rfl) ?_
  unfold f_Fo_push at h
  refine lk_iload_n d_Fo_push_0 rfl ?_
  obtain ⟨t9, hj, h⟩ := x_b h
  refine Lk.joinS 56 [] [] rfl 1 [] t9 ?_ ?_
  · replace h := hj
    refine lk_if_lt (tgt := 56) d_Fo_push_1 (by decide) (fun hc => ?_) (fun hc => ?_)
    · replace h := x_ifp hc h
      cases h
      refine Lk.sel [] rfl ?_
      exact Lk.stop ⟨rfl, rfl, rfl, rfl, rfl, rfl⟩
    · replace h := x_ifn hc h
      refine lk_iload_n d_Fo_push_4 rfl ?_
      refine lk_bipush (v := 49) d_Fo_push_5 rfl ?_
      refine lk_icmp_ge (tgt := 56) d_Fo_push_7 (by decide) (fun hc => ?_) (fun hc => ?_)
      · replace h := x_ifp hc h
        cases h
        refine Lk.sel [] rfl ?_
        exact Lk.stop ⟨rfl, rfl, rfl, rfl, rfl, rfl⟩
      · replace h := x_ifn hc h
        refine lk_aload_n d_Fo_push_10 rfl ?_
        obtain ⟨a1, ha1, h⟩ := x_b h
        refine lk_getI (k := 2) d_Fo_push_11 ha1 (by decide) rfl (by decide) lf_Fo_34 rfl ?_
        refine lk_if_lt (tgt := 56) d_Fo_push_14 (by decide) (fun hc => ?_) (fun hc => ?_)
        · replace h := x_ifp hc h
          cases h
          refine Lk.sel [] rfl ?_
          exact Lk.stop ⟨rfl, rfl, rfl, rfl, rfl, rfl⟩
        · replace h := x_ifn hc h
          refine lk_aload_n d_Fo_push_17 rfl ?_
          refine lk_getI (k := 2) d_Fo_push_18 ha1 (by decide) rfl (by decide) lf_Fo_34 rfl ?_
          refine lk_bipush (v := 25) d_Fo_push_21 rfl ?_
          refine lk_icmp_ge (tgt := 56) d_Fo_push_23 (by decide) (fun hc => ?_) (fun hc => ?_)
          · replace h := x_ifp hc h
            cases h
            refine Lk.sel [] rfl ?_
            exact Lk.stop ⟨rfl, rfl, rfl, rfl, rfl, rfl⟩
          · replace h := x_ifn hc h
            refine lk_aload_n d_Fo_push_26 rfl ?_
            refine lk_getR (k := 0) d_Fo_push_27 ha1 (by decide) rfl (by decide) lf_Fo_11 rfl ?_
            refine lk_aload_n d_Fo_push_30 rfl ?_
            refine lk_getI (k := 2) d_Fo_push_31 ha1 (by decide) rfl (by decide) lf_Fo_34 rfl ?_
            refine lk_iload_n d_Fo_push_34 rfl ?_
            obtain ⟨q2, hq2, h⟩ := x_b h
            obtain ⟨k3, hk3, h⟩ := x_b h
            replace h := x_nm h
            refine lk_iast d_Fo_push_35 hq2 hk3 ?_
            refine lk_aload_n d_Fo_push_36 rfl ?_
            refine lk_getR (k := 1) d_Fo_push_37 ha1 (by decide) rfl (by decide) lf_Fo_15 rfl ?_
            refine lk_aload_n d_Fo_push_40 rfl ?_
            refine lk_getI (k := 2) d_Fo_push_41 ha1 (by decide) rfl (by decide) lf_Fo_34 rfl ?_
            refine lk_lload_n d_Fo_push_44 rfl ?_
            obtain ⟨q5, hq5, h⟩ := x_b h
            obtain ⟨k6, hk6, h⟩ := x_b h
            replace h := x_nm h
            refine lk_last d_Fo_push_45 hq5 hk6 ?_
            refine lk_aload_n d_Fo_push_46 rfl ?_
            refine lk_dup d_Fo_push_47 rfl ?_
            refine lk_getI (k := 2) d_Fo_push_48 ha1 (by decide) rfl (by decide) lf_Fo_34 rfl ?_
            refine lk_iconst (v := 1) d_Fo_push_51 rfl ?_
            refine lk_iadd d_Fo_push_52 ?_
            replace h := x_nm h
            refine lk_putI (k := 2) d_Fo_push_53 ha1 (by decide) rfl (by decide) lf_Fo_34 rfl rfl ?_
            cases h
            refine Lk.sel [] rfl ?_
            exact Lk.stop ⟨rfl, rfl, rfl, rfl, rfl, rfl⟩
  · clear hj
    cases h
    exact Lk.stop ⟨rfl, Or.inl ⟨d_Fo_push_56, rfl, rfl, rfl⟩⟩
def f_Fo_step (z0 : Nat) (x1 : Int32) (w2 : Int64) (s : hv_S) : Option (hv_S) :=
  (some ((1 : Int64) <<< (x1.toInt64 &&& 63))).bind fun y1 =>
  (x_ob s 4 ((some z0))).bind fun a2 =>
  if (lg_cmp ((hv_J s a2 3) &&& y1) 0) = 0 then
    (some (hv_setJ s a2 3 ((hv_J s a2 3) ||| y1))).bind fun s3 =>
    (x_ob s3 8 (hv_R s3 a2 5)).bind fun a4 =>
    (f_Pr_kindAt a4 x1 s3).bind fun p5 =>
    ((
      if p5.1 = 2 then
        (x_ob p5.2 4 ((some z0))).bind fun a6 =>
        (x_ob p5.2 8 (hv_R p5.2 a6 5)).bind fun a7 =>
        (f_Pr_yAt a7 x1 p5.2).bind fun p8 =>
        (x_ob p8.2 4 ((some z0))).bind fun a9 =>
        (f_Fo_push a9 p8.1 w2 p8.2).bind fun p10 =>
        (x_ob p10 4 ((some z0))).bind fun a11 =>
        (x_ob p10 8 (hv_R p10 a11 5)).bind fun a12 =>
        (f_Pr_xAt a12 x1 p10).bind fun p13 =>
        (x_ob p13.2 4 ((some z0))).bind fun a14 =>
        (f_Fo_push a14 p13.1 w2 p13.2).bind fun p15 =>
        some p15
      else if p5.1 = 3 then
        (x_ob p5.2 4 ((some z0))).bind fun a16 =>
        (x_ob p5.2 8 (hv_R p5.2 a16 5)).bind fun a17 =>
        (f_Pr_xAt a17 x1 p5.2).bind fun p18 =>
        (x_ob p18.2 4 ((some z0))).bind fun a19 =>
        (f_Fo_push a19 p18.1 w2 p18.2).bind fun p20 =>
        some p20
      else if p5.1 = 4 then
        (x_ob p5.2 4 ((some z0))).bind fun a21 =>
        (x_ob p5.2 8 (hv_R p5.2 a21 5)).bind fun a22 =>
        (f_Pr_xAt a22 x1 p5.2).bind fun p23 =>
        (x_ob p23.2 4 ((some z0))).bind fun a24 =>
        (f_C_withSlot w2 p23.1 (hv_I p23.2 a24 7) p23.2).bind fun p25 =>
        (x_ob p25.2 4 ((some z0))).bind fun a26 =>
        (f_Fo_push a26 (x1 + (1 : Int32)) p25.1 p25.2).bind fun p27 =>
        some p27
      else if p5.1 = 5 then
        (x_ob p5.2 4 ((some z0))).bind fun a28 =>
        if (hv_I p5.2 a28 7) = 0 then
          (f_Fo_push a28 (x1 + (1 : Int32)) w2 p5.2).bind fun p29 =>
          some p29
        else
          some p5.2
      else if p5.1 = 6 then
        (x_ob p5.2 4 ((some z0))).bind fun a30 =>
        if (hv_I p5.2 a30 8) = 1 then
          (f_Fo_push a30 (x1 + (1 : Int32)) w2 p5.2).bind fun p33 =>
          some p33
        else
          if (hv_I p5.2 a30 8) = 2 then
            (x_ob p5.2 5 (hv_R p5.2 a30 6)).bind fun a31 =>
            (f_TL_add a31 x1 w2 p5.2).bind fun p32 =>
            some p32
          else
            some p5.2
      else
        (x_ob p5.2 4 ((some z0))).bind fun a34 =>
        (x_ob p5.2 5 (hv_R p5.2 a34 6)).bind fun a35 =>
        (f_TL_add a35 x1 w2 p5.2).bind fun p36 =>
        some p36
    ) : Option (hv_S)).bind fun t37 =>
    some t37
  else
    (some (hv_setI s a2 4 1)).bind fun s38 =>
    some s38
set_option maxRecDepth 4000 in
set_option maxHeartbeats 2000000 in
theorem c_Fo_step {G : lt_G} {z0 : Nat} {x1 : Int32} {w2 : Int64} {s : hv_S} {p : hv_S} (h : f_Fo_step z0 x1 w2 s = some p) : Ck G m_Fo_step 2 0 0 [vR (some z0), vI x1, vJ w2] s none p := by
  refine Ck.of (by decide) (Nat.le_of_ble_eq_true rfl) ?_
  unfold f_Fo_step at h
  refine lk_lconst (v := 1) d_Fo_step_0 rfl ?_
  refine lk_iload_n d_Fo_step_1 rfl ?_
  refine lk_lshl d_Fo_step_2 ?_
  replace h := x_nm h
  refine lk_lstore d_Fo_step_3 (by decide) rfl ?_
  refine lk_aload_n d_Fo_step_5 rfl ?_
  obtain ⟨a2, ha2, h⟩ := x_b h
  refine lk_getJ (k := 3) d_Fo_step_6 ha2 (by decide) rfl (by decide) lf_Fo_37 rfl ?_
  refine lk_lload d_Fo_step_9 rfl ?_
  refine lk_land d_Fo_step_11 ?_
  refine lk_lconst (v := 0) d_Fo_step_12 rfl ?_
  refine lk_lcmp d_Fo_step_13 ?_
  refine lk_if_eq (tgt := 23) d_Fo_step_14 (by decide) (fun hc => ?_) (fun hc => ?_)
  · replace h := x_ifp hc h
    refine lk_aload_n d_Fo_step_23 rfl ?_
    refine lk_dup d_Fo_step_24 rfl ?_
    refine lk_getJ (k := 3) d_Fo_step_25 ha2 (by decide) rfl (by decide) lf_Fo_37 rfl ?_
    refine lk_lload d_Fo_step_28 rfl ?_
    refine lk_lor d_Fo_step_30 ?_
    replace h := x_nm h
    refine lk_putJ (k := 3) d_Fo_step_31 ha2 (by decide) rfl (by decide) lf_Fo_37 rfl rfl ?_
    refine lk_aload_n d_Fo_step_34 rfl ?_
    refine lk_getR (k := 5) d_Fo_step_35 ha2 (by decide) rfl (by decide) lf_Fo_19 rfl ?_
    refine lk_iload_n d_Fo_step_38 rfl ?_
    obtain ⟨a4, ha4, h⟩ := x_b h
    obtain ⟨p5, hp5, h⟩ := x_b h
    refine lk_callV0 d_Fo_step_39 ha4 (c_Pr_kindAt hp5) (Nat.le_of_ble_eq_true rfl) rfl M_Pr_kindAt lm_Fo_63 in_Pr_kindAt se_Pr_kindAt (by decide) rfl (Nat.le_of_ble_eq_true rfl) ?_
    obtain ⟨t37, hj, h⟩ := x_b h
    refine Lk.joinS 213 [] [] rfl 1 [] t37 ?_ ?_
    · replace h := hj
      by_cases g0 : p5.1 = 2
      · replace h := x_ifp g0 h
        refine lk_tableIn (tgt := 76) d_Fo_step_42 (by rw [g0]; decide) (by rw [g0]; decide) (by rw [g0]; rfl) (by decide) ?_
        refine lk_aload_n d_Fo_step_76 rfl ?_
        refine lk_aload_n d_Fo_step_77 rfl ?_
        obtain ⟨a6, ha6, h⟩ := x_b h
        refine lk_getR (k := 5) d_Fo_step_78 ha6 (by decide) rfl (by decide) lf_Fo_19 rfl ?_
        refine lk_iload_n d_Fo_step_81 rfl ?_
        obtain ⟨a7, ha7, h⟩ := x_b h
        obtain ⟨p8, hp8, h⟩ := x_b h
        refine lk_callV0 d_Fo_step_82 ha7 (c_Pr_yAt hp8) (Nat.le_of_ble_eq_true rfl) rfl M_Pr_yAt lm_Fo_69 in_Pr_yAt se_Pr_yAt (by decide) rfl (Nat.le_of_ble_eq_true rfl) ?_
        refine lk_lload_n d_Fo_step_85 rfl ?_
        obtain ⟨a9, ha9, h⟩ := x_b h
        obtain ⟨p10, hp10, h⟩ := x_b h
        refine lk_callV0 d_Fo_step_86 ha9 (c_Fo_push hp10) (Nat.le_of_ble_eq_true rfl) rfl M_Fo_push lm_Fo_56 in_Fo_push se_Fo_push (by decide) rfl (Nat.le_of_ble_eq_true rfl) ?_
        refine lk_aload_n d_Fo_step_89 rfl ?_
        refine lk_aload_n d_Fo_step_90 rfl ?_
        obtain ⟨a11, ha11, h⟩ := x_b h
        refine lk_getR (k := 5) d_Fo_step_91 ha11 (by decide) rfl (by decide) lf_Fo_19 rfl ?_
        refine lk_iload_n d_Fo_step_94 rfl ?_
        obtain ⟨a12, ha12, h⟩ := x_b h
        obtain ⟨p13, hp13, h⟩ := x_b h
        refine lk_callV0 d_Fo_step_95 ha12 (c_Pr_xAt hp13) (Nat.le_of_ble_eq_true rfl) rfl M_Pr_xAt lm_Fo_72 in_Pr_xAt se_Pr_xAt (by decide) rfl (Nat.le_of_ble_eq_true rfl) ?_
        refine lk_lload_n d_Fo_step_98 rfl ?_
        obtain ⟨a14, ha14, h⟩ := x_b h
        obtain ⟨p15, hp15, h⟩ := x_b h
        refine lk_callV0 d_Fo_step_99 ha14 (c_Fo_push hp15) (Nat.le_of_ble_eq_true rfl) rfl M_Fo_push lm_Fo_56 in_Fo_push se_Fo_push (by decide) rfl (Nat.le_of_ble_eq_true rfl) ?_
        refine lk_goto (tgt := 213) d_Fo_step_102 (by decide) ?_
        cases h
        refine Lk.sel [] rfl ?_
        exact Lk.stop ⟨rfl, rfl, rfl, rfl, rfl, rfl⟩
      · replace h := x_ifn g0 h
        by_cases g1 : p5.1 = 3
        · replace h := x_ifp g1 h
          refine lk_tableIn (tgt := 105) d_Fo_step_42 (by rw [g1]; decide) (by rw [g1]; decide) (by rw [g1]; rfl) (by decide) ?_
          refine lk_aload_n d_Fo_step_105 rfl ?_
          refine lk_aload_n d_Fo_step_106 rfl ?_
          obtain ⟨a16, ha16, h⟩ := x_b h
          refine lk_getR (k := 5) d_Fo_step_107 ha16 (by decide) rfl (by decide) lf_Fo_19 rfl ?_
          refine lk_iload_n d_Fo_step_110 rfl ?_
          obtain ⟨a17, ha17, h⟩ := x_b h
          obtain ⟨p18, hp18, h⟩ := x_b h
          refine lk_callV0 d_Fo_step_111 ha17 (c_Pr_xAt hp18) (Nat.le_of_ble_eq_true rfl) rfl M_Pr_xAt lm_Fo_72 in_Pr_xAt se_Pr_xAt (by decide) rfl (Nat.le_of_ble_eq_true rfl) ?_
          refine lk_lload_n d_Fo_step_114 rfl ?_
          obtain ⟨a19, ha19, h⟩ := x_b h
          obtain ⟨p20, hp20, h⟩ := x_b h
          refine lk_callV0 d_Fo_step_115 ha19 (c_Fo_push hp20) (Nat.le_of_ble_eq_true rfl) rfl M_Fo_push lm_Fo_56 in_Fo_push se_Fo_push (by decide) rfl (Nat.le_of_ble_eq_true rfl) ?_
          refine lk_goto (tgt := 213) d_Fo_step_118 (by decide) ?_
          cases h
          refine Lk.sel [] rfl ?_
          exact Lk.stop ⟨rfl, rfl, rfl, rfl, rfl, rfl⟩
        · replace h := x_ifn g1 h
          by_cases g2 : p5.1 = 4
          · replace h := x_ifp g2 h
            refine lk_tableIn (tgt := 121) d_Fo_step_42 (by rw [g2]; decide) (by rw [g2]; decide) (by rw [g2]; rfl) (by decide) ?_
            refine lk_aload_n d_Fo_step_121 rfl ?_
            refine lk_iload_n d_Fo_step_122 rfl ?_
            refine lk_iconst (v := 1) d_Fo_step_123 rfl ?_
            refine lk_iadd d_Fo_step_124 ?_
            refine lk_lload_n d_Fo_step_125 rfl ?_
            refine lk_aload_n d_Fo_step_126 rfl ?_
            obtain ⟨a21, ha21, h⟩ := x_b h
            refine lk_getR (k := 5) d_Fo_step_127 ha21 (by decide) rfl (by decide) lf_Fo_19 rfl ?_
            refine lk_iload_n d_Fo_step_130 rfl ?_
            obtain ⟨a22, ha22, h⟩ := x_b h
            obtain ⟨p23, hp23, h⟩ := x_b h
            refine lk_callV0 d_Fo_step_131 ha22 (c_Pr_xAt hp23) (Nat.le_of_ble_eq_true rfl) rfl M_Pr_xAt lm_Fo_72 in_Pr_xAt se_Pr_xAt (by decide) rfl (Nat.le_of_ble_eq_true rfl) ?_
            refine lk_aload_n d_Fo_step_134 rfl ?_
            obtain ⟨a24, ha24, h⟩ := x_b h
            refine lk_getI (k := 7) d_Fo_step_135 ha24 (by decide) rfl (by decide) lf_Fo_27 rfl ?_
            obtain ⟨p25, hp25, h⟩ := x_b h
            refine lk_callS0 d_Fo_step_138 (c_C_withSlot hp25) (Nat.le_of_ble_eq_true rfl) rfl M_C_withSlot lm_Fo_75 st_C_withSlot (Nat.le_of_ble_eq_true rfl) ?_
            obtain ⟨a26, ha26, h⟩ := x_b h
            obtain ⟨p27, hp27, h⟩ := x_b h
            refine lk_callV0 d_Fo_step_141 ha26 (c_Fo_push hp27) (Nat.le_of_ble_eq_true rfl) rfl M_Fo_push lm_Fo_56 in_Fo_push se_Fo_push (by decide) rfl (Nat.le_of_ble_eq_true rfl) ?_
            refine lk_goto (tgt := 213) d_Fo_step_144 (by decide) ?_
            cases h
            refine Lk.sel [] rfl ?_
            exact Lk.stop ⟨rfl, rfl, rfl, rfl, rfl, rfl⟩
          · replace h := x_ifn g2 h
            by_cases g3 : p5.1 = 5
            · replace h := x_ifp g3 h
              refine lk_tableIn (tgt := 147) d_Fo_step_42 (by rw [g3]; decide) (by rw [g3]; decide) (by rw [g3]; rfl) (by decide) ?_
              refine lk_aload_n d_Fo_step_147 rfl ?_
              obtain ⟨a28, ha28, h⟩ := x_b h
              refine lk_getI (k := 7) d_Fo_step_148 ha28 (by decide) rfl (by decide) lf_Fo_27 rfl ?_
              refine lk_if_ne (tgt := 213) d_Fo_step_151 (by decide) (fun hc => ?_) (fun hc => ?_)
              · replace h := x_ifn hc h
                cases h
                refine Lk.sel [] rfl ?_
                exact Lk.stop ⟨rfl, rfl, rfl, rfl, rfl, rfl⟩
              · replace h := x_ifp hc h
                refine lk_aload_n d_Fo_step_154 rfl ?_
                refine lk_iload_n d_Fo_step_155 rfl ?_
                refine lk_iconst (v := 1) d_Fo_step_156 rfl ?_
                refine lk_iadd d_Fo_step_157 ?_
                refine lk_lload_n d_Fo_step_158 rfl ?_
                obtain ⟨p29, hp29, h⟩ := x_b h
                refine lk_callV0 d_Fo_step_159 ha28 (c_Fo_push hp29) (Nat.le_of_ble_eq_true rfl) rfl M_Fo_push lm_Fo_56 in_Fo_push se_Fo_push (by decide) rfl (Nat.le_of_ble_eq_true rfl) ?_
                refine lk_goto (tgt := 213) d_Fo_step_162 (by decide) ?_
                cases h
                refine Lk.sel [] rfl ?_
                exact Lk.stop ⟨rfl, rfl, rfl, rfl, rfl, rfl⟩
            · replace h := x_ifn g3 h
              by_cases g4 : p5.1 = 6
              · replace h := x_ifp g4 h
                refine lk_tableIn (tgt := 165) d_Fo_step_42 (by rw [g4]; decide) (by rw [g4]; decide) (by rw [g4]; rfl) (by decide) ?_
                refine lk_aload_n d_Fo_step_165 rfl ?_
                obtain ⟨a30, ha30, h⟩ := x_b h
                refine lk_getI (k := 8) d_Fo_step_166 ha30 (by decide) rfl (by decide) lf_Fo_31 rfl ?_
                refine lk_iconst (v := 1) d_Fo_step_169 rfl ?_
                refine lk_icmp_ne (tgt := 184) d_Fo_step_170 (by decide) (fun hc => ?_) (fun hc => ?_)
                · replace h := x_ifn hc h
                  refine lk_aload_n d_Fo_step_184 rfl ?_
                  refine lk_getI (k := 8) d_Fo_step_185 ha30 (by decide) rfl (by decide) lf_Fo_31 rfl ?_
                  refine lk_iconst (v := 2) d_Fo_step_188 rfl ?_
                  refine lk_icmp_ne (tgt := 213) d_Fo_step_189 (by decide) (fun hc => ?_) (fun hc => ?_)
                  · replace h := x_ifn hc h
                    cases h
                    refine Lk.sel [] rfl ?_
                    exact Lk.stop ⟨rfl, rfl, rfl, rfl, rfl, rfl⟩
                  · replace h := x_ifp hc h
                    refine lk_aload_n d_Fo_step_192 rfl ?_
                    refine lk_getR (k := 6) d_Fo_step_193 ha30 (by decide) rfl (by decide) lf_Fo_23 rfl ?_
                    refine lk_iload_n d_Fo_step_196 rfl ?_
                    refine lk_lload_n d_Fo_step_197 rfl ?_
                    obtain ⟨a31, ha31, h⟩ := x_b h
                    obtain ⟨p32, hp32, h⟩ := x_b h
                    refine lk_callV0 d_Fo_step_198 ha31 (c_TL_add hp32) (Nat.le_of_ble_eq_true rfl) rfl M_TL_add lm_Fo_79 in_TL_add se_TL_add (by decide) rfl (Nat.le_of_ble_eq_true rfl) ?_
                    refine lk_goto (tgt := 213) d_Fo_step_201 (by decide) ?_
                    cases h
                    refine Lk.sel [] rfl ?_
                    exact Lk.stop ⟨rfl, rfl, rfl, rfl, rfl, rfl⟩
                · replace h := x_ifp hc h
                  refine lk_aload_n d_Fo_step_173 rfl ?_
                  refine lk_iload_n d_Fo_step_174 rfl ?_
                  refine lk_iconst (v := 1) d_Fo_step_175 rfl ?_
                  refine lk_iadd d_Fo_step_176 ?_
                  refine lk_lload_n d_Fo_step_177 rfl ?_
                  obtain ⟨p33, hp33, h⟩ := x_b h
                  refine lk_callV0 d_Fo_step_178 ha30 (c_Fo_push hp33) (Nat.le_of_ble_eq_true rfl) rfl M_Fo_push lm_Fo_56 in_Fo_push se_Fo_push (by decide) rfl (Nat.le_of_ble_eq_true rfl) ?_
                  refine lk_goto (tgt := 213) d_Fo_step_181 (by decide) ?_
                  cases h
                  refine Lk.sel [] rfl ?_
                  exact Lk.stop ⟨rfl, rfl, rfl, rfl, rfl, rfl⟩
              · replace h := x_ifn g4 h
                have e0 := lv_neT g0 (a := 2) rfl
                have e1 := lv_neT g1 (a := 3) rfl
                have e2 := lv_neT g2 (a := 4) rfl
                have e3 := lv_neT g3 (a := 5) rfl
                have e4 := lv_neT g4 (a := 6) rfl
                refine lk_tableOut (tgt := 204) d_Fo_step_42 (by omega) (by decide) ?_
                refine lk_aload_n d_Fo_step_204 rfl ?_
                obtain ⟨a34, ha34, h⟩ := x_b h
                refine lk_getR (k := 6) d_Fo_step_205 ha34 (by decide) rfl (by decide) lf_Fo_23 rfl ?_
                refine lk_iload_n d_Fo_step_208 rfl ?_
                refine lk_lload_n d_Fo_step_209 rfl ?_
                obtain ⟨a35, ha35, h⟩ := x_b h
                obtain ⟨p36, hp36, h⟩ := x_b h
                refine lk_callV0 d_Fo_step_210 ha35 (c_TL_add hp36) (Nat.le_of_ble_eq_true rfl) rfl M_TL_add lm_Fo_79 in_TL_add se_TL_add (by decide) rfl (Nat.le_of_ble_eq_true rfl) ?_
                cases h
                refine Lk.sel [] rfl ?_
                exact Lk.stop ⟨rfl, rfl, rfl, rfl, rfl, rfl⟩
    · clear hj
      cases h
      exact Lk.stop ⟨rfl, Or.inl ⟨d_Fo_step_213, rfl, rfl, rfl⟩⟩
  · replace h := x_ifn hc h
    refine lk_aload_n d_Fo_step_17 rfl ?_
    refine lk_iconst (v := 1) d_Fo_step_18 rfl ?_
    replace h := x_nm h
    refine lk_putZ (k := 4) d_Fo_step_19 ha2 (by decide) (by decide) rfl (by decide) lf_Fo_41 rfl rfl ?_
    cases h
    exact Lk.stop ⟨rfl, Or.inl ⟨d_Fo_step_22, rfl, rfl, rfl⟩⟩
def L_Fo_follow_24 : Nat → Option Nat → Int32 → hv_S → Option (hv_S)
  | 0, _, _, _ => none
  | n + 1, x0, x4, s =>
    if 99 ≤ x4 then
      some s
    else
      (x_ob s 4 x0).bind fun a3 =>
      if (hv_I s a3 2) ≤ 0 then
        some s
      else
        if 25 < (hv_I s a3 2) then
          some s
        else
          (some (hv_setI s a3 2 ((hv_I s a3 2) - (1 : Int32)))).bind fun s4 =>
          (x_ar s4 0 (hv_R s4 a3 0)).bind fun q5 =>
          (x_ix q5.2 (hv_I s4 a3 2)).bind fun k6 =>
          (x_ar s4 1 (hv_R s4 a3 1)).bind fun q7 =>
          (x_ix q7.2 (hv_I s4 a3 2)).bind fun k8 =>
          (f_Fo_step a3 (hv_I s4 q5.1 k6) (hv_J s4 q7.1 k8) s4).bind fun p9 =>
          L_Fo_follow_24 n x0 (x4 + 1) p9
set_option maxRecDepth 4000 in
set_option maxHeartbeats 2000000 in
theorem l_Fo_follow_24 {G : lt_G} : ∀ (n : Nat) (x0 : Option Nat) (x4 : Int32) (s : hv_S) (e0 : hv_S), L_Fo_follow_24 n x0 x4 s = some e0 → Lk G m_Fo_follow 3 24 [(0, vR x0), (4, vI x4)] [] s 0 0 (lk_at 85 [] [] e0 0 0) := by
  intro n
  induction n with
  | zero => intro x0 x4 s e0 h; cases h
  | succ n ih =>
    intro x0 x4 s e0 h
    unfold L_Fo_follow_24 at h
    refine lk_iload d_Fo_follow_24 rfl ?_
    refine lk_bipush (v := 99) d_Fo_follow_26 rfl ?_
    refine lk_icmp_ge (tgt := 85) d_Fo_follow_28 (by decide) (fun hc => ?_) (fun hc => ?_)
    · replace h := x_ifp hc h
      cases h
      refine Lk.sel [] rfl ?_
      exact Lk.stop ⟨rfl, rfl, rfl, rfl, rfl, rfl⟩
    · replace h := x_ifn hc h
      refine lk_aload_n d_Fo_follow_31 rfl ?_
      obtain ⟨a3, ha3, h⟩ := x_b h
      refine lk_getI (k := 2) d_Fo_follow_32 ha3 (by decide) rfl (by decide) lf_Fo_34 rfl ?_
      refine lk_if_le (tgt := 85) d_Fo_follow_35 (by decide) (fun hc => ?_) (fun hc => ?_)
      · replace h := x_ifp hc h
        cases h
        refine Lk.sel [] rfl ?_
        exact Lk.stop ⟨rfl, rfl, rfl, rfl, rfl, rfl⟩
      · replace h := x_ifn hc h
        refine lk_aload_n d_Fo_follow_38 rfl ?_
        refine lk_getI (k := 2) d_Fo_follow_39 ha3 (by decide) rfl (by decide) lf_Fo_34 rfl ?_
        refine lk_bipush (v := 25) d_Fo_follow_42 rfl ?_
        refine lk_icmp_gt (tgt := 85) d_Fo_follow_44 (by decide) (fun hc => ?_) (fun hc => ?_)
        · replace h := x_ifp hc h
          cases h
          refine Lk.sel [] rfl ?_
          exact Lk.stop ⟨rfl, rfl, rfl, rfl, rfl, rfl⟩
        · replace h := x_ifn hc h
          refine lk_aload_n d_Fo_follow_47 rfl ?_
          refine lk_dup d_Fo_follow_48 rfl ?_
          refine lk_getI (k := 2) d_Fo_follow_49 ha3 (by decide) rfl (by decide) lf_Fo_34 rfl ?_
          refine lk_iconst (v := 1) d_Fo_follow_52 rfl ?_
          refine lk_isub d_Fo_follow_53 ?_
          replace h := x_nm h
          refine lk_putI (k := 2) d_Fo_follow_54 ha3 (by decide) rfl (by decide) lf_Fo_34 rfl rfl ?_
          refine lk_aload_n d_Fo_follow_57 rfl ?_
          refine lk_aload_n d_Fo_follow_58 rfl ?_
          refine lk_getR (k := 0) d_Fo_follow_59 ha3 (by decide) rfl (by decide) lf_Fo_11 rfl ?_
          refine lk_aload_n d_Fo_follow_62 rfl ?_
          refine lk_getI (k := 2) d_Fo_follow_63 ha3 (by decide) rfl (by decide) lf_Fo_34 rfl ?_
          obtain ⟨q5, hq5, h⟩ := x_b h
          obtain ⟨k6, hk6, h⟩ := x_b h
          refine lk_iald d_Fo_follow_66 hq5 hk6 ?_
          refine lk_aload_n d_Fo_follow_67 rfl ?_
          refine lk_getR (k := 1) d_Fo_follow_68 ha3 (by decide) rfl (by decide) lf_Fo_15 rfl ?_
          refine lk_aload_n d_Fo_follow_71 rfl ?_
          refine lk_getI (k := 2) d_Fo_follow_72 ha3 (by decide) rfl (by decide) lf_Fo_34 rfl ?_
          obtain ⟨q7, hq7, h⟩ := x_b h
          obtain ⟨k8, hk8, h⟩ := x_b h
          refine lk_lald d_Fo_follow_75 hq7 hk8 ?_
          obtain ⟨p9, hp9, h⟩ := x_b h
          refine lk_callV0 d_Fo_follow_76 ha3 (c_Fo_step hp9) (Nat.le_of_ble_eq_true rfl) rfl M_Fo_step lm_Fo_60 in_Fo_step se_Fo_step (by decide) rfl (Nat.le_of_ble_eq_true rfl) ?_
          refine lk_iinc (v := _ + 1) d_Fo_follow_79 rfl rfl (by decide) rfl ?_
          refine lk_goto (tgt := 24) d_Fo_follow_82 (by decide) ?_
          refine Lk.sel [0, 4] rfl ?_
          exact ih _ _ _ _ h
def f_Fo_follow (z0 : Nat) (x1 : Int32) (w2 : Int64) (s : hv_S) : Option (hv_S) :=
  (x_ob s 4 ((some z0))).bind fun a1 =>
  if (hv_R s a1 5) = none then
    some s
  else
    if (hv_R s a1 6) = none then
      some s
    else
      (f_Fo_push a1 x1 w2 s).bind fun p2 =>
      (L_Fo_follow_24 100000 ((some z0)) 0 p2).bind fun e10 =>
      some e10
set_option maxRecDepth 4000 in
set_option maxHeartbeats 2000000 in
theorem c_Fo_follow {G : lt_G} {z0 : Nat} {x1 : Int32} {w2 : Int64} {s : hv_S} {p : hv_S} (h : f_Fo_follow z0 x1 w2 s = some p) : Ck G m_Fo_follow 3 0 0 [vR (some z0), vI x1, vJ w2] s none p := by
  refine Ck.of (by decide) (Nat.le_of_ble_eq_true rfl) ?_
  unfold f_Fo_follow at h
  refine lk_aload_n d_Fo_follow_0 rfl ?_
  obtain ⟨a1, ha1, h⟩ := x_b h
  refine lk_getR (k := 5) d_Fo_follow_1 ha1 (by decide) rfl (by decide) lf_Fo_19 rfl ?_
  refine lk_ifnull (tgt := 14) d_Fo_follow_4 (by decide) (fun hc => ?_) (fun hc => ?_)
  · replace h := x_ifp hc h
    cases h
    exact Lk.stop ⟨rfl, Or.inl ⟨d_Fo_follow_14, rfl, rfl, rfl⟩⟩
  · replace h := x_ifn hc h
    refine lk_aload_n d_Fo_follow_7 rfl ?_
    refine lk_getR (k := 6) d_Fo_follow_8 ha1 (by decide) rfl (by decide) lf_Fo_23 rfl ?_
    refine lk_ifnonnull (tgt := 15) d_Fo_follow_11 (by decide) (fun hc => ?_) (fun hc => ?_)
    · replace h := x_ifn hc h
      refine lk_aload_n d_Fo_follow_15 rfl ?_
      refine lk_iload_n d_Fo_follow_16 rfl ?_
      refine lk_lload_n d_Fo_follow_17 rfl ?_
      obtain ⟨p2, hp2, h⟩ := x_b h
      refine lk_callV0 d_Fo_follow_18 ha1 (c_Fo_push hp2) (Nat.le_of_ble_eq_true rfl) rfl M_Fo_push lm_Fo_56 in_Fo_push se_Fo_push (by decide) rfl (Nat.le_of_ble_eq_true rfl) ?_
      refine lk_iconst (v := 0) d_Fo_follow_21 rfl ?_
      refine lk_istore d_Fo_follow_22 (by decide) rfl ?_
      obtain ⟨e10, hl, h⟩ := x_b h
      refine Lk.sel [0, 4] rfl ?_
      refine Lk.trans (l_Fo_follow_24 _ _ _ _ _ hl) ?_
      intro pc' lo' st' s' mc' ms' hx
      obtain ⟨rfl, rfl, rfl, rfl, rfl, rfl⟩ := hx
      cases h
      exact Lk.stop ⟨rfl, Or.inl ⟨d_Fo_follow_85, rfl, rfl, rfl⟩⟩
    · replace h := x_ifp hc h
      cases h
      exact Lk.stop ⟨rfl, Or.inl ⟨d_Fo_follow_14, rfl, rfl, rfl⟩⟩
end
