section
-- ===== PART A: goes FIRST, ahead of the names: the tables' words, and 'selects' of the private methods out of them =====
/-- a private method of a class that the tables say can be made, by its rows of tables_1 -/
def lw_okq (q : MethodName × Nat) : Prop := (q.1.cls ≠ "java/lang/invoke/MethodHandle" ∧ q.1.cls ≠ "java/lang/invoke/VarHandle") ∧ Cond.instantiable q.1.cls q.2 ∈ tables_1 ∧ Cond.privateMethod q.1 ∈ tables_1 ∧ Cond.instanceMethod q.1 ∈ tables_1
theorem lw_p0 : lw_okq (⟨"LinearSearch", "forgetSearch", "()V"⟩, 14) := ⟨⟨by decide +kernel, by decide +kernel⟩, List.mem_of_getElem? (i := 22) (by decide +kernel), List.mem_of_getElem? (i := 338) (by decide +kernel), List.mem_of_getElem? (i := 339) (by decide +kernel)⟩
theorem lw_p1 : lw_okq (⟨"LinearSearch", "note", "(II)V"⟩, 14) := ⟨⟨by decide +kernel, by decide +kernel⟩, List.mem_of_getElem? (i := 22) (by decide +kernel), List.mem_of_getElem? (i := 342) (by decide +kernel), List.mem_of_getElem? (i := 343) (by decide +kernel)⟩
theorem lw_p2 : lw_okq (⟨"LinearSearch$Writer", "writeChoice", "()Z"⟩, 5) := ⟨⟨by decide +kernel, by decide +kernel⟩, List.mem_of_getElem? (i := 30) (by decide +kernel), List.mem_of_getElem? (i := 397) (by decide +kernel), List.mem_of_getElem? (i := 398) (by decide +kernel)⟩
theorem lw_p3 : lw_okq (⟨"LinearSearch$Writer", "writeSequence", "()Z"⟩, 5) := ⟨⟨by decide +kernel, by decide +kernel⟩, List.mem_of_getElem? (i := 30) (by decide +kernel), List.mem_of_getElem? (i := 405) (by decide +kernel), List.mem_of_getElem? (i := 406) (by decide +kernel)⟩
theorem lw_p4 : lw_okq (⟨"LinearSearch$Writer", "peek", "()I"⟩, 5) := ⟨⟨by decide +kernel, by decide +kernel⟩, List.mem_of_getElem? (i := 30) (by decide +kernel), List.mem_of_getElem? (i := 409) (by decide +kernel), List.mem_of_getElem? (i := 410) (by decide +kernel)⟩
theorem lw_p5 : lw_okq (⟨"LinearSearch$Writer", "writePiece", "()Z"⟩, 5) := ⟨⟨by decide +kernel, by decide +kernel⟩, List.mem_of_getElem? (i := 30) (by decide +kernel), List.mem_of_getElem? (i := 413) (by decide +kernel), List.mem_of_getElem? (i := 414) (by decide +kernel)⟩
theorem lw_p6 : lw_okq (⟨"LinearSearch$Writer", "writeAtom", "()Z"⟩, 5) := ⟨⟨by decide +kernel, by decide +kernel⟩, List.mem_of_getElem? (i := 30) (by decide +kernel), List.mem_of_getElem? (i := 417) (by decide +kernel), List.mem_of_getElem? (i := 418) (by decide +kernel)⟩
theorem lw_p7 : lw_okq (⟨"LinearSearch$Writer", "writeGroup", "()Z"⟩, 5) := ⟨⟨by decide +kernel, by decide +kernel⟩, List.mem_of_getElem? (i := 30) (by decide +kernel), List.mem_of_getElem? (i := 425) (by decide +kernel), List.mem_of_getElem? (i := 426) (by decide +kernel)⟩
theorem lw_p8 : lw_okq (⟨"LinearSearch$Writer", "writeSign", "(IIZ)V"⟩, 5) := ⟨⟨by decide +kernel, by decide +kernel⟩, List.mem_of_getElem? (i := 30) (by decide +kernel), List.mem_of_getElem? (i := 429) (by decide +kernel), List.mem_of_getElem? (i := 430) (by decide +kernel)⟩
theorem lw_p9 : lw_okq (⟨"java/lang/Throwable", "fillInStackTrace", "(I)Ljava/lang/Throwable;"⟩, 6) := ⟨⟨by decide +kernel, by decide +kernel⟩, List.mem_of_getElem? (i := 489) (by decide +kernel), List.mem_of_getElem? (i := 487) (by decide +kernel), List.mem_of_getElem? (i := 488) (by decide +kernel)⟩
theorem lw_p10 : lw_okq (⟨"LinearSearch$Single", "isPlainFrom", "(LLinearSearch$Program;I)Z"⟩, 6) := ⟨⟨by decide +kernel, by decide +kernel⟩, List.mem_of_getElem? (i := 168) (by decide +kernel), List.mem_of_getElem? (i := 533) (by decide +kernel), List.mem_of_getElem? (i := 534) (by decide +kernel)⟩
theorem lw_p11 : lw_okq (⟨"LinearSearch$Follower", "push", "(IJ)V"⟩, 9) := ⟨⟨by decide +kernel, by decide +kernel⟩, List.mem_of_getElem? (i := 73) (by decide +kernel), List.mem_of_getElem? (i := 549) (by decide +kernel), List.mem_of_getElem? (i := 550) (by decide +kernel)⟩
theorem lw_p12 : lw_okq (⟨"LinearSearch$Follower", "step", "(IJ)V"⟩, 9) := ⟨⟨by decide +kernel, by decide +kernel⟩, List.mem_of_getElem? (i := 73) (by decide +kernel), List.mem_of_getElem? (i := 553) (by decide +kernel), List.mem_of_getElem? (i := 554) (by decide +kernel)⟩
theorem lw_p13 : lw_okq (⟨"LinearSearch", "plannedMatcher", "()I"⟩, 14) := ⟨⟨by decide +kernel, by decide +kernel⟩, List.mem_of_getElem? (i := 22) (by decide +kernel), List.mem_of_getElem? (i := 654) (by decide +kernel), List.mem_of_getElem? (i := 655) (by decide +kernel)⟩
theorem lw_p14 : lw_okq (⟨"LinearSearch$Marks", "findFrom", "(I)J"⟩, 8) := ⟨⟨by decide +kernel, by decide +kernel⟩, List.mem_of_getElem? (i := 137) (by decide +kernel), List.mem_of_getElem? (i := 670) (by decide +kernel), List.mem_of_getElem? (i := 671) (by decide +kernel)⟩
theorem lw_p15 : lw_okq (⟨"LinearSearch$Marks", "push", "(IIJ)V"⟩, 8) := ⟨⟨by decide +kernel, by decide +kernel⟩, List.mem_of_getElem? (i := 137) (by decide +kernel), List.mem_of_getElem? (i := 678) (by decide +kernel), List.mem_of_getElem? (i := 679) (by decide +kernel)⟩
def lw_privs_1 : List (MethodName × Nat) := [(⟨"LinearSearch", "forgetSearch", "()V"⟩, 14), (⟨"LinearSearch", "note", "(II)V"⟩, 14), (⟨"LinearSearch$Writer", "writeChoice", "()Z"⟩, 5), (⟨"LinearSearch$Writer", "writeSequence", "()Z"⟩, 5), (⟨"LinearSearch$Writer", "peek", "()I"⟩, 5), (⟨"LinearSearch$Writer", "writePiece", "()Z"⟩, 5), (⟨"LinearSearch$Writer", "writeAtom", "()Z"⟩, 5), (⟨"LinearSearch$Writer", "writeGroup", "()Z"⟩, 5), (⟨"LinearSearch$Writer", "writeSign", "(IIZ)V"⟩, 5), (⟨"java/lang/Throwable", "fillInStackTrace", "(I)Ljava/lang/Throwable;"⟩, 6), (⟨"LinearSearch$Single", "isPlainFrom", "(LLinearSearch$Program;I)Z"⟩, 6), (⟨"LinearSearch$Follower", "push", "(IJ)V"⟩, 9), (⟨"LinearSearch$Follower", "step", "(IJ)V"⟩, 9), (⟨"LinearSearch", "plannedMatcher", "()I"⟩, 14), (⟨"LinearSearch$Marks", "findFrom", "(I)J"⟩, 8), (⟨"LinearSearch$Marks", "push", "(IIJ)V"⟩, 8)]
theorem lw_r1 : ∀ q ∈ lw_privs_1, lw_okq q := List.forall_mem_cons.mpr ⟨lw_p0, List.forall_mem_cons.mpr ⟨lw_p1, List.forall_mem_cons.mpr ⟨lw_p2, List.forall_mem_cons.mpr ⟨lw_p3, List.forall_mem_cons.mpr ⟨lw_p4, List.forall_mem_cons.mpr ⟨lw_p5, List.forall_mem_cons.mpr ⟨lw_p6, List.forall_mem_cons.mpr ⟨lw_p7, List.forall_mem_cons.mpr ⟨lw_p8, List.forall_mem_cons.mpr ⟨lw_p9, List.forall_mem_cons.mpr ⟨lw_p10, List.forall_mem_cons.mpr ⟨lw_p11, List.forall_mem_cons.mpr ⟨lw_p12, List.forall_mem_cons.mpr ⟨lw_p13, List.forall_mem_cons.mpr ⟨lw_p14, List.forall_mem_cons.mpr ⟨lw_p15, fun _ h => absurd h List.not_mem_nil⟩⟩⟩⟩⟩⟩⟩⟩⟩⟩⟩⟩⟩⟩⟩⟩
theorem lw_p16 : lw_okq (⟨"LinearSearch$Marks", "mark", "(II)Z"⟩, 8) := ⟨⟨by decide +kernel, by decide +kernel⟩, List.mem_of_getElem? (i := 137) (by decide +kernel), List.mem_of_getElem? (i := 682) (by decide +kernel), List.mem_of_getElem? (i := 683) (by decide +kernel)⟩
theorem lw_p17 : lw_okq (⟨"LinearSearch$Marks", "step", "(IIJ)V"⟩, 8) := ⟨⟨by decide +kernel, by decide +kernel⟩, List.mem_of_getElem? (i := 137) (by decide +kernel), List.mem_of_getElem? (i := 688) (by decide +kernel), List.mem_of_getElem? (i := 689) (by decide +kernel)⟩
theorem lw_p18 : lw_okq (⟨"LinearSearch", "runAutomaton", "()V"⟩, 14) := ⟨⟨by decide +kernel, by decide +kernel⟩, List.mem_of_getElem? (i := 22) (by decide +kernel), List.mem_of_getElem? (i := 707) (by decide +kernel), List.mem_of_getElem? (i := 708) (by decide +kernel)⟩
theorem lw_p19 : lw_okq (⟨"LinearSearch$Automaton", "firstState", "(LLinearSearch$Program;)I"⟩, 8) := ⟨⟨by decide +kernel, by decide +kernel⟩, List.mem_of_getElem? (i := 216) (by decide +kernel), List.mem_of_getElem? (i := 715) (by decide +kernel), List.mem_of_getElem? (i := 716) (by decide +kernel)⟩
theorem lw_p20 : lw_okq (⟨"LinearSearch$Automaton", "keep", "(LLinearSearch$Program;Z)I"⟩, 8) := ⟨⟨by decide +kernel, by decide +kernel⟩, List.mem_of_getElem? (i := 216) (by decide +kernel), List.mem_of_getElem? (i := 721) (by decide +kernel), List.mem_of_getElem? (i := 722) (by decide +kernel)⟩
theorem lw_p21 : lw_okq (⟨"LinearSearch$Automaton", "stateAt", "(I)LLinearSearch$State;"⟩, 8) := ⟨⟨by decide +kernel, by decide +kernel⟩, List.mem_of_getElem? (i := 216) (by decide +kernel), List.mem_of_getElem? (i := 744) (by decide +kernel), List.mem_of_getElem? (i := 745) (by decide +kernel)⟩
theorem lw_p22 : lw_okq (⟨"LinearSearch$Automaton", "foundBehindLasts", "(LLinearSearch$Program;LLinearSearch$State;I)Z"⟩, 8) := ⟨⟨by decide +kernel, by decide +kernel⟩, List.mem_of_getElem? (i := 216) (by decide +kernel), List.mem_of_getElem? (i := 748) (by decide +kernel), List.mem_of_getElem? (i := 749) (by decide +kernel)⟩
theorem lw_p23 : lw_okq (⟨"LinearSearch$Automaton", "nextState", "(LLinearSearch$Program;II)I"⟩, 8) := ⟨⟨by decide +kernel, by decide +kernel⟩, List.mem_of_getElem? (i := 216) (by decide +kernel), List.mem_of_getElem? (i := 764) (by decide +kernel), List.mem_of_getElem? (i := 765) (by decide +kernel)⟩
theorem lw_p24 : lw_okq (⟨"LinearSearch", "runLists", "()V"⟩, 14) := ⟨⟨by decide +kernel, by decide +kernel⟩, List.mem_of_getElem? (i := 22) (by decide +kernel), List.mem_of_getElem? (i := 782) (by decide +kernel), List.mem_of_getElem? (i := 783) (by decide +kernel)⟩
theorem lw_p25 : lw_okq (⟨"LinearSearch$Lists", "goThrough", "(LLinearSearch$Program;I)J"⟩, 4) := ⟨⟨by decide +kernel, by decide +kernel⟩, List.mem_of_getElem? (i := 67) (by decide +kernel), List.mem_of_getElem? (i := 799) (by decide +kernel), List.mem_of_getElem? (i := 800) (by decide +kernel)⟩
theorem lw_p26 : lw_okq (⟨"LinearSearch$Lists", "swapLists", "()V"⟩, 4) := ⟨⟨by decide +kernel, by decide +kernel⟩, List.mem_of_getElem? (i := 67) (by decide +kernel), List.mem_of_getElem? (i := 812) (by decide +kernel), List.mem_of_getElem? (i := 813) (by decide +kernel)⟩
theorem lw_p27 : lw_okq (⟨"LinearSearch", "leftmostEndingAt", "(I)J"⟩, 14) := ⟨⟨by decide +kernel, by decide +kernel⟩, List.mem_of_getElem? (i := 22) (by decide +kernel), List.mem_of_getElem? (i := 820) (by decide +kernel), List.mem_of_getElem? (i := 821) (by decide +kernel)⟩
theorem lw_p28 : lw_okq (⟨"LinearSearch$Single", "goThrough", "(LLinearSearch$Program;II)V"⟩, 6) := ⟨⟨by decide +kernel, by decide +kernel⟩, List.mem_of_getElem? (i := 168) (by decide +kernel), List.mem_of_getElem? (i := 839) (by decide +kernel), List.mem_of_getElem? (i := 840) (by decide +kernel)⟩
theorem lw_p29 : lw_okq (⟨"LinearSearchModel", "read", "()Z"⟩, 45) := ⟨⟨by decide +kernel, by decide +kernel⟩, List.mem_of_getElem? (i := 865) (by decide +kernel), List.mem_of_getElem? (i := 1024) (by decide +kernel), List.mem_of_getElem? (i := 1025) (by decide +kernel)⟩
theorem lw_p30 : lw_okq (⟨"LinearSearchModel", "push", "(I)V"⟩, 45) := ⟨⟨by decide +kernel, by decide +kernel⟩, List.mem_of_getElem? (i := 865) (by decide +kernel), List.mem_of_getElem? (i := 1028) (by decide +kernel), List.mem_of_getElem? (i := 1029) (by decide +kernel)⟩
theorem lw_p31 : lw_okq (⟨"LinearSearchModel", "emit", "(III)V"⟩, 45) := ⟨⟨by decide +kernel, by decide +kernel⟩, List.mem_of_getElem? (i := 865) (by decide +kernel), List.mem_of_getElem? (i := 1032) (by decide +kernel), List.mem_of_getElem? (i := 1033) (by decide +kernel)⟩
def lw_privs_2 : List (MethodName × Nat) := [(⟨"LinearSearch$Marks", "mark", "(II)Z"⟩, 8), (⟨"LinearSearch$Marks", "step", "(IIJ)V"⟩, 8), (⟨"LinearSearch", "runAutomaton", "()V"⟩, 14), (⟨"LinearSearch$Automaton", "firstState", "(LLinearSearch$Program;)I"⟩, 8), (⟨"LinearSearch$Automaton", "keep", "(LLinearSearch$Program;Z)I"⟩, 8), (⟨"LinearSearch$Automaton", "stateAt", "(I)LLinearSearch$State;"⟩, 8), (⟨"LinearSearch$Automaton", "foundBehindLasts", "(LLinearSearch$Program;LLinearSearch$State;I)Z"⟩, 8), (⟨"LinearSearch$Automaton", "nextState", "(LLinearSearch$Program;II)I"⟩, 8), (⟨"LinearSearch", "runLists", "()V"⟩, 14), (⟨"LinearSearch$Lists", "goThrough", "(LLinearSearch$Program;I)J"⟩, 4), (⟨"LinearSearch$Lists", "swapLists", "()V"⟩, 4), (⟨"LinearSearch", "leftmostEndingAt", "(I)J"⟩, 14), (⟨"LinearSearch$Single", "goThrough", "(LLinearSearch$Program;II)V"⟩, 6), (⟨"LinearSearchModel", "read", "()Z"⟩, 45), (⟨"LinearSearchModel", "push", "(I)V"⟩, 45), (⟨"LinearSearchModel", "emit", "(III)V"⟩, 45)]
theorem lw_r2 : ∀ q ∈ lw_privs_2, lw_okq q := List.forall_mem_cons.mpr ⟨lw_p16, List.forall_mem_cons.mpr ⟨lw_p17, List.forall_mem_cons.mpr ⟨lw_p18, List.forall_mem_cons.mpr ⟨lw_p19, List.forall_mem_cons.mpr ⟨lw_p20, List.forall_mem_cons.mpr ⟨lw_p21, List.forall_mem_cons.mpr ⟨lw_p22, List.forall_mem_cons.mpr ⟨lw_p23, List.forall_mem_cons.mpr ⟨lw_p24, List.forall_mem_cons.mpr ⟨lw_p25, List.forall_mem_cons.mpr ⟨lw_p26, List.forall_mem_cons.mpr ⟨lw_p27, List.forall_mem_cons.mpr ⟨lw_p28, List.forall_mem_cons.mpr ⟨lw_p29, List.forall_mem_cons.mpr ⟨lw_p30, List.forall_mem_cons.mpr ⟨lw_p31, fun _ h => absurd h List.not_mem_nil⟩⟩⟩⟩⟩⟩⟩⟩⟩⟩⟩⟩⟩⟩⟩⟩
theorem lw_p32 : lw_okq (⟨"LinearSearchModel", "land", "(I)V"⟩, 45) := ⟨⟨by decide +kernel, by decide +kernel⟩, List.mem_of_getElem? (i := 865) (by decide +kernel), List.mem_of_getElem? (i := 1036) (by decide +kernel), List.mem_of_getElem? (i := 1037) (by decide +kernel)⟩
theorem lw_p33 : lw_okq (⟨"LinearSearchModel", "sign", "(I)V"⟩, 45) := ⟨⟨by decide +kernel, by decide +kernel⟩, List.mem_of_getElem? (i := 865) (by decide +kernel), List.mem_of_getElem? (i := 1040) (by decide +kernel), List.mem_of_getElem? (i := 1041) (by decide +kernel)⟩
theorem lw_p34 : lw_okq (⟨"LinearSearchModel", "peek", "()I"⟩, 45) := ⟨⟨by decide +kernel, by decide +kernel⟩, List.mem_of_getElem? (i := 865) (by decide +kernel), List.mem_of_getElem? (i := 1044) (by decide +kernel), List.mem_of_getElem? (i := 1045) (by decide +kernel)⟩
theorem lw_p35 : lw_okq (⟨"LinearSearchModel", "fail", "(I)I"⟩, 45) := ⟨⟨by decide +kernel, by decide +kernel⟩, List.mem_of_getElem? (i := 865) (by decide +kernel), List.mem_of_getElem? (i := 1051) (by decide +kernel), List.mem_of_getElem? (i := 1052) (by decide +kernel)⟩
theorem lw_p36 : lw_okq (⟨"LinearSearchModel", "noSearch", "()V"⟩, 45) := ⟨⟨by decide +kernel, by decide +kernel⟩, List.mem_of_getElem? (i := 865) (by decide +kernel), List.mem_of_getElem? (i := 1055) (by decide +kernel), List.mem_of_getElem? (i := 1056) (by decide +kernel)⟩
theorem lw_p37 : lw_okq (⟨"LinearSearchModel", "isSingle", "(I)Z"⟩, 45) := ⟨⟨by decide +kernel, by decide +kernel⟩, List.mem_of_getElem? (i := 865) (by decide +kernel), List.mem_of_getElem? (i := 1059) (by decide +kernel), List.mem_of_getElem? (i := 1060) (by decide +kernel)⟩
theorem lw_p38 : lw_okq (⟨"LinearSearchModel", "runLists", "(IZ)V"⟩, 45) := ⟨⟨by decide +kernel, by decide +kernel⟩, List.mem_of_getElem? (i := 865) (by decide +kernel), List.mem_of_getElem? (i := 1083) (by decide +kernel), List.mem_of_getElem? (i := 1084) (by decide +kernel)⟩
theorem lw_p39 : lw_okq (⟨"LinearSearchModel", "begin", "(I)V"⟩, 45) := ⟨⟨by decide +kernel, by decide +kernel⟩, List.mem_of_getElem? (i := 865) (by decide +kernel), List.mem_of_getElem? (i := 1087) (by decide +kernel), List.mem_of_getElem? (i := 1088) (by decide +kernel)⟩
theorem lw_p40 : lw_okq (⟨"LinearSearchModel", "follow", "(III)V"⟩, 45) := ⟨⟨by decide +kernel, by decide +kernel⟩, List.mem_of_getElem? (i := 865) (by decide +kernel), List.mem_of_getElem? (i := 1091) (by decide +kernel), List.mem_of_getElem? (i := 1092) (by decide +kernel)⟩
theorem lw_p41 : lw_okq (⟨"LinearSearchModel", "behind", "(II)I"⟩, 45) := ⟨⟨by decide +kernel, by decide +kernel⟩, List.mem_of_getElem? (i := 865) (by decide +kernel), List.mem_of_getElem? (i := 1095) (by decide +kernel), List.mem_of_getElem? (i := 1096) (by decide +kernel)⟩
theorem lw_p42 : lw_okq (⟨"LinearSearchModel", "otherWay", "(II)V"⟩, 45) := ⟨⟨by decide +kernel, by decide +kernel⟩, List.mem_of_getElem? (i := 865) (by decide +kernel), List.mem_of_getElem? (i := 1099) (by decide +kernel), List.mem_of_getElem? (i := 1100) (by decide +kernel)⟩
theorem lw_p43 : lw_okq (⟨"LinearSearchModel", "enter", "(II)V"⟩, 45) := ⟨⟨by decide +kernel, by decide +kernel⟩, List.mem_of_getElem? (i := 865) (by decide +kernel), List.mem_of_getElem? (i := 1103) (by decide +kernel), List.mem_of_getElem? (i := 1104) (by decide +kernel)⟩
theorem lw_p44 : lw_okq (⟨"LinearSearchModel", "back", "()I"⟩, 45) := ⟨⟨by decide +kernel, by decide +kernel⟩, List.mem_of_getElem? (i := 865) (by decide +kernel), List.mem_of_getElem? (i := 1107) (by decide +kernel), List.mem_of_getElem? (i := 1108) (by decide +kernel)⟩
theorem lw_p45 : lw_okq (⟨"LinearSearchModel", "go", "(II)V"⟩, 45) := ⟨⟨by decide +kernel, by decide +kernel⟩, List.mem_of_getElem? (i := 865) (by decide +kernel), List.mem_of_getElem? (i := 1111) (by decide +kernel), List.mem_of_getElem? (i := 1112) (by decide +kernel)⟩
theorem lw_p46 : lw_okq (⟨"LinearSearchModel", "take", "(I)V"⟩, 45) := ⟨⟨by decide +kernel, by decide +kernel⟩, List.mem_of_getElem? (i := 865) (by decide +kernel), List.mem_of_getElem? (i := 1115) (by decide +kernel), List.mem_of_getElem? (i := 1116) (by decide +kernel)⟩
theorem lw_p47 : lw_okq (⟨"LinearSearchModel", "note", "(I)V"⟩, 45) := ⟨⟨by decide +kernel, by decide +kernel⟩, List.mem_of_getElem? (i := 865) (by decide +kernel), List.mem_of_getElem? (i := 1119) (by decide +kernel), List.mem_of_getElem? (i := 1120) (by decide +kernel)⟩
def lw_privs_3 : List (MethodName × Nat) := [(⟨"LinearSearchModel", "land", "(I)V"⟩, 45), (⟨"LinearSearchModel", "sign", "(I)V"⟩, 45), (⟨"LinearSearchModel", "peek", "()I"⟩, 45), (⟨"LinearSearchModel", "fail", "(I)I"⟩, 45), (⟨"LinearSearchModel", "noSearch", "()V"⟩, 45), (⟨"LinearSearchModel", "isSingle", "(I)Z"⟩, 45), (⟨"LinearSearchModel", "runLists", "(IZ)V"⟩, 45), (⟨"LinearSearchModel", "begin", "(I)V"⟩, 45), (⟨"LinearSearchModel", "follow", "(III)V"⟩, 45), (⟨"LinearSearchModel", "behind", "(II)I"⟩, 45), (⟨"LinearSearchModel", "otherWay", "(II)V"⟩, 45), (⟨"LinearSearchModel", "enter", "(II)V"⟩, 45), (⟨"LinearSearchModel", "back", "()I"⟩, 45), (⟨"LinearSearchModel", "go", "(II)V"⟩, 45), (⟨"LinearSearchModel", "take", "(I)V"⟩, 45), (⟨"LinearSearchModel", "note", "(I)V"⟩, 45)]
theorem lw_r3 : ∀ q ∈ lw_privs_3, lw_okq q := List.forall_mem_cons.mpr ⟨lw_p32, List.forall_mem_cons.mpr ⟨lw_p33, List.forall_mem_cons.mpr ⟨lw_p34, List.forall_mem_cons.mpr ⟨lw_p35, List.forall_mem_cons.mpr ⟨lw_p36, List.forall_mem_cons.mpr ⟨lw_p37, List.forall_mem_cons.mpr ⟨lw_p38, List.forall_mem_cons.mpr ⟨lw_p39, List.forall_mem_cons.mpr ⟨lw_p40, List.forall_mem_cons.mpr ⟨lw_p41, List.forall_mem_cons.mpr ⟨lw_p42, List.forall_mem_cons.mpr ⟨lw_p43, List.forall_mem_cons.mpr ⟨lw_p44, List.forall_mem_cons.mpr ⟨lw_p45, List.forall_mem_cons.mpr ⟨lw_p46, List.forall_mem_cons.mpr ⟨lw_p47, fun _ h => absurd h List.not_mem_nil⟩⟩⟩⟩⟩⟩⟩⟩⟩⟩⟩⟩⟩⟩⟩⟩
theorem lw_p48 : lw_okq (⟨"LinearSearchModel", "isRight", "(II)Z"⟩, 45) := ⟨⟨by decide +kernel, by decide +kernel⟩, List.mem_of_getElem? (i := 865) (by decide +kernel), List.mem_of_getElem? (i := 1123) (by decide +kernel), List.mem_of_getElem? (i := 1124) (by decide +kernel)⟩
theorem lw_p49 : lw_okq (⟨"LinearSearchModel", "runMarks", "()V"⟩, 45) := ⟨⟨by decide +kernel, by decide +kernel⟩, List.mem_of_getElem? (i := 865) (by decide +kernel), List.mem_of_getElem? (i := 1127) (by decide +kernel), List.mem_of_getElem? (i := 1128) (by decide +kernel)⟩
theorem lw_p50 : lw_okq (⟨"LinearSearchModel", "runThread", "(I)V"⟩, 45) := ⟨⟨by decide +kernel, by decide +kernel⟩, List.mem_of_getElem? (i := 865) (by decide +kernel), List.mem_of_getElem? (i := 1131) (by decide +kernel), List.mem_of_getElem? (i := 1132) (by decide +kernel)⟩
theorem lw_p51 : lw_okq (⟨"LinearSearchModel", "runStates", "()V"⟩, 45) := ⟨⟨by decide +kernel, by decide +kernel⟩, List.mem_of_getElem? (i := 865) (by decide +kernel), List.mem_of_getElem? (i := 1135) (by decide +kernel), List.mem_of_getElem? (i := 1136) (by decide +kernel)⟩
theorem lw_p52 : lw_okq (⟨"LinearSearchModel", "endByStates", "()I"⟩, 45) := ⟨⟨by decide +kernel, by decide +kernel⟩, List.mem_of_getElem? (i := 865) (by decide +kernel), List.mem_of_getElem? (i := 1139) (by decide +kernel), List.mem_of_getElem? (i := 1140) (by decide +kernel)⟩
theorem lw_p53 : lw_okq (⟨"LinearSearchModel", "firstState", "()I"⟩, 45) := ⟨⟨by decide +kernel, by decide +kernel⟩, List.mem_of_getElem? (i := 865) (by decide +kernel), List.mem_of_getElem? (i := 1143) (by decide +kernel), List.mem_of_getElem? (i := 1144) (by decide +kernel)⟩
theorem lw_p54 : lw_okq (⟨"LinearSearchModel", "followRow", "(IZ)V"⟩, 45) := ⟨⟨by decide +kernel, by decide +kernel⟩, List.mem_of_getElem? (i := 865) (by decide +kernel), List.mem_of_getElem? (i := 1147) (by decide +kernel), List.mem_of_getElem? (i := 1148) (by decide +kernel)⟩
theorem lw_p55 : lw_okq (⟨"LinearSearchModel", "hasFound", "([III)Z"⟩, 45) := ⟨⟨by decide +kernel, by decide +kernel⟩, List.mem_of_getElem? (i := 865) (by decide +kernel), List.mem_of_getElem? (i := 1151) (by decide +kernel), List.mem_of_getElem? (i := 1152) (by decide +kernel)⟩
theorem lw_p56 : lw_okq (⟨"LinearSearchModel", "stateOf", "(Z)I"⟩, 45) := ⟨⟨by decide +kernel, by decide +kernel⟩, List.mem_of_getElem? (i := 865) (by decide +kernel), List.mem_of_getElem? (i := 1155) (by decide +kernel), List.mem_of_getElem? (i := 1156) (by decide +kernel)⟩
theorem lw_p57 : lw_okq (⟨"LinearSearchModel", "isRow", "(IZ)Z"⟩, 45) := ⟨⟨by decide +kernel, by decide +kernel⟩, List.mem_of_getElem? (i := 865) (by decide +kernel), List.mem_of_getElem? (i := 1159) (by decide +kernel), List.mem_of_getElem? (i := 1160) (by decide +kernel)⟩
theorem lw_p58 : lw_okq (⟨"LinearSearchModel", "isFinal", "(I)Z"⟩, 45) := ⟨⟨by decide +kernel, by decide +kernel⟩, List.mem_of_getElem? (i := 865) (by decide +kernel), List.mem_of_getElem? (i := 1163) (by decide +kernel), List.mem_of_getElem? (i := 1164) (by decide +kernel)⟩
theorem lw_p59 : lw_okq (⟨"LinearSearchModel", "endsBehind", "(I)Z"⟩, 45) := ⟨⟨by decide +kernel, by decide +kernel⟩, List.mem_of_getElem? (i := 865) (by decide +kernel), List.mem_of_getElem? (i := 1167) (by decide +kernel), List.mem_of_getElem? (i := 1168) (by decide +kernel)⟩
theorem lw_p60 : lw_okq (⟨"LinearSearchModel", "nextState", "(II)I"⟩, 45) := ⟨⟨by decide +kernel, by decide +kernel⟩, List.mem_of_getElem? (i := 865) (by decide +kernel), List.mem_of_getElem? (i := 1171) (by decide +kernel), List.mem_of_getElem? (i := 1172) (by decide +kernel)⟩
theorem lw_p61 : lw_okq (⟨"LinearSearchModel", "runSingle", "()V"⟩, 45) := ⟨⟨by decide +kernel, by decide +kernel⟩, List.mem_of_getElem? (i := 865) (by decide +kernel), List.mem_of_getElem? (i := 1175) (by decide +kernel), List.mem_of_getElem? (i := 1176) (by decide +kernel)⟩
def lw_privs_4 : List (MethodName × Nat) := [(⟨"LinearSearchModel", "isRight", "(II)Z"⟩, 45), (⟨"LinearSearchModel", "runMarks", "()V"⟩, 45), (⟨"LinearSearchModel", "runThread", "(I)V"⟩, 45), (⟨"LinearSearchModel", "runStates", "()V"⟩, 45), (⟨"LinearSearchModel", "endByStates", "()I"⟩, 45), (⟨"LinearSearchModel", "firstState", "()I"⟩, 45), (⟨"LinearSearchModel", "followRow", "(IZ)V"⟩, 45), (⟨"LinearSearchModel", "hasFound", "([III)Z"⟩, 45), (⟨"LinearSearchModel", "stateOf", "(Z)I"⟩, 45), (⟨"LinearSearchModel", "isRow", "(IZ)Z"⟩, 45), (⟨"LinearSearchModel", "isFinal", "(I)Z"⟩, 45), (⟨"LinearSearchModel", "endsBehind", "(I)Z"⟩, 45), (⟨"LinearSearchModel", "nextState", "(II)I"⟩, 45), (⟨"LinearSearchModel", "runSingle", "()V"⟩, 45)]
theorem lw_r4 : ∀ q ∈ lw_privs_4, lw_okq q := List.forall_mem_cons.mpr ⟨lw_p48, List.forall_mem_cons.mpr ⟨lw_p49, List.forall_mem_cons.mpr ⟨lw_p50, List.forall_mem_cons.mpr ⟨lw_p51, List.forall_mem_cons.mpr ⟨lw_p52, List.forall_mem_cons.mpr ⟨lw_p53, List.forall_mem_cons.mpr ⟨lw_p54, List.forall_mem_cons.mpr ⟨lw_p55, List.forall_mem_cons.mpr ⟨lw_p56, List.forall_mem_cons.mpr ⟨lw_p57, List.forall_mem_cons.mpr ⟨lw_p58, List.forall_mem_cons.mpr ⟨lw_p59, List.forall_mem_cons.mpr ⟨lw_p60, List.forall_mem_cons.mpr ⟨lw_p61, fun _ h => absurd h List.not_mem_nil⟩⟩⟩⟩⟩⟩⟩⟩⟩⟩⟩⟩⟩⟩
def lw_privs : List (MethodName × Nat) := lw_privs_1 ++ (lw_privs_2 ++ (lw_privs_3 ++ (lw_privs_4)))
def lw_tbl : List Cond := k2_sels lw_privs ++ tables_1
theorem lw_privs_ok : ∀ q ∈ lw_privs, lw_okq q := by
  show ∀ q ∈ lw_privs_1 ++ (lw_privs_2 ++ (lw_privs_3 ++ (lw_privs_4))), lw_okq q
  exact List.forall_mem_append.mpr ⟨lw_r1, List.forall_mem_append.mpr ⟨lw_r2, List.forall_mem_append.mpr ⟨lw_r3, lw_r4⟩⟩⟩
end
section
/-! NAMES, printed by wip/whole/gen_names.py out of the claim's own texts -/
def R_C : String := "LinearSearch"
def F_C : u_T := fun k => match k with
  | 0 => ("LinearSearch", "pattern", "[C", true)
  | 1 => ("LinearSearch", "patternLength", "I", false)
  | 2 => ("LinearSearch", "writer", "LLinearSearch$Writer;", true)
  | 3 => ("LinearSearch", "text", "LLinearSearch$Text;", true)
  | 4 => ("LinearSearch", "lists", "LLinearSearch$Lists;", true)
  | 5 => ("LinearSearch", "marks", "LLinearSearch$Marks;", true)
  | 6 => ("LinearSearch", "single", "LLinearSearch$Single;", true)
  | 7 => ("LinearSearch", "automaton", "LLinearSearch$Automaton;", true)
  | 8 => ("LinearSearch", "program", "LLinearSearch$Program;", false)
  | 9 => ("LinearSearch", "draft", "LLinearSearch$Program;", false)
  | 10 => ("LinearSearch", "fitsSingle", "Z", false)
  | 11 => ("LinearSearch", "match", "J", false)
  | 12 => ("LinearSearch", "latestWork", "I", false)
  | _ => ("LinearSearch", "latestMatcher", "I", false)
def t_C : Nat → FieldType := fun k => match k with
  | 0 => .array .char
  | 1 => .int
  | 2 => .object "LinearSearch$Writer"
  | 3 => .object "LinearSearch$Text"
  | 4 => .object "LinearSearch$Lists"
  | 5 => .object "LinearSearch$Marks"
  | 6 => .object "LinearSearch$Single"
  | 7 => .object "LinearSearch$Automaton"
  | 8 => .object "LinearSearch$Program"
  | 9 => .object "LinearSearch$Program"
  | 10 => .boolean
  | 11 => .long
  | 12 => .int
  | _ => .int
def R_Wr : String := "LinearSearch$Writer"
def F_Wr : u_T := fun k => match k with
  | 0 => ("LinearSearch$Writer", "source", "[C", false)
  | 1 => ("LinearSearch$Writer", "length", "I", false)
  | 2 => ("LinearSearch$Writer", "at", "I", false)
  | 3 => ("LinearSearch$Writer", "groups", "I", false)
  | _ => ("LinearSearch$Writer", "target", "LLinearSearch$Program;", false)
def t_Wr : Nat → FieldType := fun k => match k with
  | 0 => .array .char
  | 1 => .int
  | 2 => .int
  | 3 => .int
  | _ => .object "LinearSearch$Program"
def R_Tx : String := "LinearSearch$Text"
def F_Tx : u_T := fun k => match k with
  | 0 => ("LinearSearch$Text", "letters", "[I", true)
  | _ => ("LinearSearch$Text", "length", "I", false)
def t_Tx : Nat → FieldType := fun k => match k with
  | 0 => .array .int
  | _ => .int
def R_Ls : String := "LinearSearch$Lists"
def F_Ls : u_T := fun k => match k with
  | 0 => ("LinearSearch$Lists", "follower", "LLinearSearch$Follower;", true)
  | 1 => ("LinearSearch$Lists", "now", "LLinearSearch$ThreadList;", false)
  | 2 => ("LinearSearch$Lists", "next", "LLinearSearch$ThreadList;", false)
  | _ => ("LinearSearch$Lists", "passed", "I", false)
def t_Ls : Nat → FieldType := fun k => match k with
  | 0 => .object "LinearSearch$Follower"
  | 1 => .object "LinearSearch$ThreadList"
  | 2 => .object "LinearSearch$ThreadList"
  | _ => .int
def R_Fo : String := "LinearSearch$Follower"
def F_Fo : u_T := fun k => match k with
  | 0 => ("LinearSearch$Follower", "waiting", "[I", true)
  | 1 => ("LinearSearch$Follower", "waitingSlots", "[J", true)
  | 2 => ("LinearSearch$Follower", "waitingCount", "I", false)
  | 3 => ("LinearSearch$Follower", "marked", "J", false)
  | 4 => ("LinearSearch$Follower", "cameTwice", "Z", false)
  | 5 => ("LinearSearch$Follower", "program", "LLinearSearch$Program;", false)
  | 6 => ("LinearSearch$Follower", "list", "LLinearSearch$ThreadList;", false)
  | 7 => ("LinearSearch$Follower", "place", "I", false)
  | _ => ("LinearSearch$Follower", "lastRule", "I", false)
def t_Fo : Nat → FieldType := fun k => match k with
  | 0 => .array .int
  | 1 => .array .long
  | 2 => .int
  | 3 => .long
  | 4 => .boolean
  | 5 => .object "LinearSearch$Program"
  | 6 => .object "LinearSearch$ThreadList"
  | 7 => .int
  | _ => .int
def R_TL : String := "LinearSearch$ThreadList"
def F_TL : u_T := fun k => match k with
  | 0 => ("LinearSearch$ThreadList", "instructions", "[I", true)
  | 1 => ("LinearSearch$ThreadList", "slots", "[J", true)
  | _ => ("LinearSearch$ThreadList", "size", "I", false)
def t_TL : Nat → FieldType := fun k => match k with
  | 0 => .array .int
  | 1 => .array .long
  | _ => .int
def R_Ma : String := "LinearSearch$Marks"
def F_Ma : u_T := fun k => match k with
  | 0 => ("LinearSearch$Marks", "marked", "[J", true)
  | 1 => ("LinearSearch$Marks", "waiting", "[I", true)
  | 2 => ("LinearSearch$Marks", "waitingPlaces", "[I", true)
  | 3 => ("LinearSearch$Marks", "waitingSlots", "[J", true)
  | 4 => ("LinearSearch$Marks", "waitingCount", "I", false)
  | 5 => ("LinearSearch$Marks", "set", "I", false)
  | 6 => ("LinearSearch$Marks", "program", "LLinearSearch$Program;", false)
  | _ => ("LinearSearch$Marks", "text", "LLinearSearch$Text;", false)
def t_Ma : Nat → FieldType := fun k => match k with
  | 0 => .array .long
  | 1 => .array .int
  | 2 => .array .int
  | 3 => .array .long
  | 4 => .int
  | 5 => .int
  | 6 => .object "LinearSearch$Program"
  | _ => .object "LinearSearch$Text"
def R_Si : String := "LinearSearch$Single"
def F_Si : u_T := fun k => match k with
  | 0 => ("LinearSearch$Single", "follower", "LLinearSearch$Follower;", true)
  | 1 => ("LinearSearch$Single", "list", "LLinearSearch$ThreadList;", true)
  | 2 => ("LinearSearch$Single", "passed", "I", false)
  | 3 => ("LinearSearch$Single", "best", "J", false)
  | 4 => ("LinearSearch$Single", "goesOn", "I", false)
  | _ => ("LinearSearch$Single", "goesOnSlots", "J", false)
def t_Si : Nat → FieldType := fun k => match k with
  | 0 => .object "LinearSearch$Follower"
  | 1 => .object "LinearSearch$ThreadList"
  | 2 => .int
  | 3 => .long
  | 4 => .int
  | _ => .long
def R_Pr : String := "LinearSearch$Program"
def F_Pr : u_T := fun k => match k with
  | 0 => ("LinearSearch$Program", "kinds", "[I", true)
  | 1 => ("LinearSearch$Program", "xs", "[I", true)
  | 2 => ("LinearSearch$Program", "ys", "[I", true)
  | _ => ("LinearSearch$Program", "size", "I", false)
def t_Pr : Nat → FieldType := fun k => match k with
  | 0 => .array .int
  | 1 => .array .int
  | 2 => .array .int
  | _ => .int
def R_Au : String := "LinearSearch$Automaton"
def F_Au : u_T := fun k => match k with
  | 0 => ("LinearSearch$Automaton", "follower", "LLinearSearch$Follower;", true)
  | 1 => ("LinearSearch$Automaton", "list", "LLinearSearch$ThreadList;", true)
  | 2 => ("LinearSearch$Automaton", "row", "[LLinearSearch$State;", true)
  | 3 => ("LinearSearch$Automaton", "spare", "LLinearSearch$State;", false)
  | 4 => ("LinearSearch$Automaton", "kept", "I", false)
  | 5 => ("LinearSearch$Automaton", "flushed", "I", false)
  | 6 => ("LinearSearch$Automaton", "flushedInSearch", "I", false)
  | _ => ("LinearSearch$Automaton", "made", "I", false)
def t_Au : Nat → FieldType := fun k => match k with
  | 0 => .object "LinearSearch$Follower"
  | 1 => .object "LinearSearch$ThreadList"
  | 2 => .array (.object "LinearSearch$State")
  | 3 => .object "LinearSearch$State"
  | 4 => .int
  | 5 => .int
  | 6 => .int
  | _ => .int
def R_St : String := "LinearSearch$State"
def F_St : u_T := fun k => match k with
  | 0 => ("LinearSearch$State", "entries", "[I", true)
  | 1 => ("LinearSearch$State", "leads", "[I", true)
  | 2 => ("LinearSearch$State", "size", "I", false)
  | 3 => ("LinearSearch$State", "isOpen", "Z", false)
  | _ => ("LinearSearch$State", "hasFound", "Z", false)
def t_St : Nat → FieldType := fun k => match k with
  | 0 => .array .int
  | 1 => .array .int
  | 2 => .int
  | 3 => .boolean
  | _ => .boolean
def R_Mo : String := "LinearSearchModel"
def F_Mo : u_T := fun k => match k with
  | 0 => ("LinearSearchModel", "code", "I", false)
  | 1 => ("LinearSearchModel", "limit", "I", true)
  | 2 => ("LinearSearchModel", "typed", "I", false)
  | 3 => ("LinearSearchModel", "pattern", "[I", true)
  | 4 => ("LinearSearchModel", "fed", "I", false)
  | 5 => ("LinearSearchModel", "text", "[I", true)
  | 6 => ("LinearSearchModel", "length", "I", false)
  | 7 => ("LinearSearchModel", "kind", "[I", true)
  | 8 => ("LinearSearchModel", "x", "[I", true)
  | 9 => ("LinearSearchModel", "y", "[I", true)
  | 10 => ("LinearSearchModel", "written", "I", false)
  | 11 => ("LinearSearchModel", "newKind", "[I", true)
  | 12 => ("LinearSearchModel", "newX", "[I", true)
  | 13 => ("LinearSearchModel", "newY", "[I", true)
  | 14 => ("LinearSearchModel", "at", "I", false)
  | 15 => ("LinearSearchModel", "isSimple", "Z", false)
  | 16 => ("LinearSearchModel", "stamp", "I", false)
  | 17 => ("LinearSearchModel", "mark", "[I", true)
  | 18 => ("LinearSearchModel", "ways", "I", false)
  | 19 => ("LinearSearchModel", "wayAt", "[I", true)
  | 20 => ("LinearSearchModel", "wayPlace", "[I", true)
  | 21 => ("LinearSearchModel", "waySlots", "[I", true)
  | 22 => ("LinearSearchModel", "now", "[I", true)
  | 23 => ("LinearSearchModel", "many", "[I", true)
  | 24 => ("LinearSearchModel", "entry", "[I", true)
  | 25 => ("LinearSearchModel", "slots", "[I", true)
  | 26 => ("LinearSearchModel", "visited", "[Z", true)
  | 27 => ("LinearSearchModel", "kept", "I", false)
  | 28 => ("LinearSearchModel", "flushed", "I", false)
  | 29 => ("LinearSearchModel", "searchFlushes", "I", false)
  | 30 => ("LinearSearchModel", "size", "[I", true)
  | 31 => ("LinearSearchModel", "row", "[I", true)
  | 32 => ("LinearSearchModel", "open", "[Z", true)
  | 33 => ("LinearSearchModel", "leads", "[I", true)
  | 34 => ("LinearSearchModel", "fresh", "I", false)
  | 35 => ("LinearSearchModel", "freshRow", "[I", true)
  | 36 => ("LinearSearchModel", "count", "I", false)
  | 37 => ("LinearSearchModel", "done", "I", false)
  | 38 => ("LinearSearchModel", "work", "I", false)
  | 39 => ("LinearSearchModel", "found", "Z", false)
  | 40 => ("LinearSearchModel", "match", "[I", true)
  | 41 => ("LinearSearchModel", "sequence", "[I", true)
  | 42 => ("LinearSearchModel", "opened", "[I", true)
  | 43 => ("LinearSearchModel", "group", "[I", true)
  | _ => ("LinearSearchModel", "spare", "[I", true)
def t_Mo : Nat → FieldType := fun k => match k with
  | 0 => .int
  | 1 => .int
  | 2 => .int
  | 3 => .array .int
  | 4 => .int
  | 5 => .array .int
  | 6 => .int
  | 7 => .array .int
  | 8 => .array .int
  | 9 => .array .int
  | 10 => .int
  | 11 => .array .int
  | 12 => .array .int
  | 13 => .array .int
  | 14 => .int
  | 15 => .boolean
  | 16 => .int
  | 17 => .array .int
  | 18 => .int
  | 19 => .array .int
  | 20 => .array .int
  | 21 => .array .int
  | 22 => .array .int
  | 23 => .array .int
  | 24 => .array .int
  | 25 => .array .int
  | 26 => .array .boolean
  | 27 => .int
  | 28 => .int
  | 29 => .int
  | 30 => .array .int
  | 31 => .array .int
  | 32 => .array .boolean
  | 33 => .array .int
  | 34 => .int
  | 35 => .array .int
  | 36 => .int
  | 37 => .int
  | 38 => .int
  | 39 => .boolean
  | 40 => .array .int
  | 41 => .array .int
  | 42 => .array .int
  | 43 => .array .int
  | _ => .array .int
def lt_cl : List vw_C := [(R_C, F_C, 14), (R_Wr, F_Wr, 5), (R_Tx, F_Tx, 2), (R_Ls, F_Ls, 4), (R_Fo, F_Fo, 9), (R_TL, F_TL, 3), (R_Ma, F_Ma, 8), (R_Si, F_Si, 6), (R_Pr, F_Pr, 4), (R_Au, F_Au, 8), (R_St, F_St, 5), (R_Mo, F_Mo, 45)]
def lt_ty : Nat → Nat → FieldType := fun i => match i with
  | 0 => t_C
  | 1 => t_Wr
  | 2 => t_Tx
  | 3 => t_Ls
  | 4 => t_Fo
  | 5 => t_TL
  | 6 => t_Ma
  | 7 => t_Si
  | 8 => t_Pr
  | 9 => t_Au
  | 10 => t_St
  | _ => t_Mo
def lt_codes : List Nat := [0, 1, 2, 3, 20]
def lt_aty : Nat → FieldType := fun t => match t with
  | 0 => .int
  | 1 => .long
  | 2 => .char
  | 3 => .boolean
  | 4 => .byte
  | 5 => .short
  | _ => .object "LinearSearch$State"
def lt_T : List Cond := lw_tbl.filter goodWord
def lt_isN : Cond → Bool
  | .fieldLinkNest _ _ _ _ _ _ => true
  | .methodLinkNest _ _ _ _ => true
  | .arrayOver (.object _) => true
  | _ => false
def lt_N : List Cond := tables_1.filter lt_isN
theorem lt_N_ok : ∀ w ∈ lt_N, lt_isN w = true := fun w hw => (List.mem_filter.mp hw).2
theorem lt_T_good : ∀ w ∈ lt_T, goodWord w = true := fun w hw => (List.mem_filter.mp hw).2
theorem lt_memS {w : Cond} (i : Nat) (h : (k2_sels lw_privs)[i]? = some w) (hg : goodWord w = true) : w ∈ lt_T := List.mem_filter.mpr ⟨List.mem_append_left _ (List.mem_of_getElem? h), hg⟩

theorem lt_m1 {w : Cond} (i : Nat) (h : tables_1_1[i]? = some w) (hg : goodWord w = true) : w ∈ lt_T := List.mem_filter.mpr ⟨List.mem_append_right _ (List.mem_append_left _ (List.mem_of_getElem? h)), hg⟩
theorem lt_n1 {w : Cond} (i : Nat) (h : tables_1_1[i]? = some w) (hg : lt_isN w = true) : w ∈ lt_N := List.mem_filter.mpr ⟨(List.mem_append_left _ (List.mem_of_getElem? h)), hg⟩
theorem lt_m2 {w : Cond} (i : Nat) (h : tables_1_2[i]? = some w) (hg : goodWord w = true) : w ∈ lt_T := List.mem_filter.mpr ⟨List.mem_append_right _ (List.mem_append_right _ (List.mem_append_left _ (List.mem_of_getElem? h))), hg⟩
theorem lt_n2 {w : Cond} (i : Nat) (h : tables_1_2[i]? = some w) (hg : lt_isN w = true) : w ∈ lt_N := List.mem_filter.mpr ⟨(List.mem_append_right _ (List.mem_append_left _ (List.mem_of_getElem? h))), hg⟩
theorem lt_m3 {w : Cond} (i : Nat) (h : tables_1_3[i]? = some w) (hg : goodWord w = true) : w ∈ lt_T := List.mem_filter.mpr ⟨List.mem_append_right _ (List.mem_append_right _ (List.mem_append_right _ (List.mem_append_left _ (List.mem_of_getElem? h)))), hg⟩
theorem lt_n3 {w : Cond} (i : Nat) (h : tables_1_3[i]? = some w) (hg : lt_isN w = true) : w ∈ lt_N := List.mem_filter.mpr ⟨(List.mem_append_right _ (List.mem_append_right _ (List.mem_append_left _ (List.mem_of_getElem? h)))), hg⟩
theorem lt_m4 {w : Cond} (i : Nat) (h : tables_1_4[i]? = some w) (hg : goodWord w = true) : w ∈ lt_T := List.mem_filter.mpr ⟨List.mem_append_right _ (List.mem_append_right _ (List.mem_append_right _ (List.mem_append_right _ (List.mem_append_left _ (List.mem_of_getElem? h))))), hg⟩
theorem lt_n4 {w : Cond} (i : Nat) (h : tables_1_4[i]? = some w) (hg : lt_isN w = true) : w ∈ lt_N := List.mem_filter.mpr ⟨(List.mem_append_right _ (List.mem_append_right _ (List.mem_append_right _ (List.mem_append_left _ (List.mem_of_getElem? h))))), hg⟩
theorem lt_m5 {w : Cond} (i : Nat) (h : tables_1_5[i]? = some w) (hg : goodWord w = true) : w ∈ lt_T := List.mem_filter.mpr ⟨List.mem_append_right _ (List.mem_append_right _ (List.mem_append_right _ (List.mem_append_right _ (List.mem_append_right _ (List.mem_append_left _ (List.mem_of_getElem? h)))))), hg⟩
theorem lt_n5 {w : Cond} (i : Nat) (h : tables_1_5[i]? = some w) (hg : lt_isN w = true) : w ∈ lt_N := List.mem_filter.mpr ⟨(List.mem_append_right _ (List.mem_append_right _ (List.mem_append_right _ (List.mem_append_right _ (List.mem_append_left _ (List.mem_of_getElem? h)))))), hg⟩
theorem lt_m6 {w : Cond} (i : Nat) (h : tables_1_6[i]? = some w) (hg : goodWord w = true) : w ∈ lt_T := List.mem_filter.mpr ⟨List.mem_append_right _ (List.mem_append_right _ (List.mem_append_right _ (List.mem_append_right _ (List.mem_append_right _ (List.mem_append_right _ (List.mem_of_getElem? h)))))), hg⟩
theorem lt_n6 {w : Cond} (i : Nat) (h : tables_1_6[i]? = some w) (hg : lt_isN w = true) : w ∈ lt_N := List.mem_filter.mpr ⟨(List.mem_append_right _ (List.mem_append_right _ (List.mem_append_right _ (List.mem_append_right _ (List.mem_append_right _ (List.mem_of_getElem? h)))))), hg⟩
set_option maxRecDepth 10000 in
theorem i_C : ∀ w ∈ u_ws R_C F_C 14, w ∈ lt_T := by
  intro w hw
  obtain ⟨k, hk, rfl⟩ := List.mem_map.mp hw
  have hk := List.mem_range.mp hk
  match k, hk with
  | 0, _ => exact lt_m2 52 rfl rfl
  | 1, _ => exact lt_m2 54 rfl rfl
  | 2, _ => exact lt_m2 56 rfl rfl
  | 3, _ => exact lt_m2 58 rfl rfl
  | 4, _ => exact lt_m2 60 rfl rfl
  | 5, _ => exact lt_m2 62 rfl rfl
  | 6, _ => exact lt_m2 64 rfl rfl
  | 7, _ => exact lt_m2 66 rfl rfl
  | 8, _ => exact lt_m2 68 rfl rfl
  | 9, _ => exact lt_m2 70 rfl rfl
  | 10, _ => exact lt_m2 72 rfl rfl
  | 11, _ => exact lt_m2 74 rfl rfl
  | 12, _ => exact lt_m2 76 rfl rfl
  | 13, _ => exact lt_m2 78 rfl rfl
  | k + 14, h => exact absurd h (by omega)
theorem n_C : ∀ a, a < 14 → ∀ b, b < 14 → a ≠ b → (F_C a).2.1 ≠ (F_C b).2.1 := by decide +kernel
theorem ty_C : ∀ k, k < 14 → parseFieldDescriptor (F_C k).2.2.1 = some (t_C k) := by decide +kernel
set_option maxRecDepth 10000 in
theorem i_Wr : ∀ w ∈ u_ws R_Wr F_Wr 5, w ∈ lt_T := by
  intro w hw
  obtain ⟨k, hk, rfl⟩ := List.mem_map.mp hw
  have hk := List.mem_range.mp hk
  match k, hk with
  | 0, _ => exact lt_m1 40 rfl rfl
  | 1, _ => exact lt_m1 42 rfl rfl
  | 2, _ => exact lt_m1 44 rfl rfl
  | 3, _ => exact lt_m1 46 rfl rfl
  | 4, _ => exact lt_m1 48 rfl rfl
  | k + 5, h => exact absurd h (by omega)
theorem n_Wr : ∀ a, a < 5 → ∀ b, b < 5 → a ≠ b → (F_Wr a).2.1 ≠ (F_Wr b).2.1 := by decide +kernel
theorem ty_Wr : ∀ k, k < 5 → parseFieldDescriptor (F_Wr k).2.2.1 = some (t_Wr k) := by decide +kernel
set_option maxRecDepth 10000 in
theorem i_Tx : ∀ w ∈ u_ws R_Tx F_Tx 2, w ∈ lt_T := by
  intro w hw
  obtain ⟨k, hk, rfl⟩ := List.mem_map.mp hw
  have hk := List.mem_range.mp hk
  match k, hk with
  | 0, _ => exact lt_m1 60 rfl rfl
  | 1, _ => exact lt_m1 62 rfl rfl
  | k + 2, h => exact absurd h (by omega)
theorem n_Tx : ∀ a, a < 2 → ∀ b, b < 2 → a ≠ b → (F_Tx a).2.1 ≠ (F_Tx b).2.1 := by decide +kernel
theorem ty_Tx : ∀ k, k < 2 → parseFieldDescriptor (F_Tx k).2.2.1 = some (t_Tx k) := by decide +kernel
set_option maxRecDepth 10000 in
theorem i_Ls : ∀ w ∈ u_ws R_Ls F_Ls 4, w ∈ lt_T := by
  intro w hw
  obtain ⟨k, hk, rfl⟩ := List.mem_map.mp hw
  have hk := List.mem_range.mp hk
  match k, hk with
  | 0, _ => exact lt_m1 127 rfl rfl
  | 1, _ => exact lt_m1 129 rfl rfl
  | 2, _ => exact lt_m1 131 rfl rfl
  | 3, _ => exact lt_m1 133 rfl rfl
  | k + 4, h => exact absurd h (by omega)
theorem n_Ls : ∀ a, a < 4 → ∀ b, b < 4 → a ≠ b → (F_Ls a).2.1 ≠ (F_Ls b).2.1 := by decide +kernel
theorem ty_Ls : ∀ k, k < 4 → parseFieldDescriptor (F_Ls k).2.2.1 = some (t_Ls k) := by decide +kernel
set_option maxRecDepth 10000 in
theorem i_Fo : ∀ w ∈ u_ws R_Fo F_Fo 9, w ∈ lt_T := by
  intro w hw
  obtain ⟨k, hk, rfl⟩ := List.mem_map.mp hw
  have hk := List.mem_range.mp hk
  match k, hk with
  | 0, _ => exact lt_m1 87 rfl rfl
  | 1, _ => exact lt_m1 89 rfl rfl
  | 2, _ => exact lt_m1 91 rfl rfl
  | 3, _ => exact lt_m1 93 rfl rfl
  | 4, _ => exact lt_m1 95 rfl rfl
  | 5, _ => exact lt_m1 97 rfl rfl
  | 6, _ => exact lt_m1 99 rfl rfl
  | 7, _ => exact lt_m1 101 rfl rfl
  | 8, _ => exact lt_m1 103 rfl rfl
  | k + 9, h => exact absurd h (by omega)
theorem n_Fo : ∀ a, a < 9 → ∀ b, b < 9 → a ≠ b → (F_Fo a).2.1 ≠ (F_Fo b).2.1 := by decide +kernel
theorem ty_Fo : ∀ k, k < 9 → parseFieldDescriptor (F_Fo k).2.2.1 = some (t_Fo k) := by decide +kernel
set_option maxRecDepth 10000 in
theorem i_TL : ∀ w ∈ u_ws R_TL F_TL 3, w ∈ lt_T := by
  intro w hw
  obtain ⟨k, hk, rfl⟩ := List.mem_map.mp hw
  have hk := List.mem_range.mp hk
  match k, hk with
  | 0, _ => exact lt_m1 116 rfl rfl
  | 1, _ => exact lt_m1 118 rfl rfl
  | 2, _ => exact lt_m1 120 rfl rfl
  | k + 3, h => exact absurd h (by omega)
theorem n_TL : ∀ a, a < 3 → ∀ b, b < 3 → a ≠ b → (F_TL a).2.1 ≠ (F_TL b).2.1 := by decide +kernel
theorem ty_TL : ∀ k, k < 3 → parseFieldDescriptor (F_TL k).2.2.1 = some (t_TL k) := by decide +kernel
set_option maxRecDepth 10000 in
theorem i_Ma : ∀ w ∈ u_ws R_Ma F_Ma 8, w ∈ lt_T := by
  intro w hw
  obtain ⟨k, hk, rfl⟩ := List.mem_map.mp hw
  have hk := List.mem_range.mp hk
  match k, hk with
  | 0, _ => exact lt_m1 150 rfl rfl
  | 1, _ => exact lt_m1 152 rfl rfl
  | 2, _ => exact lt_m1 154 rfl rfl
  | 3, _ => exact lt_m1 156 rfl rfl
  | 4, _ => exact lt_m1 158 rfl rfl
  | 5, _ => exact lt_m1 160 rfl rfl
  | 6, _ => exact lt_m1 162 rfl rfl
  | 7, _ => exact lt_m1 164 rfl rfl
  | k + 8, h => exact absurd h (by omega)
theorem n_Ma : ∀ a, a < 8 → ∀ b, b < 8 → a ≠ b → (F_Ma a).2.1 ≠ (F_Ma b).2.1 := by decide +kernel
theorem ty_Ma : ∀ k, k < 8 → parseFieldDescriptor (F_Ma k).2.2.1 = some (t_Ma k) := by decide +kernel
set_option maxRecDepth 10000 in
theorem i_Si : ∀ w ∈ u_ws R_Si F_Si 6, w ∈ lt_T := by
  intro w hw
  obtain ⟨k, hk, rfl⟩ := List.mem_map.mp hw
  have hk := List.mem_range.mp hk
  match k, hk with
  | 0, _ => exact lt_m1 183 rfl rfl
  | 1, _ => exact lt_m1 185 rfl rfl
  | 2, _ => exact lt_m1 187 rfl rfl
  | 3, _ => exact lt_m1 189 rfl rfl
  | 4, _ => exact lt_m1 191 rfl rfl
  | 5, _ => exact lt_m1 193 rfl rfl
  | k + 6, h => exact absurd h (by omega)
theorem n_Si : ∀ a, a < 6 → ∀ b, b < 6 → a ≠ b → (F_Si a).2.1 ≠ (F_Si b).2.1 := by decide +kernel
theorem ty_Si : ∀ k, k < 6 → parseFieldDescriptor (F_Si k).2.2.1 = some (t_Si k) := by decide +kernel
set_option maxRecDepth 10000 in
theorem i_Pr : ∀ w ∈ u_ws R_Pr F_Pr 4, w ∈ lt_T := by
  intro w hw
  obtain ⟨k, hk, rfl⟩ := List.mem_map.mp hw
  have hk := List.mem_range.mp hk
  match k, hk with
  | 0, _ => exact lt_m1 206 rfl rfl
  | 1, _ => exact lt_m1 208 rfl rfl
  | 2, _ => exact lt_m1 210 rfl rfl
  | 3, _ => exact lt_m1 212 rfl rfl
  | k + 4, h => exact absurd h (by omega)
theorem n_Pr : ∀ a, a < 4 → ∀ b, b < 4 → a ≠ b → (F_Pr a).2.1 ≠ (F_Pr b).2.1 := by decide +kernel
theorem ty_Pr : ∀ k, k < 4 → parseFieldDescriptor (F_Pr k).2.2.1 = some (t_Pr k) := by decide +kernel
set_option maxRecDepth 10000 in
theorem i_Au : ∀ w ∈ u_ws R_Au F_Au 8, w ∈ lt_T := by
  intro w hw
  obtain ⟨k, hk, rfl⟩ := List.mem_map.mp hw
  have hk := List.mem_range.mp hk
  match k, hk with
  | 0, _ => exact lt_m2 21 rfl rfl
  | 1, _ => exact lt_m2 23 rfl rfl
  | 2, _ => exact lt_m2 25 rfl rfl
  | 3, _ => exact lt_m2 27 rfl rfl
  | 4, _ => exact lt_m2 29 rfl rfl
  | 5, _ => exact lt_m2 31 rfl rfl
  | 6, _ => exact lt_m2 33 rfl rfl
  | 7, _ => exact lt_m2 35 rfl rfl
  | k + 8, h => exact absurd h (by omega)
theorem n_Au : ∀ a, a < 8 → ∀ b, b < 8 → a ≠ b → (F_Au a).2.1 ≠ (F_Au b).2.1 := by decide +kernel
theorem ty_Au : ∀ k, k < 8 → parseFieldDescriptor (F_Au k).2.2.1 = some (t_Au k) := by decide +kernel
set_option maxRecDepth 10000 in
theorem i_St : ∀ w ∈ u_ws R_St F_St 5, w ∈ lt_T := by
  intro w hw
  obtain ⟨k, hk, rfl⟩ := List.mem_map.mp hw
  have hk := List.mem_range.mp hk
  match k, hk with
  | 0, _ => exact lt_m1 238 rfl rfl
  | 1, _ => exact lt_m2 0 rfl rfl
  | 2, _ => exact lt_m2 2 rfl rfl
  | 3, _ => exact lt_m2 4 rfl rfl
  | 4, _ => exact lt_m2 6 rfl rfl
  | k + 5, h => exact absurd h (by omega)
theorem n_St : ∀ a, a < 5 → ∀ b, b < 5 → a ≠ b → (F_St a).2.1 ≠ (F_St b).2.1 := by decide +kernel
theorem ty_St : ∀ k, k < 5 → parseFieldDescriptor (F_St k).2.2.1 = some (t_St k) := by decide +kernel
set_option maxRecDepth 10000 in
theorem i_Mo : ∀ w ∈ u_ws R_Mo F_Mo 45, w ∈ lt_T := by
  intro w hw
  obtain ⟨k, hk, rfl⟩ := List.mem_map.mp hw
  have hk := List.mem_range.mp hk
  match k, hk with
  | 0, _ => exact lt_m4 195 rfl rfl
  | 1, _ => exact lt_m4 197 rfl rfl
  | 2, _ => exact lt_m4 199 rfl rfl
  | 3, _ => exact lt_m4 201 rfl rfl
  | 4, _ => exact lt_m4 203 rfl rfl
  | 5, _ => exact lt_m4 205 rfl rfl
  | 6, _ => exact lt_m4 207 rfl rfl
  | 7, _ => exact lt_m4 209 rfl rfl
  | 8, _ => exact lt_m4 211 rfl rfl
  | 9, _ => exact lt_m4 213 rfl rfl
  | 10, _ => exact lt_m4 215 rfl rfl
  | 11, _ => exact lt_m4 217 rfl rfl
  | 12, _ => exact lt_m4 219 rfl rfl
  | 13, _ => exact lt_m4 221 rfl rfl
  | 14, _ => exact lt_m4 223 rfl rfl
  | 15, _ => exact lt_m4 225 rfl rfl
  | 16, _ => exact lt_m4 227 rfl rfl
  | 17, _ => exact lt_m4 229 rfl rfl
  | 18, _ => exact lt_m4 231 rfl rfl
  | 19, _ => exact lt_m4 233 rfl rfl
  | 20, _ => exact lt_m4 235 rfl rfl
  | 21, _ => exact lt_m4 237 rfl rfl
  | 22, _ => exact lt_m4 239 rfl rfl
  | 23, _ => exact lt_m5 1 rfl rfl
  | 24, _ => exact lt_m5 3 rfl rfl
  | 25, _ => exact lt_m5 5 rfl rfl
  | 26, _ => exact lt_m5 7 rfl rfl
  | 27, _ => exact lt_m5 9 rfl rfl
  | 28, _ => exact lt_m5 11 rfl rfl
  | 29, _ => exact lt_m5 13 rfl rfl
  | 30, _ => exact lt_m5 15 rfl rfl
  | 31, _ => exact lt_m5 17 rfl rfl
  | 32, _ => exact lt_m5 19 rfl rfl
  | 33, _ => exact lt_m5 21 rfl rfl
  | 34, _ => exact lt_m5 23 rfl rfl
  | 35, _ => exact lt_m5 25 rfl rfl
  | 36, _ => exact lt_m5 27 rfl rfl
  | 37, _ => exact lt_m5 29 rfl rfl
  | 38, _ => exact lt_m5 31 rfl rfl
  | 39, _ => exact lt_m5 33 rfl rfl
  | 40, _ => exact lt_m5 35 rfl rfl
  | 41, _ => exact lt_m5 37 rfl rfl
  | 42, _ => exact lt_m5 39 rfl rfl
  | 43, _ => exact lt_m5 41 rfl rfl
  | 44, _ => exact lt_m5 43 rfl rfl
  | k + 45, h => exact absurd h (by omega)
theorem n_Mo : ∀ a, a < 45 → ∀ b, b < 45 → a ≠ b → (F_Mo a).2.1 ≠ (F_Mo b).2.1 := by decide +kernel
theorem ty_Mo : ∀ k, k < 45 → parseFieldDescriptor (F_Mo k).2.2.1 = some (t_Mo k) := by decide +kernel
theorem lt_in {ci : Nat} {C : String} {T : u_T} {N : Nat} (h : lt_cl[ci]? = some (C, T, N)) : ∀ w ∈ u_ws C T N, w ∈ lt_T := by
  match ci, h with
  | 0, h => cases h; exact i_C
  | 1, h => cases h; exact i_Wr
  | 2, h => cases h; exact i_Tx
  | 3, h => cases h; exact i_Ls
  | 4, h => cases h; exact i_Fo
  | 5, h => cases h; exact i_TL
  | 6, h => cases h; exact i_Ma
  | 7, h => cases h; exact i_Si
  | 8, h => cases h; exact i_Pr
  | 9, h => cases h; exact i_Au
  | 10, h => cases h; exact i_St
  | 11, h => cases h; exact i_Mo
  | k + 12, h => exact absurd h (by simp [lt_cl])
theorem lt_nm {ci : Nat} {C : String} {T : u_T} {N : Nat} (h : lt_cl[ci]? = some (C, T, N)) : ∀ a, a < N → ∀ b, b < N → a ≠ b → (T a).2.1 ≠ (T b).2.1 := by
  match ci, h with
  | 0, h => cases h; exact n_C
  | 1, h => cases h; exact n_Wr
  | 2, h => cases h; exact n_Tx
  | 3, h => cases h; exact n_Ls
  | 4, h => cases h; exact n_Fo
  | 5, h => cases h; exact n_TL
  | 6, h => cases h; exact n_Ma
  | 7, h => cases h; exact n_Si
  | 8, h => cases h; exact n_Pr
  | 9, h => cases h; exact n_Au
  | 10, h => cases h; exact n_St
  | 11, h => cases h; exact n_Mo
  | k + 12, h => exact absurd h (by simp [lt_cl])
theorem lt_tyok {ci : Nat} {C : String} {T : u_T} {N : Nat} (h : lt_cl[ci]? = some (C, T, N)) : ∀ k, k < N → parseFieldDescriptor (T k).2.2.1 = some (lt_ty ci k) := by
  match ci, h with
  | 0, h => cases h; exact ty_C
  | 1, h => cases h; exact ty_Wr
  | 2, h => cases h; exact ty_Tx
  | 3, h => cases h; exact ty_Ls
  | 4, h => cases h; exact ty_Fo
  | 5, h => cases h; exact ty_TL
  | 6, h => cases h; exact ty_Ma
  | 7, h => cases h; exact ty_Si
  | 8, h => cases h; exact ty_Pr
  | 9, h => cases h; exact ty_Au
  | 10, h => cases h; exact ty_St
  | 11, h => cases h; exact ty_Mo
  | k + 12, h => exact absurd h (by simp [lt_cl])
end
section
/-! LEADS-TO: Lt says that the machine, at a point of a method (pc, locals, stack, heap view, room left), comes to a point where X holds. All of the machine stands behind it. -/
/-- the view of the heap: shapes, int-like, long and reference slots by address and place, and the next new address -/
abbrev hv_S : Type := (Nat → Option (Nat × Nat)) × (Nat → Nat → Int32) × (Nat → Nat → Int64) × (Nat → Nat → Option Nat) × Nat
abbrev hv_sh (σ : hv_S) : Nat → Option (Nat × Nat) := σ.1
abbrev hv_I (σ : hv_S) : Nat → Nat → Int32 := σ.2.1
abbrev hv_J (σ : hv_S) : Nat → Nat → Int64 := σ.2.2.1
abbrev hv_R (σ : hv_S) : Nat → Nat → Option Nat := σ.2.2.2.1
abbrev hv_n (σ : hv_S) : Nat := σ.2.2.2.2
/-- a value of type ty, read off the view -/
def hv_fv (ty : FieldType) (σ : hv_S) (a k : Nat) : Value := match ty with
  | .long => .long (hv_J σ a k)
  | .object _ => va_rf (hv_R σ a k)
  | .array _ => va_rf (hv_R σ a k)
  | _ => .int (hv_I σ a k)
def hv_u {α : Type} (f : Nat → Nat → α) (a k : Nat) (v : α) : Nat → Nat → α := fun b j => if j = k ∧ b = a then v else f b j
def hv_setI (σ : hv_S) (a k : Nat) (v : Int32) : hv_S := (hv_sh σ, hv_u (hv_I σ) a k v, hv_J σ, hv_R σ, hv_n σ)
def hv_setJ (σ : hv_S) (a k : Nat) (v : Int64) : hv_S := (hv_sh σ, hv_I σ, hv_u (hv_J σ) a k v, hv_R σ, hv_n σ)
def hv_setR (σ : hv_S) (a k : Nat) (v : Option Nat) : hv_S := (hv_sh σ, hv_I σ, hv_J σ, hv_u (hv_R σ) a k v, hv_n σ)
/-- a new cell, all zero -/
def hv_new (σ : hv_S) (x : Nat × Nat) : hv_S := (fun b => if b = hv_n σ then some x else hv_sh σ b, fun b j => if b = hv_n σ then 0 else hv_I σ b j, fun b j => if b = hv_n σ then 0 else hv_J σ b j, fun b j => if b = hv_n σ then none else hv_R σ b j, hv_n σ + 1)
def hv_zero : hv_S := (fun _ => none, fun _ _ => 0, fun _ _ => 0, fun _ _ => none, 0)
/-- the classes' numbers and slots, the array classes, and what is said of the heap outside of the view -/
abbrev lt_G : Type := va_G × (Nat → ClassId) × (State → (Nat → Prop) → Prop)
/-- what is said of the outside holds on, where the outside does -/
def lt_Ok (G : lt_G) : Prop := ∀ (s U : State) (A A' : Nat → Prop), G.2.2 s A → s.vm.Alike U.vm → (∀ q : Nat, q < s.heap.size → A' q → A q) → s.heap.size ≤ U.heap.size → (∀ q : Nat, q < s.heap.size → ¬ A q → U.heap[q]? = s.heap[q]?) → G.2.2 U A'
abbrev lt_M : Type := MethodName × ByteArray × Nat × Option FieldType
/-- the cell of shape x at a: an object of class x.1, or (from 1000 on) an array of x.2 elements of the type with number x.1 - 1000, or (2000) an int array that is only read -/
def hv_at (G : lt_G) (σ : hv_S) (a : Nat) (x : Nat × Nat) (H : Heap) : Prop :=
  if x.1 < 1000 then ∃ r : vw_C, lt_cl[x.1]? = some r ∧ t_OB a (G.1.1 x.1) r.2.2 (G.1.2 x.1) H (fun k => hv_fv (lt_ty x.1 k) σ a k)
  else if x.1 < 2000 then H[a]? = some (arrV (G.2.1 (x.1 - 1000)) x.2 (fun j => hv_fv (lt_aty (x.1 - 1000)) σ a j))
  else ∃ scr : Cell, H[a]? = some scr ∧ scr.cls = G.2.1 9 ∧ (∀ k, scr.vm ≠ .statics k) ∧ scr.vm ≠ .unknown ∧ scr.slots.size = x.2 ∧ ∀ j : Nat, j < x.2 → scr.slots[j]? = some (.int (hv_I σ a j))
def hv_H (G : lt_G) (σ : hv_S) (H : Heap) : Prop := H.size = hv_n σ ∧ ∀ (a : Nat) (x : Nat × Nat), hv_sh σ a = some x → hv_at G σ a x H
def lt_tys (G : lt_G) : List (ClassId × FieldType) := lt_codes.map (fun t => (G.2.1 t, lt_aty t))
def lt_K (G : lt_G) (s : State) : Prop := va_K G.1 lt_cl (lt_tys G) s ∧ ArrOfT s (G.2.1 9) .int
def lt_C (G : lt_G) (μ : lt_M) (d : Nat) (p : Program) (R : Room) (s : State) (m : MethodId) (args : Array Value) (meth : Method) (c : Code) : Prop :=
  p.tables.exec = Jvm.exec ∧ c.code = μ.2.1 ∧ meth.sig.returnType = μ.2.2.2 ∧ c.maxLocals = μ.2.2.1 ∧ s.vm.findClass μ.1.cls = some m.cls ∧ (∀ w ∈ lt_T, w.before args s = true) ∧ (∀ w ∈ lt_N, va_Nw w s) ∧ lt_K G s ∧ meth.locks = false ∧ meth.name = μ.1.name ∧ d ≤ R.frames ∧ 64 * d ≤ R.locals ∧ lt_Ok G
def lt_H (G : lt_G) (σ : hv_S) (s : State) (H : Heap) (locs : List Loc) (A : Nat → Prop) : Prop :=
  hv_H G σ H ∧ (∀ (a : Nat) (x : Nat × Nat), hv_sh σ a = some x → x.1 < 2000 → A a) ∧ va_S A s.heap H locs
def Lt (G : lt_G) (μ : lt_M) (d pc : Nat) (lo : List (Nat × Value)) (st : List Value) (σ : hv_S) (mc ms : Nat) (X : Nat → List (Nat × Value) → List Value → hv_S → Nat → Nat → Prop) : Prop :=
  ∀ (p : Program) (l : Launch) (e : Env) (R : Room) (s : State) (m : MethodId) (args : Array Value) (below : List Frame) (meth : Method) (c : Code), lt_C G μ d p R s m args meth c → ∀ (A : Nat → Prop), (∀ q : Nat, s.heap.size ≤ q → A q) → G.2.2 s A → ∀ (Q : State → Prop),
  (∀ (pc' : Nat) (lo' : List (Nat × Value)) (st' : List Value) (σ' : hv_S) (mc' ms' : Nat) (H' : Heap) (locs' : List Loc) (cells' slots' : Nat) (ls' : Array Slot), X pc' lo' st' σ' mc' ms' → lv_has ls' μ.2.2.1 lo' → lt_H G σ' s H' locs' A → cells' + mc' ≤ R.cells → slots' + ms' ≤ R.slots → W p l e R s m args below meth c H' locs' cells' slots' Q (F0 m pc' ls' st')) →
  ∀ (H : Heap) (locs : List Loc) (cells slots : Nat) (ls : Array Slot), lv_has ls μ.2.2.1 lo → lt_H G σ s H locs A → cells + mc ≤ R.cells → slots + ms ≤ R.slots → W p l e R s m args below meth c H locs cells slots Q (F0 m pc ls st)
section LT
variable {G : lt_G} {μ : lt_M} {d pc : Nat} {lo lo' : List (Nat × Value)} {st : List Value} {σ : hv_S} {mc ms : Nat} {X : Nat → List (Nat × Value) → List Value → hv_S → Nat → Nat → Prop}
theorem Lt.stop (h : X pc lo st σ mc ms) : Lt G μ d pc lo st σ mc ms X := fun _ _ _ _ _ _ _ _ _ _ _ _ _ _ _ hX H locs cells slots ls hl hH h1 h2 => hX pc lo st σ mc ms H locs cells slots ls h hl hH h1 h2
theorem Lt.trans {Y : Nat → List (Nat × Value) → List Value → hv_S → Nat → Nat → Prop} (h : Lt G μ d pc lo st σ mc ms Y) (k : ∀ pc' lo' st' σ' mc' ms', Y pc' lo' st' σ' mc' ms' → Lt G μ d pc' lo' st' σ' mc' ms' X) : Lt G μ d pc lo st σ mc ms X :=
  fun p l e R s m args below meth c hC A hA hY Q hX H locs cells slots ls hl hH h1 h2 => h p l e R s m args below meth c hC A hA hY Q (fun pc' lo' st' σ' mc' ms' H' locs' cells' slots' ls' hy hl' hH' g1 g2 => k pc' lo' st' σ' mc' ms' hy p l e R s m args below meth c hC A hA hY Q hX H' locs' cells' slots' ls' hl' hH' g1 g2) H locs cells slots ls hl hH h1 h2
theorem Lt.less {mc' ms' : Nat} (hc : mc' ≤ mc) (hs : ms' ≤ ms) (h : Lt G μ d pc lo st σ mc' ms' X) : Lt G μ d pc lo st σ mc ms X :=
  fun p l e R s m args below meth c hC A hA hY Q hX H locs cells slots ls hl hH h1 h2 => h p l e R s m args below meth c hC A hA hY Q hX H locs cells slots ls hl hH (by omega) (by omega)
theorem Lt.sub (ks : List Nat) (hk : lv_pick lo ks = lo') (h : Lt G μ d pc lo' st σ mc ms X) : Lt G μ d pc lo st σ mc ms X :=
  fun p l e R s m args below meth c hC A hA hY Q hX H locs cells slots ls hl hH h1 h2 => h p l e R s m args below meth c hC A hA hY Q hX H locs cells slots ls (lv_sub hl ks hk) hH h1 h2
def ms_ld (lo : List (Nat × Value)) (i : Nat) : Option Value := match lo with
  | [] => none
  | q :: r => if q.1 = i then some q.2 else ms_ld r i
theorem ms_ld_mem : ∀ {lo : List (Nat × Value)} {i : Nat} {v : Value}, ms_ld lo i = some v → (i, v) ∈ lo
  | [], i, v, h => by simp [ms_ld] at h
  | q :: r, i, v, h => by
    unfold ms_ld at h
    split at h
    · next hq => cases h; subst hq; exact List.mem_cons_self
    · exact List.mem_cons_of_mem _ (ms_ld_mem h)
theorem ms_ld_at {ls : Array Slot} {nL : Nat} {lo : List (Nat × Value)} {i : Nat} {v : Value} (h : lv_has ls nL lo) (hi : ms_ld lo i = some v) : ls[i]? = some (.val v) := h.2.2 (i, v) (ms_ld_mem hi)
def ms_s1 (i : Nat) (v : Value) (lo : List (Nat × Value)) : List (Nat × Value) := (i, v) :: lo.filter (fun q => !(q.1 == i) && !(q.1 + 1 == i && q.2.category == 2))
def ms_s2 (i : Nat) (v : Value) (lo : List (Nat × Value)) : List (Nat × Value) := (i, v) :: lo.filter (fun q => !(q.1 == i) && (!(q.1 == i + 1) && !(q.1 + 1 == i && q.2.category == 2)))

theorem lt_iconst {n : Int} {v : Int32} (hd : decode μ.2.1 pc = .ok (.iconst n, 1)) (hv : Int32.ofInt n = v) (kk : Lt G μ d (pc + 1) lo (.int v :: st) σ mc ms X) : Lt G μ d pc lo (st) σ mc ms X :=
  fun p l e R s m args below meth c hC A hA hY Q hX H locs cells slots ls hl hH h1 h2 => lv_iconst hC.1 hC.2.1 hd hv (kk p l e R s m args below meth c hC A hA hY Q hX H locs cells slots ls hl hH h1 h2)
theorem lt_bipush {n : Int} {v : Int32} (hd : decode μ.2.1 pc = .ok (.bipush n, 2)) (hv : (Int8.ofInt n).toInt32 = v) (kk : Lt G μ d (pc + 2) lo (.int v :: st) σ mc ms X) : Lt G μ d pc lo (st) σ mc ms X :=
  fun p l e R s m args below meth c hC A hA hY Q hX H locs cells slots ls hl hH h1 h2 => lv_bipush hC.1 hC.2.1 hd hv (kk p l e R s m args below meth c hC A hA hY Q hX H locs cells slots ls hl hH h1 h2)
theorem lt_sipush {n : Int} {v : Int32} (hd : decode μ.2.1 pc = .ok (.sipush n, 3)) (hv : (Int16.ofInt n).toInt32 = v) (kk : Lt G μ d (pc + 3) lo (.int v :: st) σ mc ms X) : Lt G μ d pc lo (st) σ mc ms X :=
  fun p l e R s m args below meth c hC A hA hY Q hX H locs cells slots ls hl hH h1 h2 => lv_sipush hC.1 hC.2.1 hd hv (kk p l e R s m args below meth c hC A hA hY Q hX H locs cells slots ls hl hH h1 h2)
theorem lt_lconst {n : Fin 2} {v : Int64} (hd : decode μ.2.1 pc = .ok (.lconst n, 1)) (hv : Int64.ofNat (n : Nat) = v) (kk : Lt G μ d (pc + 1) lo (.long v :: st) σ mc ms X) : Lt G μ d pc lo (st) σ mc ms X :=
  fun p l e R s m args below meth c hC A hA hY Q hX H locs cells slots ls hl hH h1 h2 => lv_lconst hC.1 hC.2.1 hd hv (kk p l e R s m args below meth c hC A hA hY Q hX H locs cells slots ls hl hH h1 h2)
theorem lt_null  (hd : decode μ.2.1 pc = .ok (.aconst_null, 1)) (kk : Lt G μ d (pc + 1) lo (.null :: st) σ mc ms X) : Lt G μ d pc lo (st) σ mc ms X :=
  fun p l e R s m args below meth c hC A hA hY Q hX H locs cells slots ls hl hH h1 h2 => lv_null hC.1 hC.2.1 hd (kk p l e R s m args below meth c hC A hA hY Q hX H locs cells slots ls hl hH h1 h2)
theorem lt_iload {i : Nat} {x : Int32} (hd : decode μ.2.1 pc = .ok (.iload i, 2)) (hi : ms_ld lo i = some (.int x)) (kk : Lt G μ d (pc + 2) lo (.int x :: st) σ mc ms X) : Lt G μ d pc lo (st) σ mc ms X :=
  fun p l e R s m args below meth c hC A hA hY Q hX H locs cells slots ls hl hH h1 h2 => lv_iload hC.1 hC.2.1 hd (ms_ld_at hl hi) (kk p l e R s m args below meth c hC A hA hY Q hX H locs cells slots ls hl hH h1 h2)
theorem lt_iload_n {k : Fin 4} {x : Int32} (hd : decode μ.2.1 pc = .ok (.iload_n k, 1)) (hi : ms_ld lo (k : Nat) = some (.int x)) (kk : Lt G μ d (pc + 1) lo (.int x :: st) σ mc ms X) : Lt G μ d pc lo (st) σ mc ms X :=
  fun p l e R s m args below meth c hC A hA hY Q hX H locs cells slots ls hl hH h1 h2 => lv_iload_n hC.1 hC.2.1 hd rfl (ms_ld_at hl hi) (kk p l e R s m args below meth c hC A hA hY Q hX H locs cells slots ls hl hH h1 h2)
theorem lt_lload {i : Nat} {x : Int64} (hd : decode μ.2.1 pc = .ok (.lload i, 2)) (hi : ms_ld lo i = some (.long x)) (kk : Lt G μ d (pc + 2) lo (.long x :: st) σ mc ms X) : Lt G μ d pc lo (st) σ mc ms X :=
  fun p l e R s m args below meth c hC A hA hY Q hX H locs cells slots ls hl hH h1 h2 => lv_lload hC.1 hC.2.1 hd (ms_ld_at hl hi) (kk p l e R s m args below meth c hC A hA hY Q hX H locs cells slots ls hl hH h1 h2)
theorem lt_lload_n {k : Fin 4} {x : Int64} (hd : decode μ.2.1 pc = .ok (.lload_n k, 1)) (hi : ms_ld lo (k : Nat) = some (.long x)) (kk : Lt G μ d (pc + 1) lo (.long x :: st) σ mc ms X) : Lt G μ d pc lo (st) σ mc ms X :=
  fun p l e R s m args below meth c hC A hA hY Q hX H locs cells slots ls hl hH h1 h2 => lv_lload_n hC.1 hC.2.1 hd rfl (ms_ld_at hl hi) (kk p l e R s m args below meth c hC A hA hY Q hX H locs cells slots ls hl hH h1 h2)
theorem lt_aload {i : Nat} {x : Nat} (hd : decode μ.2.1 pc = .ok (.aload i, 2)) (hi : ms_ld lo i = some (.ref x)) (kk : Lt G μ d (pc + 2) lo (.ref x :: st) σ mc ms X) : Lt G μ d pc lo (st) σ mc ms X :=
  fun p l e R s m args below meth c hC A hA hY Q hX H locs cells slots ls hl hH h1 h2 => lv_aload hC.1 hC.2.1 hd (ms_ld_at hl hi) (kk p l e R s m args below meth c hC A hA hY Q hX H locs cells slots ls hl hH h1 h2)
theorem lt_aload_n {k : Fin 4} {x : Nat} (hd : decode μ.2.1 pc = .ok (.aload_n k, 1)) (hi : ms_ld lo (k : Nat) = some (.ref x)) (kk : Lt G μ d (pc + 1) lo (.ref x :: st) σ mc ms X) : Lt G μ d pc lo (st) σ mc ms X :=
  fun p l e R s m args below meth c hC A hA hY Q hX H locs cells slots ls hl hH h1 h2 => lv_aload_n hC.1 hC.2.1 hd rfl (ms_ld_at hl hi) (kk p l e R s m args below meth c hC A hA hY Q hX H locs cells slots ls hl hH h1 h2)
theorem lt_aloadN {i : Nat} (hd : decode μ.2.1 pc = .ok (.aload i, 2)) (hi : ms_ld lo i = some .null) (kk : Lt G μ d (pc + 2) lo (.null :: st) σ mc ms X) : Lt G μ d pc lo (st) σ mc ms X :=
  fun p l e R s m args below meth c hC A hA hY Q hX H locs cells slots ls hl hH h1 h2 => lv_aloadN hC.1 hC.2.1 hd (ms_ld_at hl hi) (kk p l e R s m args below meth c hC A hA hY Q hX H locs cells slots ls hl hH h1 h2)
theorem lt_aload_nN {k : Fin 4} (hd : decode μ.2.1 pc = .ok (.aload_n k, 1)) (hi : ms_ld lo (k : Nat) = some .null) (kk : Lt G μ d (pc + 1) lo (.null :: st) σ mc ms X) : Lt G μ d pc lo (st) σ mc ms X :=
  fun p l e R s m args below meth c hC A hA hY Q hX H locs cells slots ls hl hH h1 h2 => lv_aload_nN hC.1 hC.2.1 hd rfl (ms_ld_at hl hi) (kk p l e R s m args below meth c hC A hA hY Q hX H locs cells slots ls hl hH h1 h2)
theorem lt_istore {i : Nat} {x : Int32} (hd : decode μ.2.1 pc = .ok (.istore i, 2)) (hn : i < μ.2.2.1) (hs : ms_s1 i (.int x) lo = lo') (kk : Lt G μ d (pc + 2) lo' (st) σ mc ms X) : Lt G μ d pc lo (.int x :: st) σ mc ms X :=
  fun p l e R s m args below meth c hC A hA hY Q hX H locs cells slots ls hl hH h1 h2 => lv_istore hC.1 hC.2.1 hd hl hn hs (fun ls' hl' => kk p l e R s m args below meth c hC A hA hY Q hX H locs cells slots ls' hl' hH h1 h2)
theorem lt_istore_n {k : Fin 4} {x : Int32} (hd : decode μ.2.1 pc = .ok (.istore_n k, 1)) (hn : (k : Nat) < μ.2.2.1) (hs : ms_s1 (k : Nat) (.int x) lo = lo') (kk : Lt G μ d (pc + 1) lo' (st) σ mc ms X) : Lt G μ d pc lo (.int x :: st) σ mc ms X :=
  fun p l e R s m args below meth c hC A hA hY Q hX H locs cells slots ls hl hH h1 h2 => lv_istore_n hC.1 hC.2.1 hd rfl hl hn hs (fun ls' hl' => kk p l e R s m args below meth c hC A hA hY Q hX H locs cells slots ls' hl' hH h1 h2)
theorem lt_lstore {i : Nat} {x : Int64} (hd : decode μ.2.1 pc = .ok (.lstore i, 2)) (hn : i + 1 < μ.2.2.1) (hs : ms_s2 i (.long x) lo = lo') (kk : Lt G μ d (pc + 2) lo' (st) σ mc ms X) : Lt G μ d pc lo (.long x :: st) σ mc ms X :=
  fun p l e R s m args below meth c hC A hA hY Q hX H locs cells slots ls hl hH h1 h2 => lv_lstore hC.1 hC.2.1 hd hl hn hs (fun ls' hl' => kk p l e R s m args below meth c hC A hA hY Q hX H locs cells slots ls' hl' hH h1 h2)
theorem lt_lstore_n {k : Fin 4} {x : Int64} (hd : decode μ.2.1 pc = .ok (.lstore_n k, 1)) (hn : (k : Nat) + 1 < μ.2.2.1) (hs : ms_s2 (k : Nat) (.long x) lo = lo') (kk : Lt G μ d (pc + 1) lo' (st) σ mc ms X) : Lt G μ d pc lo (.long x :: st) σ mc ms X :=
  fun p l e R s m args below meth c hC A hA hY Q hX H locs cells slots ls hl hH h1 h2 => lv_lstore_n hC.1 hC.2.1 hd rfl hl hn hs (fun ls' hl' => kk p l e R s m args below meth c hC A hA hY Q hX H locs cells slots ls' hl' hH h1 h2)
theorem lt_astore {i : Nat} {x : Nat} (hd : decode μ.2.1 pc = .ok (.astore i, 2)) (hn : i < μ.2.2.1) (hs : ms_s1 i (.ref x) lo = lo') (kk : Lt G μ d (pc + 2) lo' (st) σ mc ms X) : Lt G μ d pc lo (.ref x :: st) σ mc ms X :=
  fun p l e R s m args below meth c hC A hA hY Q hX H locs cells slots ls hl hH h1 h2 => lv_astore hC.1 hC.2.1 hd hl hn hs (fun ls' hl' => kk p l e R s m args below meth c hC A hA hY Q hX H locs cells slots ls' hl' hH h1 h2)
theorem lt_astore_n {k : Fin 4} {x : Nat} (hd : decode μ.2.1 pc = .ok (.astore_n k, 1)) (hn : (k : Nat) < μ.2.2.1) (hs : ms_s1 (k : Nat) (.ref x) lo = lo') (kk : Lt G μ d (pc + 1) lo' (st) σ mc ms X) : Lt G μ d pc lo (.ref x :: st) σ mc ms X :=
  fun p l e R s m args below meth c hC A hA hY Q hX H locs cells slots ls hl hH h1 h2 => lv_astore_n hC.1 hC.2.1 hd rfl hl hn hs (fun ls' hl' => kk p l e R s m args below meth c hC A hA hY Q hX H locs cells slots ls' hl' hH h1 h2)
theorem lt_astoreN {i : Nat} (hd : decode μ.2.1 pc = .ok (.astore i, 2)) (hn : i < μ.2.2.1) (hs : ms_s1 i .null lo = lo') (kk : Lt G μ d (pc + 2) lo' (st) σ mc ms X) : Lt G μ d pc lo (.null :: st) σ mc ms X :=
  fun p l e R s m args below meth c hC A hA hY Q hX H locs cells slots ls hl hH h1 h2 => lv_astoreN hC.1 hC.2.1 hd hl hn hs (fun ls' hl' => kk p l e R s m args below meth c hC A hA hY Q hX H locs cells slots ls' hl' hH h1 h2)
theorem lt_astore_nN {k : Fin 4} (hd : decode μ.2.1 pc = .ok (.astore_n k, 1)) (hn : (k : Nat) < μ.2.2.1) (hs : ms_s1 (k : Nat) .null lo = lo') (kk : Lt G μ d (pc + 1) lo' (st) σ mc ms X) : Lt G μ d pc lo (.null :: st) σ mc ms X :=
  fun p l e R s m args below meth c hC A hA hY Q hX H locs cells slots ls hl hH h1 h2 => lv_astore_nN hC.1 hC.2.1 hd rfl hl hn hs (fun ls' hl' => kk p l e R s m args below meth c hC A hA hY Q hX H locs cells slots ls' hl' hH h1 h2)
theorem lt_iinc {i : Nat} {n : Int} {x v : Int32} (hd : decode μ.2.1 pc = .ok (.iinc i n, 3)) (hi : ms_ld lo i = some (.int x)) (hv : x + Int32.ofInt n = v) (hn : i < μ.2.2.1) (hs : ms_s1 i (.int v) lo = lo') (kk : Lt G μ d (pc + 3) lo' st σ mc ms X) : Lt G μ d pc lo st σ mc ms X :=
  fun p l e R s m args below meth c hC A hA hY Q hX H locs cells slots ls hl hH h1 h2 => by
    obtain ⟨k, hk⟩ := List.getElem?_of_mem (ms_ld_mem hi)
    exact lv_iinc hC.1 hC.2.1 hd hl hk hv hn hs (fun ls' hl' => kk p l e R s m args below meth c hC A hA hY Q hX H locs cells slots ls' hl' hH h1 h2)
theorem lt_iadd {x y : Int32} (hd : decode μ.2.1 pc = .ok (.iadd, 1)) (kk : Lt G μ d (pc + 1) lo (.int (x + y) :: st) σ mc ms X) : Lt G μ d pc lo (.int y :: .int x :: st) σ mc ms X :=
  fun p l e R s m args below meth c hC A hA hY Q hX H locs cells slots ls hl hH h1 h2 => lv_iadd hC.1 hC.2.1 hd (kk p l e R s m args below meth c hC A hA hY Q hX H locs cells slots ls hl hH h1 h2)
theorem lt_isub {x y : Int32} (hd : decode μ.2.1 pc = .ok (.isub, 1)) (kk : Lt G μ d (pc + 1) lo (.int (x - y) :: st) σ mc ms X) : Lt G μ d pc lo (.int y :: .int x :: st) σ mc ms X :=
  fun p l e R s m args below meth c hC A hA hY Q hX H locs cells slots ls hl hH h1 h2 => lv_isub hC.1 hC.2.1 hd (kk p l e R s m args below meth c hC A hA hY Q hX H locs cells slots ls hl hH h1 h2)
theorem lt_imul {x y : Int32} (hd : decode μ.2.1 pc = .ok (.imul, 1)) (kk : Lt G μ d (pc + 1) lo (.int (x * y) :: st) σ mc ms X) : Lt G μ d pc lo (.int y :: .int x :: st) σ mc ms X :=
  fun p l e R s m args below meth c hC A hA hY Q hX H locs cells slots ls hl hH h1 h2 => lv_imul hC.1 hC.2.1 hd (kk p l e R s m args below meth c hC A hA hY Q hX H locs cells slots ls hl hH h1 h2)
theorem lt_iand {x y : Int32} (hd : decode μ.2.1 pc = .ok (.iand, 1)) (kk : Lt G μ d (pc + 1) lo (.int (x &&& y) :: st) σ mc ms X) : Lt G μ d pc lo (.int y :: .int x :: st) σ mc ms X :=
  fun p l e R s m args below meth c hC A hA hY Q hX H locs cells slots ls hl hH h1 h2 => lv_iand hC.1 hC.2.1 hd (kk p l e R s m args below meth c hC A hA hY Q hX H locs cells slots ls hl hH h1 h2)
theorem lt_ior {x y : Int32} (hd : decode μ.2.1 pc = .ok (.ior, 1)) (kk : Lt G μ d (pc + 1) lo (.int (x ||| y) :: st) σ mc ms X) : Lt G μ d pc lo (.int y :: .int x :: st) σ mc ms X :=
  fun p l e R s m args below meth c hC A hA hY Q hX H locs cells slots ls hl hH h1 h2 => lv_ior hC.1 hC.2.1 hd (kk p l e R s m args below meth c hC A hA hY Q hX H locs cells slots ls hl hH h1 h2)
theorem lt_ixor {x y : Int32} (hd : decode μ.2.1 pc = .ok (.ixor, 1)) (kk : Lt G μ d (pc + 1) lo (.int (x ^^^ y) :: st) σ mc ms X) : Lt G μ d pc lo (.int y :: .int x :: st) σ mc ms X :=
  fun p l e R s m args below meth c hC A hA hY Q hX H locs cells slots ls hl hH h1 h2 => lv_ixor hC.1 hC.2.1 hd (kk p l e R s m args below meth c hC A hA hY Q hX H locs cells slots ls hl hH h1 h2)
theorem lt_ishl {x y : Int32} (hd : decode μ.2.1 pc = .ok (.ishl, 1)) (kk : Lt G μ d (pc + 1) lo (.int (x <<< (y &&& 31)) :: st) σ mc ms X) : Lt G μ d pc lo (.int y :: .int x :: st) σ mc ms X :=
  fun p l e R s m args below meth c hC A hA hY Q hX H locs cells slots ls hl hH h1 h2 => lv_ishl hC.1 hC.2.1 hd (kk p l e R s m args below meth c hC A hA hY Q hX H locs cells slots ls hl hH h1 h2)
theorem lt_ishr {x y : Int32} (hd : decode μ.2.1 pc = .ok (.ishr, 1)) (kk : Lt G μ d (pc + 1) lo (.int (x >>> (y &&& 31)) :: st) σ mc ms X) : Lt G μ d pc lo (.int y :: .int x :: st) σ mc ms X :=
  fun p l e R s m args below meth c hC A hA hY Q hX H locs cells slots ls hl hH h1 h2 => lv_ishr hC.1 hC.2.1 hd (kk p l e R s m args below meth c hC A hA hY Q hX H locs cells slots ls hl hH h1 h2)
theorem lt_ladd {x y : Int64} (hd : decode μ.2.1 pc = .ok (.ladd, 1)) (kk : Lt G μ d (pc + 1) lo (.long (x + y) :: st) σ mc ms X) : Lt G μ d pc lo (.long y :: .long x :: st) σ mc ms X :=
  fun p l e R s m args below meth c hC A hA hY Q hX H locs cells slots ls hl hH h1 h2 => lv_ladd hC.1 hC.2.1 hd (kk p l e R s m args below meth c hC A hA hY Q hX H locs cells slots ls hl hH h1 h2)
theorem lt_lsub {x y : Int64} (hd : decode μ.2.1 pc = .ok (.lsub, 1)) (kk : Lt G μ d (pc + 1) lo (.long (x - y) :: st) σ mc ms X) : Lt G μ d pc lo (.long y :: .long x :: st) σ mc ms X :=
  fun p l e R s m args below meth c hC A hA hY Q hX H locs cells slots ls hl hH h1 h2 => lv_lsub hC.1 hC.2.1 hd (kk p l e R s m args below meth c hC A hA hY Q hX H locs cells slots ls hl hH h1 h2)
theorem lt_lmul {x y : Int64} (hd : decode μ.2.1 pc = .ok (.lmul, 1)) (kk : Lt G μ d (pc + 1) lo (.long (x * y) :: st) σ mc ms X) : Lt G μ d pc lo (.long y :: .long x :: st) σ mc ms X :=
  fun p l e R s m args below meth c hC A hA hY Q hX H locs cells slots ls hl hH h1 h2 => lv_lmul hC.1 hC.2.1 hd (kk p l e R s m args below meth c hC A hA hY Q hX H locs cells slots ls hl hH h1 h2)
theorem lt_land {x y : Int64} (hd : decode μ.2.1 pc = .ok (.land, 1)) (kk : Lt G μ d (pc + 1) lo (.long (x &&& y) :: st) σ mc ms X) : Lt G μ d pc lo (.long y :: .long x :: st) σ mc ms X :=
  fun p l e R s m args below meth c hC A hA hY Q hX H locs cells slots ls hl hH h1 h2 => lv_land hC.1 hC.2.1 hd (kk p l e R s m args below meth c hC A hA hY Q hX H locs cells slots ls hl hH h1 h2)
theorem lt_lor {x y : Int64} (hd : decode μ.2.1 pc = .ok (.lor, 1)) (kk : Lt G μ d (pc + 1) lo (.long (x ||| y) :: st) σ mc ms X) : Lt G μ d pc lo (.long y :: .long x :: st) σ mc ms X :=
  fun p l e R s m args below meth c hC A hA hY Q hX H locs cells slots ls hl hH h1 h2 => lv_lor hC.1 hC.2.1 hd (kk p l e R s m args below meth c hC A hA hY Q hX H locs cells slots ls hl hH h1 h2)
theorem lt_lxor {x y : Int64} (hd : decode μ.2.1 pc = .ok (.lxor, 1)) (kk : Lt G μ d (pc + 1) lo (.long (x ^^^ y) :: st) σ mc ms X) : Lt G μ d pc lo (.long y :: .long x :: st) σ mc ms X :=
  fun p l e R s m args below meth c hC A hA hY Q hX H locs cells slots ls hl hH h1 h2 => lv_lxor hC.1 hC.2.1 hd (kk p l e R s m args below meth c hC A hA hY Q hX H locs cells slots ls hl hH h1 h2)
theorem lt_ineg {x : Int32} (hd : decode μ.2.1 pc = .ok (.ineg, 1)) (kk : Lt G μ d (pc + 1) lo (.int (-x) :: st) σ mc ms X) : Lt G μ d pc lo (.int x :: st) σ mc ms X :=
  fun p l e R s m args below meth c hC A hA hY Q hX H locs cells slots ls hl hH h1 h2 => lv_ineg hC.1 hC.2.1 hd (kk p l e R s m args below meth c hC A hA hY Q hX H locs cells slots ls hl hH h1 h2)
theorem lt_iushr {x y : Int32} (hd : decode μ.2.1 pc = .ok (.iushr, 1)) (kk : Lt G μ d (pc + 1) lo (.int (x.toUInt32 >>> (y.toUInt32 &&& Int32.toUInt32 31)).toInt32 :: st) σ mc ms X) : Lt G μ d pc lo (.int y :: .int x :: st) σ mc ms X :=
  fun p l e R s m args below meth c hC A hA hY Q hX H locs cells slots ls hl hH h1 h2 => lv_iushr hC.1 hC.2.1 hd rfl (kk p l e R s m args below meth c hC A hA hY Q hX H locs cells slots ls hl hH h1 h2)
theorem lt_lushr {x : Int64} {y : Int32} (hd : decode μ.2.1 pc = .ok (.lushr, 1)) (kk : Lt G μ d (pc + 1) lo (.long (x.toUInt64 >>> (y.toInt64.toUInt64 &&& Int64.toUInt64 63)).toInt64 :: st) σ mc ms X) : Lt G μ d pc lo (.int y :: .long x :: st) σ mc ms X :=
  fun p l e R s m args below meth c hC A hA hY Q hX H locs cells slots ls hl hH h1 h2 => lv_lushr hC.1 hC.2.1 hd rfl (kk p l e R s m args below meth c hC A hA hY Q hX H locs cells slots ls hl hH h1 h2)
theorem lt_lshl {x : Int64} {y : Int32} (hd : decode μ.2.1 pc = .ok (.lshl, 1)) (kk : Lt G μ d (pc + 1) lo (.long (x <<< (y.toInt64 &&& 63)) :: st) σ mc ms X) : Lt G μ d pc lo (.int y :: .long x :: st) σ mc ms X :=
  fun p l e R s m args below meth c hC A hA hY Q hX H locs cells slots ls hl hH h1 h2 => lv_lshl hC.1 hC.2.1 hd rfl (kk p l e R s m args below meth c hC A hA hY Q hX H locs cells slots ls hl hH h1 h2)
theorem lt_lshr {x : Int64} {y : Int32} (hd : decode μ.2.1 pc = .ok (.lshr, 1)) (kk : Lt G μ d (pc + 1) lo (.long (x >>> (y.toInt64 &&& 63)) :: st) σ mc ms X) : Lt G μ d pc lo (.int y :: .long x :: st) σ mc ms X :=
  fun p l e R s m args below meth c hC A hA hY Q hX H locs cells slots ls hl hH h1 h2 => lv_lshr hC.1 hC.2.1 hd rfl (kk p l e R s m args below meth c hC A hA hY Q hX H locs cells slots ls hl hH h1 h2)
theorem lt_idiv {x y : Int32} (hd : decode μ.2.1 pc = .ok (.idiv, 1)) (hne : ¬ y = 0) (kk : Lt G μ d (pc + 1) lo (.int (x / y) :: st) σ mc ms X) : Lt G μ d pc lo (.int y :: .int x :: st) σ mc ms X :=
  fun p l e R s m args below meth c hC A hA hY Q hX H locs cells slots ls hl hH h1 h2 => lv_idiv hC.1 hC.2.1 hd hne (kk p l e R s m args below meth c hC A hA hY Q hX H locs cells slots ls hl hH h1 h2)
theorem lt_irem {x y : Int32} (hd : decode μ.2.1 pc = .ok (.irem, 1)) (hne : ¬ y = 0) (kk : Lt G μ d (pc + 1) lo (.int (x - x / y * y) :: st) σ mc ms X) : Lt G μ d pc lo (.int y :: .int x :: st) σ mc ms X :=
  fun p l e R s m args below meth c hC A hA hY Q hX H locs cells slots ls hl hH h1 h2 => lv_irem hC.1 hC.2.1 hd hne (kk p l e R s m args below meth c hC A hA hY Q hX H locs cells slots ls hl hH h1 h2)
theorem lt_i2l {x : Int32} (hd : decode μ.2.1 pc = .ok (.i2l, 1)) (kk : Lt G μ d (pc + 1) lo (.long x.toInt64 :: st) σ mc ms X) : Lt G μ d pc lo (.int x :: st) σ mc ms X :=
  fun p l e R s m args below meth c hC A hA hY Q hX H locs cells slots ls hl hH h1 h2 => lv_i2l hC.1 hC.2.1 hd rfl (kk p l e R s m args below meth c hC A hA hY Q hX H locs cells slots ls hl hH h1 h2)
theorem lt_l2i {x : Int64} (hd : decode μ.2.1 pc = .ok (.l2i, 1)) (kk : Lt G μ d (pc + 1) lo (.int x.toInt32 :: st) σ mc ms X) : Lt G μ d pc lo (.long x :: st) σ mc ms X :=
  fun p l e R s m args below meth c hC A hA hY Q hX H locs cells slots ls hl hH h1 h2 => lv_l2i hC.1 hC.2.1 hd rfl (kk p l e R s m args below meth c hC A hA hY Q hX H locs cells slots ls hl hH h1 h2)
theorem lt_i2b {x : Int32} (hd : decode μ.2.1 pc = .ok (.i2b, 1)) (kk : Lt G μ d (pc + 1) lo (.int x.toInt8.toInt32 :: st) σ mc ms X) : Lt G μ d pc lo (.int x :: st) σ mc ms X :=
  fun p l e R s m args below meth c hC A hA hY Q hX H locs cells slots ls hl hH h1 h2 => lv_i2b hC.1 hC.2.1 hd rfl (kk p l e R s m args below meth c hC A hA hY Q hX H locs cells slots ls hl hH h1 h2)
theorem lt_i2s {x : Int32} (hd : decode μ.2.1 pc = .ok (.i2s, 1)) (kk : Lt G μ d (pc + 1) lo (.int x.toInt16.toInt32 :: st) σ mc ms X) : Lt G μ d pc lo (.int x :: st) σ mc ms X :=
  fun p l e R s m args below meth c hC A hA hY Q hX H locs cells slots ls hl hH h1 h2 => lv_i2s hC.1 hC.2.1 hd rfl (kk p l e R s m args below meth c hC A hA hY Q hX H locs cells slots ls hl hH h1 h2)
theorem lt_i2c {x : Int32} (hd : decode μ.2.1 pc = .ok (.i2c, 1)) (kk : Lt G μ d (pc + 1) lo (.int (x.toUInt32 % 65536).toInt32 :: st) σ mc ms X) : Lt G μ d pc lo (.int x :: st) σ mc ms X :=
  fun p l e R s m args below meth c hC A hA hY Q hX H locs cells slots ls hl hH h1 h2 => lv_i2c hC.1 hC.2.1 hd rfl (kk p l e R s m args below meth c hC A hA hY Q hX H locs cells slots ls hl hH h1 h2)
theorem lt_lcmp {x y : Int64} (hd : decode μ.2.1 pc = .ok (.lcmp, 1)) (kk : Lt G μ d (pc + 1) lo (.int (lg_cmp x y) :: st) σ mc ms X) : Lt G μ d pc lo (.long y :: .long x :: st) σ mc ms X :=
  fun p l e R s m args below meth c hC A hA hY Q hX H locs cells slots ls hl hH h1 h2 => W.lcmp hC.1 hC.2.1 hd (kk p l e R s m args below meth c hC A hA hY Q hX H locs cells slots ls hl hH h1 h2)
theorem lt_dup {a : Value} (hd : decode μ.2.1 pc = .ok (.dup, 1)) (ha : a.category = 1) (kk : Lt G μ d (pc + 1) lo (a :: a :: st) σ mc ms X) : Lt G μ d pc lo (a :: st) σ mc ms X :=
  fun p l e R s m args below meth c hC A hA hY Q hX H locs cells slots ls hl hH h1 h2 => lv_dup hC.1 hC.2.1 hd ha (kk p l e R s m args below meth c hC A hA hY Q hX H locs cells slots ls hl hH h1 h2)
theorem lt_pop {a : Value} (hd : decode μ.2.1 pc = .ok (.pop, 1)) (ha : a.category = 1) (kk : Lt G μ d (pc + 1) lo (st) σ mc ms X) : Lt G μ d pc lo (a :: st) σ mc ms X :=
  fun p l e R s m args below meth c hC A hA hY Q hX H locs cells slots ls hl hH h1 h2 => lv_pop hC.1 hC.2.1 hd ha (kk p l e R s m args below meth c hC A hA hY Q hX H locs cells slots ls hl hH h1 h2)
theorem lt_dup_x1 {a b : Value} (hd : decode μ.2.1 pc = .ok (.dup_x1, 1)) (ha : a.category = 1) (hb : b.category = 1) (kk : Lt G μ d (pc + 1) lo (a :: b :: a :: st) σ mc ms X) : Lt G μ d pc lo (a :: b :: st) σ mc ms X :=
  fun p l e R s m args below meth c hC A hA hY Q hX H locs cells slots ls hl hH h1 h2 => lv_dup_x1 hC.1 hC.2.1 hd ha hb (kk p l e R s m args below meth c hC A hA hY Q hX H locs cells slots ls hl hH h1 h2)
theorem lt_dup_x2 {a b c2 : Value} (hd : decode μ.2.1 pc = .ok (.dup_x2, 1)) (ha : a.category = 1) (hb : b.category = 1) (hc : c2.category = 1) (kk : Lt G μ d (pc + 1) lo (a :: b :: c2 :: a :: st) σ mc ms X) : Lt G μ d pc lo (a :: b :: c2 :: st) σ mc ms X :=
  fun p l e R s m args below meth c hC A hA hY Q hX H locs cells slots ls hl hH h1 h2 => lv_dup_x2 hC.1 hC.2.1 hd ha hb hc (kk p l e R s m args below meth c hC A hA hY Q hX H locs cells slots ls hl hH h1 h2)
theorem lt_dup2_11 {a b : Value} (hd : decode μ.2.1 pc = .ok (.dup2, 1)) (ha : a.category = 1) (hb : b.category = 1) (kk : Lt G μ d (pc + 1) lo (a :: b :: a :: b :: st) σ mc ms X) : Lt G μ d pc lo (a :: b :: st) σ mc ms X :=
  fun p l e R s m args below meth c hC A hA hY Q hX H locs cells slots ls hl hH h1 h2 => lv_dup2_11 hC.1 hC.2.1 hd ha hb (kk p l e R s m args below meth c hC A hA hY Q hX H locs cells slots ls hl hH h1 h2)
theorem lt_dup2_2 {a : Value} (hd : decode μ.2.1 pc = .ok (.dup2, 1)) (ha : a.category = 2) (kk : Lt G μ d (pc + 1) lo (a :: a :: st) σ mc ms X) : Lt G μ d pc lo (a :: st) σ mc ms X :=
  fun p l e R s m args below meth c hC A hA hY Q hX H locs cells slots ls hl hH h1 h2 => lv_dup2_2 hC.1 hC.2.1 hd ha (kk p l e R s m args below meth c hC A hA hY Q hX H locs cells slots ls hl hH h1 h2)
theorem lt_if_eq {x : Int32} {off : Int} {tgt : Nat} (hd : decode μ.2.1 pc = .ok (.ifCond .eq off, 3)) (ht : (pc : Int) + off = (tgt : Int)) (kt : x = 0 → Lt G μ d tgt lo st σ mc ms X) (kf : ¬ x = 0 → Lt G μ d (pc + 3) lo st σ mc ms X) : Lt G μ d pc lo (.int x :: st) σ mc ms X :=
  fun p l e R s m args below meth c hC A hA hY Q hX H locs cells slots ls hl hH h1 h2 => lv_if_eq hC.1 hC.2.1 hd ht (fun h => kt h p l e R s m args below meth c hC A hA hY Q hX H locs cells slots ls hl hH h1 h2) (fun h => kf h p l e R s m args below meth c hC A hA hY Q hX H locs cells slots ls hl hH h1 h2)
theorem lt_icmp_eq {x y : Int32} {off : Int} {tgt : Nat} (hd : decode μ.2.1 pc = .ok (.if_icmp .eq off, 3)) (ht : (pc : Int) + off = (tgt : Int)) (kt : x = y → Lt G μ d tgt lo st σ mc ms X) (kf : ¬ x = y → Lt G μ d (pc + 3) lo st σ mc ms X) : Lt G μ d pc lo (.int y :: .int x :: st) σ mc ms X :=
  fun p l e R s m args below meth c hC A hA hY Q hX H locs cells slots ls hl hH h1 h2 => lv_icmp_eq hC.1 hC.2.1 hd ht (fun h => kt h p l e R s m args below meth c hC A hA hY Q hX H locs cells slots ls hl hH h1 h2) (fun h => kf h p l e R s m args below meth c hC A hA hY Q hX H locs cells slots ls hl hH h1 h2)
theorem lt_if_ne {x : Int32} {off : Int} {tgt : Nat} (hd : decode μ.2.1 pc = .ok (.ifCond .ne off, 3)) (ht : (pc : Int) + off = (tgt : Int)) (kt : ¬ x = 0 → Lt G μ d tgt lo st σ mc ms X) (kf : x = 0 → Lt G μ d (pc + 3) lo st σ mc ms X) : Lt G μ d pc lo (.int x :: st) σ mc ms X :=
  fun p l e R s m args below meth c hC A hA hY Q hX H locs cells slots ls hl hH h1 h2 => lv_if_ne hC.1 hC.2.1 hd ht (fun h => kt h p l e R s m args below meth c hC A hA hY Q hX H locs cells slots ls hl hH h1 h2) (fun h => kf h p l e R s m args below meth c hC A hA hY Q hX H locs cells slots ls hl hH h1 h2)
theorem lt_icmp_ne {x y : Int32} {off : Int} {tgt : Nat} (hd : decode μ.2.1 pc = .ok (.if_icmp .ne off, 3)) (ht : (pc : Int) + off = (tgt : Int)) (kt : ¬ x = y → Lt G μ d tgt lo st σ mc ms X) (kf : x = y → Lt G μ d (pc + 3) lo st σ mc ms X) : Lt G μ d pc lo (.int y :: .int x :: st) σ mc ms X :=
  fun p l e R s m args below meth c hC A hA hY Q hX H locs cells slots ls hl hH h1 h2 => lv_icmp_ne hC.1 hC.2.1 hd ht (fun h => kt h p l e R s m args below meth c hC A hA hY Q hX H locs cells slots ls hl hH h1 h2) (fun h => kf h p l e R s m args below meth c hC A hA hY Q hX H locs cells slots ls hl hH h1 h2)
theorem lt_if_lt {x : Int32} {off : Int} {tgt : Nat} (hd : decode μ.2.1 pc = .ok (.ifCond .lt off, 3)) (ht : (pc : Int) + off = (tgt : Int)) (kt : x < 0 → Lt G μ d tgt lo st σ mc ms X) (kf : ¬ x < 0 → Lt G μ d (pc + 3) lo st σ mc ms X) : Lt G μ d pc lo (.int x :: st) σ mc ms X :=
  fun p l e R s m args below meth c hC A hA hY Q hX H locs cells slots ls hl hH h1 h2 => lv_if_lt hC.1 hC.2.1 hd ht (fun h => kt h p l e R s m args below meth c hC A hA hY Q hX H locs cells slots ls hl hH h1 h2) (fun h => kf h p l e R s m args below meth c hC A hA hY Q hX H locs cells slots ls hl hH h1 h2)
theorem lt_icmp_lt {x y : Int32} {off : Int} {tgt : Nat} (hd : decode μ.2.1 pc = .ok (.if_icmp .lt off, 3)) (ht : (pc : Int) + off = (tgt : Int)) (kt : x < y → Lt G μ d tgt lo st σ mc ms X) (kf : ¬ x < y → Lt G μ d (pc + 3) lo st σ mc ms X) : Lt G μ d pc lo (.int y :: .int x :: st) σ mc ms X :=
  fun p l e R s m args below meth c hC A hA hY Q hX H locs cells slots ls hl hH h1 h2 => lv_icmp_lt hC.1 hC.2.1 hd ht (fun h => kt h p l e R s m args below meth c hC A hA hY Q hX H locs cells slots ls hl hH h1 h2) (fun h => kf h p l e R s m args below meth c hC A hA hY Q hX H locs cells slots ls hl hH h1 h2)
theorem lt_if_ge {x : Int32} {off : Int} {tgt : Nat} (hd : decode μ.2.1 pc = .ok (.ifCond .ge off, 3)) (ht : (pc : Int) + off = (tgt : Int)) (kt : 0 ≤ x → Lt G μ d tgt lo st σ mc ms X) (kf : ¬ 0 ≤ x → Lt G μ d (pc + 3) lo st σ mc ms X) : Lt G μ d pc lo (.int x :: st) σ mc ms X :=
  fun p l e R s m args below meth c hC A hA hY Q hX H locs cells slots ls hl hH h1 h2 => lv_if_ge hC.1 hC.2.1 hd ht (fun h => kt h p l e R s m args below meth c hC A hA hY Q hX H locs cells slots ls hl hH h1 h2) (fun h => kf h p l e R s m args below meth c hC A hA hY Q hX H locs cells slots ls hl hH h1 h2)
theorem lt_icmp_ge {x y : Int32} {off : Int} {tgt : Nat} (hd : decode μ.2.1 pc = .ok (.if_icmp .ge off, 3)) (ht : (pc : Int) + off = (tgt : Int)) (kt : y ≤ x → Lt G μ d tgt lo st σ mc ms X) (kf : ¬ y ≤ x → Lt G μ d (pc + 3) lo st σ mc ms X) : Lt G μ d pc lo (.int y :: .int x :: st) σ mc ms X :=
  fun p l e R s m args below meth c hC A hA hY Q hX H locs cells slots ls hl hH h1 h2 => lv_icmp_ge hC.1 hC.2.1 hd ht (fun h => kt h p l e R s m args below meth c hC A hA hY Q hX H locs cells slots ls hl hH h1 h2) (fun h => kf h p l e R s m args below meth c hC A hA hY Q hX H locs cells slots ls hl hH h1 h2)
theorem lt_if_gt {x : Int32} {off : Int} {tgt : Nat} (hd : decode μ.2.1 pc = .ok (.ifCond .gt off, 3)) (ht : (pc : Int) + off = (tgt : Int)) (kt : 0 < x → Lt G μ d tgt lo st σ mc ms X) (kf : ¬ 0 < x → Lt G μ d (pc + 3) lo st σ mc ms X) : Lt G μ d pc lo (.int x :: st) σ mc ms X :=
  fun p l e R s m args below meth c hC A hA hY Q hX H locs cells slots ls hl hH h1 h2 => lv_if_gt hC.1 hC.2.1 hd ht (fun h => kt h p l e R s m args below meth c hC A hA hY Q hX H locs cells slots ls hl hH h1 h2) (fun h => kf h p l e R s m args below meth c hC A hA hY Q hX H locs cells slots ls hl hH h1 h2)
theorem lt_icmp_gt {x y : Int32} {off : Int} {tgt : Nat} (hd : decode μ.2.1 pc = .ok (.if_icmp .gt off, 3)) (ht : (pc : Int) + off = (tgt : Int)) (kt : y < x → Lt G μ d tgt lo st σ mc ms X) (kf : ¬ y < x → Lt G μ d (pc + 3) lo st σ mc ms X) : Lt G μ d pc lo (.int y :: .int x :: st) σ mc ms X :=
  fun p l e R s m args below meth c hC A hA hY Q hX H locs cells slots ls hl hH h1 h2 => lv_icmp_gt hC.1 hC.2.1 hd ht (fun h => kt h p l e R s m args below meth c hC A hA hY Q hX H locs cells slots ls hl hH h1 h2) (fun h => kf h p l e R s m args below meth c hC A hA hY Q hX H locs cells slots ls hl hH h1 h2)
theorem lt_if_le {x : Int32} {off : Int} {tgt : Nat} (hd : decode μ.2.1 pc = .ok (.ifCond .le off, 3)) (ht : (pc : Int) + off = (tgt : Int)) (kt : x ≤ 0 → Lt G μ d tgt lo st σ mc ms X) (kf : ¬ x ≤ 0 → Lt G μ d (pc + 3) lo st σ mc ms X) : Lt G μ d pc lo (.int x :: st) σ mc ms X :=
  fun p l e R s m args below meth c hC A hA hY Q hX H locs cells slots ls hl hH h1 h2 => lv_if_le hC.1 hC.2.1 hd ht (fun h => kt h p l e R s m args below meth c hC A hA hY Q hX H locs cells slots ls hl hH h1 h2) (fun h => kf h p l e R s m args below meth c hC A hA hY Q hX H locs cells slots ls hl hH h1 h2)
theorem lt_icmp_le {x y : Int32} {off : Int} {tgt : Nat} (hd : decode μ.2.1 pc = .ok (.if_icmp .le off, 3)) (ht : (pc : Int) + off = (tgt : Int)) (kt : x ≤ y → Lt G μ d tgt lo st σ mc ms X) (kf : ¬ x ≤ y → Lt G μ d (pc + 3) lo st σ mc ms X) : Lt G μ d pc lo (.int y :: .int x :: st) σ mc ms X :=
  fun p l e R s m args below meth c hC A hA hY Q hX H locs cells slots ls hl hH h1 h2 => lv_icmp_le hC.1 hC.2.1 hd ht (fun h => kt h p l e R s m args below meth c hC A hA hY Q hX H locs cells slots ls hl hH h1 h2) (fun h => kf h p l e R s m args below meth c hC A hA hY Q hX H locs cells slots ls hl hH h1 h2)
theorem lt_acmp_eq {rx ry : Option Nat} {vx vy : Value} {off : Int} {tgt : Nat} (hd : decode μ.2.1 pc = .ok (.if_acmp .eq off, 3)) (ht : (pc : Int) + off = (tgt : Int)) (ex : vx = va_rf rx) (ey : vy = va_rf ry) (kt : rx = ry → Lt G μ d tgt lo st σ mc ms X) (kf : ¬ rx = ry → Lt G μ d (pc + 3) lo st σ mc ms X) : Lt G μ d pc lo (vy :: vx :: st) σ mc ms X := by
  subst ex; subst ey
  exact fun p l e R s m args below meth c hC A hA hY Q hX H locs cells slots ls hl hH h1 h2 => lv_acmp_eq hC.1 hC.2.1 hd ht (fun h => kt h p l e R s m args below meth c hC A hA hY Q hX H locs cells slots ls hl hH h1 h2) (fun h => kf h p l e R s m args below meth c hC A hA hY Q hX H locs cells slots ls hl hH h1 h2)
theorem lt_acmp_ne {rx ry : Option Nat} {vx vy : Value} {off : Int} {tgt : Nat} (hd : decode μ.2.1 pc = .ok (.if_acmp .ne off, 3)) (ht : (pc : Int) + off = (tgt : Int)) (ex : vx = va_rf rx) (ey : vy = va_rf ry) (kt : ¬ rx = ry → Lt G μ d tgt lo st σ mc ms X) (kf : rx = ry → Lt G μ d (pc + 3) lo st σ mc ms X) : Lt G μ d pc lo (vy :: vx :: st) σ mc ms X := by
  subst ex; subst ey
  exact fun p l e R s m args below meth c hC A hA hY Q hX H locs cells slots ls hl hH h1 h2 => lv_acmp_ne hC.1 hC.2.1 hd ht (fun h => kt h p l e R s m args below meth c hC A hA hY Q hX H locs cells slots ls hl hH h1 h2) (fun h => kf h p l e R s m args below meth c hC A hA hY Q hX H locs cells slots ls hl hH h1 h2)
theorem lt_goto {off : Int} {tgt : Nat} (hd : decode μ.2.1 pc = .ok (.goto off, 3)) (ht : (pc : Int) + off = (tgt : Int)) (kk : Lt G μ d tgt lo st σ mc ms X) : Lt G μ d pc lo st σ mc ms X :=
  fun p l e R s m args below meth c hC A hA hY Q hX H locs cells slots ls hl hH h1 h2 => lv_goto hC.1 hC.2.1 hd ht (kk p l e R s m args below meth c hC A hA hY Q hX H locs cells slots ls hl hH h1 h2)
theorem lt_ifnonnull {x : Nat} {off : Int} {tgt : Nat} (hd : decode μ.2.1 pc = .ok (.ifnonnull off, 3)) (ht : (pc : Int) + off = (tgt : Int)) (kk : Lt G μ d tgt lo st σ mc ms X) : Lt G μ d pc lo (.ref x :: st) σ mc ms X :=
  fun p l e R s m args below meth c hC A hA hY Q hX H locs cells slots ls hl hH h1 h2 => lv_ifnonnull hC.1 hC.2.1 hd ht (kk p l e R s m args below meth c hC A hA hY Q hX H locs cells slots ls hl hH h1 h2)
theorem lt_ifnull {x : Nat} {off : Int} (hd : decode μ.2.1 pc = .ok (.ifnull off, 3)) (kk : Lt G μ d (pc + 3) lo st σ mc ms X) : Lt G μ d pc lo (.ref x :: st) σ mc ms X :=
  fun p l e R s m args below meth c hC A hA hY Q hX H locs cells slots ls hl hH h1 h2 => lv_ifnull hC.1 hC.2.1 hd (kk p l e R s m args below meth c hC A hA hY Q hX H locs cells slots ls hl hH h1 h2)
theorem lt_ifnullN {off : Int} {tgt : Nat} (hd : decode μ.2.1 pc = .ok (.ifnull off, 3)) (ht : (pc : Int) + off = (tgt : Int)) (kk : Lt G μ d tgt lo st σ mc ms X) : Lt G μ d pc lo (.null :: st) σ mc ms X :=
  fun p l e R s m args below meth c hC A hA hY Q hX H locs cells slots ls hl hH h1 h2 => lv_ifnullN hC.1 hC.2.1 hd ht (kk p l e R s m args below meth c hC A hA hY Q hX H locs cells slots ls hl hH h1 h2)
theorem lt_ifnonnullN {off : Int} (hd : decode μ.2.1 pc = .ok (.ifnonnull off, 3)) (kk : Lt G μ d (pc + 3) lo st σ mc ms X) : Lt G μ d pc lo (.null :: st) σ mc ms X :=
  fun p l e R s m args below meth c hC A hA hY Q hX H locs cells slots ls hl hH h1 h2 => lv_ifnonnullN hC.1 hC.2.1 hd (kk p l e R s m args below meth c hC A hA hY Q hX H locs cells slots ls hl hH h1 h2)
theorem lt_lookup {dflt : Int} {ps : Array (Int × Int)} {len : Nat} {x : Int32} {off : Int} {tgt : Nat} (hd : decode μ.2.1 pc = .ok (.lookupswitch dflt ps, len)) (hp : (ps.toList.zip (ps.toList.drop 1)).all (fun (a, next) => a.1 < next.1) = true) (ho : Op.lookupswitch.offset ps.toList dflt x.toInt = off) (ht : (pc : Int) + off = (tgt : Int)) (kk : Lt G μ d tgt lo st σ mc ms X) : Lt G μ d pc lo (.int x :: st) σ mc ms X :=
  fun p l e R s m args below meth c hC A hA hY Q hX H locs cells slots ls hl hH h1 h2 => lv_lookup hC.1 hC.2.1 hd hp ho ht (kk p l e R s m args below meth c hC A hA hY Q hX H locs cells slots ls hl hH h1 h2)
theorem lt_tableOut {dflt tl th : Int} {offs : Array Int} {len : Nat} {x : Int32} {tgt : Nat} (hd : decode μ.2.1 pc = .ok (.tableswitch dflt tl th offs, len)) (h : x.toInt < tl ∨ th < x.toInt) (ht : (pc : Int) + dflt = (tgt : Int)) (kk : Lt G μ d tgt lo st σ mc ms X) : Lt G μ d pc lo (.int x :: st) σ mc ms X :=
  fun p l e R s m args below meth c hC A hA hY Q hX H locs cells slots ls hl hH h1 h2 => lv_tableOut hC.1 hC.2.1 hd h ht (kk p l e R s m args below meth c hC A hA hY Q hX H locs cells slots ls hl hH h1 h2)
theorem lt_tableIn {dflt tl th : Int} {offs : Array Int} {len : Nat} {x : Int32} {off : Int} {tgt : Nat} (hd : decode μ.2.1 pc = .ok (.tableswitch dflt tl th offs, len)) (g1 : ¬ x.toInt < tl) (g2 : ¬ th < x.toInt) (ho : offs[(x.toInt - tl).toNat]? = some off) (ht : (pc : Int) + off = (tgt : Int)) (kk : Lt G μ d tgt lo st σ mc ms X) : Lt G μ d pc lo (.int x :: st) σ mc ms X :=
  fun p l e R s m args below meth c hC A hA hY Q hX H locs cells slots ls hl hH h1 h2 => lv_tableIn hC.1 hC.2.1 hd g1 g2 ho ht (kk p l e R s m args below meth c hC A hA hY Q hX H locs cells slots ls hl hH h1 h2)
theorem lt_ldc2 {idx : Nat} {v : Int64} (hc : Cond.constantLong μ.1.cls idx v ∈ lt_T) (hd : decode μ.2.1 pc = .ok (.ldc2_w idx, 3)) (kk : Lt G μ d (pc + 3) lo (.long v :: st) σ mc ms X) : Lt G μ d pc lo st σ mc ms X :=
  fun p l e R s m args below meth c hC A hA hY Q hX H locs cells slots ls hl hH h1 h2 => lv_ldc2 hC.1 hC.2.1 hC.2.2.2.2.1 (hC.2.2.2.2.2.1 _ hc) hd (kk p l e R s m args below meth c hC A hA hY Q hX H locs cells slots ls hl hH h1 h2)
theorem lt_ldc {idx : Nat} {v : Int32} (hc : Cond.constant μ.1.cls idx v ∈ lt_T) (hd : decode μ.2.1 pc = .ok (.ldc idx, 2)) (kk : Lt G μ d (pc + 2) lo (.int v :: st) σ mc ms X) : Lt G μ d pc lo st σ mc ms X :=
  fun p l e R s m args below meth c hC A hA hY Q hX H locs cells slots ls hl hH h1 h2 => lv_ldc hC.1 hC.2.1 hC.2.2.2.2.1 (hC.2.2.2.2.2.1 _ hc) hd (kk p l e R s m args below meth c hC A hA hY Q hX H locs cells slots ls hl hH h1 h2)
end LT
end
section
/-! THE HEAP ROWS of the leads-to judgement -/
def lt_lkF (own : String) (idx : Nat) (t : String × String × String × Bool) : Prop := (Cond.fieldLink own idx t.1 t.2.1 t.2.2.1 ∈ lt_T) ∨ ∃ host : String, Cond.fieldLinkNest own idx t.1 t.2.1 t.2.2.1 host ∈ lt_N
theorem hv_at.kept {G : lt_G} {σ σ' : hv_S} {a : Nat} {x : Nat × Nat} {H H1 : Heap} (h : hv_at G σ a x H) (hq : H1[a]? = H[a]?) (hf : ∀ ty k, hv_fv ty σ' a k = hv_fv ty σ a k) : hv_at G σ' a x H1 := by
  unfold hv_at at h ⊢
  by_cases hx : x.1 < 1000
  · rw [if_pos hx] at h ⊢
    obtain ⟨r, hr, ho⟩ := h
    exact ⟨r, hr, (ho.kept hq).to (fun k _ => (hf _ k).symm)⟩
  · rw [if_neg hx] at h ⊢
    by_cases hx2 : x.1 < 2000
    · rw [if_pos hx2] at h ⊢
      rw [hq, h]
      exact congrArg (fun f => some (arrV (G.2.1 (x.1 - 1000)) x.2 f)) (funext fun j => (hf _ j).symm)
    · rw [if_neg hx2] at h ⊢
      obtain ⟨scr, h1, h2, h3, h4, h5, h6⟩ := h
      exact ⟨scr, hq.trans h1, h2, h3, h4, h5, fun j hj => (h6 j hj).trans (congrArg some (hf .int j).symm)⟩
theorem hv_arr {G : lt_G} {σ : hv_S} {a t n : Nat} {H : Heap} (ht : t < 1000) (h : hv_at G σ a (1000 + t, n) H) : H[a]? = some (arrV (G.2.1 t) n (fun j => hv_fv (lt_aty t) σ a j)) := by
  unfold hv_at at h
  rw [if_neg (by show ¬ 1000 + t < 1000; omega), if_pos (by show 1000 + t < 2000; omega)] at h
  have h : H[a]? = some (arrV (G.2.1 (1000 + t - 1000)) n (fun j => hv_fv (lt_aty (1000 + t - 1000)) σ a j)) := h
  rw [show 1000 + t - 1000 = t by omega] at h
  exact h
theorem hv_arr_of {G : lt_G} {σ : hv_S} {a t n : Nat} {H : Heap} (ht : t < 1000) (h : H[a]? = some (arrV (G.2.1 t) n (fun j => hv_fv (lt_aty t) σ a j))) : hv_at G σ a (1000 + t, n) H := by
  unfold hv_at
  rw [if_neg (by show ¬ 1000 + t < 1000; omega), if_pos (by show 1000 + t < 2000; omega)]
  show H[a]? = some (arrV (G.2.1 (1000 + t - 1000)) n (fun j => hv_fv (lt_aty (1000 + t - 1000)) σ a j))
  rw [show 1000 + t - 1000 = t by omega]
  exact h
theorem lt_small {t : Nat} (h : t ∈ lt_codes) : t < 1000 := by
  have : ∀ t ∈ lt_codes, t < 1000 := by decide
  exact this t h
theorem hv_at.lt {G : lt_G} {σ : hv_S} {a : Nat} {x : Nat × Nat} {H : Heap} (h : hv_at G σ a x H) : a < H.size := by
  unfold hv_at at h
  by_cases hx : x.1 < 1000
  · rw [if_pos hx] at h
    obtain ⟨r, hr, cell, h1, -⟩ := h
    exact (Array.getElem?_eq_some_iff.mp h1).1
  · rw [if_neg hx] at h
    by_cases hx2 : x.1 < 2000
    · rw [if_pos hx2] at h
      exact (Array.getElem?_eq_some_iff.mp h).1
    · rw [if_neg hx2] at h
      obtain ⟨scr, h1, -⟩ := h
      exact (Array.getElem?_eq_some_iff.mp h1).1
/-- σ' is σ but for the slot k of the cell a -/
def hv_upd (σ σ' : hv_S) (a k : Nat) : Prop := (hv_sh σ' = hv_sh σ ∧ hv_n σ' = hv_n σ) ∧ ∀ (ty : FieldType) (b j : Nat), (b ≠ a ∨ j ≠ k) → hv_fv ty σ' b j = hv_fv ty σ b j
theorem hv_u_ne {α : Type} {f : Nat → Nat → α} {a k b j : Nat} {v : α} (h : b ≠ a ∨ j ≠ k) : hv_u f a k v b j = f b j := if_neg (fun q => h.elim (fun h => h q.2) (fun h => h q.1))
theorem hv_u_at {α : Type} {f : Nat → Nat → α} {a k : Nat} {v : α} : hv_u f a k v a k = v := if_pos ⟨rfl, rfl⟩
theorem hv_upd_I (σ : hv_S) (a k : Nat) (v : Int32) : hv_upd σ (hv_setI σ a k v) a k := ⟨⟨rfl, rfl⟩, fun ty b j h => by cases ty <;> simp [hv_fv, hv_setI, hv_I, hv_J, hv_R, hv_u_ne h]⟩
theorem hv_upd_J (σ : hv_S) (a k : Nat) (v : Int64) : hv_upd σ (hv_setJ σ a k v) a k := ⟨⟨rfl, rfl⟩, fun ty b j h => by cases ty <;> simp [hv_fv, hv_setJ, hv_I, hv_J, hv_R, hv_u_ne h]⟩
theorem hv_upd_R (σ : hv_S) (a k : Nat) (v : Option Nat) : hv_upd σ (hv_setR σ a k v) a k := ⟨⟨rfl, rfl⟩, fun ty b j h => by cases ty <;> simp [hv_fv, hv_setR, hv_I, hv_J, hv_R, hv_u_ne h]⟩
theorem lt_arr {G : lt_G} {s : State} (hK : lt_K G s) {t : Nat} (ht : t ∈ lt_codes) : ArrOfT s (G.2.1 t) (lt_aty t) ∧ va_RA s (G.2.1 t) (lt_aty t) := by
  have h : (G.2.1 t, lt_aty t) ∈ lt_tys G := List.mem_map.mpr ⟨t, ht, rfl⟩
  obtain ⟨k, hk⟩ := List.getElem?_of_mem h
  exact hK.1.2 k _ hk
/-- behind a write of one slot of an array -/
theorem lt_H.arr {G : lt_G} {σ σ' : hv_S} {s : State} {H H1 : Heap} {locs : List Loc} {A : Nat → Prop} {a t n k : Nat} {v : Value} (h : lt_H G σ s H locs A) (ht : t < 1000) (hsh : hv_sh σ a = some (1000 + t, n)) (hu : hv_upd σ σ' a k) (hv : hv_fv (lt_aty t) σ' a k = v)
    (e : H1[a]? = some ((arrV (G.2.1 t) n (fun j => hv_fv (lt_aty t) σ a j)).setSlot k v)) (z : H1.size = H.size) (oq : ∀ q : Nat, q ≠ a → H1[q]? = H[q]?) : lt_H G σ' s H1 (locs ++ [⟨a, k⟩]) A := by
  obtain ⟨g1, g2, g3⟩ := h
  refine ⟨⟨by rw [z, hu.1.2]; exact g1.1, fun b x hb => ?_⟩, fun b x hb h2 => g2 b x (by rw [← hu.1.1]; exact hb) h2, g3.put z oq (g2 a _ hsh (by omega))⟩
  rw [hu.1.1] at hb
  by_cases hba : b = a
  · subst hba
    cases hsh.symm.trans hb
    refine hv_arr_of ht ?_
    rw [e, arrV_store]
    refine congrArg (fun f => some (arrV (G.2.1 t) n f)) (funext fun j => ?_)
    by_cases hj : j = k
    · subst hj
      rw [hv]
      exact if_pos rfl
    · rw [hu.2 _ b j (Or.inr hj)]
      exact if_neg hj
  · exact (g1.2 b x hb).kept (oq b hba) (fun ty j => hu.2 ty b j (Or.inl hba))
/-- behind a write of a field -/
theorem lt_H.obj {G : lt_G} {σ σ' : hv_S} {s : State} {H H1 : Heap} {locs : List Loc} {A : Nat → Prop} {a ci n k sl : Nat} {v : Value} {cell : Cell} {C : String} {T : u_T} {N : Nat} (h : lt_H G σ s H locs A) (hsh : hv_sh σ a = some (ci, n)) (hci : ci < 1000) (hcl : lt_cl[ci]? = some (C, T, N)) (hk : k < N) (hu : hv_upd σ σ' a k) (hv : hv_fv (lt_ty ci k) σ' a k = v)
    (hap : ∀ x y, x < N → y < N → x ≠ y → (G.1.2 ci) x ≠ (G.1.2 ci) y) (q2 : cell.cls = G.1.1 ci) (q3 : cell.vm = .none) (q4 : ∀ k, k < N → cell.slots[G.1.2 ci k]? = some (hv_fv (lt_ty ci k) σ a k))
    (e : H1[a]? = some (cell.setSlot (G.1.2 ci k) v)) (z : H1.size = H.size) (oq : ∀ q : Nat, q ≠ a → H1[q]? = H[q]?) : lt_H G σ' s H1 (locs ++ [⟨a, sl⟩]) A := by
  obtain ⟨g1, g2, g3⟩ := h
  refine ⟨⟨by rw [z, hu.1.2]; exact g1.1, fun b x hb => ?_⟩, fun b x hb h2 => g2 b x (by rw [← hu.1.1]; exact hb) h2, g3.put z oq (g2 a _ hsh (by omega))⟩
  rw [hu.1.1] at hb
  by_cases hba : b = a
  · subst hba
    cases hsh.symm.trans hb
    unfold hv_at
    rw [if_pos hci]
    refine ⟨_, hcl, t_OB.to (V := updV (fun k => hv_fv (lt_ty ci k) σ b k) k v) ⟨_, e, q2, q3, t_set q4 hap hk v⟩ (fun j _ => ?_)⟩
    show (if j = k then v else hv_fv (lt_ty ci j) σ b j) = hv_fv (lt_ty ci j) σ' b j
    by_cases hj : j = k
    · subst hj
      rw [if_pos rfl, hv]
    · rw [if_neg hj, hu.2 _ b j (Or.inr hj)]
  · exact (g1.2 b x hb).kept (oq b hba) (fun ty j => hu.2 ty b j (Or.inl hba))
section LTH
variable {G : lt_G} {μ : lt_M} {d pc : Nat} {lo lo' : List (Nat × Value)} {st : List Value} {σ : hv_S} {mc ms : Nat} {X : Nat → List (Nat × Value) → List Value → hv_S → Nat → Nat → Prop}
set_option maxHeartbeats 1000000 in
theorem lt_get {a ci n k idx : Nat} {C : String} {T : u_T} {N : Nat} {v : Value} (hd : decode μ.2.1 pc = .ok (.getfield idx, 3)) (hsh : hv_sh σ a = some (ci, n)) (hci : ci < 1000) (hcl : lt_cl[ci]? = some (C, T, N)) (hk : k < N) (hlk : lt_lkF μ.1.cls idx (T k)) (hv : hv_fv (lt_ty ci k) σ a k = v) (kk : Lt G μ d (pc + 3) lo (v :: st) σ mc ms X) : Lt G μ d pc lo (.ref a :: st) σ mc ms X := by
  intro p l e R s m args below meth c hC A hA hY Q hX H locs cells slots ls hl hH h1 h2
  have kk' := kk p l e R s m args below meth c hC A hA hY Q hX H locs cells slots ls hl hH h1 h2
  obtain ⟨hx, hb, -, -, hown, hts, hnw, hK, -⟩ := hC
  have hP := hH.1.2 a _ hsh
  unfold hv_at at hP
  rw [if_pos hci] at hP
  obtain ⟨r, hr, cell, q1, q2, q3, q4⟩ := hP
  cases hr.symm.trans hcl
  obtain ⟨hS, hfc, kC, hkC, hkind⟩ := hK.1.1 ci _ hcl
  obtain ⟨cf, kf, fi, f, hi, hsl⟩ := hS k hk
  have hst := (u_facts hfc hkC (u_lays hts (lt_in hcl) hk) hi).1
  have hval : cell.slots[f.slot]? = some v := by rw [hsl, q4 k hk]; exact congrArg some hv
  rcases hlk with h | ⟨host, h⟩
  · exact W.getf hx hb hown (hts _ h) hi hst q1 (by rw [q3]; exact fun h => by cases h) hval rfl rfl hd kk'
  · exact va_Wgetf hx hb hown (va_Nw.use rfl (hnw _ h)) hi hst q1 (by rw [q3]; exact fun h => by cases h) hval rfl rfl hd kk'
set_option maxHeartbeats 1000000 in
theorem lt_put {a ci n k idx : Nat} {C : String} {T : u_T} {N : Nat} {v : Value} {σ' : hv_S} (hd : decode μ.2.1 pc = .ok (.putfield idx, 3)) (hsh : hv_sh σ a = some (ci, n)) (hci : ci < 1000) (hcl : lt_cl[ci]? = some (C, T, N)) (hk : k < N) (hlk : lt_lkF μ.1.cls idx (T k)) (hfin : (T k).2.2.2 = false) (hn : narrow (lt_ty ci k) v = v) (hfit : fits (lt_ty ci k) v = true) (hu : hv_upd σ σ' a k) (hv : hv_fv (lt_ty ci k) σ' a k = v) (kk : Lt G μ d (pc + 3) lo st σ' mc ms X) : Lt G μ d pc lo (v :: .ref a :: st) σ mc ms X := by
  intro p l e R s m args below meth c hC A hA hY Q hX H locs cells slots ls hl hH h1 h2
  have kk' := fun H' locs' hH' => kk p l e R s m args below meth c hC A hA hY Q hX H' locs' cells slots ls hl hH' h1 h2
  obtain ⟨hx, hb, -, -, hown, hts, hnw, hK, -⟩ := hC
  have hP := hH.1.2 a _ hsh
  unfold hv_at at hP
  rw [if_pos hci] at hP
  obtain ⟨r, hr, cell, q1, q2, q3, q4⟩ := hP
  cases hr.symm.trans hcl
  have hap := va_apart (own := μ.1.cls) hts (lt_in hcl) (lt_ty ci) (lt_tyok hcl) (lt_nm hcl) hK.1 hcl
  obtain ⟨hS, hfc, kC, hkC, hkind⟩ := hK.1.1 ci _ hcl
  obtain ⟨cf, kf, fi, f, hi, hsl⟩ := hS k hk
  have hst := (u_facts hfc hkC (u_lays hts (lt_in hcl) hk) hi).1
  have hlay := hts _ (lt_in hcl _ (u_in_lay hk))
  unfold u_lay at hlay
  rw [if_neg (by rw [hfin]; decide)] at hlay
  have h6 := u_store hfc hkC hkind hlay hi (lt_tyok hcl k hk) hn hfit
  rcases hlk with h | ⟨host, h⟩
  · refine W.putK hx hb (f := f) ⟨hown, hts _ h, ⟨_, _, _, hi⟩, hst⟩ (by rw [q2]; exact h6) q1 q3 (by rw [hsl]; exact k2_hasslot (q4 k hk)) rfl rfl hd fun H' e1 e2 e3 => ?_
    rw [hsl] at e1
    exact kk' H' _ (hH.obj hsh hci hcl hk hu hv hap q2 q3 q4 e1 e2 e3)
  · refine va_WputK hx hb (f := f) hown (va_Nw.use rfl (hnw _ h)) hi hst (by rw [q2]; exact h6) q1 q3 (by rw [hsl]; exact k2_hasslot (q4 k hk)) rfl rfl hd fun H' e1 e2 e3 => ?_
    rw [hsl] at e1
    exact kk' H' _ (hH.obj hsh hci hcl hk hu hv hap q2 q3 q4 e1 e2 e3)
set_option maxHeartbeats 1000000 in
/-- a final field, in its own constructor -/
theorem lt_putF {a ci n k idx : Nat} {C : String} {T : u_T} {N : Nat} {v : Value} {σ' : hv_S} (hd : decode μ.2.1 pc = .ok (.putfield idx, 3)) (hsh : hv_sh σ a = some (ci, n)) (hci : ci < 1000) (hcl : lt_cl[ci]? = some (C, T, N)) (hk : k < N) (hlk : Cond.fieldLink μ.1.cls idx (T k).1 (T k).2.1 (T k).2.2.1 ∈ lt_T) (hfin : (T k).2.2.2 = true) (hin2 : μ.1.name = "<init>") (hdecl : (T k).1 = μ.1.cls) (hn : narrow (lt_ty ci k) v = v) (hfit : fits (lt_ty ci k) v = true) (hu : hv_upd σ σ' a k) (hv : hv_fv (lt_ty ci k) σ' a k = v) (kk : Lt G μ d (pc + 3) lo st σ' mc ms X) : Lt G μ d pc lo (v :: .ref a :: st) σ mc ms X := by
  intro p l e R s m args below meth c hC A hA hY Q hX H locs cells slots ls hl hH h1 h2
  have kk' := fun H' locs' hH' => kk p l e R s m args below meth c hC A hA hY Q hX H' locs' cells slots ls hl hH' h1 h2
  obtain ⟨hx, hb, -, -, hown, hts, hnw, hK, -, hname, -⟩ := hC
  have hP := hH.1.2 a _ hsh
  unfold hv_at at hP
  rw [if_pos hci] at hP
  obtain ⟨r, hr, cell, q1, q2, q3, q4⟩ := hP
  cases hr.symm.trans hcl
  have hap := va_apart (own := μ.1.cls) hts (lt_in hcl) (lt_ty ci) (lt_tyok hcl) (lt_nm hcl) hK.1 hcl
  obtain ⟨hS, hfc, kC, hkC, hkind⟩ := hK.1.1 ci _ hcl
  obtain ⟨cf, kf, fi, f, hi, hsl⟩ := hS k hk
  have hst := (u_facts hfc hkC (u_lays hts (lt_in hcl) hk) hi).1
  have hlay := hts _ (lt_in hcl _ (u_in_lay hk))
  unfold u_lay at hlay
  rw [if_pos hfin] at hlay
  have hcf : m.cls = cf := by
    obtain ⟨_, _, c', _, _, _, -, -, hf', -, -, -, hown2, -⟩ := Cond.laysFinal_spec hlay
    have e1 : c' = cf := by have := hi.symm.trans hf'; simp at this; exact this.1.symm
    rw [hdecl] at hown2
    rw [← e1]; exact Option.some.inj (hown.symm.trans hown2)
  have h6 := u_fits hfc hkC hkind (Or.inr hlay) hi (lt_tyok hcl k hk) hn hfit
  refine W.putFinK hx hb hown (hts _ hlk) hi hst hcf (hname.trans hin2) (by rw [q2]; exact h6) q1 q3 (by rw [hsl]; exact k2_hasslot (q4 k hk)) rfl rfl hd fun H' e1 e2 e3 => ?_
  rw [hsl] at e1
  exact kk' H' _ (hH.obj hsh hci hcl hk hu hv hap q2 q3 q4 e1 e2 e3)
theorem lt_iald {a n : Nat} {i : Int32} (hd : decode μ.2.1 pc = .ok (.iaload, 1)) (hsh : hv_sh σ a = some (1000, n)) (hin : vp_in i n) (kk : Lt G μ d (pc + 1) lo (.int (hv_I σ a i.toNatClampNeg) :: st) σ mc ms X) : Lt G μ d pc lo (.int i :: .ref a :: st) σ mc ms X := by
  intro p l e R s m args below meth c hC A hA hY Q hX H locs cells slots ls hl hH h1 h2
  have kk' := kk p l e R s m args below meth c hC A hA hY Q hX H locs cells slots ls hl hH h1 h2
  obtain ⟨hx, hb, -, -, hown, hts, hnw, hK, -⟩ := hC
  have hlt : i.toNatClampNeg < n := Nat.not_le.mp fun q => hin (Or.inr q)
  have hP : H[a]? = some (arrV (G.2.1 0) n (fun j => .int (hv_I σ a j))) := hv_arr (t := 0) (by decide) (hH.1.2 a _ hsh)
  exact W.iald (v := .int (hv_I σ a i.toNatClampNeg)) hx hb hP ((lt_arr hK (t := 0) (by decide)).1 n _) (fun q => by cases q) (by rw [arrV_size]; exact hin) (by rw [arrV_read _ _ hlt]) rfl rfl hd kk'
theorem lt_lald {a n : Nat} {i : Int32} (hd : decode μ.2.1 pc = .ok (.laload, 1)) (hsh : hv_sh σ a = some (1001, n)) (hin : vp_in i n) (kk : Lt G μ d (pc + 1) lo (.long (hv_J σ a i.toNatClampNeg) :: st) σ mc ms X) : Lt G μ d pc lo (.int i :: .ref a :: st) σ mc ms X := by
  intro p l e R s m args below meth c hC A hA hY Q hX H locs cells slots ls hl hH h1 h2
  have kk' := kk p l e R s m args below meth c hC A hA hY Q hX H locs cells slots ls hl hH h1 h2
  obtain ⟨hx, hb, -, -, hown, hts, hnw, hK, -⟩ := hC
  have hlt : i.toNatClampNeg < n := Nat.not_le.mp fun q => hin (Or.inr q)
  have hP : H[a]? = some (arrV (G.2.1 1) n (fun j => .long (hv_J σ a j))) := hv_arr (t := 1) (by decide) (hH.1.2 a _ hsh)
  exact W.lald (v := .long (hv_J σ a i.toNatClampNeg)) hx hb hP ((lt_arr hK (t := 1) (by decide)).1 n _) (fun q => by cases q) (by rw [arrV_size]; exact hin) (by rw [arrV_read _ _ hlt]) rfl rfl hd kk'
theorem lt_cald {a n : Nat} {i : Int32} (hd : decode μ.2.1 pc = .ok (.caload, 1)) (hsh : hv_sh σ a = some (1002, n)) (hin : vp_in i n) (kk : Lt G μ d (pc + 1) lo (.int (hv_I σ a i.toNatClampNeg) :: st) σ mc ms X) : Lt G μ d pc lo (.int i :: .ref a :: st) σ mc ms X := by
  intro p l e R s m args below meth c hC A hA hY Q hX H locs cells slots ls hl hH h1 h2
  have kk' := kk p l e R s m args below meth c hC A hA hY Q hX H locs cells slots ls hl hH h1 h2
  obtain ⟨hx, hb, -, -, hown, hts, hnw, hK, -⟩ := hC
  have hlt : i.toNatClampNeg < n := Nat.not_le.mp fun q => hin (Or.inr q)
  have hP : H[a]? = some (arrV (G.2.1 2) n (fun j => .int (hv_I σ a j))) := hv_arr (t := 2) (by decide) (hH.1.2 a _ hsh)
  exact W.cald (v := .int (hv_I σ a i.toNatClampNeg)) hx hb hP ((lt_arr hK (t := 2) (by decide)).1 n _) (fun q => by cases q) (by rw [arrV_size]; exact hin) (by rw [arrV_read _ _ hlt]) rfl rfl hd kk'
theorem lt_zald {a n : Nat} {i : Int32} (hd : decode μ.2.1 pc = .ok (.baload, 1)) (hsh : hv_sh σ a = some (1003, n)) (hin : vp_in i n) (kk : Lt G μ d (pc + 1) lo (.int (hv_I σ a i.toNatClampNeg) :: st) σ mc ms X) : Lt G μ d pc lo (.int i :: .ref a :: st) σ mc ms X := by
  intro p l e R s m args below meth c hC A hA hY Q hX H locs cells slots ls hl hH h1 h2
  have kk' := kk p l e R s m args below meth c hC A hA hY Q hX H locs cells slots ls hl hH h1 h2
  obtain ⟨hx, hb, -, -, hown, hts, hnw, hK, -⟩ := hC
  have hlt : i.toNatClampNeg < n := Nat.not_le.mp fun q => hin (Or.inr q)
  have hP : H[a]? = some (arrV (G.2.1 3) n (fun j => .int (hv_I σ a j))) := hv_arr (t := 3) (by decide) (hH.1.2 a _ hsh)
  exact W.zald (v := .int (hv_I σ a i.toNatClampNeg)) hx hb hP ((lt_arr hK (t := 3) (by decide)).1 n _) (fun q => by cases q) (by rw [arrV_size]; exact hin) (by rw [arrV_read _ _ hlt]) rfl rfl hd kk'
theorem lt_aald {a n t : Nat} {C : String} {i : Int32} {v : Value} (hd : decode μ.2.1 pc = .ok (.aaload, 1)) (hsh : hv_sh σ a = some (1000 + t, n)) (hT : lt_aty t = .object C) (ht : t ∈ lt_codes) (hin : vp_in i n) (hv : va_rf (hv_R σ a i.toNatClampNeg) = v) (kk : Lt G μ d (pc + 1) lo (v :: st) σ mc ms X) : Lt G μ d pc lo (.int i :: .ref a :: st) σ mc ms X := by
  intro p l e R s m args below meth c hC A hA hY Q hX H locs cells slots ls hl hH h1 h2
  have kk' := kk p l e R s m args below meth c hC A hA hY Q hX H locs cells slots ls hl hH h1 h2
  obtain ⟨hx, hb, -, -, hown, hts, hnw, hK, -⟩ := hC
  have hlt : i.toNatClampNeg < n := Nat.not_le.mp fun q => hin (Or.inr q)
  have hP := hv_arr (lt_small ht) (hH.1.2 a _ hsh)
  rw [hT] at hP
  subst hv
  have hK1 := (lt_arr hK ht).1
  rw [hT] at hK1
  exact W.aald (v := va_rf (hv_R σ a i.toNatClampNeg)) (ty := .object C) hx hb hP (hK1 n _) rfl (fun q => by cases q) (by rw [arrV_size]; exact hin) (by rw [arrV_read _ _ hlt]; rfl) rfl rfl hd kk'
theorem lt_iast {a n : Nat} {i : Int32} {x : Int32} (hd : decode μ.2.1 pc = .ok (.iastore, 1)) (hsh : hv_sh σ a = some (1000, n)) (hin : vp_in i n) (kk : Lt G μ d (pc + 1) lo st (hv_setI σ a i.toNatClampNeg x) mc ms X) : Lt G μ d pc lo (.int x :: .int i :: .ref a :: st) σ mc ms X := by
  intro p l e R s m args below meth c hC A hA hY Q hX H locs cells slots ls hl hH h1 h2
  have kk' := fun H' locs' hH' => kk p l e R s m args below meth c hC A hA hY Q hX H' locs' cells slots ls hl hH' h1 h2
  obtain ⟨hx, hb, -, -, hown, hts, hnw, hK, -⟩ := hC
  have hP : H[a]? = some (arrV (G.2.1 0) n (fun j => .int (hv_I σ a j))) := hv_arr (t := 0) (by decide) (hH.1.2 a _ hsh)
  refine W.iast hx hb hP ((lt_arr hK (t := 0) (by decide)).1 n _) (fun q => by cases q) (by rw [arrV_size]; exact hin) rfl rfl hd fun H' e1 e2 e3 => ?_
  · exact kk' H' _ (lt_H.arr (t := 0) hH (by decide) hsh (hv_upd_I σ a i.toNatClampNeg x) (by show Value.int (hv_u _ _ _ _ _ _) = _; rw [hv_u_at]) e1 e2 e3)
theorem lt_last {a n : Nat} {i : Int32} {x : Int64} (hd : decode μ.2.1 pc = .ok (.lastore, 1)) (hsh : hv_sh σ a = some (1001, n)) (hin : vp_in i n) (kk : Lt G μ d (pc + 1) lo st (hv_setJ σ a i.toNatClampNeg x) mc ms X) : Lt G μ d pc lo (.long x :: .int i :: .ref a :: st) σ mc ms X := by
  intro p l e R s m args below meth c hC A hA hY Q hX H locs cells slots ls hl hH h1 h2
  have kk' := fun H' locs' hH' => kk p l e R s m args below meth c hC A hA hY Q hX H' locs' cells slots ls hl hH' h1 h2
  obtain ⟨hx, hb, -, -, hown, hts, hnw, hK, -⟩ := hC
  have hP : H[a]? = some (arrV (G.2.1 1) n (fun j => .long (hv_J σ a j))) := hv_arr (t := 1) (by decide) (hH.1.2 a _ hsh)
  refine W.last hx hb hP ((lt_arr hK (t := 1) (by decide)).1 n _) (fun q => by cases q) (by rw [arrV_size]; exact hin) rfl rfl hd fun H' e1 e2 e3 => ?_
  · exact kk' H' _ (lt_H.arr (t := 1) hH (by decide) hsh (hv_upd_J σ a i.toNatClampNeg x) (by show Value.long (hv_u _ _ _ _ _ _) = _; rw [hv_u_at]) e1 e2 e3)
theorem lt_cast {a n : Nat} {i : Int32} {x y : Int32} (hd : decode μ.2.1 pc = .ok (.castore, 1)) (hsh : hv_sh σ a = some (1002, n)) (hin : vp_in i n) (hy : narrow .char (.int x) = .int y) (kk : Lt G μ d (pc + 1) lo st (hv_setI σ a i.toNatClampNeg y) mc ms X) : Lt G μ d pc lo (.int x :: .int i :: .ref a :: st) σ mc ms X := by
  intro p l e R s m args below meth c hC A hA hY Q hX H locs cells slots ls hl hH h1 h2
  have kk' := fun H' locs' hH' => kk p l e R s m args below meth c hC A hA hY Q hX H' locs' cells slots ls hl hH' h1 h2
  obtain ⟨hx, hb, -, -, hown, hts, hnw, hK, -⟩ := hC
  have hP : H[a]? = some (arrV (G.2.1 2) n (fun j => .int (hv_I σ a j))) := hv_arr (t := 2) (by decide) (hH.1.2 a _ hsh)
  refine W.cast hx hb hP ((lt_arr hK (t := 2) (by decide)).1 n _) (fun q => by cases q) (by rw [arrV_size]; exact hin) rfl rfl hd fun H' e1 e2 e3 => ?_
  · rw [hy] at e1
    exact kk' H' _ (lt_H.arr (t := 2) hH (by decide) hsh (hv_upd_I σ a i.toNatClampNeg y) (by show Value.int (hv_u _ _ _ _ _ _) = _; rw [hv_u_at]) e1 e2 e3)
theorem lt_zast {a n : Nat} {i : Int32} {x y : Int32} (hd : decode μ.2.1 pc = .ok (.bastore, 1)) (hsh : hv_sh σ a = some (1003, n)) (hin : vp_in i n) (hy : narrow .boolean (.int x) = .int y) (kk : Lt G μ d (pc + 1) lo st (hv_setI σ a i.toNatClampNeg y) mc ms X) : Lt G μ d pc lo (.int x :: .int i :: .ref a :: st) σ mc ms X := by
  intro p l e R s m args below meth c hC A hA hY Q hX H locs cells slots ls hl hH h1 h2
  have kk' := fun H' locs' hH' => kk p l e R s m args below meth c hC A hA hY Q hX H' locs' cells slots ls hl hH' h1 h2
  obtain ⟨hx, hb, -, -, hown, hts, hnw, hK, -⟩ := hC
  have hP : H[a]? = some (arrV (G.2.1 3) n (fun j => .int (hv_I σ a j))) := hv_arr (t := 3) (by decide) (hH.1.2 a _ hsh)
  refine W.zast hx hb hP ((lt_arr hK (t := 3) (by decide)).1 n _) (fun q => by cases q) (by rw [arrV_size]; exact hin) rfl rfl hd fun H' e1 e2 e3 => ?_
  · rw [hy] at e1
    exact kk' H' _ (lt_H.arr (t := 3) hH (by decide) hsh (hv_upd_I σ a i.toNatClampNeg y) (by show Value.int (hv_u _ _ _ _ _ _) = _; rw [hv_u_at]) e1 e2 e3)
theorem lt_alen {a n t : Nat} (hd : decode μ.2.1 pc = .ok (.arraylength, 1)) (hsh : hv_sh σ a = some (1000 + t, n)) (ht : t ∈ lt_codes) (kk : Lt G μ d (pc + 1) lo (.int (nI n) :: st) σ mc ms X) : Lt G μ d pc lo (.ref a :: st) σ mc ms X := by
  intro p l e R s m args below meth c hC A hA hY Q hX H locs cells slots ls hl hH h1 h2
  have kk' := kk p l e R s m args below meth c hC A hA hY Q hX H locs cells slots ls hl hH h1 h2
  obtain ⟨hx, hb, -, -, hown, hts, hnw, hK, -⟩ := hC
  have hP := hv_arr (lt_small ht) (hH.1.2 a _ hsh)
  exact W.alen hx hb hP ((lt_arr hK ht).1 n _) (by rw [arrV_size]; rfl) rfl rfl hd kk'
theorem lt_ro {G : lt_G} {σ : hv_S} {s : State} {H : Heap} {a n : Nat} (hK : lt_K G s) (h : hv_at G σ a (2000, n) H) : ∃ scr : Cell, H[a]? = some scr ∧ s.isArrayOf scr .int ∧ scr.vm ≠ .unknown ∧ scr.slots.size = n ∧ ∀ j : Nat, j < n → scr.slots[j]? = some (.int (hv_I σ a j)) := by
  unfold hv_at at h
  rw [if_neg (by show ¬ 2000 < 1000; decide), if_neg (by show ¬ 2000 < 2000; decide)] at h
  obtain ⟨scr, h1, h2, h3, h4, h5, h6⟩ := h
  obtain ⟨-, kA, f2, f3⟩ := hK.2 0 (fun _ => .null)
  refine ⟨scr, h1, ⟨h3, kA, ?_, f3⟩, h4, h5, h6⟩
  rw [h2]; exact f2
theorem lt_roald {a n : Nat} {i : Int32} (hd : decode μ.2.1 pc = .ok (.iaload, 1)) (hsh : hv_sh σ a = some (2000, n)) (hin : vp_in i n) (kk : Lt G μ d (pc + 1) lo (.int (hv_I σ a i.toNatClampNeg) :: st) σ mc ms X) : Lt G μ d pc lo (.int i :: .ref a :: st) σ mc ms X := by
  intro p l e R s m args below meth c hC A hA hY Q hX H locs cells slots ls hl hH h1 h2
  have kk' := kk p l e R s m args below meth c hC A hA hY Q hX H locs cells slots ls hl hH h1 h2
  obtain ⟨hx, hb, -, -, hown, hts, hnw, hK, -⟩ := hC
  have hlt : i.toNatClampNeg < n := Nat.not_le.mp fun q => hin (Or.inr q)
  obtain ⟨scr, g1, g2, g3, g4, g5⟩ := lt_ro hK (hH.1.2 a _ hsh)
  exact W.iald (v := .int (hv_I σ a i.toNatClampNeg)) hx hb g1 g2 g3 (by rw [g4]; exact hin) (g5 _ hlt) rfl rfl hd kk'
theorem lt_rolen {a n : Nat} (hd : decode μ.2.1 pc = .ok (.arraylength, 1)) (hsh : hv_sh σ a = some (2000, n)) (kk : Lt G μ d (pc + 1) lo (.int (nI n) :: st) σ mc ms X) : Lt G μ d pc lo (.ref a :: st) σ mc ms X := by
  intro p l e R s m args below meth c hC A hA hY Q hX H locs cells slots ls hl hH h1 h2
  have kk' := kk p l e R s m args below meth c hC A hA hY Q hX H locs cells slots ls hl hH h1 h2
  obtain ⟨hx, hb, -, -, hown, hts, hnw, hK, -⟩ := hC
  obtain ⟨scr, g1, g2, g3, g4, g5⟩ := lt_ro hK (hH.1.2 a _ hsh)
  exact W.alen hx hb g1 g2 (by rw [g4]; rfl) rfl rfl hd kk'
/-- a new cell beside the old ones -/
theorem lt_H.add {G : lt_G} {σ : hv_S} {s : State} {H H1 : Heap} {locs : List Loc} {A : Nat → Prop} {x : Nat × Nat} (h : lt_H G σ s H locs A) (hA : ∀ q : Nat, s.heap.size ≤ q → A q) (hn : hv_at G (hv_new σ x) (hv_n σ) x H1) (z : H1.size = H.size + 1) (o : ∀ q : Nat, q < H.size → H1[q]? = H[q]?) : lt_H G (hv_new σ x) s H1 locs A := by
  obtain ⟨g1, g2, g3⟩ := h
  refine ⟨⟨by rw [z, g1.1]; rfl, fun b y hb => ?_⟩, fun b y hb h9 => ?_, ⟨Nat.le_trans g3.1 (by omega), fun q h1 h2 => (o q (Nat.lt_of_lt_of_le h1 g3.1)).trans (g3.2.1 q h1 h2), g3.2.2⟩⟩
  · by_cases hbq : b = hv_n σ
    · subst hbq
      have : hv_sh (hv_new σ x) (hv_n σ) = some x := if_pos rfl
      cases this.symm.trans hb
      exact hn
    · have h0 : hv_sh (hv_new σ x) b = hv_sh σ b := if_neg hbq
      rw [h0] at hb
      refine (g1.2 b y hb).kept (o b (g1.2 b y hb).lt) (fun ty k => ?_)
      cases ty <;> simp [hv_fv, hv_new, hv_I, hv_J, hv_R, hbq]
  · by_cases hbq : b = hv_n σ
    · subst hbq
      exact hA _ (by rw [← g1.1]; exact g3.1)
    · have h0 : hv_sh (hv_new σ x) b = hv_sh σ b := if_neg hbq
      rw [h0] at hb
      exact g2 b y hb h9
theorem hv_new_fv (σ : hv_S) (x : Nat × Nat) (ty : FieldType) (k : Nat) : hv_fv ty (hv_new σ x) (hv_n σ) k = hv_fv ty hv_zero 0 0 := by
  cases ty <;> simp [hv_fv, hv_new, hv_zero, hv_I, hv_J, hv_R]
set_option maxHeartbeats 1000000 in
theorem lt_new {ci idx : Nat} {C : String} {T : u_T} {N : Nat} (hd : decode μ.2.1 pc = .ok (.new idx, 3)) (hci : ci < 1000) (hcl : lt_cl[ci]? = some (C, T, N)) (hl1 : Cond.classLink μ.1.cls idx C ∈ lt_T) (hl2 : Cond.instantiable C N ∈ lt_T) (hl3 : Cond.initialized C ∈ lt_T)
    (hdef : ∀ j, j < N → defaultValue (lt_ty ci j) = hv_fv (lt_ty ci j) hv_zero 0 0) (hf : hv_sh σ (hv_n σ) = none → Lt G μ d (pc + 3) lo (.ref (hv_n σ) :: st) (hv_new σ (ci, 0)) mc ms X) : Lt G μ d pc lo st σ (mc + 1) (ms + N) X := by
  intro p l e R s m args below meth c hC A hA hY Q hX H locs cells slots ls hl hH h1 h2
  have hfresh : hv_sh σ (hv_n σ) = none := by
    cases hq : hv_sh σ (hv_n σ) with
    | none => rfl
    | some y => exact absurd (hH.1.2 _ y hq).lt (by rw [hH.1.1]; exact Nat.lt_irrefl _)
  have kk' := fun H' hH' => hf hfresh p l e R s m args below meth c hC A hA hY Q hX H' locs (cells + 1) (slots + N) ls hl hH' (by omega) (by omega)
  obtain ⟨hx, hb, -, -, hown, hts, hnw, hK, -⟩ := hC
  have hKn := hK.1.1 ci _ hcl
  refine W.newcK hx hb hown (hts _ hl1) (hts _ hl2) (hts _ hl3) rfl hd (by omega) (by omega) hKn.2.1 hH.1.1 fun H1 kC hkC e1 z1 o1 => ?_
  refine kk' H1 (hH.add hA ?_ (by rw [hH.1.1]; exact z1) (fun q hq => o1 q (by rw [← hH.1.1]; exact hq)))
  unfold hv_at
  rw [if_pos hci]
  refine ⟨_, hcl, (u_born (lt_ty ci) hts (lt_in hcl) hKn hkC e1 (lt_tyok hcl)).to (fun j hj => ?_)⟩
  rw [hdef j hj, hv_new_fv]
set_option maxHeartbeats 1000000 in
theorem lt_newarray {t : Nat} {atype : ArrayType} {n : Int32} {N : Nat} (hd : decode μ.2.1 pc = .ok (.newarray atype, 2)) (hw : Cond.arrayClass (newarray.typeOf atype) ∈ lt_T) (ht : t ∈ lt_codes) (hty : lt_aty t = newarray.typeOf atype) (hn : ¬ n < 0) (hN : n.toNatClampNeg = N) (hbytes : N * componentBytes (newarray.typeOf atype) ≤ 536870912)
    (hdef : defaultValue (lt_aty t) = hv_fv (lt_aty t) hv_zero 0 0) (hf : hv_sh σ (hv_n σ) = none → Lt G μ d (pc + 2) lo (.ref (hv_n σ) :: st) (hv_new σ (1000 + t, N)) mc ms X) : Lt G μ d pc lo (.int n :: st) σ (mc + 1) (ms + N) X := by
  intro p l e R s m args below meth c hC A hA hY Q hX H locs cells slots ls hl hH h1 h2
  have hfresh : hv_sh σ (hv_n σ) = none := by
    cases hq : hv_sh σ (hv_n σ) with
    | none => rfl
    | some y => exact absurd (hH.1.2 _ y hq).lt (by rw [hH.1.1]; exact Nat.lt_irrefl _)
  have kk' := fun H' hH' => hf hfresh p l e R s m args below meth c hC A hA hY Q hX H' locs (cells + 1) (slots + N) ls hl hH' (by omega) (by omega)
  obtain ⟨hx, hb, -, -, hown, hts, hnw, hK, -⟩ := hC
  refine va_newaK hx hb (hts _ hw) rfl hd rfl hn hN hbytes (by omega) (by omega) hH.1.1 fun H1 cA e1 z1 o1 hAr hNm => ?_
  have hcA : G.2.1 t = cA := by
    have h9 := (lt_arr hK ht).2
    rw [hty] at h9
    have h8 : s.vm.findClass ("[" ++ (newarray.typeOf atype).toString) = some (G.2.1 t) := by
      cases atype <;> exact h9
    exact Option.some.inj (h8.symm.trans hNm)
  refine kk' H1 (hH.add hA ?_ (by rw [hH.1.1]; exact z1) (fun q hq => o1 q (by rw [← hH.1.1]; exact hq)))
  refine hv_arr_of (lt_small ht) ?_
  rw [e1, hcA]
  refine congrArg (fun f => some (arrV cA N f)) (funext fun j => ?_)
  rw [hv_new_fv, ← hty, hdef]
set_option maxHeartbeats 1000000 in
/-- an array of references -/
theorem lt_anew {t idx : Nat} {C : String} {n : Int32} {N : Nat} (hd : decode μ.2.1 pc = .ok (.anewarray idx, 3)) (hcl : Cond.classLink μ.1.cls idx C ∈ lt_T) (ht : t ∈ lt_codes) (hty : lt_aty t = .object C) (hw : Cond.arrayOver (.object C) ∈ lt_N) (hn : ¬ n < 0) (hN : n.toNatClampNeg = N) (hbytes : N * 4 ≤ 536870912)
    (hf : hv_sh σ (hv_n σ) = none → Lt G μ d (pc + 3) lo (.ref (hv_n σ) :: st) (hv_new σ (1000 + t, N)) mc ms X) : Lt G μ d pc lo (.int n :: st) σ (mc + 1) (ms + N) X := by
  intro p l e R s m args below meth c hC A hA hY Q hX H locs cells slots ls hl hH h1 h2
  have hfresh : hv_sh σ (hv_n σ) = none := by
    cases hq : hv_sh σ (hv_n σ) with
    | none => rfl
    | some y => exact absurd (hH.1.2 _ y hq).lt (by rw [hH.1.1]; exact Nat.lt_irrefl _)
  have kk' := fun H' hH' => hf hfresh p l e R s m args below meth c hC A hA hY Q hX H' locs (cells + 1) (slots + N) ls hl hH' (by omega) (by omega)
  obtain ⟨hx, hb, -, -, hown, hts, hnw, hK, -⟩ := hC
  subst hN
  refine W.anew hx hb hown (hts _ hcl) (va_AO.use (hnw _ hw)) rfl hd rfl hn hbytes (by omega) (by omega) fun cA kA comp f1 f2 f3 f4 => ?_
  have hcA : G.2.1 t = cA := by
    have h9 := (lt_arr hK ht).2
    rw [hty] at h9
    obtain ⟨_, _, -, -, -, h8⟩ := h9
    exact Option.some.inj (h8.symm.trans f1)
  have hsz := hH.1.1
  generalize hH1 : H.push ({ cls := cA, slots := Array.replicate n.toNatClampNeg .null, vm := .none } : Cell) = H1
  have z1 : H1.size = H.size + 1 := by rw [← hH1, Array.size_push]
  have e1 : H1[H.size]? = some (arrV cA n.toNatClampNeg (fun _ => .null)) := by rw [← hH1, Array.getElem?_push_size, ← arrV_new]
  have o1 : ∀ q : Nat, q < H.size → H1[q]? = H[q]? := fun q hq => by rw [← hH1, Array.getElem?_push, if_neg (Nat.ne_of_lt hq)]
  rw [hsz]
  refine kk' H1 (hH.add hA ?_ z1 o1)
  refine hv_arr_of (lt_small ht) ?_
  rw [← hsz, e1, hcA]
  refine congrArg (fun f => some (arrV cA n.toNatClampNeg f)) (funext fun j => ?_)
  rw [hsz, hv_new_fv, hty]
  rfl
set_option maxHeartbeats 1000000 in
/-- a reference into an array of references -/
theorem lt_aast {a v n t ci n2 : Nat} {C : String} {T : u_T} {N : Nat} {i : Int32} (hd : decode μ.2.1 pc = .ok (.aastore, 1)) (hsh : hv_sh σ a = some (1000 + t, n)) (ht : t ∈ lt_codes) (hty : lt_aty t = .object C) (hv : hv_sh σ v = some (ci, n2)) (hci : ci < 1000) (hcl : lt_cl[ci]? = some (C, T, N)) (hin : vp_in i n) (kk : Lt G μ d (pc + 1) lo st (hv_setR σ a i.toNatClampNeg (some v)) mc ms X) : Lt G μ d pc lo (.ref v :: .int i :: .ref a :: st) σ mc ms X := by
  intro p l e R s m args below meth c hC A hA hY Q hX H locs cells slots ls hl hH h1 h2
  have kk' := fun H' locs' hH' => kk p l e R s m args below meth c hC A hA hY Q hX H' locs' cells slots ls hl hH' h1 h2
  obtain ⟨hx, hb, -, -, hown, hts, hnw, hK, -⟩ := hC
  have hlt : i.toNatClampNeg < n := Nat.not_le.mp fun q => hin (Or.inr q)
  have h0 : ¬ i < 0 := fun q => hin (Or.inl q)
  have hV := hH.1.2 v _ hv
  unfold hv_at at hV
  rw [if_pos hci] at hV
  obtain ⟨r', hr', cellV, g1, g2, g3, -⟩ := hV
  have hP := hv_arr (lt_small ht) (hH.1.2 a _ hsh)
  have hcls := (hK.1.1 ci _ hcl).2
  have hRA := (lt_arr hK ht).2
  rw [hty] at hRA
  obtain ⟨kA, comp, k1, k2, k3, -⟩ := hRA
  have hcomp : comp = G.1.1 ci := Option.some.inj (k3.symm.trans hcls.1)
  subst hcomp
  obtain ⟨kC, hkC, -⟩ := hcls.2
  refine W.aast hx hb hP (fun q h => by cases h) (fun h => by cases h) k1 k2 rfl hkC ⟨h0, by rw [arrV_size]; exact hlt⟩ g1 (fun q h => by rw [g3] at h; cases h) (by rw [g2]; exact hkC) (by rw [g2]; exact va_assign hcls) rfl rfl hd fun H' e1 e2 e3 => ?_
  exact kk' H' _ (lt_H.arr (t := t) hH (lt_small ht) hsh (hv_upd_R σ a i.toNatClampNeg (some v)) (by rw [hty]; show va_rf (hv_u _ _ _ _ _ _) = _; rw [hv_u_at]; rfl) e1 e2 e3)
end LTH
end
section
/-! CONTRACTS AND CALLS: Ct says of a method what Lt says of a point; the rows of the five kinds of call -/
def lt_ws (μ : lt_M) : List Cond := Cond.code μ.1 μ.2.1 μ.2.2.1 μ.2.2.2 :: lt_T
def lt_rm (d mc ms : Nat) : Room := { frames := d, cells := mc, slots := ms, locals := 64 * d }
def lt_A (σ : hv_S) : Nat → Prop := fun q => (∃ x : Nat × Nat, hv_sh σ q = some x ∧ x.1 < 2000) ∨ hv_n σ ≤ q
def lt_Pc (G : lt_G) (as : List Value) (σ : hv_S) : Array Value → State → Prop := va_Pc as (fun U => hv_H G σ U.heap ∧ lt_K G U ∧ (∀ w ∈ lt_N, va_Nw w U) ∧ lt_Ok G ∧ G.2.2 U (lt_A σ))
def lt_Qc (G : lt_G) (σ : hv_S) (Qr : Option Value → hv_S → Prop) : Array Value → State → Outcome → State → Prop := fun _ s0 oc t =>
  (∃ (r : Option Value) (σ' : hv_S), oc = .returned r ∧ Qr r σ' ∧ hv_H G σ' t.heap ∧ ∀ (a : Nat) (x : Nat × Nat), hv_sh σ' a = some x → x.1 < 2000 → lt_A σ a) ∧ va_F (lt_A σ) s0 t
/-- the contract: from the view σ with the arguments as, within depth d, mc new cells of ms slots, the method returns r with the view σ', and Qr r σ' -/
def Ct (G : lt_G) (μ : lt_M) (d mc ms : Nat) (as : List Value) (σ : hv_S) (Qr : Option Value → hv_S → Prop) : Prop :=
  ∀ (l : Launch), Met l μ.1 (lt_ws μ) (lt_rm d mc ms) (lt_Pc G as σ) (lt_Qc G σ Qr) mc ms (lt_A σ)
/-- the points where a method returns -/
def lt_end (μ : lt_M) (Qr : Option Value → hv_S → Prop) : Nat → List (Nat × Value) → List Value → hv_S → Nat → Nat → Prop := fun pc _ st σ _ _ =>
  (decode μ.2.1 pc = .ok (.return_, 1) ∧ μ.2.2.2 = none ∧ st = [] ∧ Qr none σ) ∨
  (∃ (v : Int32) (ty : FieldType), decode μ.2.1 pc = .ok (.ireturn, 1) ∧ μ.2.2.2 = some ty ∧ narrow ty (.int v) = .int v ∧ st = [.int v] ∧ Qr (some (.int v)) σ) ∨
  (∃ v : Int64, decode μ.2.1 pc = .ok (.lreturn, 1) ∧ μ.2.2.2 = some .long ∧ st = [.long v] ∧ Qr (some (.long v)) σ) ∨
  (∃ (r : Option Nat) (rt : FieldType), decode μ.2.1 pc = .ok (.areturn, 1) ∧ μ.2.2.2 = some rt ∧ ((∃ n, rt = .object n) ∨ ∃ t, rt = .array t) ∧ st = [va_rf r] ∧ Qr (some (va_rf r)) σ)
theorem lt_Nmove {w : Cond} (hw : lt_isN w = true) {s U : State} (hW : s.WarmedH U.vm) (h : va_Nw w s) : va_Nw w U := by
  cases w <;> first | exact va_Nw.warmF hW h | exact va_Nw.warmM hW h | skip
  case arrayOver ty => cases ty <;> first | exact va_AO.moved hW.alike h | (simp [lt_isN] at hw)
  all_goals (simp [lt_isN] at hw)
theorem lt_Nsame {w : Cond} (hw : lt_isN w = true) {s U : State} (hv : s.vm = U.vm) (h : va_Nw w s) : va_Nw w U := by
  have hA : s.vm.Alike U.vm := by rw [hv]; exact Vm.Alike.refl _
  cases w <;> first | (exact va_Nw.same rfl hv h) | skip
  all_goals first | (simp [lt_isN] at hw; done) | skip
  case arrayOver ty => cases ty <;> first | exact va_AO.moved hA h | (simp [lt_isN] at hw)
theorem lt_K.moved {G : lt_G} {u U : State} (hvm : u.vm.Alike U.vm) (h : lt_K G u) : lt_K G U := ⟨va_K.moved hvm h.1, arrOfT_moved hvm h.2⟩
theorem lt_blind (G : lt_G) (as : List Value) (σ : hv_S) : FrameBlind (lt_Pc G as σ) := by
  intro a U g mk h
  obtain ⟨h0, h2, h3, h4, h5, h6⟩ := h
  exact ⟨h0, h2, lt_K.moved (u := U) (U := U.calling g mk a) (Vm.Alike.refl U.vm) h3, fun w hw => lt_Nsame (s := U) (lt_N_ok w hw) rfl (h4 w hw), h5, h5 U (U.calling g mk a) _ _ h6 (Vm.Alike.refl U.vm) (fun _ _ h => h) (Nat.le_refl _) (fun _ _ _ => rfl)⟩
theorem lt_good {μ : lt_M} (h : Cond.code μ.1 μ.2.1 μ.2.2.1 μ.2.2.2 ∈ lt_T) : GoodIn lt_T (lt_ws μ) := by
  intro w hw
  have hm : w ∈ lt_T := by
    rcases List.mem_cons.mp hw with e | hw
    · rw [e]; exact h
    · exact hw
  exact ⟨hm, good_of_word (lt_T_good w hm)⟩
set_option maxHeartbeats 2000000 in
theorem Ct.of {G : lt_G} {μ : lt_M} {d mc ms : Nat} {as : List Value} {σ : hv_S} {Qr : Option Value → hv_S → Prop} (hy : plainName μ.1.cls = true) (hlen : (lg_sl as).length ≤ μ.2.2.1) (h : Lt G μ d 0 (lv_args 0 as) [] σ mc ms (lt_end μ Qr)) : Ct G μ d mc ms as σ Qr := by
  intro l
  refine Met.ofW (cc := μ.2.1) (maxL := μ.2.2.1) (ret := μ.2.2.2) hy rfl ?_
  intro p e s m args below meth c s₁ B hml hv
  obtain ⟨rfl, hP, hK, hN, hOk, hY⟩ := hv
  have hts := atoms_spec (ws := lt_ws μ) B.pre
  have hlocks := B.notSynchronized
  have hx := B.exec
  have hb := B.bytes
  have hr := B.returns
  have hC : lt_C G μ d p (headSpec (lt_ws μ) (lt_rm d mc ms)).room s m as.toArray meth c := ⟨B.exec, B.bytes, B.returns, hml, findClass_of_methodNamed B.named, fun w hw => hts w (List.mem_cons_of_mem _ hw), hN, hK, B.notSynchronized, (name_of_methodNamed B.named B.method).1, Nat.le_refl _, Nat.le_refl _, hOk⟩
  have hl := lv_entry as (n := μ.2.2.1) hlen
  rw [lg_entry_eq]
  refine h p l e _ s m _ below meth c hC (lt_A σ) (fun q hq => Or.inr (by rw [← hP.1]; exact hq)) hY _ ?_ s.heap [] 0 0 _ hl ⟨hP, fun a x hx h2 => Or.inl ⟨x, hx, h2⟩, va_S.rf⟩ (by show 0 + mc ≤ mc; omega) (by show 0 + ms ≤ ms; omega)
  intro pc' lo' st' σ' mc' ms' H' locs' cells' slots' ls' hX hl' hH' g1 g2
  have g1 : cells' + mc' ≤ mc := g1
  have g2 : slots' + ms' ≤ ms := g2
  refine W.widen (k := mc) (n := ms) (by omega) (by omega) ?_
  rcases hX with ⟨hd, h1, rfl, hq⟩ | ⟨v, ty, hd, h1, hn, rfl, hq⟩ | ⟨v, hd, h1, rfl, hq⟩ | ⟨v, rt, hd, h1, hrt, rfl, hq⟩
  · exact W.vret hx hb (hr.trans h1) (fun t ht hW => ⟨⟨_, σ', rfl, hq, by rw [ht]; exact hH'.1, hH'.2.1⟩, hH'.2.2.F ht⟩) hH'.2.2.2.2 hd
  · exact W.zret hx hb (hr.trans h1) hn (fun t ht hW => ⟨⟨_, σ', rfl, hq, by rw [ht]; exact hH'.1, hH'.2.1⟩, hH'.2.2.F ht⟩) hH'.2.2.2.2 hd
  · exact W.lret hx hb (hr.trans h1) (fun t ht hW => ⟨⟨_, σ', rfl, hq, by rw [ht]; exact hH'.1, hH'.2.1⟩, hH'.2.2.F ht⟩) hH'.2.2.2.2 hd
  · exact W.aret hx hb (hr.trans h1) hrt (by cases v with | none => exact Or.inl rfl | some a => exact Or.inr ⟨a, rfl⟩) (fun t ht hW => ⟨⟨_, σ', rfl, hq, by rw [ht]; exact hH'.1, hH'.2.1⟩, hH'.2.2.F ht⟩) hH'.2.2.2.2 hd
theorem Ct.mono {G : lt_G} {μ : lt_M} {d mc ms : Nat} {as : List Value} {σ : hv_S} {Qr Qr' : Option Value → hv_S → Prop} (h : Ct G μ d mc ms as σ Qr) (k : ∀ r σ', Qr r σ' → Qr' r σ') : Ct G μ d mc ms as σ Qr' := by
  intro l p e ha hc hk s m args below hf happ hpre htr
  obtain ⟨n, o, h1, h2, h3, ⟨⟨⟨r, σ', q1, q2, q3⟩, q4⟩, q5⟩⟩   := h l p e ha hc hk s m args below hf happ hpre htr
  exact ⟨n, o, h1, h2, h3, ⟨⟨⟨r, σ', q1, k r σ' q2, q3⟩, q4⟩, q5⟩⟩
def lt_lkM (own : String) (idx : Nat) (y : MethodName) : Prop := (Cond.methodLink own idx y ∈ lt_T) ∨ ∃ host : String, Cond.methodLinkNest own idx y host ∈ lt_N
/-- what the tables say of a method that is called with n arguments -/
def lt_M0 (μ : lt_M) (n : Nat) : Prop := Cond.code μ.1 μ.2.1 μ.2.2.1 μ.2.2.2 ∈ lt_T ∧ Cond.initialized μ.1.cls ∈ lt_T ∧ (μ.1.cls ≠ "java/lang/invoke/MethodHandle" ∧ μ.1.cls ≠ "java/lang/invoke/VarHandle" ∧ (parseMethodDescriptor μ.1.desc).map (fun d => d.parameters.length) = some n) ∧ μ.2.2.1 ≤ 45
section LTC
variable {p : Program} {l : Launch} {e : Env} {R : Room} {s : State} {m : MethodId} {args : Array Value} {below : List Frame} {meth : Method} {c : Code} {H : Heap} {locs : List Loc} {cells slots : Nat} {Q : State → Prop}
/-- behind a call -/
theorem lt_ran {G : lt_G} {σ : hv_S} {Qr : Option Value → hv_S → Prop} {pc mc' ms' : Nat} {ls : Array Slot} {st0 rest : List Value} {a : Array Value} {A : Nat → Prop} (hA : ∀ q : Nat, s.heap.size ≤ q → A q) (hH : lt_H G σ s H locs A)
    (hr : va_Run p l e R s m args below meth c H locs cells slots mc' ms' (F0 m pc ls st0) rest (lt_Qc G σ Qr a) (lt_A σ))
    (kk : ∀ (r : Option Value) (σ' : hv_S) (H' : Heap) (locs' : List Loc), Qr r σ' → lt_H G σ' s H' locs' A → W p l e R s m args below meth c H' locs' (cells + mc') (slots + ms') Q (F0 m (pc + 3) ls (r.toList ++ rest))) : W p l e R s m args below meth c H locs cells slots Q (F0 m pc ls st0) := by
  intro T hT X
  obtain ⟨v, st₀, t, T', L, h0, X', hL, e1, e2, ⟨⟨r, σ', hv, hq, hH', hdom⟩, hz, hk⟩, st⟩ := hr T hT X
  cases hv
  rw [h0] at hz hk
  have hAA : ∀ q, lt_A σ q → A q := by
    intro q hq
    rcases hq with ⟨x, hx, h2⟩ | hq
    · exact hH.2.1 q x hx h2
    · exact hA q (Nat.le_trans hH.2.2.1 (by rw [hH.1.1]; exact hq))
  have hS := hH.2.2
  obtain ⟨t2, a1, b1⟩ := kk v σ' T'.heap (locs ++ L) hq ⟨by rw [e1]; exact hH', fun b x hx h2 => hAA b (hdom b x hx h2),
    ⟨Nat.le_trans hS.1 (by rw [e1]; exact hz), fun q h1 h2 => by rw [e1, hk q (Nat.lt_of_lt_of_le h1 hS.1) (fun z => h2 (hAA q z))]; exact hS.2.1 q h1 h2, fun q hq => by
      rcases List.mem_append.mp hq with h | h
      · exact hS.2.2 q h
      · exact hAA _ (hL q h)⟩⟩ T' rfl X'
  exact ⟨t2, st t2 a1, b1⟩
theorem lt_pre {G : lt_G} {as : List Value} {σ : hv_S} {A : Nat → Prop} (hH : lt_H G σ s H locs A) (hK : lt_K G s) (hN : ∀ w ∈ lt_N, va_Nw w s) (hOk : lt_Ok G) (hY : G.2.2 s A) : ∀ U : State, U.heap = H → s.WarmedH U.vm → lt_Pc G as σ as.toArray U :=
  fun U hU hW => ⟨rfl, by rw [hU]; exact hH.1, lt_K.moved hW.alike hK, fun w hw => lt_Nmove (lt_N_ok w hw) hW (hN w hw), hOk, hOk s U A (lt_A σ) hY hW.alike (fun q hq hA => hA.elim (fun h => by obtain ⟨x, hx, h2⟩ := h; exact hH.2.1 q x hx h2) (fun h => absurd (Nat.lt_of_lt_of_le hq (Nat.le_trans hH.2.2.1 (by rw [hH.1.1]; exact h))) (Nat.lt_irrefl _))) (by rw [hU]; exact hH.2.2.1) (fun q h1 h2 => by rw [hU]; exact hH.2.2.2.1 q h1 h2)⟩
end LTC
section LTD
variable {G : lt_G} {μ μ' : lt_M} {d d' pc : Nat} {lo lo' : List (Nat × Value)} {st0 rest as : List Value} {σ : hv_S} {mc ms mc' ms' : Nat} {X : Nat → List (Nat × Value) → List Value → hv_S → Nat → Nat → Prop} {Qr : Option Value → hv_S → Prop}
set_option maxHeartbeats 2000000 in
theorem lt_callV {b ci n idx : Nat} {C : String} {T : u_T} {N : Nat} (hd : decode μ.2.1 pc = .ok (.invokevirtual idx, 3)) (hct : Ct G μ' d' mc' ms' (.ref b :: as) σ Qr) (hdd : d' + 1 ≤ d) (hst : st0 = as.reverse ++ .ref b :: rest) (hM : lt_M0 μ' as.length) (hlk : lt_lkM μ.1.cls idx μ'.1) (hin : Cond.instanceMethod μ'.1 ∈ lt_T) (hse : Cond.selects C μ'.1 μ'.1 ∈ lt_T)
    (hsh : hv_sh σ b = some (ci, n)) (hci : ci < 1000) (hcl : lt_cl[ci]? = some (C, T, N)) (hcat : (rest.map fun v => v.category).sum ≤ 8)
    (kk : ∀ (r : Option Value) (σ' : hv_S), Qr r σ' → Lt G μ d (pc + 3) lo (r.toList ++ rest) σ' mc ms X) : Lt G μ d pc lo st0 σ (mc + mc') (ms + ms') X := by
  intro p l e R s m args below meth c hC A hA hY Q hX H locs cells slots ls hl hH h1 h2
  have kk' := fun r σ' hq H' locs' hH' => kk r σ' hq p l e R s m args below meth c hC A hA hY Q hX H' locs' (cells + mc') (slots + ms') ls hl hH' (by omega) (by omega)
  obtain ⟨hx, hb, -, hml, hown, hts, hnw, hK, -, -, hfr, hlo, hOk⟩ := hC
  obtain ⟨hcode, hini, hnm, hnL⟩ := hM
  have hP := hH.1.2 b _ hsh
  unfold hv_at at hP
  rw [if_pos hci] at hP
  obtain ⟨r, hr, cell, q1, q2, q3, q4⟩ := hP
  have hrecv : ∃ cellB : Cell, H[b]? = some cellB ∧ cellB.vm.isStatics = false ∧ s.vm.findClass C = some cellB.cls := ⟨cell, q1, by rw [q3]; rfl, by rw [q2]; exact (hK.1.1 ci _ hcl).2.1⟩
  have hG := lt_good hcode
  refine lt_ran (a := (Value.ref b :: as).toArray) hA hH ?_ (fun r σ' H' locs' hq hH' => kk' r σ' hq H' locs' hH')
  rcases hlk with h | ⟨host, h⟩
  · exact va_runV (As := as) (rest := rest) (n := as.length) ⟨hx, hb, hml, hown, hts⟩ (hct l) ⟨callB_of as.length hts hG rfl rfl rfl (hts _ hini) (hts _ h) hnm ⟨by show d' + 1 ≤ R.frames; omega, by show 8 + (μ'.2.2.1 + 11) + 64 * d' ≤ R.locals; omega⟩, hts _ hin, hts _ hse⟩ ⟨lt_blind G _ σ, hrecv, lt_pre hH hK hnw hOk hY⟩ rfl rfl hl.1 hst (lv_room hcat) hd ⟨by omega, by omega⟩
  · exact va_runVN (As := as) (rest := rest) (n := as.length) ⟨hx, hb, hml, hown, hts⟩ (hct l) ⟨va_cnB as.length hts hG rfl rfl rfl (hnw _ h) (hts _ hini) hnm ⟨by show d' + 1 ≤ R.frames; omega, by show 8 + (μ'.2.2.1 + 11) + 64 * d' ≤ R.locals; omega⟩, hts _ hin, hts _ hse⟩ ⟨lt_blind G _ σ, hrecv, lt_pre hH hK hnw hOk hY⟩ rfl rfl hl.1 hst (lv_room hcat) hd ⟨by omega, by omega⟩
set_option maxHeartbeats 2000000 in
theorem lt_callS {idx : Nat} (hd : decode μ.2.1 pc = .ok (.invokestatic idx, 3)) (hct : Ct G μ' d' mc' ms' as σ Qr) (hdd : d' + 1 ≤ d) (hst : st0 = as.reverse ++ rest) (hM : lt_M0 μ' as.length) (hlk : lt_lkM μ.1.cls idx μ'.1) (hstc : Cond.static μ'.1 ∈ lt_T) (hcat : (rest.map fun v => v.category).sum ≤ 8)
    (kk : ∀ (r : Option Value) (σ' : hv_S), Qr r σ' → Lt G μ d (pc + 3) lo (r.toList ++ rest) σ' mc ms X) : Lt G μ d pc lo st0 σ (mc + mc') (ms + ms') X := by
  intro p l e R s m args below meth c hC A hA hY Q hX H locs cells slots ls hl hH h1 h2
  have kk' := fun r σ' hq H' locs' hH' => kk r σ' hq p l e R s m args below meth c hC A hA hY Q hX H' locs' (cells + mc') (slots + ms') ls hl hH' (by omega) (by omega)
  obtain ⟨hx, hb, -, hml, hown, hts, hnw, hK, -, -, hfr, hlo, hOk⟩ := hC
  obtain ⟨hcode, hini, hnm, hnL⟩ := hM
  have hG := lt_good hcode
  refine lt_ran (a := as.toArray) hA hH ?_ (fun r σ' H' locs' hq hH' => kk' r σ' hq H' locs' hH')
  rcases hlk with h | ⟨host, h⟩
  · exact va_runS (As := as) (rest := rest) (n := as.length) ⟨hx, hb, hml, hown, hts⟩ (hct l) ⟨callB_of as.length hts hG rfl rfl rfl (hts _ hini) (hts _ h) hnm ⟨by show d' + 1 ≤ R.frames; omega, by show 8 + (μ'.2.2.1 + 11) + 64 * d' ≤ R.locals; omega⟩, hts _ hstc⟩ ⟨lt_blind G _ σ, lt_pre hH hK hnw hOk hY⟩ rfl rfl hl.1 hst (lv_room hcat) hd ⟨by omega, by omega⟩
  · exact va_runSN (As := as) (rest := rest) (n := as.length) ⟨hx, hb, hml, hown, hts⟩ (hct l) ⟨va_cnB as.length hts hG rfl rfl rfl (hnw _ h) (hts _ hini) hnm ⟨by show d' + 1 ≤ R.frames; omega, by show 8 + (μ'.2.2.1 + 11) + 64 * d' ≤ R.locals; omega⟩, hts _ hstc, trivial⟩ ⟨lt_blind G _ σ, lt_pre hH hK hnw hOk hY⟩ rfl rfl hl.1 hst (lv_room hcat) hd ⟨by omega, by omega⟩
set_option maxHeartbeats 2000000 in
theorem lt_callI {y : MethodName} {cc : ByteArray} {nL b idx : Nat} (hd : decode μ.2.1 pc = .ok (.invokespecial idx, 3)) (hct : Ct G (y, cc, nL, none) d' mc' ms' (.ref b :: as) σ Qr) (hdd : d' + 1 ≤ d) (hst : st0 = as.reverse ++ .ref b :: rest) (hM : lt_M0 (y, cc, nL, none) as.length) (hlk : lt_lkM μ.1.cls idx y) (hin : Cond.instanceMethod y ∈ lt_T) (hname : y.name = "<init>") (hcat : (rest.map fun v => v.category).sum ≤ 8)
    (kk : ∀ (r : Option Value) (σ' : hv_S), Qr r σ' → Lt G μ d (pc + 3) lo (r.toList ++ rest) σ' mc ms X) : Lt G μ d pc lo st0 σ (mc + mc') (ms + ms') X := by
  intro p l e R s m args below meth c hC A hA hY Q hX H locs cells slots ls hl hH h1 h2
  have kk' := fun r σ' hq H' locs' hH' => kk r σ' hq p l e R s m args below meth c hC A hA hY Q hX H' locs' (cells + mc') (slots + ms') ls hl hH' (by omega) (by omega)
  obtain ⟨hx, hb, -, hml, hown, hts, hnw, hK, -, -, hfr, hlo, hOk⟩ := hC
  obtain ⟨hcode, hini, hnm, hnL⟩ := hM
  have hG := lt_good hcode
  have hnL : nL ≤ 45 := hnL
  refine lt_ran (a := (Value.ref b :: as).toArray) hA hH ?_ (fun r σ' H' locs' hq hH' => kk' r σ' hq H' locs' hH')
  rcases hlk with h | ⟨host, h⟩
  · exact va_runI (As := as) (rest := rest) (n := as.length) ⟨hx, hb, hml, hown, hts⟩ (hct l) ⟨callB_of as.length hts hG rfl rfl rfl (hts _ hini) (hts _ h) hnm ⟨by show d' + 1 ≤ R.frames; omega, by show 8 + (nL + 11) + 64 * d' ≤ R.locals; omega⟩, hname, hts _ hin⟩ ⟨lt_blind G _ σ, lt_pre hH hK hnw hOk hY⟩ rfl rfl hl.1 hst (lv_room hcat) hd ⟨by omega, by omega⟩
  · exact va_runIN (As := as) (rest := rest) (n := as.length) ⟨hx, hb, hml, hown, hts⟩ (hct l) ⟨va_cnB as.length hts hG rfl rfl rfl (hnw _ h) (hts _ hini) hnm ⟨by show d' + 1 ≤ R.frames; omega, by show 8 + (nL + 11) + 64 * d' ≤ R.locals; omega⟩, hname, hts _ hin⟩ ⟨lt_blind G _ σ, lt_pre hH hK hnw hOk hY⟩ rfl rfl hl.1 hst (lv_room hcat) hd ⟨by omega, by omega⟩
/-- Object.<init> -/
theorem lt_objInit {b idx : Nat} (hd : decode μ.2.1 pc = .ok (.invokespecial idx, 3)) (hlk : Cond.methodLink μ.1.cls idx Lib.objectInit ∈ lt_T) (hin : Cond.instanceMethod Lib.objectInit ∈ lt_T) (hco : Cond.code Lib.objectInit ⟨#[0xb1]⟩ 1 none ∈ lt_T) (hdd : 1 ≤ d) (hcat : (rest.map fun v => v.category).sum ≤ 8) (kk : Lt G μ d (pc + 3) lo rest σ mc ms X) : Lt G μ d pc lo (.ref b :: rest) σ mc ms X := by
  intro p l e R s m args below meth c hC A hA hY Q hX H locs cells slots ls hl hH h1 h2
  have kk' := kk p l e R s m args below meth c hC A hA hY Q hX H locs cells slots ls hl hH h1 h2
  obtain ⟨hx, hb, -, hml, hown, hts, hnw, hK, -, -, hfr, hlo, hOk⟩ := hC
  exact W.objInit hx hb hown (hts _ hlk) (hts _ hin) (hts _ hco) rfl (by rw [hml]; exact hl.1) rfl hd (by omega) (by show 2 * 0 + _ + 12 ≤ R.locals; omega) kk'
end LTD
end
section
/-! MINI VALUES: an int, a long, a reference or null. Lk is Lt over them: all that a step looks at is then in constructors. -/
abbrev mV : Type := Int32 ⊕ Int64 ⊕ Option Nat
abbrev vI (x : Int32) : mV := .inl x
abbrev vJ (x : Int64) : mV := .inr (.inl x)
abbrev vR (r : Option Nat) : mV := .inr (.inr r)
def mv (v : mV) : Value := match v with
  | .inl x => .int x
  | .inr (.inl x) => .long x
  | .inr (.inr r) => va_rf r
def mcat (v : mV) : Nat := match v with
  | .inr (.inl _) => 2
  | _ => 1
theorem mv_cat (v : mV) : (mv v).category = mcat v := by
  match v with
  | .inl x => rfl
  | .inr (.inl x) => rfl
  | .inr (.inr none) => rfl
  | .inr (.inr (some a)) => rfl
def cv (q : Nat × mV) : Nat × Value := (q.1, mv q.2)
def mk_ld (lo : List (Nat × mV)) (i : Nat) : Option mV := match lo with
  | [] => none
  | q :: r => if q.1 = i then some q.2 else mk_ld r i
def mk_s1 (i : Nat) (v : mV) (lo : List (Nat × mV)) : List (Nat × mV) := (i, v) :: lo.filter (fun q => !(q.1 == i) && !(q.1 + 1 == i && mcat q.2 == 2))
def mk_s2 (i : Nat) (v : mV) (lo : List (Nat × mV)) : List (Nat × mV) := (i, v) :: lo.filter (fun q => !(q.1 == i) && (!(q.1 == i + 1) && !(q.1 + 1 == i && mcat q.2 == 2)))
theorem mk_ld_map : ∀ {lo : List (Nat × mV)} {i : Nat} {v : mV}, mk_ld lo i = some v → ms_ld (lo.map cv) i = some (mv v)
  | [], i, v, h => by simp [mk_ld] at h
  | q :: r, i, v, h => by
    show (if q.1 = i then some (mv q.2) else ms_ld (r.map cv) i) = some (mv v)
    unfold mk_ld at h
    by_cases hq : q.1 = i
    · rw [if_pos hq] at h ⊢
      cases h; rfl
    · rw [if_neg hq] at h ⊢
      exact mk_ld_map h
theorem mk_s1_map (i : Nat) (v : mV) (lo : List (Nat × mV)) : ms_s1 i (mv v) (lo.map cv) = (mk_s1 i v lo).map cv := by
  unfold ms_s1 mk_s1
  rw [List.map_cons, List.filter_map]
  have h : ((fun q : Nat × Value => !(q.1 == i) && !(q.1 + 1 == i && q.2.category == 2)) ∘ cv) = (fun q : Nat × mV => !(q.1 == i) && !(q.1 + 1 == i && mcat q.2 == 2)) := by
    funext q
    simp only [Function.comp, cv, mv_cat]
  rw [h]
  rfl
theorem mk_s2_map (i : Nat) (v : mV) (lo : List (Nat × mV)) : ms_s2 i (mv v) (lo.map cv) = (mk_s2 i v lo).map cv := by
  unfold ms_s2 mk_s2
  rw [List.map_cons, List.filter_map]
  have h : ((fun q : Nat × Value => !(q.1 == i) && (!(q.1 == i + 1) && !(q.1 + 1 == i && q.2.category == 2))) ∘ cv) = (fun q : Nat × mV => !(q.1 == i) && (!(q.1 == i + 1) && !(q.1 + 1 == i && mcat q.2 == 2))) := by
    funext q
    simp only [Function.comp, cv, mv_cat]
  rw [h]
  rfl
def Lk (G : lt_G) (μ : lt_M) (d pc : Nat) (lo : List (Nat × mV)) (st : List mV) (σ : hv_S) (mc ms : Nat) (X : Nat → List (Nat × mV) → List mV → hv_S → Nat → Nat → Prop) : Prop :=
  Lt G μ d pc (lo.map cv) (st.map mv) σ mc ms (fun pc' lo' st' σ' mc' ms' => ∃ (lo2 : List (Nat × mV)) (st2 : List mV), lo' = lo2.map cv ∧ st' = st2.map mv ∧ X pc' lo2 st2 σ' mc' ms')
def mk_sel (lo : List (Nat × mV)) : List Nat → Option (List (Nat × mV))
  | [] => some []
  | i :: is => match mk_ld lo i, mk_sel lo is with
    | some v, some l => some ((i, v) :: l)
    | _, _ => none
theorem mk_ld_mem : ∀ {lo : List (Nat × mV)} {i : Nat} {v : mV}, mk_ld lo i = some v → (i, v) ∈ lo
  | [], i, v, h => by simp [mk_ld] at h
  | q :: r, i, v, h => by
    unfold mk_ld at h
    by_cases hq : q.1 = i
    · rw [if_pos hq] at h
      cases h; subst hq; exact List.mem_cons_self
    · rw [if_neg hq] at h
      exact List.mem_cons_of_mem _ (mk_ld_mem h)
theorem mk_sel_mem : ∀ {is : List Nat} {lo l : List (Nat × mV)}, mk_sel lo is = some l → ∀ q ∈ l, q ∈ lo
  | [], lo, l, h, q, hq => by cases h; cases hq
  | i :: is, lo, l, h, q, hq => by
    unfold mk_sel at h
    split at h
    · next v l' h1 h2 =>
      cases h
      rcases List.mem_cons.mp hq with rfl | hq
      · exact mk_ld_mem h1
      · exact mk_sel_mem h2 q hq
    · cases h
section LK
variable {G : lt_G} {μ : lt_M} {d pc : Nat} {lo lo' : List (Nat × mV)} {st : List mV} {σ : hv_S} {mc ms : Nat} {X : Nat → List (Nat × mV) → List mV → hv_S → Nat → Nat → Prop}
theorem Lk.stop (h : X pc lo st σ mc ms) : Lk G μ d pc lo st σ mc ms X := Lt.stop ⟨lo, st, rfl, rfl, h⟩
theorem Lk.trans {Y : Nat → List (Nat × mV) → List mV → hv_S → Nat → Nat → Prop} (h : Lk G μ d pc lo st σ mc ms Y) (k : ∀ pc' lo' st' σ' mc' ms', Y pc' lo' st' σ' mc' ms' → Lk G μ d pc' lo' st' σ' mc' ms' X) : Lk G μ d pc lo st σ mc ms X :=
  Lt.trans h (fun pc' lo' st' σ' mc' ms' hy => by
    obtain ⟨lo2, st2, rfl, rfl, hy⟩ := hy
    exact k pc' lo2 st2 σ' mc' ms' hy)
theorem Lk.less {mc' ms' : Nat} (hc : mc' ≤ mc) (hs : ms' ≤ ms) (h : Lk G μ d pc lo st σ mc' ms' X) : Lk G μ d pc lo st σ mc ms X := Lt.less hc hs h
theorem Lk.sel (is : List Nat) (hk : mk_sel lo is = some lo') (h : Lk G μ d pc lo' st σ mc ms X) : Lk G μ d pc lo st σ mc ms X :=
  fun p l e R s m args below meth c hC A hA hY Q hX H locs cells slots ls hl hH h1 h2 => h p l e R s m args below meth c hC A hA hY Q hX H locs cells slots ls
    ⟨hl.1, hl.2.1, fun q hq => by
      obtain ⟨q0, hq0, rfl⟩ := List.mem_map.mp hq
      exact hl.2.2 _ (List.mem_map.mpr ⟨q0, mk_sel_mem hk q0 hq0, rfl⟩)⟩ hH h1 h2
theorem lk_iconst {n : Int} {v : Int32} (hd : decode μ.2.1 pc = .ok (.iconst n, 1)) (hv : Int32.ofInt n = v) (kk : Lk G μ d (pc + 1) lo (vI v :: st) σ mc ms X) : Lk G μ d pc lo (st) σ mc ms X := lt_iconst hd hv kk
theorem lk_bipush {n : Int} {v : Int32} (hd : decode μ.2.1 pc = .ok (.bipush n, 2)) (hv : (Int8.ofInt n).toInt32 = v) (kk : Lk G μ d (pc + 2) lo (vI v :: st) σ mc ms X) : Lk G μ d pc lo (st) σ mc ms X := lt_bipush hd hv kk
theorem lk_sipush {n : Int} {v : Int32} (hd : decode μ.2.1 pc = .ok (.sipush n, 3)) (hv : (Int16.ofInt n).toInt32 = v) (kk : Lk G μ d (pc + 3) lo (vI v :: st) σ mc ms X) : Lk G μ d pc lo (st) σ mc ms X := lt_sipush hd hv kk
theorem lk_lconst {n : Fin 2} {v : Int64} (hd : decode μ.2.1 pc = .ok (.lconst n, 1)) (hv : Int64.ofNat (n : Nat) = v) (kk : Lk G μ d (pc + 1) lo (vJ v :: st) σ mc ms X) : Lk G μ d pc lo (st) σ mc ms X := lt_lconst hd hv kk
theorem lk_null  (hd : decode μ.2.1 pc = .ok (.aconst_null, 1)) (kk : Lk G μ d (pc + 1) lo (vR none :: st) σ mc ms X) : Lk G μ d pc lo (st) σ mc ms X := lt_null hd kk
theorem lk_iload {i : Nat} {x : Int32} (hd : decode μ.2.1 pc = .ok (.iload i, 2)) (hi : mk_ld lo i = some (vI x)) (kk : Lk G μ d (pc + 2) lo (vI x :: st) σ mc ms X) : Lk G μ d pc lo (st) σ mc ms X := lt_iload hd (mk_ld_map hi) kk
theorem lk_iload_n {k : Fin 4} {x : Int32} (hd : decode μ.2.1 pc = .ok (.iload_n k, 1)) (hi : mk_ld lo (k : Nat) = some (vI x)) (kk : Lk G μ d (pc + 1) lo (vI x :: st) σ mc ms X) : Lk G μ d pc lo (st) σ mc ms X := lt_iload_n hd (mk_ld_map hi) kk
theorem lk_lload {i : Nat} {x : Int64} (hd : decode μ.2.1 pc = .ok (.lload i, 2)) (hi : mk_ld lo i = some (vJ x)) (kk : Lk G μ d (pc + 2) lo (vJ x :: st) σ mc ms X) : Lk G μ d pc lo (st) σ mc ms X := lt_lload hd (mk_ld_map hi) kk
theorem lk_lload_n {k : Fin 4} {x : Int64} (hd : decode μ.2.1 pc = .ok (.lload_n k, 1)) (hi : mk_ld lo (k : Nat) = some (vJ x)) (kk : Lk G μ d (pc + 1) lo (vJ x :: st) σ mc ms X) : Lk G μ d pc lo (st) σ mc ms X := lt_lload_n hd (mk_ld_map hi) kk
theorem lk_aload {i : Nat} {r : Option Nat} (hd : decode μ.2.1 pc = .ok (.aload i, 2)) (hi : mk_ld lo i = some (vR r)) (kk : Lk G μ d (pc + 2) lo (vR r :: st) σ mc ms X) : Lk G μ d pc lo st σ mc ms X := by
  have h := mk_ld_map hi
  cases r with
  | none => exact lt_aloadN hd h kk
  | some a => exact lt_aload hd h kk
theorem lk_aload_n {k : Fin 4} {r : Option Nat} (hd : decode μ.2.1 pc = .ok (.aload_n k, 1)) (hi : mk_ld lo (k : Nat) = some (vR r)) (kk : Lk G μ d (pc + 1) lo (vR r :: st) σ mc ms X) : Lk G μ d pc lo st σ mc ms X := by
  have h := mk_ld_map hi
  cases r with
  | none => exact lt_aload_nN hd h kk
  | some a => exact lt_aload_n hd h kk
theorem lk_istore {i : Nat} {x : Int32} (hd : decode μ.2.1 pc = .ok (.istore i, 2)) (hn : i < μ.2.2.1) (hs : mk_s1 i (vI x) lo = lo') (kk : Lk G μ d (pc + 2) lo' (st) σ mc ms X) : Lk G μ d pc lo (vI x :: st) σ mc ms X := by
  subst hs
  exact lt_istore hd hn (mk_s1_map i (vI x) lo) kk
theorem lk_istore_n {k : Fin 4} {x : Int32} (hd : decode μ.2.1 pc = .ok (.istore_n k, 1)) (hn : (k : Nat) < μ.2.2.1) (hs : mk_s1 (k : Nat) (vI x) lo = lo') (kk : Lk G μ d (pc + 1) lo' (st) σ mc ms X) : Lk G μ d pc lo (vI x :: st) σ mc ms X := by
  subst hs
  exact lt_istore_n hd hn (mk_s1_map (k : Nat) (vI x) lo) kk
theorem lk_lstore {i : Nat} {x : Int64} (hd : decode μ.2.1 pc = .ok (.lstore i, 2)) (hn : i + 1 < μ.2.2.1) (hs : mk_s2 i (vJ x) lo = lo') (kk : Lk G μ d (pc + 2) lo' (st) σ mc ms X) : Lk G μ d pc lo (vJ x :: st) σ mc ms X := by
  subst hs
  exact lt_lstore hd hn (mk_s2_map i (vJ x) lo) kk
theorem lk_lstore_n {k : Fin 4} {x : Int64} (hd : decode μ.2.1 pc = .ok (.lstore_n k, 1)) (hn : (k : Nat) + 1 < μ.2.2.1) (hs : mk_s2 (k : Nat) (vJ x) lo = lo') (kk : Lk G μ d (pc + 1) lo' (st) σ mc ms X) : Lk G μ d pc lo (vJ x :: st) σ mc ms X := by
  subst hs
  exact lt_lstore_n hd hn (mk_s2_map (k : Nat) (vJ x) lo) kk
theorem lk_astore {i : Nat} {r : Option Nat} (hd : decode μ.2.1 pc = .ok (.astore i, 2)) (hn : i < μ.2.2.1) (hs : mk_s1 i (vR r) lo = lo') (kk : Lk G μ d (pc + 2) lo' st σ mc ms X) : Lk G μ d pc lo (vR r :: st) σ mc ms X := by
  subst hs
  have h := mk_s1_map i (vR r) lo
  cases r with
  | none => exact lt_astoreN hd hn h kk
  | some a => exact lt_astore hd hn h kk
theorem lk_astore_n {k : Fin 4} {r : Option Nat} (hd : decode μ.2.1 pc = .ok (.astore_n k, 1)) (hn : (k : Nat) < μ.2.2.1) (hs : mk_s1 (k : Nat) (vR r) lo = lo') (kk : Lk G μ d (pc + 1) lo' st σ mc ms X) : Lk G μ d pc lo (vR r :: st) σ mc ms X := by
  subst hs
  have h := mk_s1_map (k : Nat) (vR r) lo
  cases r with
  | none => exact lt_astore_nN hd hn h kk
  | some a => exact lt_astore_n hd hn h kk
theorem lk_iinc {i : Nat} {n : Int} {x v : Int32} (hd : decode μ.2.1 pc = .ok (.iinc i n, 3)) (hi : mk_ld lo i = some (vI x)) (hv : x + Int32.ofInt n = v) (hn : i < μ.2.2.1) (hs : mk_s1 i (vI v) lo = lo') (kk : Lk G μ d (pc + 3) lo' st σ mc ms X) : Lk G μ d pc lo st σ mc ms X := by
  subst hs
  exact lt_iinc hd (mk_ld_map hi) hv hn (mk_s1_map i (vI v) lo) kk
theorem lk_iadd {x y : Int32} (hd : decode μ.2.1 pc = .ok (.iadd, 1)) (kk : Lk G μ d (pc + 1) lo (vI (x + y) :: st) σ mc ms X) : Lk G μ d pc lo (vI y :: vI x :: st) σ mc ms X := lt_iadd hd kk
theorem lk_isub {x y : Int32} (hd : decode μ.2.1 pc = .ok (.isub, 1)) (kk : Lk G μ d (pc + 1) lo (vI (x - y) :: st) σ mc ms X) : Lk G μ d pc lo (vI y :: vI x :: st) σ mc ms X := lt_isub hd kk
theorem lk_imul {x y : Int32} (hd : decode μ.2.1 pc = .ok (.imul, 1)) (kk : Lk G μ d (pc + 1) lo (vI (x * y) :: st) σ mc ms X) : Lk G μ d pc lo (vI y :: vI x :: st) σ mc ms X := lt_imul hd kk
theorem lk_iand {x y : Int32} (hd : decode μ.2.1 pc = .ok (.iand, 1)) (kk : Lk G μ d (pc + 1) lo (vI (x &&& y) :: st) σ mc ms X) : Lk G μ d pc lo (vI y :: vI x :: st) σ mc ms X := lt_iand hd kk
theorem lk_ior {x y : Int32} (hd : decode μ.2.1 pc = .ok (.ior, 1)) (kk : Lk G μ d (pc + 1) lo (vI (x ||| y) :: st) σ mc ms X) : Lk G μ d pc lo (vI y :: vI x :: st) σ mc ms X := lt_ior hd kk
theorem lk_ixor {x y : Int32} (hd : decode μ.2.1 pc = .ok (.ixor, 1)) (kk : Lk G μ d (pc + 1) lo (vI (x ^^^ y) :: st) σ mc ms X) : Lk G μ d pc lo (vI y :: vI x :: st) σ mc ms X := lt_ixor hd kk
theorem lk_ishl {x y : Int32} (hd : decode μ.2.1 pc = .ok (.ishl, 1)) (kk : Lk G μ d (pc + 1) lo (vI (x <<< (y &&& 31)) :: st) σ mc ms X) : Lk G μ d pc lo (vI y :: vI x :: st) σ mc ms X := lt_ishl hd kk
theorem lk_ishr {x y : Int32} (hd : decode μ.2.1 pc = .ok (.ishr, 1)) (kk : Lk G μ d (pc + 1) lo (vI (x >>> (y &&& 31)) :: st) σ mc ms X) : Lk G μ d pc lo (vI y :: vI x :: st) σ mc ms X := lt_ishr hd kk
theorem lk_ladd {x y : Int64} (hd : decode μ.2.1 pc = .ok (.ladd, 1)) (kk : Lk G μ d (pc + 1) lo (vJ (x + y) :: st) σ mc ms X) : Lk G μ d pc lo (vJ y :: vJ x :: st) σ mc ms X := lt_ladd hd kk
theorem lk_lsub {x y : Int64} (hd : decode μ.2.1 pc = .ok (.lsub, 1)) (kk : Lk G μ d (pc + 1) lo (vJ (x - y) :: st) σ mc ms X) : Lk G μ d pc lo (vJ y :: vJ x :: st) σ mc ms X := lt_lsub hd kk
theorem lk_lmul {x y : Int64} (hd : decode μ.2.1 pc = .ok (.lmul, 1)) (kk : Lk G μ d (pc + 1) lo (vJ (x * y) :: st) σ mc ms X) : Lk G μ d pc lo (vJ y :: vJ x :: st) σ mc ms X := lt_lmul hd kk
theorem lk_land {x y : Int64} (hd : decode μ.2.1 pc = .ok (.land, 1)) (kk : Lk G μ d (pc + 1) lo (vJ (x &&& y) :: st) σ mc ms X) : Lk G μ d pc lo (vJ y :: vJ x :: st) σ mc ms X := lt_land hd kk
theorem lk_lor {x y : Int64} (hd : decode μ.2.1 pc = .ok (.lor, 1)) (kk : Lk G μ d (pc + 1) lo (vJ (x ||| y) :: st) σ mc ms X) : Lk G μ d pc lo (vJ y :: vJ x :: st) σ mc ms X := lt_lor hd kk
theorem lk_lxor {x y : Int64} (hd : decode μ.2.1 pc = .ok (.lxor, 1)) (kk : Lk G μ d (pc + 1) lo (vJ (x ^^^ y) :: st) σ mc ms X) : Lk G μ d pc lo (vJ y :: vJ x :: st) σ mc ms X := lt_lxor hd kk
theorem lk_ineg {x : Int32} (hd : decode μ.2.1 pc = .ok (.ineg, 1)) (kk : Lk G μ d (pc + 1) lo (vI (-x) :: st) σ mc ms X) : Lk G μ d pc lo (vI x :: st) σ mc ms X := lt_ineg hd kk
theorem lk_iushr {x y : Int32} (hd : decode μ.2.1 pc = .ok (.iushr, 1)) (kk : Lk G μ d (pc + 1) lo (vI (x.toUInt32 >>> (y.toUInt32 &&& Int32.toUInt32 31)).toInt32 :: st) σ mc ms X) : Lk G μ d pc lo (vI y :: vI x :: st) σ mc ms X := lt_iushr hd kk
theorem lk_lushr {x : Int64} {y : Int32} (hd : decode μ.2.1 pc = .ok (.lushr, 1)) (kk : Lk G μ d (pc + 1) lo (vJ (x.toUInt64 >>> (y.toInt64.toUInt64 &&& Int64.toUInt64 63)).toInt64 :: st) σ mc ms X) : Lk G μ d pc lo (vI y :: vJ x :: st) σ mc ms X := lt_lushr hd kk
theorem lk_lshl {x : Int64} {y : Int32} (hd : decode μ.2.1 pc = .ok (.lshl, 1)) (kk : Lk G μ d (pc + 1) lo (vJ (x <<< (y.toInt64 &&& 63)) :: st) σ mc ms X) : Lk G μ d pc lo (vI y :: vJ x :: st) σ mc ms X := lt_lshl hd kk
theorem lk_i2l {x : Int32} (hd : decode μ.2.1 pc = .ok (.i2l, 1)) (kk : Lk G μ d (pc + 1) lo (vJ x.toInt64 :: st) σ mc ms X) : Lk G μ d pc lo (vI x :: st) σ mc ms X := lt_i2l hd kk
theorem lk_l2i {x : Int64} (hd : decode μ.2.1 pc = .ok (.l2i, 1)) (kk : Lk G μ d (pc + 1) lo (vI x.toInt32 :: st) σ mc ms X) : Lk G μ d pc lo (vJ x :: st) σ mc ms X := lt_l2i hd kk
theorem lk_i2c {x : Int32} (hd : decode μ.2.1 pc = .ok (.i2c, 1)) (kk : Lk G μ d (pc + 1) lo (vI (x.toUInt32 % 65536).toInt32 :: st) σ mc ms X) : Lk G μ d pc lo (vI x :: st) σ mc ms X := lt_i2c hd kk
theorem lk_lcmp {x y : Int64} (hd : decode μ.2.1 pc = .ok (.lcmp, 1)) (kk : Lk G μ d (pc + 1) lo (vI (lg_cmp x y) :: st) σ mc ms X) : Lk G μ d pc lo (vJ y :: vJ x :: st) σ mc ms X := lt_lcmp hd kk
theorem lk_dup {a : mV} (hd : decode μ.2.1 pc = .ok (.dup, 1)) (ha : mcat a = 1) (kk : Lk G μ d (pc + 1) lo (a :: a :: st) σ mc ms X) : Lk G μ d pc lo (a :: st) σ mc ms X := lt_dup hd ((mv_cat a).trans ha) kk
theorem lk_pop {a : mV} (hd : decode μ.2.1 pc = .ok (.pop, 1)) (ha : mcat a = 1) (kk : Lk G μ d (pc + 1) lo (st) σ mc ms X) : Lk G μ d pc lo (a :: st) σ mc ms X := lt_pop hd ((mv_cat a).trans ha) kk
theorem lk_dup_x1 {a b : mV} (hd : decode μ.2.1 pc = .ok (.dup_x1, 1)) (ha : mcat a = 1) (hb : mcat b = 1) (kk : Lk G μ d (pc + 1) lo (a :: b :: a :: st) σ mc ms X) : Lk G μ d pc lo (a :: b :: st) σ mc ms X := lt_dup_x1 hd ((mv_cat a).trans ha) ((mv_cat b).trans hb) kk
theorem lk_dup_x2 {a b c : mV} (hd : decode μ.2.1 pc = .ok (.dup_x2, 1)) (ha : mcat a = 1) (hb : mcat b = 1) (hc : mcat c = 1) (kk : Lk G μ d (pc + 1) lo (a :: b :: c :: a :: st) σ mc ms X) : Lk G μ d pc lo (a :: b :: c :: st) σ mc ms X := lt_dup_x2 hd ((mv_cat a).trans ha) ((mv_cat b).trans hb) ((mv_cat c).trans hc) kk
theorem lk_dup2_11 {a b : mV} (hd : decode μ.2.1 pc = .ok (.dup2, 1)) (ha : mcat a = 1) (hb : mcat b = 1) (kk : Lk G μ d (pc + 1) lo (a :: b :: a :: b :: st) σ mc ms X) : Lk G μ d pc lo (a :: b :: st) σ mc ms X := lt_dup2_11 hd ((mv_cat a).trans ha) ((mv_cat b).trans hb) kk
theorem lk_if_eq {x : Int32} {off : Int} {tgt : Nat} (hd : decode μ.2.1 pc = .ok (.ifCond .eq off, 3)) (ht : (pc : Int) + off = (tgt : Int)) (kt : x = 0 → Lk G μ d tgt lo st σ mc ms X) (kf : ¬ x = 0 → Lk G μ d (pc + 3) lo st σ mc ms X) : Lk G μ d pc lo (vI x :: st) σ mc ms X := lt_if_eq hd ht kt kf
theorem lk_icmp_eq {x y : Int32} {off : Int} {tgt : Nat} (hd : decode μ.2.1 pc = .ok (.if_icmp .eq off, 3)) (ht : (pc : Int) + off = (tgt : Int)) (kt : x = y → Lk G μ d tgt lo st σ mc ms X) (kf : ¬ x = y → Lk G μ d (pc + 3) lo st σ mc ms X) : Lk G μ d pc lo (vI y :: vI x :: st) σ mc ms X := lt_icmp_eq hd ht kt kf
theorem lk_if_ne {x : Int32} {off : Int} {tgt : Nat} (hd : decode μ.2.1 pc = .ok (.ifCond .ne off, 3)) (ht : (pc : Int) + off = (tgt : Int)) (kt : ¬ x = 0 → Lk G μ d tgt lo st σ mc ms X) (kf : x = 0 → Lk G μ d (pc + 3) lo st σ mc ms X) : Lk G μ d pc lo (vI x :: st) σ mc ms X := lt_if_ne hd ht kt kf
theorem lk_icmp_ne {x y : Int32} {off : Int} {tgt : Nat} (hd : decode μ.2.1 pc = .ok (.if_icmp .ne off, 3)) (ht : (pc : Int) + off = (tgt : Int)) (kt : ¬ x = y → Lk G μ d tgt lo st σ mc ms X) (kf : x = y → Lk G μ d (pc + 3) lo st σ mc ms X) : Lk G μ d pc lo (vI y :: vI x :: st) σ mc ms X := lt_icmp_ne hd ht kt kf
theorem lk_if_lt {x : Int32} {off : Int} {tgt : Nat} (hd : decode μ.2.1 pc = .ok (.ifCond .lt off, 3)) (ht : (pc : Int) + off = (tgt : Int)) (kt : x < 0 → Lk G μ d tgt lo st σ mc ms X) (kf : ¬ x < 0 → Lk G μ d (pc + 3) lo st σ mc ms X) : Lk G μ d pc lo (vI x :: st) σ mc ms X := lt_if_lt hd ht kt kf
theorem lk_icmp_lt {x y : Int32} {off : Int} {tgt : Nat} (hd : decode μ.2.1 pc = .ok (.if_icmp .lt off, 3)) (ht : (pc : Int) + off = (tgt : Int)) (kt : x < y → Lk G μ d tgt lo st σ mc ms X) (kf : ¬ x < y → Lk G μ d (pc + 3) lo st σ mc ms X) : Lk G μ d pc lo (vI y :: vI x :: st) σ mc ms X := lt_icmp_lt hd ht kt kf
theorem lk_if_ge {x : Int32} {off : Int} {tgt : Nat} (hd : decode μ.2.1 pc = .ok (.ifCond .ge off, 3)) (ht : (pc : Int) + off = (tgt : Int)) (kt : 0 ≤ x → Lk G μ d tgt lo st σ mc ms X) (kf : ¬ 0 ≤ x → Lk G μ d (pc + 3) lo st σ mc ms X) : Lk G μ d pc lo (vI x :: st) σ mc ms X := lt_if_ge hd ht kt kf
theorem lk_icmp_ge {x y : Int32} {off : Int} {tgt : Nat} (hd : decode μ.2.1 pc = .ok (.if_icmp .ge off, 3)) (ht : (pc : Int) + off = (tgt : Int)) (kt : y ≤ x → Lk G μ d tgt lo st σ mc ms X) (kf : ¬ y ≤ x → Lk G μ d (pc + 3) lo st σ mc ms X) : Lk G μ d pc lo (vI y :: vI x :: st) σ mc ms X := lt_icmp_ge hd ht kt kf
theorem lk_if_gt {x : Int32} {off : Int} {tgt : Nat} (hd : decode μ.2.1 pc = .ok (.ifCond .gt off, 3)) (ht : (pc : Int) + off = (tgt : Int)) (kt : 0 < x → Lk G μ d tgt lo st σ mc ms X) (kf : ¬ 0 < x → Lk G μ d (pc + 3) lo st σ mc ms X) : Lk G μ d pc lo (vI x :: st) σ mc ms X := lt_if_gt hd ht kt kf
theorem lk_icmp_gt {x y : Int32} {off : Int} {tgt : Nat} (hd : decode μ.2.1 pc = .ok (.if_icmp .gt off, 3)) (ht : (pc : Int) + off = (tgt : Int)) (kt : y < x → Lk G μ d tgt lo st σ mc ms X) (kf : ¬ y < x → Lk G μ d (pc + 3) lo st σ mc ms X) : Lk G μ d pc lo (vI y :: vI x :: st) σ mc ms X := lt_icmp_gt hd ht kt kf
theorem lk_if_le {x : Int32} {off : Int} {tgt : Nat} (hd : decode μ.2.1 pc = .ok (.ifCond .le off, 3)) (ht : (pc : Int) + off = (tgt : Int)) (kt : x ≤ 0 → Lk G μ d tgt lo st σ mc ms X) (kf : ¬ x ≤ 0 → Lk G μ d (pc + 3) lo st σ mc ms X) : Lk G μ d pc lo (vI x :: st) σ mc ms X := lt_if_le hd ht kt kf
theorem lk_icmp_le {x y : Int32} {off : Int} {tgt : Nat} (hd : decode μ.2.1 pc = .ok (.if_icmp .le off, 3)) (ht : (pc : Int) + off = (tgt : Int)) (kt : x ≤ y → Lk G μ d tgt lo st σ mc ms X) (kf : ¬ x ≤ y → Lk G μ d (pc + 3) lo st σ mc ms X) : Lk G μ d pc lo (vI y :: vI x :: st) σ mc ms X := lt_icmp_le hd ht kt kf
theorem lk_goto {off : Int} {tgt : Nat} (hd : decode μ.2.1 pc = .ok (.goto off, 3)) (ht : (pc : Int) + off = (tgt : Int)) (kk : Lk G μ d tgt lo st σ mc ms X) : Lk G μ d pc lo st σ mc ms X := lt_goto hd ht kk
theorem lk_ifnonnull {r : Option Nat} {off : Int} {tgt : Nat} (hd : decode μ.2.1 pc = .ok (.ifnonnull off, 3)) (ht : (pc : Int) + off = (tgt : Int)) (kt : ¬ r = none → Lk G μ d tgt lo st σ mc ms X) (kf : r = none → Lk G μ d (pc + 3) lo st σ mc ms X) : Lk G μ d pc lo (vR r :: st) σ mc ms X := by
  cases r with
  | none => exact lt_ifnonnullN hd (kf rfl)
  | some a => exact lt_ifnonnull hd ht (kt (fun h => by cases h))
theorem lk_ifnull {r : Option Nat} {off : Int} {tgt : Nat} (hd : decode μ.2.1 pc = .ok (.ifnull off, 3)) (ht : (pc : Int) + off = (tgt : Int)) (kt : r = none → Lk G μ d tgt lo st σ mc ms X) (kf : ¬ r = none → Lk G μ d (pc + 3) lo st σ mc ms X) : Lk G μ d pc lo (vR r :: st) σ mc ms X := by
  cases r with
  | none => exact lt_ifnullN hd ht (kt rfl)
  | some a => exact lt_ifnull hd (kf (fun h => by cases h))
theorem lk_lookup {dflt : Int} {ps : Array (Int × Int)} {len : Nat} {x : Int32} {off : Int} {tgt : Nat} (hd : decode μ.2.1 pc = .ok (.lookupswitch dflt ps, len)) (hp : (ps.toList.zip (ps.toList.drop 1)).all (fun (a, next) => a.1 < next.1) = true) (ho : Op.lookupswitch.offset ps.toList dflt x.toInt = off) (ht : (pc : Int) + off = (tgt : Int)) (kk : Lk G μ d tgt lo st σ mc ms X) : Lk G μ d pc lo (vI x :: st) σ mc ms X := lt_lookup hd hp ho ht kk
theorem lk_tableOut {dflt tl th : Int} {offs : Array Int} {len : Nat} {x : Int32} {tgt : Nat} (hd : decode μ.2.1 pc = .ok (.tableswitch dflt tl th offs, len)) (h : x.toInt < tl ∨ th < x.toInt) (ht : (pc : Int) + dflt = (tgt : Int)) (kk : Lk G μ d tgt lo st σ mc ms X) : Lk G μ d pc lo (vI x :: st) σ mc ms X := lt_tableOut hd h ht kk
theorem lk_tableIn {dflt tl th : Int} {offs : Array Int} {len : Nat} {x : Int32} {off : Int} {tgt : Nat} (hd : decode μ.2.1 pc = .ok (.tableswitch dflt tl th offs, len)) (g1 : ¬ x.toInt < tl) (g2 : ¬ th < x.toInt) (ho : offs[(x.toInt - tl).toNat]? = some off) (ht : (pc : Int) + off = (tgt : Int)) (kk : Lk G μ d tgt lo st σ mc ms X) : Lk G μ d pc lo (vI x :: st) σ mc ms X := lt_tableIn hd g1 g2 ho ht kk
theorem lk_ldc2 {idx : Nat} {v : Int64} (hd : decode μ.2.1 pc = .ok (.ldc2_w idx, 3)) (hc : Cond.constantLong μ.1.cls idx v ∈ lt_T) (kk : Lk G μ d (pc + 3) lo (vJ v :: st) σ mc ms X) : Lk G μ d pc lo st σ mc ms X := lt_ldc2 hc hd kk
end LK
/-! PARTIAL OPERATIONS on the view -/
/-- the address of an object of class ci -/
def x_ob (σ : hv_S) (ci : Nat) (r : Option Nat) : Option Nat := match r with
  | none => none
  | some a => if hv_sh σ a = some (ci, 0) then some a else none
/-- the address of an array of kind t, with its length -/
def x_ar (σ : hv_S) (t : Nat) (r : Option Nat) : Option (Nat × Nat) := match r with
  | none => none
  | some a => match hv_sh σ a with
    | none => none
    | some x => if x.1 = 1000 + t then some (a, x.2) else none
/-- a place in an array of n elements -/
def x_ix (n : Nat) (i : Int32) : Option Nat := if i < 0 ∨ n ≤ i.toNatClampNeg then none else some i.toNatClampNeg
theorem x_ob_some {σ : hv_S} {ci a : Nat} {r : Option Nat} (h : x_ob σ ci r = some a) : r = some a ∧ hv_sh σ a = some (ci, 0) := by
  unfold x_ob at h
  split at h
  · cases h
  · next b =>
    split at h
    · next hb => cases h; exact ⟨rfl, hb⟩
    · cases h
theorem x_ar_some {σ : hv_S} {t : Nat} {q : Nat × Nat} {r : Option Nat} (h : x_ar σ t r = some q) : r = some q.1 ∧ hv_sh σ q.1 = some (1000 + t, q.2) := by
  unfold x_ar at h
  split at h
  · cases h
  · next b =>
    split at h
    · cases h
    · next x hx =>
      split at h
      · next hxt =>
        cases h
        refine ⟨rfl, ?_⟩
        rw [hx, ← hxt]
      · cases h
theorem x_ix_some {n k : Nat} {i : Int32} (h : x_ix n i = some k) : vp_in i n ∧ i.toNatClampNeg = k := by
  unfold x_ix at h
  split at h
  · cases h
  · next hc => cases h; exact ⟨hc, rfl⟩
section LKH
variable {G : lt_G} {μ : lt_M} {d pc : Nat} {lo lo' : List (Nat × mV)} {st : List mV} {σ : hv_S} {mc ms : Nat} {X : Nat → List (Nat × mV) → List mV → hv_S → Nat → Nat → Prop}
theorem lk_get {a ci k idx : Nat} {r : Option Nat} {C : String} {T : u_T} {N : Nat} {v : mV} (hd : decode μ.2.1 pc = .ok (.getfield idx, 3)) (hx : x_ob σ ci r = some a) (hci : ci < 1000) (hcl : lt_cl[ci]? = some (C, T, N)) (hk : k < N) (hlk : lt_lkF μ.1.cls idx (T k)) (hv : hv_fv (lt_ty ci k) σ a k = mv v) (kk : Lk G μ d (pc + 3) lo (v :: st) σ mc ms X) : Lk G μ d pc lo (vR r :: st) σ mc ms X := by
  obtain ⟨rfl, hs⟩ := x_ob_some hx
  exact lt_get hd hs hci hcl hk hlk hv kk
theorem lk_putI {a ci k idx : Nat} {r : Option Nat} {C : String} {T : u_T} {N : Nat} {x : Int32} (hd : decode μ.2.1 pc = .ok (.putfield idx, 3)) (hx : x_ob σ ci r = some a) (hci : ci < 1000) (hcl : lt_cl[ci]? = some (C, T, N)) (hk : k < N) (hlk : lt_lkF μ.1.cls idx (T k)) (hfin : (T k).2.2.2 = false) (hty : lt_ty ci k = .int) (kk : Lk G μ d (pc + 3) lo st (hv_setI σ a k x) mc ms X) : Lk G μ d pc lo (vI x :: vR r :: st) σ mc ms X := by
  obtain ⟨rfl, hs⟩ := x_ob_some hx
  exact lt_put hd hs hci hcl hk hlk hfin (by rw [hty]; rfl) (by rw [hty]; rfl) (hv_upd_I σ a k x) (by rw [hty]; show Value.int (hv_u _ _ _ _ _ _) = _; rw [hv_u_at]; rfl) kk
/-- a boolean field: what is written is 0 or 1 -/
theorem lk_putZ {a ci k idx : Nat} {r : Option Nat} {C : String} {T : u_T} {N : Nat} {x : Int32} (hd : decode μ.2.1 pc = .ok (.putfield idx, 3)) (hx : x_ob σ ci r = some a) (hz : x = 0 ∨ x = 1) (hci : ci < 1000) (hcl : lt_cl[ci]? = some (C, T, N)) (hk : k < N) (hlk : lt_lkF μ.1.cls idx (T k)) (hfin : (T k).2.2.2 = false) (hty : lt_ty ci k = .boolean) (kk : Lk G μ d (pc + 3) lo st (hv_setI σ a k x) mc ms X) : Lk G μ d pc lo (vI x :: vR r :: st) σ mc ms X := by
  obtain ⟨rfl, hs⟩ := x_ob_some hx
  exact lt_put hd hs hci hcl hk hlk hfin (by rw [hty]; rcases hz with rfl | rfl <;> decide) (by rw [hty]; rcases hz with rfl | rfl <;> decide) (hv_upd_I σ a k x) (by rw [hty]; show Value.int (hv_u _ _ _ _ _ _) = _; rw [hv_u_at]; rfl) kk
theorem lk_putJ {a ci k idx : Nat} {r : Option Nat} {C : String} {T : u_T} {N : Nat} {x : Int64} (hd : decode μ.2.1 pc = .ok (.putfield idx, 3)) (hx : x_ob σ ci r = some a) (hci : ci < 1000) (hcl : lt_cl[ci]? = some (C, T, N)) (hk : k < N) (hlk : lt_lkF μ.1.cls idx (T k)) (hfin : (T k).2.2.2 = false) (hty : lt_ty ci k = .long) (kk : Lk G μ d (pc + 3) lo st (hv_setJ σ a k x) mc ms X) : Lk G μ d pc lo (vJ x :: vR r :: st) σ mc ms X := by
  obtain ⟨rfl, hs⟩ := x_ob_some hx
  exact lt_put hd hs hci hcl hk hlk hfin (by rw [hty]; rfl) (by rw [hty]; rfl) (hv_upd_J σ a k x) (by rw [hty]; show Value.long (hv_u _ _ _ _ _ _) = _; rw [hv_u_at]; rfl) kk
end LKH
end
section
/-! THE HEAP ROWS AND CALLS over mini values -/
section LKI
variable {G : lt_G} {μ : lt_M} {d pc : Nat} {lo lo' : List (Nat × mV)} {st : List mV} {σ : hv_S} {mc ms : Nat} {X : Nat → List (Nat × mV) → List mV → hv_S → Nat → Nat → Prop}
/-- a field that holds a reference -/
def lt_isR (ty : FieldType) : Bool := match ty with
  | .object _ => true
  | .array _ => true
  | _ => false
theorem lt_isR_n {ty : FieldType} (h : lt_isR ty = true) (r : Option Nat) : narrow ty (va_rf r) = va_rf r ∧ fits ty (va_rf r) = true := by
  cases ty <;> first | (simp [lt_isR] at h; done) | (cases r <;> exact ⟨rfl, rfl⟩)
theorem lt_isR_v {ty : FieldType} (h : lt_isR ty = true) (σ : hv_S) (a k : Nat) : hv_fv ty σ a k = va_rf (hv_R σ a k) := by
  cases ty <;> first | (simp [lt_isR] at h; done) | rfl
theorem lk_putR {a ci k idx : Nat} {r x : Option Nat} {C : String} {T : u_T} {N : Nat} (hd : decode μ.2.1 pc = .ok (.putfield idx, 3)) (hx : x_ob σ ci r = some a) (hci : ci < 1000) (hcl : lt_cl[ci]? = some (C, T, N)) (hk : k < N) (hlk : lt_lkF μ.1.cls idx (T k)) (hfin : (T k).2.2.2 = false) (hty : lt_isR (lt_ty ci k) = true) (kk : Lk G μ d (pc + 3) lo st (hv_setR σ a k x) mc ms X) : Lk G μ d pc lo (vR x :: vR r :: st) σ mc ms X := by
  obtain ⟨rfl, hs⟩ := x_ob_some hx
  exact lt_put hd hs hci hcl hk hlk hfin (lt_isR_n hty x).1 (lt_isR_n hty x).2 (hv_upd_R σ a k x) (by rw [lt_isR_v hty]; show va_rf (hv_u _ _ _ _ _ _) = _; rw [hv_u_at]; rfl) kk
theorem lk_putFR {a ci k idx : Nat} {r x : Option Nat} {C : String} {T : u_T} {N : Nat} (hd : decode μ.2.1 pc = .ok (.putfield idx, 3)) (hx : x_ob σ ci r = some a) (hci : ci < 1000) (hcl : lt_cl[ci]? = some (C, T, N)) (hk : k < N) (hlk : Cond.fieldLink μ.1.cls idx (T k).1 (T k).2.1 (T k).2.2.1 ∈ lt_T) (hfin : (T k).2.2.2 = true) (hin2 : μ.1.name = "<init>") (hdecl : (T k).1 = μ.1.cls) (hty : lt_isR (lt_ty ci k) = true) (kk : Lk G μ d (pc + 3) lo st (hv_setR σ a k x) mc ms X) : Lk G μ d pc lo (vR x :: vR r :: st) σ mc ms X := by
  obtain ⟨rfl, hs⟩ := x_ob_some hx
  exact lt_putF hd hs hci hcl hk hlk hfin hin2 hdecl (lt_isR_n hty x).1 (lt_isR_n hty x).2 (hv_upd_R σ a k x) (by rw [lt_isR_v hty]; show va_rf (hv_u _ _ _ _ _ _) = _; rw [hv_u_at]; rfl) kk
theorem lk_putFI {a ci k idx : Nat} {r : Option Nat} {x : Int32} {C : String} {T : u_T} {N : Nat} (hd : decode μ.2.1 pc = .ok (.putfield idx, 3)) (hx : x_ob σ ci r = some a) (hci : ci < 1000) (hcl : lt_cl[ci]? = some (C, T, N)) (hk : k < N) (hlk : Cond.fieldLink μ.1.cls idx (T k).1 (T k).2.1 (T k).2.2.1 ∈ lt_T) (hfin : (T k).2.2.2 = true) (hin2 : μ.1.name = "<init>") (hdecl : (T k).1 = μ.1.cls) (hty : lt_ty ci k = .int) (kk : Lk G μ d (pc + 3) lo st (hv_setI σ a k x) mc ms X) : Lk G μ d pc lo (vI x :: vR r :: st) σ mc ms X := by
  obtain ⟨rfl, hs⟩ := x_ob_some hx
  exact lt_putF hd hs hci hcl hk hlk hfin hin2 hdecl (by rw [hty]; rfl) (by rw [hty]; rfl) (hv_upd_I σ a k x) (by rw [hty]; show Value.int (hv_u _ _ _ _ _ _) = _; rw [hv_u_at]; rfl) kk
theorem lk_iald {q : Nat × Nat} {k : Nat} {r : Option Nat} {i : Int32} (hd : decode μ.2.1 pc = .ok (.iaload, 1)) (hx : x_ar σ 0 r = some q) (hi : x_ix q.2 i = some k) (kk : Lk G μ d (pc + 1) lo (vI (hv_I σ q.1 k) :: st) σ mc ms X) : Lk G μ d pc lo (vI i :: vR r :: st) σ mc ms X := by
  obtain ⟨rfl, hs⟩ := x_ar_some hx
  obtain ⟨hv, rfl⟩ := x_ix_some hi
  exact lt_iald hd hs hv kk
theorem lk_lald {q : Nat × Nat} {k : Nat} {r : Option Nat} {i : Int32} (hd : decode μ.2.1 pc = .ok (.laload, 1)) (hx : x_ar σ 1 r = some q) (hi : x_ix q.2 i = some k) (kk : Lk G μ d (pc + 1) lo (vJ (hv_J σ q.1 k) :: st) σ mc ms X) : Lk G μ d pc lo (vI i :: vR r :: st) σ mc ms X := by
  obtain ⟨rfl, hs⟩ := x_ar_some hx
  obtain ⟨hv, rfl⟩ := x_ix_some hi
  exact lt_lald hd hs hv kk
theorem lk_cald {q : Nat × Nat} {k : Nat} {r : Option Nat} {i : Int32} (hd : decode μ.2.1 pc = .ok (.caload, 1)) (hx : x_ar σ 2 r = some q) (hi : x_ix q.2 i = some k) (kk : Lk G μ d (pc + 1) lo (vI (hv_I σ q.1 k) :: st) σ mc ms X) : Lk G μ d pc lo (vI i :: vR r :: st) σ mc ms X := by
  obtain ⟨rfl, hs⟩ := x_ar_some hx
  obtain ⟨hv, rfl⟩ := x_ix_some hi
  exact lt_cald hd hs hv kk
theorem lk_zald {q : Nat × Nat} {k : Nat} {r : Option Nat} {i : Int32} (hd : decode μ.2.1 pc = .ok (.baload, 1)) (hx : x_ar σ 3 r = some q) (hi : x_ix q.2 i = some k) (kk : Lk G μ d (pc + 1) lo (vI (hv_I σ q.1 k) :: st) σ mc ms X) : Lk G μ d pc lo (vI i :: vR r :: st) σ mc ms X := by
  obtain ⟨rfl, hs⟩ := x_ar_some hx
  obtain ⟨hv, rfl⟩ := x_ix_some hi
  exact lt_zald hd hs hv kk
theorem lk_aald {t : Nat} {C : String} {q : Nat × Nat} {k : Nat} {r : Option Nat} {i : Int32} (hd : decode μ.2.1 pc = .ok (.aaload, 1)) (hx : x_ar σ t r = some q) (hi : x_ix q.2 i = some k) (hT : lt_aty t = .object C) (ht : t ∈ lt_codes) (kk : Lk G μ d (pc + 1) lo (vR (hv_R σ q.1 k) :: st) σ mc ms X) : Lk G μ d pc lo (vI i :: vR r :: st) σ mc ms X := by
  obtain ⟨rfl, hs⟩ := x_ar_some hx
  obtain ⟨hv, rfl⟩ := x_ix_some hi
  exact lt_aald hd hs hT ht hv rfl kk
theorem lk_iast {q : Nat × Nat} {k : Nat} {r : Option Nat} {i x : Int32} (hd : decode μ.2.1 pc = .ok (.iastore, 1)) (hx : x_ar σ 0 r = some q) (hi : x_ix q.2 i = some k) (kk : Lk G μ d (pc + 1) lo st (hv_setI σ q.1 k x) mc ms X) : Lk G μ d pc lo (vI x :: vI i :: vR r :: st) σ mc ms X := by
  obtain ⟨rfl, hs⟩ := x_ar_some hx
  obtain ⟨hv, rfl⟩ := x_ix_some hi
  exact lt_iast hd hs hv kk
theorem lk_last {q : Nat × Nat} {k : Nat} {r : Option Nat} {i : Int32} {x : Int64} (hd : decode μ.2.1 pc = .ok (.lastore, 1)) (hx : x_ar σ 1 r = some q) (hi : x_ix q.2 i = some k) (kk : Lk G μ d (pc + 1) lo st (hv_setJ σ q.1 k x) mc ms X) : Lk G μ d pc lo (vJ x :: vI i :: vR r :: st) σ mc ms X := by
  obtain ⟨rfl, hs⟩ := x_ar_some hx
  obtain ⟨hv, rfl⟩ := x_ix_some hi
  exact lt_last hd hs hv kk
theorem lk_cast {q : Nat × Nat} {k : Nat} {r : Option Nat} {i x : Int32} (hd : decode μ.2.1 pc = .ok (.castore, 1)) (hx : x_ar σ 2 r = some q) (hi : x_ix q.2 i = some k) (kk : Lk G μ d (pc + 1) lo st (hv_setI σ q.1 k (vp_nar .char x)) mc ms X) : Lk G μ d pc lo (vI x :: vI i :: vR r :: st) σ mc ms X := by
  obtain ⟨rfl, hs⟩ := x_ar_some hx
  obtain ⟨hv, rfl⟩ := x_ix_some hi
  exact lt_cast hd hs hv rfl kk
theorem lk_zast {q : Nat × Nat} {k : Nat} {r : Option Nat} {i x : Int32} (hd : decode μ.2.1 pc = .ok (.bastore, 1)) (hx : x_ar σ 3 r = some q) (hi : x_ix q.2 i = some k) (kk : Lk G μ d (pc + 1) lo st (hv_setI σ q.1 k (vp_nar .boolean x)) mc ms X) : Lk G μ d pc lo (vI x :: vI i :: vR r :: st) σ mc ms X := by
  obtain ⟨rfl, hs⟩ := x_ar_some hx
  obtain ⟨hv, rfl⟩ := x_ix_some hi
  exact lt_zast hd hs hv rfl kk
theorem lk_aast {t ci a2 : Nat} {C : String} {T : u_T} {N : Nat} {q : Nat × Nat} {k : Nat} {r r2 : Option Nat} {i : Int32} (hd : decode μ.2.1 pc = .ok (.aastore, 1)) (hx : x_ar σ t r = some q) (hi : x_ix q.2 i = some k) (hv : x_ob σ ci r2 = some a2) (hT : lt_aty t = .object C) (ht : t ∈ lt_codes) (hci : ci < 1000) (hcl : lt_cl[ci]? = some (C, T, N)) (kk : Lk G μ d (pc + 1) lo st (hv_setR σ q.1 k (some a2)) mc ms X) : Lk G μ d pc lo (vR r2 :: vI i :: vR r :: st) σ mc ms X := by
  obtain ⟨rfl, hs⟩ := x_ar_some hx
  obtain ⟨hvi, rfl⟩ := x_ix_some hi
  obtain ⟨rfl, hs2⟩ := x_ob_some hv
  exact lt_aast hd hs ht hT hs2 hci hcl hvi kk
theorem lk_alen {t : Nat} {q : Nat × Nat} {r : Option Nat} (hd : decode μ.2.1 pc = .ok (.arraylength, 1)) (hx : x_ar σ t r = some q) (ht : t ∈ lt_codes) (kk : Lk G μ d (pc + 1) lo (vI (nI q.2) :: st) σ mc ms X) : Lk G μ d pc lo (vR r :: st) σ mc ms X := by
  obtain ⟨rfl, hs⟩ := x_ar_some hx
  exact lt_alen hd hs ht kk
/-- an int array that is only read -/
def x_ro (σ : hv_S) (r : Option Nat) : Option (Nat × Nat) := match r with
  | none => none
  | some a => match hv_sh σ a with
    | none => none
    | some x => if x.1 = 2000 then some (a, x.2) else none
theorem x_ro_some {σ : hv_S} {q : Nat × Nat} {r : Option Nat} (h : x_ro σ r = some q) : r = some q.1 ∧ hv_sh σ q.1 = some (2000, q.2) := by
  unfold x_ro at h
  split at h
  · cases h
  · next b =>
    split at h
    · cases h
    · next x hx =>
      split at h
      · next hxt =>
        cases h
        refine ⟨rfl, ?_⟩
        rw [hx, ← hxt]
      · cases h
theorem lk_roald {q : Nat × Nat} {k : Nat} {r : Option Nat} {i : Int32} (hd : decode μ.2.1 pc = .ok (.iaload, 1)) (hx : x_ro σ r = some q) (hi : x_ix q.2 i = some k) (kk : Lk G μ d (pc + 1) lo (vI (hv_I σ q.1 k) :: st) σ mc ms X) : Lk G μ d pc lo (vI i :: vR r :: st) σ mc ms X := by
  obtain ⟨rfl, hs⟩ := x_ro_some hx
  obtain ⟨hv, rfl⟩ := x_ix_some hi
  exact lt_roald hd hs hv kk
theorem lk_rolen {q : Nat × Nat} {r : Option Nat} (hd : decode μ.2.1 pc = .ok (.arraylength, 1)) (hx : x_ro σ r = some q) (kk : Lk G μ d (pc + 1) lo (vI (nI q.2) :: st) σ mc ms X) : Lk G μ d pc lo (vR r :: st) σ mc ms X := by
  obtain ⟨rfl, hs⟩ := x_ro_some hx
  exact lt_rolen hd hs kk
theorem lk_new {ci idx : Nat} {C : String} {T : u_T} {N : Nat} (hd : decode μ.2.1 pc = .ok (.new idx, 3)) (hci : ci < 1000) (hcl : lt_cl[ci]? = some (C, T, N)) (hl1 : Cond.classLink μ.1.cls idx C ∈ lt_T) (hl2 : Cond.instantiable C N ∈ lt_T) (hl3 : Cond.initialized C ∈ lt_T)
    (hdef : ∀ j, j < N → defaultValue (lt_ty ci j) = hv_fv (lt_ty ci j) hv_zero 0 0) (kk : hv_sh σ (hv_n σ) = none → Lk G μ d (pc + 3) lo (vR (some (hv_n σ)) :: st) (hv_new σ (ci, 0)) mc ms X) : Lk G μ d pc lo st σ (mc + 1) (ms + N) X := lt_new hd hci hcl hl1 hl2 hl3 hdef kk
theorem lk_newarray {t : Nat} {atype : ArrayType} {n : Int32} {N : Nat} (hd : decode μ.2.1 pc = .ok (.newarray atype, 2)) (hw : Cond.arrayClass (newarray.typeOf atype) ∈ lt_T) (ht : t ∈ lt_codes) (hty : lt_aty t = newarray.typeOf atype) (hn : ¬ n < 0) (hN : n.toNatClampNeg = N) (hbytes : N * componentBytes (newarray.typeOf atype) ≤ 536870912)
    (hdef : defaultValue (lt_aty t) = hv_fv (lt_aty t) hv_zero 0 0) (kk : hv_sh σ (hv_n σ) = none → Lk G μ d (pc + 2) lo (vR (some (hv_n σ)) :: st) (hv_new σ (1000 + t, N)) mc ms X) : Lk G μ d pc lo (vI n :: st) σ (mc + 1) (ms + N) X := lt_newarray hd hw ht hty hn hN hbytes hdef kk
theorem lk_anew {t idx : Nat} {C : String} {n : Int32} {N : Nat} (hd : decode μ.2.1 pc = .ok (.anewarray idx, 3)) (hcl : Cond.classLink μ.1.cls idx C ∈ lt_T) (ht : t ∈ lt_codes) (hty : lt_aty t = .object C) (hw : Cond.arrayOver (.object C) ∈ lt_N) (hn : ¬ n < 0) (hN : n.toNatClampNeg = N) (hbytes : N * 4 ≤ 536870912)
    (kk : hv_sh σ (hv_n σ) = none → Lk G μ d (pc + 3) lo (vR (some (hv_n σ)) :: st) (hv_new σ (1000 + t, N)) mc ms X) : Lk G μ d pc lo (vI n :: st) σ (mc + 1) (ms + N) X := lt_anew hd hcl ht hty hw hn hN hbytes kk
theorem lk_objInit {idx : Nat} {b : Nat} (hd : decode μ.2.1 pc = .ok (.invokespecial idx, 3)) (hlk : Cond.methodLink μ.1.cls idx Lib.objectInit ∈ lt_T) (hin : Cond.instanceMethod Lib.objectInit ∈ lt_T) (hco : Cond.code Lib.objectInit ⟨#[0xb1]⟩ 1 none ∈ lt_T) (hdd : 1 ≤ d) (hcat : (st.map mcat).sum ≤ 8) (kk : Lk G μ d (pc + 3) lo st σ mc ms X) : Lk G μ d pc lo (vR (some b) :: st) σ mc ms X := by
  refine lt_objInit hd hlk hin hco hdd ?_ kk
  rw [List.map_map]
  rw [show (fun v : Value => v.category) ∘ mv = mcat from funext mv_cat]
  exact hcat
end LKI
/-- a contract over mini values: the answer and the view behind it are told -/
def Ck (G : lt_G) (μ : lt_M) (d mc ms : Nat) (as : List mV) (σ : hv_S) (r : Option mV) (σ' : hv_S) : Prop :=
  Ct G μ d mc ms (as.map mv) σ (fun r' s => r' = r.map mv ∧ s = σ')
/-- the points where a method returns r with the view σ' -/
def lk_end (μ : lt_M) (r : Option mV) (σ' : hv_S) : Nat → List (Nat × mV) → List mV → hv_S → Nat → Nat → Prop := fun pc _ st σ _ _ => σ = σ' ∧
  ((decode μ.2.1 pc = .ok (.return_, 1) ∧ μ.2.2.2 = none ∧ st = [] ∧ r = none) ∨
  (∃ (v : Int32) (ty : FieldType), decode μ.2.1 pc = .ok (.ireturn, 1) ∧ μ.2.2.2 = some ty ∧ narrow ty (.int v) = .int v ∧ st = [vI v] ∧ r = some (vI v)) ∨
  (∃ v : Int64, decode μ.2.1 pc = .ok (.lreturn, 1) ∧ μ.2.2.2 = some .long ∧ st = [vJ v] ∧ r = some (vJ v)) ∨
  (∃ (v : Option Nat) (n : String), decode μ.2.1 pc = .ok (.areturn, 1) ∧ μ.2.2.2 = some (.object n) ∧ st = [vR v] ∧ r = some (vR v)))
theorem lk_lg_sl : ∀ (as : List mV), (lg_sl (as.map mv)).length = (as.map mcat).sum
  | [] => rfl
  | v :: as => by
    have h := lk_lg_sl as
    unfold lg_sl at h ⊢
    rw [List.map_cons, List.flatMap_cons, List.length_append, h, List.map_cons, List.sum_cons, mv_cat]
    match v with
    | .inl x => rfl
    | .inr (.inl x) => rfl
    | .inr (.inr r) => rfl
def mk_args : Nat → List mV → List (Nat × mV)
  | _, [] => []
  | i, v :: vs => (i, v) :: mk_args (if mcat v = 2 then i + 2 else i + 1) vs
theorem mk_args_map : ∀ (as : List mV) (i : Nat), lv_args i (as.map mv) = (mk_args i as).map cv
  | [], i => rfl
  | v :: as, i => by
    show (i, mv v) :: lv_args (if (mv v).category = 2 then i + 2 else i + 1) (as.map mv) = (i, mv v) :: (mk_args (if mcat v = 2 then i + 2 else i + 1) as).map cv
    rw [mv_cat, mk_args_map]
theorem Ck.of {G : lt_G} {μ : lt_M} {d mc ms : Nat} {as : List mV} {σ σ' : hv_S} {r : Option mV} (hy : plainName μ.1.cls = true) (hlen : (as.map mcat).sum ≤ μ.2.2.1) (h : Lk G μ d 0 (mk_args 0 as) [] σ mc ms (lk_end μ r σ')) : Ck G μ d mc ms as σ r σ' := by
  refine Ct.of hy (by rw [lk_lg_sl]; exact hlen) ?_
  rw [mk_args_map]
  refine Lt.trans h (fun pc' lo' st' σ1 mc' ms' hx => Lt.stop ?_)
  obtain ⟨lo2, st2, rfl, rfl, rfl, hx⟩ := hx
  rcases hx with ⟨h1, h2, rfl, rfl⟩ | ⟨v, ty, h1, h2, h3, rfl, rfl⟩ | ⟨v, h1, h2, rfl, rfl⟩ | ⟨v, n, h1, h2, rfl, rfl⟩
  · exact Or.inl ⟨h1, h2, rfl, rfl, rfl⟩
  · exact Or.inr (Or.inl ⟨v, ty, h1, h2, h3, rfl, rfl, rfl⟩)
  · exact Or.inr (Or.inr (Or.inl ⟨v, h1, h2, rfl, rfl, rfl⟩))
  · exact Or.inr (Or.inr (Or.inr ⟨v, _, h1, h2, Or.inl ⟨n, rfl⟩, rfl, rfl, rfl⟩))
section LKJ
variable {G : lt_G} {μ μ' : lt_M} {d d' pc : Nat} {lo lo' : List (Nat × mV)} {st0 st as : List mV} {σ σ1 : hv_S} {mc ms mc' ms' : Nat} {X : Nat → List (Nat × mV) → List mV → hv_S → Nat → Nat → Prop} {r : Option mV}
theorem mk_cats (l : List mV) : ((l.map mv).map fun v => v.category) = l.map mcat := by
  rw [List.map_map, show (fun v : Value => v.category) ∘ mv = mcat from funext mv_cat]
theorem mk_rest (r : Option mV) (l : List mV) : (r.map mv).toList ++ l.map mv = (r.toList ++ l).map mv := by
  cases r <;> simp
theorem lk_callV {ci b idx : Nat} {rr : Option Nat} {C : String} {T : u_T} {N : Nat} (hd : decode μ.2.1 pc = .ok (.invokevirtual idx, 3)) (hx : x_ob σ ci rr = some b) (hct : Ck G μ' d' mc' ms' (vR (some b) :: as) σ r σ1) (hdd : d' + 1 ≤ d) (hst : st0 = as.reverse ++ vR rr :: st) (hM : lt_M0 μ' as.length) (hlk : lt_lkM μ.1.cls idx μ'.1) (hin : Cond.instanceMethod μ'.1 ∈ lt_T) (hse : Cond.selects C μ'.1 μ'.1 ∈ lt_T)
    (hci : ci < 1000) (hcl : lt_cl[ci]? = some (C, T, N)) (hcat : (st.map mcat).sum ≤ 8) (kk : Lk G μ d (pc + 3) lo (r.toList ++ st) σ1 mc ms X) : Lk G μ d pc lo st0 σ (mc + mc') (ms + ms') X := by
  obtain ⟨rfl, hs⟩ := x_ob_some hx
  refine lt_callV (as := as.map mv) (rest := st.map mv) hd hct hdd (by rw [hst]; simp [mv, va_rf]) (by rw [List.length_map]; exact hM) hlk hin hse hs hci hcl (by rw [mk_cats]; exact hcat) (fun r' s hq => ?_)
  obtain ⟨rfl, rfl⟩ := hq
  rw [mk_rest]
  exact kk
theorem lk_callS {idx : Nat} (hd : decode μ.2.1 pc = .ok (.invokestatic idx, 3)) (hct : Ck G μ' d' mc' ms' as σ r σ1) (hdd : d' + 1 ≤ d) (hst : st0 = as.reverse ++ st) (hM : lt_M0 μ' as.length) (hlk : lt_lkM μ.1.cls idx μ'.1) (hstc : Cond.static μ'.1 ∈ lt_T)
    (hcat : (st.map mcat).sum ≤ 8) (kk : Lk G μ d (pc + 3) lo (r.toList ++ st) σ1 mc ms X) : Lk G μ d pc lo st0 σ (mc + mc') (ms + ms') X := by
  refine lt_callS (as := as.map mv) (rest := st.map mv) hd hct hdd (by rw [hst]; simp) (by rw [List.length_map]; exact hM) hlk hstc (by rw [mk_cats]; exact hcat) (fun r' s hq => ?_)
  obtain ⟨rfl, rfl⟩ := hq
  rw [mk_rest]
  exact kk
theorem lk_callI {y : MethodName} {cc : ByteArray} {nL b idx : Nat} (hd : decode μ.2.1 pc = .ok (.invokespecial idx, 3)) (hct : Ck G (y, cc, nL, none) d' mc' ms' (vR (some b) :: as) σ r σ1) (hdd : d' + 1 ≤ d) (hst : st0 = as.reverse ++ vR (some b) :: st) (hM : lt_M0 (y, cc, nL, none) as.length) (hlk : lt_lkM μ.1.cls idx y) (hin : Cond.instanceMethod y ∈ lt_T) (hname : y.name = "<init>")
    (hcat : (st.map mcat).sum ≤ 8) (kk : Lk G μ d (pc + 3) lo (r.toList ++ st) σ1 mc ms X) : Lk G μ d pc lo st0 σ (mc + mc') (ms + ms') X := by
  refine lt_callI (as := as.map mv) (rest := st.map mv) hd hct hdd (by rw [hst]; simp [mv, va_rf]) (by rw [List.length_map]; exact hM) hlk hin hname (by rw [mk_cats]; exact hcat) (fun r' s hq => ?_)
  obtain ⟨rfl, rfl⟩ := hq
  rw [mk_rest]
  exact kk
end LKJ
end
