/-! METHODS: names, code, decode rows, words; printed by wip/whole/gen_methods.py -/
abbrev m_C_init : lt_M := (⟨"LinearSearch", "<init>", "(I)V"⟩, prog_1_method_1_code, 2, none)
theorem d_C_init_0 : decode prog_1_method_1_code 0 = .ok (.aload_n 0, 1) := by decide +kernel
theorem d_C_init_1 : decode prog_1_method_1_code 1 = .ok (.invokespecial 3, 3) := by decide +kernel
theorem d_C_init_4 : decode prog_1_method_1_code 4 = .ok (.aload_n 0, 1) := by decide +kernel
theorem d_C_init_5 : decode prog_1_method_1_code 5 = .ok (.bipush 24, 2) := by decide +kernel
theorem d_C_init_7 : decode prog_1_method_1_code 7 = .ok (.newarray .char, 2) := by decide +kernel
theorem d_C_init_9 : decode prog_1_method_1_code 9 = .ok (.putfield 9, 3) := by decide +kernel
theorem d_C_init_12 : decode prog_1_method_1_code 12 = .ok (.aload_n 0, 1) := by decide +kernel
theorem d_C_init_13 : decode prog_1_method_1_code 13 = .ok (.new 13, 3) := by decide +kernel
theorem d_C_init_16 : decode prog_1_method_1_code 16 = .ok (.dup, 1) := by decide +kernel
theorem d_C_init_17 : decode prog_1_method_1_code 17 = .ok (.invokespecial 15, 3) := by decide +kernel
theorem d_C_init_20 : decode prog_1_method_1_code 20 = .ok (.putfield 16, 3) := by decide +kernel
theorem d_C_init_23 : decode prog_1_method_1_code 23 = .ok (.aload_n 0, 1) := by decide +kernel
theorem d_C_init_24 : decode prog_1_method_1_code 24 = .ok (.new 20, 3) := by decide +kernel
theorem d_C_init_27 : decode prog_1_method_1_code 27 = .ok (.dup, 1) := by decide +kernel
theorem d_C_init_28 : decode prog_1_method_1_code 28 = .ok (.invokespecial 22, 3) := by decide +kernel
theorem d_C_init_31 : decode prog_1_method_1_code 31 = .ok (.putfield 23, 3) := by decide +kernel
theorem d_C_init_34 : decode prog_1_method_1_code 34 = .ok (.aload_n 0, 1) := by decide +kernel
theorem d_C_init_35 : decode prog_1_method_1_code 35 = .ok (.new 27, 3) := by decide +kernel
theorem d_C_init_38 : decode prog_1_method_1_code 38 = .ok (.dup, 1) := by decide +kernel
theorem d_C_init_39 : decode prog_1_method_1_code 39 = .ok (.invokespecial 29, 3) := by decide +kernel
theorem d_C_init_42 : decode prog_1_method_1_code 42 = .ok (.putfield 30, 3) := by decide +kernel
theorem d_C_init_45 : decode prog_1_method_1_code 45 = .ok (.aload_n 0, 1) := by decide +kernel
theorem d_C_init_46 : decode prog_1_method_1_code 46 = .ok (.new 34, 3) := by decide +kernel
theorem d_C_init_49 : decode prog_1_method_1_code 49 = .ok (.dup, 1) := by decide +kernel
theorem d_C_init_50 : decode prog_1_method_1_code 50 = .ok (.invokespecial 36, 3) := by decide +kernel
theorem d_C_init_53 : decode prog_1_method_1_code 53 = .ok (.putfield 37, 3) := by decide +kernel
theorem d_C_init_56 : decode prog_1_method_1_code 56 = .ok (.aload_n 0, 1) := by decide +kernel
theorem d_C_init_57 : decode prog_1_method_1_code 57 = .ok (.new 41, 3) := by decide +kernel
theorem d_C_init_60 : decode prog_1_method_1_code 60 = .ok (.dup, 1) := by decide +kernel
theorem d_C_init_61 : decode prog_1_method_1_code 61 = .ok (.invokespecial 43, 3) := by decide +kernel
theorem d_C_init_64 : decode prog_1_method_1_code 64 = .ok (.putfield 44, 3) := by decide +kernel
theorem d_C_init_67 : decode prog_1_method_1_code 67 = .ok (.aload_n 0, 1) := by decide +kernel
theorem d_C_init_68 : decode prog_1_method_1_code 68 = .ok (.new 48, 3) := by decide +kernel
theorem d_C_init_71 : decode prog_1_method_1_code 71 = .ok (.dup, 1) := by decide +kernel
theorem d_C_init_72 : decode prog_1_method_1_code 72 = .ok (.invokespecial 50, 3) := by decide +kernel
theorem d_C_init_75 : decode prog_1_method_1_code 75 = .ok (.putfield 51, 3) := by decide +kernel
theorem d_C_init_78 : decode prog_1_method_1_code 78 = .ok (.aload_n 0, 1) := by decide +kernel
theorem d_C_init_79 : decode prog_1_method_1_code 79 = .ok (.new 48, 3) := by decide +kernel
theorem d_C_init_82 : decode prog_1_method_1_code 82 = .ok (.dup, 1) := by decide +kernel
theorem d_C_init_83 : decode prog_1_method_1_code 83 = .ok (.invokespecial 50, 3) := by decide +kernel
theorem d_C_init_86 : decode prog_1_method_1_code 86 = .ok (.putfield 55, 3) := by decide +kernel
theorem d_C_init_89 : decode prog_1_method_1_code 89 = .ok (.aload_n 0, 1) := by decide +kernel
theorem d_C_init_90 : decode prog_1_method_1_code 90 = .ok (.lconst 0, 1) := by decide +kernel
theorem d_C_init_91 : decode prog_1_method_1_code 91 = .ok (.putfield 58, 3) := by decide +kernel
theorem d_C_init_94 : decode prog_1_method_1_code 94 = .ok (.aload_n 0, 1) := by decide +kernel
theorem d_C_init_95 : decode prog_1_method_1_code 95 = .ok (.iconst (-1), 1) := by decide +kernel
theorem d_C_init_96 : decode prog_1_method_1_code 96 = .ok (.putfield 62, 3) := by decide +kernel
theorem d_C_init_99 : decode prog_1_method_1_code 99 = .ok (.aload_n 0, 1) := by decide +kernel
theorem d_C_init_100 : decode prog_1_method_1_code 100 = .ok (.iconst (-1), 1) := by decide +kernel
theorem d_C_init_101 : decode prog_1_method_1_code 101 = .ok (.putfield 66, 3) := by decide +kernel
theorem d_C_init_104 : decode prog_1_method_1_code 104 = .ok (.aload_n 0, 1) := by decide +kernel
theorem d_C_init_105 : decode prog_1_method_1_code 105 = .ok (.new 69, 3) := by decide +kernel
theorem d_C_init_108 : decode prog_1_method_1_code 108 = .ok (.dup, 1) := by decide +kernel
theorem d_C_init_109 : decode prog_1_method_1_code 109 = .ok (.iconst 3, 1) := by decide +kernel
theorem d_C_init_110 : decode prog_1_method_1_code 110 = .ok (.iload_n 1, 1) := by decide +kernel
theorem d_C_init_111 : decode prog_1_method_1_code 111 = .ok (.bipush 15, 2) := by decide +kernel
theorem d_C_init_113 : decode prog_1_method_1_code 113 = .ok (.iand, 1) := by decide +kernel
theorem d_C_init_114 : decode prog_1_method_1_code 114 = .ok (.iadd, 1) := by decide +kernel
theorem d_C_init_115 : decode prog_1_method_1_code 115 = .ok (.invokespecial 71, 3) := by decide +kernel
theorem d_C_init_118 : decode prog_1_method_1_code 118 = .ok (.putfield 74, 3) := by decide +kernel
theorem d_C_init_121 : decode prog_1_method_1_code 121 = .ok (.return_, 1) := by decide +kernel
theorem M_C_init : lt_M0 m_C_init 1 := ⟨lt_m1 25 rfl rfl, lt_m1 1 rfl rfl, ⟨by decide +kernel, by decide +kernel, by decide +kernel⟩, by decide⟩
theorem in_C_init : Cond.instanceMethod m_C_init.1 ∈ lt_T := lt_m1 24 rfl rfl
abbrev m_Wr_init : lt_M := (⟨"LinearSearch$Writer", "<init>", "()V"⟩, prog_11_method_1_code, 1, none)
theorem d_Wr_init_0 : decode prog_11_method_1_code 0 = .ok (.aload_n 0, 1) := by decide +kernel
theorem d_Wr_init_1 : decode prog_11_method_1_code 1 = .ok (.invokespecial 3, 3) := by decide +kernel
theorem d_Wr_init_4 : decode prog_11_method_1_code 4 = .ok (.return_, 1) := by decide +kernel
theorem M_Wr_init : lt_M0 m_Wr_init 0 := ⟨lt_m1 33 rfl rfl, lt_m1 2 rfl rfl, ⟨by decide +kernel, by decide +kernel, by decide +kernel⟩, by decide⟩
theorem in_Wr_init : Cond.instanceMethod m_Wr_init.1 ∈ lt_T := lt_m1 32 rfl rfl
abbrev m_Mt_max : lt_M := (⟨"java/lang/Math", "max", "(II)I"⟩, prog_18_method_65_code, 2, (some .int))
theorem d_Mt_max_0 : decode prog_18_method_65_code 0 = .ok (.iload_n 0, 1) := by decide +kernel
theorem d_Mt_max_1 : decode prog_18_method_65_code 1 = .ok (.iload_n 1, 1) := by decide +kernel
theorem d_Mt_max_2 : decode prog_18_method_65_code 2 = .ok (.if_icmp .lt 7, 3) := by decide +kernel
theorem d_Mt_max_5 : decode prog_18_method_65_code 5 = .ok (.iload_n 0, 1) := by decide +kernel
theorem d_Mt_max_6 : decode prog_18_method_65_code 6 = .ok (.goto 4, 3) := by decide +kernel
theorem d_Mt_max_9 : decode prog_18_method_65_code 9 = .ok (.iload_n 1, 1) := by decide +kernel
theorem d_Mt_max_10 : decode prog_18_method_65_code 10 = .ok (.ireturn, 1) := by decide +kernel
theorem M_Mt_max : lt_M0 m_Mt_max 2 := ⟨lt_m2 11 rfl rfl, lt_m1 12 rfl rfl, ⟨by decide +kernel, by decide +kernel, by decide +kernel⟩, by decide⟩
theorem st_Mt_max : Cond.static m_Mt_max.1 ∈ lt_T := lt_m2 10 rfl rfl
abbrev m_C_type : lt_M := (⟨"LinearSearch", "type", "(C)Z"⟩, prog_1_method_2_code, 2, (some .boolean))
theorem d_C_type_0 : decode prog_1_method_2_code 0 = .ok (.aload_n 0, 1) := by decide +kernel
theorem d_C_type_1 : decode prog_1_method_2_code 1 = .ok (.getfield 78, 3) := by decide +kernel
theorem d_C_type_4 : decode prog_1_method_2_code 4 = .ok (.ifCond .lt 15, 3) := by decide +kernel
theorem d_C_type_7 : decode prog_1_method_2_code 7 = .ok (.aload_n 0, 1) := by decide +kernel
theorem d_C_type_8 : decode prog_1_method_2_code 8 = .ok (.getfield 78, 3) := by decide +kernel
theorem d_C_type_11 : decode prog_1_method_2_code 11 = .ok (.aload_n 0, 1) := by decide +kernel
theorem d_C_type_12 : decode prog_1_method_2_code 12 = .ok (.getfield 9, 3) := by decide +kernel
theorem d_C_type_15 : decode prog_1_method_2_code 15 = .ok (.arraylength, 1) := by decide +kernel
theorem d_C_type_16 : decode prog_1_method_2_code 16 = .ok (.if_icmp .lt 5, 3) := by decide +kernel
theorem d_C_type_19 : decode prog_1_method_2_code 19 = .ok (.iconst 0, 1) := by decide +kernel
theorem d_C_type_20 : decode prog_1_method_2_code 20 = .ok (.ireturn, 1) := by decide +kernel
theorem d_C_type_21 : decode prog_1_method_2_code 21 = .ok (.aload_n 0, 1) := by decide +kernel
theorem d_C_type_22 : decode prog_1_method_2_code 22 = .ok (.getfield 9, 3) := by decide +kernel
theorem d_C_type_25 : decode prog_1_method_2_code 25 = .ok (.aload_n 0, 1) := by decide +kernel
theorem d_C_type_26 : decode prog_1_method_2_code 26 = .ok (.getfield 78, 3) := by decide +kernel
theorem d_C_type_29 : decode prog_1_method_2_code 29 = .ok (.iload_n 1, 1) := by decide +kernel
theorem d_C_type_30 : decode prog_1_method_2_code 30 = .ok (.castore, 1) := by decide +kernel
theorem d_C_type_31 : decode prog_1_method_2_code 31 = .ok (.aload_n 0, 1) := by decide +kernel
theorem d_C_type_32 : decode prog_1_method_2_code 32 = .ok (.dup, 1) := by decide +kernel
theorem d_C_type_33 : decode prog_1_method_2_code 33 = .ok (.getfield 78, 3) := by decide +kernel
theorem d_C_type_36 : decode prog_1_method_2_code 36 = .ok (.iconst 1, 1) := by decide +kernel
theorem d_C_type_37 : decode prog_1_method_2_code 37 = .ok (.iadd, 1) := by decide +kernel
theorem d_C_type_38 : decode prog_1_method_2_code 38 = .ok (.putfield 78, 3) := by decide +kernel
theorem d_C_type_41 : decode prog_1_method_2_code 41 = .ok (.iconst 1, 1) := by decide +kernel
theorem d_C_type_42 : decode prog_1_method_2_code 42 = .ok (.ireturn, 1) := by decide +kernel
theorem M_C_type : lt_M0 m_C_type 1 := ⟨lt_m2 84 rfl rfl, lt_m1 1 rfl rfl, ⟨by decide +kernel, by decide +kernel, by decide +kernel⟩, by decide⟩
theorem in_C_type : Cond.instanceMethod m_C_type.1 ∈ lt_T := lt_m2 82 rfl rfl
theorem se_C_type : Cond.selects "LinearSearch" m_C_type.1 m_C_type.1 ∈ lt_T := lt_m2 83 rfl rfl
abbrev m_C_wipe : lt_M := (⟨"LinearSearch", "wipe", "()V"⟩, prog_1_method_3_code, 1, none)
theorem d_C_wipe_0 : decode prog_1_method_3_code 0 = .ok (.aload_n 0, 1) := by decide +kernel
theorem d_C_wipe_1 : decode prog_1_method_3_code 1 = .ok (.iconst 0, 1) := by decide +kernel
theorem d_C_wipe_2 : decode prog_1_method_3_code 2 = .ok (.putfield 78, 3) := by decide +kernel
theorem d_C_wipe_5 : decode prog_1_method_3_code 5 = .ok (.return_, 1) := by decide +kernel
theorem M_C_wipe : lt_M0 m_C_wipe 0 := ⟨lt_m2 88 rfl rfl, lt_m1 1 rfl rfl, ⟨by decide +kernel, by decide +kernel, by decide +kernel⟩, by decide⟩
theorem in_C_wipe : Cond.instanceMethod m_C_wipe.1 ∈ lt_T := lt_m2 86 rfl rfl
theorem se_C_wipe : Cond.selects "LinearSearch" m_C_wipe.1 m_C_wipe.1 ∈ lt_T := lt_m2 87 rfl rfl
abbrev m_C_feed : lt_M := (⟨"LinearSearch", "feed", "(C)Z"⟩, prog_1_method_7_code, 2, (some .boolean))
theorem d_C_feed_0 : decode prog_1_method_7_code 0 = .ok (.aload_n 0, 1) := by decide +kernel
theorem d_C_feed_1 : decode prog_1_method_7_code 1 = .ok (.getfield 23, 3) := by decide +kernel
theorem d_C_feed_4 : decode prog_1_method_7_code 4 = .ok (.iload_n 1, 1) := by decide +kernel
theorem d_C_feed_5 : decode prog_1_method_7_code 5 = .ok (.invokevirtual 132, 3) := by decide +kernel
theorem d_C_feed_8 : decode prog_1_method_7_code 8 = .ok (.ifCond .ne 5, 3) := by decide +kernel
theorem d_C_feed_11 : decode prog_1_method_7_code 11 = .ok (.iconst 0, 1) := by decide +kernel
theorem d_C_feed_12 : decode prog_1_method_7_code 12 = .ok (.ireturn, 1) := by decide +kernel
theorem d_C_feed_13 : decode prog_1_method_7_code 13 = .ok (.aload_n 0, 1) := by decide +kernel
theorem d_C_feed_14 : decode prog_1_method_7_code 14 = .ok (.invokevirtual 103, 3) := by decide +kernel
theorem d_C_feed_17 : decode prog_1_method_7_code 17 = .ok (.iconst 1, 1) := by decide +kernel
theorem d_C_feed_18 : decode prog_1_method_7_code 18 = .ok (.ireturn, 1) := by decide +kernel
theorem M_C_feed : lt_M0 m_C_feed 1 := ⟨lt_m2 92 rfl rfl, lt_m1 1 rfl rfl, ⟨by decide +kernel, by decide +kernel, by decide +kernel⟩, by decide⟩
theorem in_C_feed : Cond.instanceMethod m_C_feed.1 ∈ lt_T := lt_m2 90 rfl rfl
theorem se_C_feed : Cond.selects "LinearSearch" m_C_feed.1 m_C_feed.1 ∈ lt_T := lt_m2 91 rfl rfl
abbrev m_C_forgetSearch : lt_M := (⟨"LinearSearch", "forgetSearch", "()V"⟩, prog_1_method_21_code, 1, none)
theorem d_C_forgetSearch_0 : decode prog_1_method_21_code 0 = .ok (.aload_n 0, 1) := by decide +kernel
theorem d_C_forgetSearch_1 : decode prog_1_method_21_code 1 = .ok (.lconst 0, 1) := by decide +kernel
theorem d_C_forgetSearch_2 : decode prog_1_method_21_code 2 = .ok (.putfield 58, 3) := by decide +kernel
theorem d_C_forgetSearch_5 : decode prog_1_method_21_code 5 = .ok (.aload_n 0, 1) := by decide +kernel
theorem d_C_forgetSearch_6 : decode prog_1_method_21_code 6 = .ok (.iconst (-1), 1) := by decide +kernel
theorem d_C_forgetSearch_7 : decode prog_1_method_21_code 7 = .ok (.iconst (-1), 1) := by decide +kernel
theorem d_C_forgetSearch_8 : decode prog_1_method_21_code 8 = .ok (.invokevirtual 153, 3) := by decide +kernel
theorem d_C_forgetSearch_11 : decode prog_1_method_21_code 11 = .ok (.return_, 1) := by decide +kernel
theorem M_C_forgetSearch : lt_M0 m_C_forgetSearch 0 := ⟨lt_m2 100 rfl rfl, lt_m1 1 rfl rfl, ⟨by decide +kernel, by decide +kernel, by decide +kernel⟩, by decide⟩
theorem in_C_forgetSearch : Cond.instanceMethod m_C_forgetSearch.1 ∈ lt_T := lt_m2 99 rfl rfl
theorem se_C_forgetSearch : Cond.selects "LinearSearch" m_C_forgetSearch.1 m_C_forgetSearch.1 ∈ lt_T := lt_memS 0 rfl rfl
abbrev m_C_note : lt_M := (⟨"LinearSearch", "note", "(II)V"⟩, prog_1_method_20_code, 3, none)
theorem d_C_note_0 : decode prog_1_method_20_code 0 = .ok (.aload_n 0, 1) := by decide +kernel
theorem d_C_note_1 : decode prog_1_method_20_code 1 = .ok (.iload_n 1, 1) := by decide +kernel
theorem d_C_note_2 : decode prog_1_method_20_code 2 = .ok (.putfield 66, 3) := by decide +kernel
theorem d_C_note_5 : decode prog_1_method_20_code 5 = .ok (.aload_n 0, 1) := by decide +kernel
theorem d_C_note_6 : decode prog_1_method_20_code 6 = .ok (.iload_n 2, 1) := by decide +kernel
theorem d_C_note_7 : decode prog_1_method_20_code 7 = .ok (.putfield 62, 3) := by decide +kernel
theorem d_C_note_10 : decode prog_1_method_20_code 10 = .ok (.return_, 1) := by decide +kernel
theorem M_C_note : lt_M0 m_C_note 2 := ⟨lt_m2 104 rfl rfl, lt_m1 1 rfl rfl, ⟨by decide +kernel, by decide +kernel, by decide +kernel⟩, by decide⟩
theorem in_C_note : Cond.instanceMethod m_C_note.1 ∈ lt_T := lt_m2 103 rfl rfl
theorem se_C_note : Cond.selects "LinearSearch" m_C_note.1 m_C_note.1 ∈ lt_T := lt_memS 1 rfl rfl
abbrev m_C_clear : lt_M := (⟨"LinearSearch", "clear", "()V"⟩, prog_1_method_8_code, 1, none)
theorem d_C_clear_0 : decode prog_1_method_8_code 0 = .ok (.aload_n 0, 1) := by decide +kernel
theorem d_C_clear_1 : decode prog_1_method_8_code 1 = .ok (.getfield 23, 3) := by decide +kernel
theorem d_C_clear_4 : decode prog_1_method_8_code 4 = .ok (.invokevirtual 136, 3) := by decide +kernel
theorem d_C_clear_7 : decode prog_1_method_8_code 7 = .ok (.aload_n 0, 1) := by decide +kernel
theorem d_C_clear_8 : decode prog_1_method_8_code 8 = .ok (.invokevirtual 103, 3) := by decide +kernel
theorem d_C_clear_11 : decode prog_1_method_8_code 11 = .ok (.return_, 1) := by decide +kernel
theorem M_C_clear : lt_M0 m_C_clear 0 := ⟨lt_m2 108 rfl rfl, lt_m1 1 rfl rfl, ⟨by decide +kernel, by decide +kernel, by decide +kernel⟩, by decide⟩
theorem in_C_clear : Cond.instanceMethod m_C_clear.1 ∈ lt_T := lt_m2 106 rfl rfl
theorem se_C_clear : Cond.selects "LinearSearch" m_C_clear.1 m_C_clear.1 ∈ lt_T := lt_m2 107 rfl rfl
abbrev m_C_work : lt_M := (⟨"LinearSearch", "work", "()I"⟩, prog_1_method_11_code, 1, (some .int))
theorem d_C_work_0 : decode prog_1_method_11_code 0 = .ok (.aload_n 0, 1) := by decide +kernel
theorem d_C_work_1 : decode prog_1_method_11_code 1 = .ok (.getfield 62, 3) := by decide +kernel
theorem d_C_work_4 : decode prog_1_method_11_code 4 = .ok (.ireturn, 1) := by decide +kernel
theorem M_C_work : lt_M0 m_C_work 0 := ⟨lt_m2 116 rfl rfl, lt_m1 1 rfl rfl, ⟨by decide +kernel, by decide +kernel, by decide +kernel⟩, by decide⟩
theorem in_C_work : Cond.instanceMethod m_C_work.1 ∈ lt_T := lt_m2 114 rfl rfl
theorem se_C_work : Cond.selects "LinearSearch" m_C_work.1 m_C_work.1 ∈ lt_T := lt_m2 115 rfl rfl
abbrev m_C_matcher : lt_M := (⟨"LinearSearch", "matcher", "()I"⟩, prog_1_method_12_code, 1, (some .int))
theorem d_C_matcher_0 : decode prog_1_method_12_code 0 = .ok (.aload_n 0, 1) := by decide +kernel
theorem d_C_matcher_1 : decode prog_1_method_12_code 1 = .ok (.getfield 66, 3) := by decide +kernel
theorem d_C_matcher_4 : decode prog_1_method_12_code 4 = .ok (.ireturn, 1) := by decide +kernel
theorem M_C_matcher : lt_M0 m_C_matcher 0 := ⟨lt_m2 120 rfl rfl, lt_m1 1 rfl rfl, ⟨by decide +kernel, by decide +kernel, by decide +kernel⟩, by decide⟩
theorem in_C_matcher : Cond.instanceMethod m_C_matcher.1 ∈ lt_T := lt_m2 118 rfl rfl
theorem se_C_matcher : Cond.selects "LinearSearch" m_C_matcher.1 m_C_matcher.1 ∈ lt_T := lt_m2 119 rfl rfl
abbrev m_C_states : lt_M := (⟨"LinearSearch", "states", "()I"⟩, prog_1_method_13_code, 1, (some .int))
theorem d_C_states_0 : decode prog_1_method_13_code 0 = .ok (.aload_n 0, 1) := by decide +kernel
theorem d_C_states_1 : decode prog_1_method_13_code 1 = .ok (.getfield 74, 3) := by decide +kernel
theorem d_C_states_4 : decode prog_1_method_13_code 4 = .ok (.invokevirtual 173, 3) := by decide +kernel
theorem d_C_states_7 : decode prog_1_method_13_code 7 = .ok (.ireturn, 1) := by decide +kernel
theorem M_C_states : lt_M0 m_C_states 0 := ⟨lt_m2 124 rfl rfl, lt_m1 1 rfl rfl, ⟨by decide +kernel, by decide +kernel, by decide +kernel⟩, by decide⟩
theorem in_C_states : Cond.instanceMethod m_C_states.1 ∈ lt_T := lt_m2 122 rfl rfl
theorem se_C_states : Cond.selects "LinearSearch" m_C_states.1 m_C_states.1 ∈ lt_T := lt_m2 123 rfl rfl
abbrev m_C_flushes : lt_M := (⟨"LinearSearch", "flushes", "()I"⟩, prog_1_method_14_code, 1, (some .int))
theorem d_C_flushes_0 : decode prog_1_method_14_code 0 = .ok (.aload_n 0, 1) := by decide +kernel
theorem d_C_flushes_1 : decode prog_1_method_14_code 1 = .ok (.getfield 74, 3) := by decide +kernel
theorem d_C_flushes_4 : decode prog_1_method_14_code 4 = .ok (.invokevirtual 176, 3) := by decide +kernel
theorem d_C_flushes_7 : decode prog_1_method_14_code 7 = .ok (.ireturn, 1) := by decide +kernel
theorem M_C_flushes : lt_M0 m_C_flushes 0 := ⟨lt_m2 132 rfl rfl, lt_m1 1 rfl rfl, ⟨by decide +kernel, by decide +kernel, by decide +kernel⟩, by decide⟩
theorem in_C_flushes : Cond.instanceMethod m_C_flushes.1 ∈ lt_T := lt_m2 130 rfl rfl
theorem se_C_flushes : Cond.selects "LinearSearch" m_C_flushes.1 m_C_flushes.1 ∈ lt_T := lt_m2 131 rfl rfl
abbrev m_C_compile : lt_M := (⟨"LinearSearch", "compile", "()I"⟩, prog_1_method_4_code, 2, (some .int))
theorem d_C_compile_0 : decode prog_1_method_4_code 0 = .ok (.aload_n 0, 1) := by decide +kernel
theorem d_C_compile_1 : decode prog_1_method_4_code 1 = .ok (.getfield 16, 3) := by decide +kernel
theorem d_C_compile_4 : decode prog_1_method_4_code 4 = .ok (.aload_n 0, 1) := by decide +kernel
theorem d_C_compile_5 : decode prog_1_method_4_code 5 = .ok (.getfield 9, 3) := by decide +kernel
theorem d_C_compile_8 : decode prog_1_method_4_code 8 = .ok (.aload_n 0, 1) := by decide +kernel
theorem d_C_compile_9 : decode prog_1_method_4_code 9 = .ok (.getfield 78, 3) := by decide +kernel
theorem d_C_compile_12 : decode prog_1_method_4_code 12 = .ok (.aload_n 0, 1) := by decide +kernel
theorem d_C_compile_13 : decode prog_1_method_4_code 13 = .ok (.getfield 55, 3) := by decide +kernel
theorem d_C_compile_16 : decode prog_1_method_4_code 16 = .ok (.invokevirtual 81, 3) := by decide +kernel
theorem d_C_compile_19 : decode prog_1_method_4_code 19 = .ok (.ifCond .ne 13, 3) := by decide +kernel
theorem d_C_compile_22 : decode prog_1_method_4_code 22 = .ok (.new 85, 3) := by decide +kernel
theorem d_C_compile_25 : decode prog_1_method_4_code 25 = .ok (.dup, 1) := by decide +kernel
theorem d_C_compile_26 : decode prog_1_method_4_code 26 = .ok (.ldc 87, 2) := by decide +kernel
theorem d_C_compile_28 : decode prog_1_method_4_code 28 = .ok (.invokespecial 89, 3) := by decide +kernel
theorem d_C_compile_31 : decode prog_1_method_4_code 31 = .ok (.athrow, 1) := by decide +kernel
theorem d_C_compile_32 : decode prog_1_method_4_code 32 = .ok (.aload_n 0, 1) := by decide +kernel
theorem d_C_compile_33 : decode prog_1_method_4_code 33 = .ok (.getfield 51, 3) := by decide +kernel
theorem d_C_compile_36 : decode prog_1_method_4_code 36 = .ok (.astore_n 1, 1) := by decide +kernel
theorem d_C_compile_37 : decode prog_1_method_4_code 37 = .ok (.aload_n 0, 1) := by decide +kernel
theorem d_C_compile_38 : decode prog_1_method_4_code 38 = .ok (.aload_n 0, 1) := by decide +kernel
theorem d_C_compile_39 : decode prog_1_method_4_code 39 = .ok (.getfield 55, 3) := by decide +kernel
theorem d_C_compile_42 : decode prog_1_method_4_code 42 = .ok (.putfield 51, 3) := by decide +kernel
theorem d_C_compile_45 : decode prog_1_method_4_code 45 = .ok (.aload_n 0, 1) := by decide +kernel
theorem d_C_compile_46 : decode prog_1_method_4_code 46 = .ok (.aload_n 1, 1) := by decide +kernel
theorem d_C_compile_47 : decode prog_1_method_4_code 47 = .ok (.putfield 55, 3) := by decide +kernel
theorem d_C_compile_50 : decode prog_1_method_4_code 50 = .ok (.aload_n 0, 1) := by decide +kernel
theorem d_C_compile_51 : decode prog_1_method_4_code 51 = .ok (.aload_n 0, 1) := by decide +kernel
theorem d_C_compile_52 : decode prog_1_method_4_code 52 = .ok (.getfield 44, 3) := by decide +kernel
theorem d_C_compile_55 : decode prog_1_method_4_code 55 = .ok (.aload_n 0, 1) := by decide +kernel
theorem d_C_compile_56 : decode prog_1_method_4_code 56 = .ok (.getfield 51, 3) := by decide +kernel
theorem d_C_compile_59 : decode prog_1_method_4_code 59 = .ok (.invokevirtual 92, 3) := by decide +kernel
theorem d_C_compile_62 : decode prog_1_method_4_code 62 = .ok (.putfield 96, 3) := by decide +kernel
theorem d_C_compile_65 : decode prog_1_method_4_code 65 = .ok (.aload_n 0, 1) := by decide +kernel
theorem d_C_compile_66 : decode prog_1_method_4_code 66 = .ok (.getfield 74, 3) := by decide +kernel
theorem d_C_compile_69 : decode prog_1_method_4_code 69 = .ok (.invokevirtual 100, 3) := by decide +kernel
theorem d_C_compile_72 : decode prog_1_method_4_code 72 = .ok (.aload_n 0, 1) := by decide +kernel
theorem d_C_compile_73 : decode prog_1_method_4_code 73 = .ok (.invokevirtual 103, 3) := by decide +kernel
theorem d_C_compile_76 : decode prog_1_method_4_code 76 = .ok (.aload_n 0, 1) := by decide +kernel
theorem d_C_compile_77 : decode prog_1_method_4_code 77 = .ok (.getfield 51, 3) := by decide +kernel
theorem d_C_compile_80 : decode prog_1_method_4_code 80 = .ok (.invokevirtual 106, 3) := by decide +kernel
theorem d_C_compile_83 : decode prog_1_method_4_code 83 = .ok (.ireturn, 1) := by decide +kernel
theorem M_C_compile : lt_M0 m_C_compile 0 := ⟨lt_m2 147 rfl rfl, lt_m1 1 rfl rfl, ⟨by decide +kernel, by decide +kernel, by decide +kernel⟩, by decide⟩
theorem in_C_compile : Cond.instanceMethod m_C_compile.1 ∈ lt_T := lt_m2 145 rfl rfl
theorem se_C_compile : Cond.selects "LinearSearch" m_C_compile.1 m_C_compile.1 ∈ lt_T := lt_m2 146 rfl rfl
abbrev m_Wr_write : lt_M := (⟨"LinearSearch$Writer", "write", "([CILLinearSearch$Program;)Z"⟩, prog_11_method_2_code, 5, (some .boolean))
theorem d_Wr_write_0 : decode prog_11_method_2_code 0 = .ok (.aload_n 1, 1) := by decide +kernel
theorem d_Wr_write_1 : decode prog_11_method_2_code 1 = .ok (.ifnull 7, 3) := by decide +kernel
theorem d_Wr_write_4 : decode prog_11_method_2_code 4 = .ok (.aload_n 3, 1) := by decide +kernel
theorem d_Wr_write_5 : decode prog_11_method_2_code 5 = .ok (.ifnonnull 5, 3) := by decide +kernel
theorem d_Wr_write_8 : decode prog_11_method_2_code 8 = .ok (.iconst 0, 1) := by decide +kernel
theorem d_Wr_write_9 : decode prog_11_method_2_code 9 = .ok (.ireturn, 1) := by decide +kernel
theorem d_Wr_write_10 : decode prog_11_method_2_code 10 = .ok (.aload_n 0, 1) := by decide +kernel
theorem d_Wr_write_11 : decode prog_11_method_2_code 11 = .ok (.aload_n 1, 1) := by decide +kernel
theorem d_Wr_write_12 : decode prog_11_method_2_code 12 = .ok (.putfield 9, 3) := by decide +kernel
theorem d_Wr_write_15 : decode prog_11_method_2_code 15 = .ok (.aload_n 0, 1) := by decide +kernel
theorem d_Wr_write_16 : decode prog_11_method_2_code 16 = .ok (.iload_n 2, 1) := by decide +kernel
theorem d_Wr_write_17 : decode prog_11_method_2_code 17 = .ok (.putfield 15, 3) := by decide +kernel
theorem d_Wr_write_20 : decode prog_11_method_2_code 20 = .ok (.aload_n 0, 1) := by decide +kernel
theorem d_Wr_write_21 : decode prog_11_method_2_code 21 = .ok (.aload_n 3, 1) := by decide +kernel
theorem d_Wr_write_22 : decode prog_11_method_2_code 22 = .ok (.putfield 19, 3) := by decide +kernel
theorem d_Wr_write_25 : decode prog_11_method_2_code 25 = .ok (.aload_n 0, 1) := by decide +kernel
theorem d_Wr_write_26 : decode prog_11_method_2_code 26 = .ok (.iconst 0, 1) := by decide +kernel
theorem d_Wr_write_27 : decode prog_11_method_2_code 27 = .ok (.putfield 23, 3) := by decide +kernel
theorem d_Wr_write_30 : decode prog_11_method_2_code 30 = .ok (.aload_n 0, 1) := by decide +kernel
theorem d_Wr_write_31 : decode prog_11_method_2_code 31 = .ok (.iconst 0, 1) := by decide +kernel
theorem d_Wr_write_32 : decode prog_11_method_2_code 32 = .ok (.putfield 26, 3) := by decide +kernel
theorem d_Wr_write_35 : decode prog_11_method_2_code 35 = .ok (.aload_n 0, 1) := by decide +kernel
theorem d_Wr_write_36 : decode prog_11_method_2_code 36 = .ok (.getfield 19, 3) := by decide +kernel
theorem d_Wr_write_39 : decode prog_11_method_2_code 39 = .ok (.invokevirtual 29, 3) := by decide +kernel
theorem d_Wr_write_42 : decode prog_11_method_2_code 42 = .ok (.aload_n 0, 1) := by decide +kernel
theorem d_Wr_write_43 : decode prog_11_method_2_code 43 = .ok (.invokevirtual 34, 3) := by decide +kernel
theorem d_Wr_write_46 : decode prog_11_method_2_code 46 = .ok (.ifCond .eq 15, 3) := by decide +kernel
theorem d_Wr_write_49 : decode prog_11_method_2_code 49 = .ok (.aload_n 0, 1) := by decide +kernel
theorem d_Wr_write_50 : decode prog_11_method_2_code 50 = .ok (.invokevirtual 38, 3) := by decide +kernel
theorem d_Wr_write_53 : decode prog_11_method_2_code 53 = .ok (.iconst (-1), 1) := by decide +kernel
theorem d_Wr_write_54 : decode prog_11_method_2_code 54 = .ok (.if_icmp .ne 7, 3) := by decide +kernel
theorem d_Wr_write_57 : decode prog_11_method_2_code 57 = .ok (.iconst 1, 1) := by decide +kernel
theorem d_Wr_write_58 : decode prog_11_method_2_code 58 = .ok (.goto 4, 3) := by decide +kernel
theorem d_Wr_write_61 : decode prog_11_method_2_code 61 = .ok (.iconst 0, 1) := by decide +kernel
theorem d_Wr_write_62 : decode prog_11_method_2_code 62 = .ok (.istore 4, 2) := by decide +kernel
theorem d_Wr_write_64 : decode prog_11_method_2_code 64 = .ok (.iload 4, 2) := by decide +kernel
theorem d_Wr_write_66 : decode prog_11_method_2_code 66 = .ok (.ifCond .eq 13, 3) := by decide +kernel
theorem d_Wr_write_69 : decode prog_11_method_2_code 69 = .ok (.aload_n 0, 1) := by decide +kernel
theorem d_Wr_write_70 : decode prog_11_method_2_code 70 = .ok (.getfield 19, 3) := by decide +kernel
theorem d_Wr_write_73 : decode prog_11_method_2_code 73 = .ok (.bipush 7, 2) := by decide +kernel
theorem d_Wr_write_75 : decode prog_11_method_2_code 75 = .ok (.iconst 0, 1) := by decide +kernel
theorem d_Wr_write_76 : decode prog_11_method_2_code 76 = .ok (.invokevirtual 42, 3) := by decide +kernel
theorem d_Wr_write_79 : decode prog_11_method_2_code 79 = .ok (.iload 4, 2) := by decide +kernel
theorem d_Wr_write_81 : decode prog_11_method_2_code 81 = .ok (.ireturn, 1) := by decide +kernel
theorem M_Wr_write : lt_M0 m_Wr_write 3 := ⟨lt_m2 151 rfl rfl, lt_m1 2 rfl rfl, ⟨by decide +kernel, by decide +kernel, by decide +kernel⟩, by decide⟩
theorem in_Wr_write : Cond.instanceMethod m_Wr_write.1 ∈ lt_T := lt_m2 149 rfl rfl
theorem se_Wr_write : Cond.selects "LinearSearch$Writer" m_Wr_write.1 m_Wr_write.1 ∈ lt_T := lt_m2 150 rfl rfl
abbrev m_Wr_writeChoice : lt_M := (⟨"LinearSearch$Writer", "writeChoice", "()Z"⟩, prog_11_method_4_code, 5, (some .boolean))
theorem d_Wr_writeChoice_0 : decode prog_11_method_4_code 0 = .ok (.aload_n 0, 1) := by decide +kernel
theorem d_Wr_writeChoice_1 : decode prog_11_method_4_code 1 = .ok (.getfield 19, 3) := by decide +kernel
theorem d_Wr_writeChoice_4 : decode prog_11_method_4_code 4 = .ok (.invokevirtual 46, 3) := by decide +kernel
theorem d_Wr_writeChoice_7 : decode prog_11_method_4_code 7 = .ok (.istore_n 1, 1) := by decide +kernel
theorem d_Wr_writeChoice_8 : decode prog_11_method_4_code 8 = .ok (.iload_n 1, 1) := by decide +kernel
theorem d_Wr_writeChoice_9 : decode prog_11_method_4_code 9 = .ok (.istore_n 2, 1) := by decide +kernel
theorem d_Wr_writeChoice_10 : decode prog_11_method_4_code 10 = .ok (.aload_n 0, 1) := by decide +kernel
theorem d_Wr_writeChoice_11 : decode prog_11_method_4_code 11 = .ok (.invokevirtual 49, 3) := by decide +kernel
theorem d_Wr_writeChoice_14 : decode prog_11_method_4_code 14 = .ok (.istore_n 3, 1) := by decide +kernel
theorem d_Wr_writeChoice_15 : decode prog_11_method_4_code 15 = .ok (.iconst 0, 1) := by decide +kernel
theorem d_Wr_writeChoice_16 : decode prog_11_method_4_code 16 = .ok (.istore 4, 2) := by decide +kernel
theorem d_Wr_writeChoice_18 : decode prog_11_method_4_code 18 = .ok (.iload 4, 2) := by decide +kernel
theorem d_Wr_writeChoice_20 : decode prog_11_method_4_code 20 = .ok (.bipush 24, 2) := by decide +kernel
theorem d_Wr_writeChoice_22 : decode prog_11_method_4_code 22 = .ok (.if_icmp .ge 78, 3) := by decide +kernel
theorem d_Wr_writeChoice_25 : decode prog_11_method_4_code 25 = .ok (.iload_n 3, 1) := by decide +kernel
theorem d_Wr_writeChoice_26 : decode prog_11_method_4_code 26 = .ok (.ifCond .eq 74, 3) := by decide +kernel
theorem d_Wr_writeChoice_29 : decode prog_11_method_4_code 29 = .ok (.aload_n 0, 1) := by decide +kernel
theorem d_Wr_writeChoice_30 : decode prog_11_method_4_code 30 = .ok (.invokevirtual 38, 3) := by decide +kernel
theorem d_Wr_writeChoice_33 : decode prog_11_method_4_code 33 = .ok (.bipush 124, 2) := by decide +kernel
theorem d_Wr_writeChoice_35 : decode prog_11_method_4_code 35 = .ok (.if_icmp .ne 65, 3) := by decide +kernel
theorem d_Wr_writeChoice_38 : decode prog_11_method_4_code 38 = .ok (.aload_n 0, 1) := by decide +kernel
theorem d_Wr_writeChoice_39 : decode prog_11_method_4_code 39 = .ok (.dup, 1) := by decide +kernel
theorem d_Wr_writeChoice_40 : decode prog_11_method_4_code 40 = .ok (.getfield 23, 3) := by decide +kernel
theorem d_Wr_writeChoice_43 : decode prog_11_method_4_code 43 = .ok (.iconst 1, 1) := by decide +kernel
theorem d_Wr_writeChoice_44 : decode prog_11_method_4_code 44 = .ok (.iadd, 1) := by decide +kernel
theorem d_Wr_writeChoice_45 : decode prog_11_method_4_code 45 = .ok (.putfield 23, 3) := by decide +kernel
theorem d_Wr_writeChoice_48 : decode prog_11_method_4_code 48 = .ok (.aload_n 0, 1) := by decide +kernel
theorem d_Wr_writeChoice_49 : decode prog_11_method_4_code 49 = .ok (.getfield 19, 3) := by decide +kernel
theorem d_Wr_writeChoice_52 : decode prog_11_method_4_code 52 = .ok (.iload_n 2, 1) := by decide +kernel
theorem d_Wr_writeChoice_53 : decode prog_11_method_4_code 53 = .ok (.invokevirtual 52, 3) := by decide +kernel
theorem d_Wr_writeChoice_56 : decode prog_11_method_4_code 56 = .ok (.aload_n 0, 1) := by decide +kernel
theorem d_Wr_writeChoice_57 : decode prog_11_method_4_code 57 = .ok (.getfield 19, 3) := by decide +kernel
theorem d_Wr_writeChoice_60 : decode prog_11_method_4_code 60 = .ok (.invokevirtual 56, 3) := by decide +kernel
theorem d_Wr_writeChoice_63 : decode prog_11_method_4_code 63 = .ok (.aload_n 0, 1) := by decide +kernel
theorem d_Wr_writeChoice_64 : decode prog_11_method_4_code 64 = .ok (.getfield 19, 3) := by decide +kernel
theorem d_Wr_writeChoice_67 : decode prog_11_method_4_code 67 = .ok (.iload_n 2, 1) := by decide +kernel
theorem d_Wr_writeChoice_68 : decode prog_11_method_4_code 68 = .ok (.iload_n 2, 1) := by decide +kernel
theorem d_Wr_writeChoice_69 : decode prog_11_method_4_code 69 = .ok (.iconst 1, 1) := by decide +kernel
theorem d_Wr_writeChoice_70 : decode prog_11_method_4_code 70 = .ok (.iadd, 1) := by decide +kernel
theorem d_Wr_writeChoice_71 : decode prog_11_method_4_code 71 = .ok (.aload_n 0, 1) := by decide +kernel
theorem d_Wr_writeChoice_72 : decode prog_11_method_4_code 72 = .ok (.getfield 19, 3) := by decide +kernel
theorem d_Wr_writeChoice_75 : decode prog_11_method_4_code 75 = .ok (.invokevirtual 46, 3) := by decide +kernel
theorem d_Wr_writeChoice_78 : decode prog_11_method_4_code 78 = .ok (.invokevirtual 59, 3) := by decide +kernel
theorem d_Wr_writeChoice_81 : decode prog_11_method_4_code 81 = .ok (.aload_n 0, 1) := by decide +kernel
theorem d_Wr_writeChoice_82 : decode prog_11_method_4_code 82 = .ok (.getfield 19, 3) := by decide +kernel
theorem d_Wr_writeChoice_85 : decode prog_11_method_4_code 85 = .ok (.invokevirtual 46, 3) := by decide +kernel
theorem d_Wr_writeChoice_88 : decode prog_11_method_4_code 88 = .ok (.istore_n 2, 1) := by decide +kernel
theorem d_Wr_writeChoice_89 : decode prog_11_method_4_code 89 = .ok (.aload_n 0, 1) := by decide +kernel
theorem d_Wr_writeChoice_90 : decode prog_11_method_4_code 90 = .ok (.invokevirtual 49, 3) := by decide +kernel
theorem d_Wr_writeChoice_93 : decode prog_11_method_4_code 93 = .ok (.istore_n 3, 1) := by decide +kernel
theorem d_Wr_writeChoice_94 : decode prog_11_method_4_code 94 = .ok (.iinc 4 1, 3) := by decide +kernel
theorem d_Wr_writeChoice_97 : decode prog_11_method_4_code 97 = .ok (.goto (-79), 3) := by decide +kernel
theorem d_Wr_writeChoice_100 : decode prog_11_method_4_code 100 = .ok (.aload_n 0, 1) := by decide +kernel
theorem d_Wr_writeChoice_101 : decode prog_11_method_4_code 101 = .ok (.getfield 19, 3) := by decide +kernel
theorem d_Wr_writeChoice_104 : decode prog_11_method_4_code 104 = .ok (.iload_n 1, 1) := by decide +kernel
theorem d_Wr_writeChoice_105 : decode prog_11_method_4_code 105 = .ok (.invokevirtual 63, 3) := by decide +kernel
theorem d_Wr_writeChoice_108 : decode prog_11_method_4_code 108 = .ok (.iload_n 3, 1) := by decide +kernel
theorem d_Wr_writeChoice_109 : decode prog_11_method_4_code 109 = .ok (.ireturn, 1) := by decide +kernel
theorem M_Wr_writeChoice : lt_M0 m_Wr_writeChoice 0 := ⟨lt_m2 159 rfl rfl, lt_m1 2 rfl rfl, ⟨by decide +kernel, by decide +kernel, by decide +kernel⟩, by decide⟩
theorem in_Wr_writeChoice : Cond.instanceMethod m_Wr_writeChoice.1 ∈ lt_T := lt_m2 158 rfl rfl
theorem se_Wr_writeChoice : Cond.selects "LinearSearch$Writer" m_Wr_writeChoice.1 m_Wr_writeChoice.1 ∈ lt_T := lt_memS 2 rfl rfl
abbrev m_Wr_writeSequence : lt_M := (⟨"LinearSearch$Writer", "writeSequence", "()Z"⟩, prog_11_method_5_code, 3, (some .boolean))
theorem d_Wr_writeSequence_0 : decode prog_11_method_5_code 0 = .ok (.iconst 0, 1) := by decide +kernel
theorem d_Wr_writeSequence_1 : decode prog_11_method_5_code 1 = .ok (.istore_n 1, 1) := by decide +kernel
theorem d_Wr_writeSequence_2 : decode prog_11_method_5_code 2 = .ok (.iload_n 1, 1) := by decide +kernel
theorem d_Wr_writeSequence_3 : decode prog_11_method_5_code 3 = .ok (.bipush 24, 2) := by decide +kernel
theorem d_Wr_writeSequence_5 : decode prog_11_method_5_code 5 = .ok (.if_icmp .ge 43, 3) := by decide +kernel
theorem d_Wr_writeSequence_8 : decode prog_11_method_5_code 8 = .ok (.aload_n 0, 1) := by decide +kernel
theorem d_Wr_writeSequence_9 : decode prog_11_method_5_code 9 = .ok (.invokevirtual 38, 3) := by decide +kernel
theorem d_Wr_writeSequence_12 : decode prog_11_method_5_code 12 = .ok (.istore_n 2, 1) := by decide +kernel
theorem d_Wr_writeSequence_13 : decode prog_11_method_5_code 13 = .ok (.iload_n 2, 1) := by decide +kernel
theorem d_Wr_writeSequence_14 : decode prog_11_method_5_code 14 = .ok (.iconst (-1), 1) := by decide +kernel
theorem d_Wr_writeSequence_15 : decode prog_11_method_5_code 15 = .ok (.if_icmp .eq 33, 3) := by decide +kernel
theorem d_Wr_writeSequence_18 : decode prog_11_method_5_code 18 = .ok (.iload_n 2, 1) := by decide +kernel
theorem d_Wr_writeSequence_19 : decode prog_11_method_5_code 19 = .ok (.bipush 124, 2) := by decide +kernel
theorem d_Wr_writeSequence_21 : decode prog_11_method_5_code 21 = .ok (.if_icmp .eq 27, 3) := by decide +kernel
theorem d_Wr_writeSequence_24 : decode prog_11_method_5_code 24 = .ok (.iload_n 2, 1) := by decide +kernel
theorem d_Wr_writeSequence_25 : decode prog_11_method_5_code 25 = .ok (.bipush 41, 2) := by decide +kernel
theorem d_Wr_writeSequence_27 : decode prog_11_method_5_code 27 = .ok (.if_icmp .ne 6, 3) := by decide +kernel
theorem d_Wr_writeSequence_30 : decode prog_11_method_5_code 30 = .ok (.goto 18, 3) := by decide +kernel
theorem d_Wr_writeSequence_33 : decode prog_11_method_5_code 33 = .ok (.aload_n 0, 1) := by decide +kernel
theorem d_Wr_writeSequence_34 : decode prog_11_method_5_code 34 = .ok (.invokevirtual 66, 3) := by decide +kernel
theorem d_Wr_writeSequence_37 : decode prog_11_method_5_code 37 = .ok (.ifCond .ne 5, 3) := by decide +kernel
theorem d_Wr_writeSequence_40 : decode prog_11_method_5_code 40 = .ok (.iconst 0, 1) := by decide +kernel
theorem d_Wr_writeSequence_41 : decode prog_11_method_5_code 41 = .ok (.ireturn, 1) := by decide +kernel
theorem d_Wr_writeSequence_42 : decode prog_11_method_5_code 42 = .ok (.iinc 1 1, 3) := by decide +kernel
theorem d_Wr_writeSequence_45 : decode prog_11_method_5_code 45 = .ok (.goto (-43), 3) := by decide +kernel
theorem d_Wr_writeSequence_48 : decode prog_11_method_5_code 48 = .ok (.iconst 1, 1) := by decide +kernel
theorem d_Wr_writeSequence_49 : decode prog_11_method_5_code 49 = .ok (.ireturn, 1) := by decide +kernel
theorem M_Wr_writeSequence : lt_M0 m_Wr_writeSequence 0 := ⟨lt_m2 167 rfl rfl, lt_m1 2 rfl rfl, ⟨by decide +kernel, by decide +kernel, by decide +kernel⟩, by decide⟩
theorem in_Wr_writeSequence : Cond.instanceMethod m_Wr_writeSequence.1 ∈ lt_T := lt_m2 166 rfl rfl
theorem se_Wr_writeSequence : Cond.selects "LinearSearch$Writer" m_Wr_writeSequence.1 m_Wr_writeSequence.1 ∈ lt_T := lt_memS 3 rfl rfl
abbrev m_Wr_peek : lt_M := (⟨"LinearSearch$Writer", "peek", "()I"⟩, prog_11_method_3_code, 1, (some .int))
theorem d_Wr_peek_0 : decode prog_11_method_3_code 0 = .ok (.aload_n 0, 1) := by decide +kernel
theorem d_Wr_peek_1 : decode prog_11_method_3_code 1 = .ok (.getfield 23, 3) := by decide +kernel
theorem d_Wr_peek_4 : decode prog_11_method_3_code 4 = .ok (.ifCond .lt 38, 3) := by decide +kernel
theorem d_Wr_peek_7 : decode prog_11_method_3_code 7 = .ok (.aload_n 0, 1) := by decide +kernel
theorem d_Wr_peek_8 : decode prog_11_method_3_code 8 = .ok (.getfield 23, 3) := by decide +kernel
theorem d_Wr_peek_11 : decode prog_11_method_3_code 11 = .ok (.aload_n 0, 1) := by decide +kernel
theorem d_Wr_peek_12 : decode prog_11_method_3_code 12 = .ok (.getfield 15, 3) := by decide +kernel
theorem d_Wr_peek_15 : decode prog_11_method_3_code 15 = .ok (.if_icmp .ge 27, 3) := by decide +kernel
theorem d_Wr_peek_18 : decode prog_11_method_3_code 18 = .ok (.aload_n 0, 1) := by decide +kernel
theorem d_Wr_peek_19 : decode prog_11_method_3_code 19 = .ok (.getfield 23, 3) := by decide +kernel
theorem d_Wr_peek_22 : decode prog_11_method_3_code 22 = .ok (.aload_n 0, 1) := by decide +kernel
theorem d_Wr_peek_23 : decode prog_11_method_3_code 23 = .ok (.getfield 9, 3) := by decide +kernel
theorem d_Wr_peek_26 : decode prog_11_method_3_code 26 = .ok (.arraylength, 1) := by decide +kernel
theorem d_Wr_peek_27 : decode prog_11_method_3_code 27 = .ok (.if_icmp .ge 15, 3) := by decide +kernel
theorem d_Wr_peek_30 : decode prog_11_method_3_code 30 = .ok (.aload_n 0, 1) := by decide +kernel
theorem d_Wr_peek_31 : decode prog_11_method_3_code 31 = .ok (.getfield 9, 3) := by decide +kernel
theorem d_Wr_peek_34 : decode prog_11_method_3_code 34 = .ok (.aload_n 0, 1) := by decide +kernel
theorem d_Wr_peek_35 : decode prog_11_method_3_code 35 = .ok (.getfield 23, 3) := by decide +kernel
theorem d_Wr_peek_38 : decode prog_11_method_3_code 38 = .ok (.caload, 1) := by decide +kernel
theorem d_Wr_peek_39 : decode prog_11_method_3_code 39 = .ok (.goto 4, 3) := by decide +kernel
theorem d_Wr_peek_42 : decode prog_11_method_3_code 42 = .ok (.iconst (-1), 1) := by decide +kernel
theorem d_Wr_peek_43 : decode prog_11_method_3_code 43 = .ok (.ireturn, 1) := by decide +kernel
theorem M_Wr_peek : lt_M0 m_Wr_peek 0 := ⟨lt_m2 171 rfl rfl, lt_m1 2 rfl rfl, ⟨by decide +kernel, by decide +kernel, by decide +kernel⟩, by decide⟩
theorem in_Wr_peek : Cond.instanceMethod m_Wr_peek.1 ∈ lt_T := lt_m2 170 rfl rfl
theorem se_Wr_peek : Cond.selects "LinearSearch$Writer" m_Wr_peek.1 m_Wr_peek.1 ∈ lt_T := lt_memS 4 rfl rfl
abbrev m_Wr_writePiece : lt_M := (⟨"LinearSearch$Writer", "writePiece", "()Z"⟩, prog_11_method_6_code, 4, (some .boolean))
theorem d_Wr_writePiece_0 : decode prog_11_method_6_code 0 = .ok (.aload_n 0, 1) := by decide +kernel
theorem d_Wr_writePiece_1 : decode prog_11_method_6_code 1 = .ok (.getfield 19, 3) := by decide +kernel
theorem d_Wr_writePiece_4 : decode prog_11_method_6_code 4 = .ok (.invokevirtual 46, 3) := by decide +kernel
theorem d_Wr_writePiece_7 : decode prog_11_method_6_code 7 = .ok (.istore_n 1, 1) := by decide +kernel
theorem d_Wr_writePiece_8 : decode prog_11_method_6_code 8 = .ok (.aload_n 0, 1) := by decide +kernel
theorem d_Wr_writePiece_9 : decode prog_11_method_6_code 9 = .ok (.invokevirtual 69, 3) := by decide +kernel
theorem d_Wr_writePiece_12 : decode prog_11_method_6_code 12 = .ok (.ifCond .ne 5, 3) := by decide +kernel
theorem d_Wr_writePiece_15 : decode prog_11_method_6_code 15 = .ok (.iconst 0, 1) := by decide +kernel
theorem d_Wr_writePiece_16 : decode prog_11_method_6_code 16 = .ok (.ireturn, 1) := by decide +kernel
theorem d_Wr_writePiece_17 : decode prog_11_method_6_code 17 = .ok (.aload_n 0, 1) := by decide +kernel
theorem d_Wr_writePiece_18 : decode prog_11_method_6_code 18 = .ok (.invokevirtual 38, 3) := by decide +kernel
theorem d_Wr_writePiece_21 : decode prog_11_method_6_code 21 = .ok (.istore_n 2, 1) := by decide +kernel
theorem d_Wr_writePiece_22 : decode prog_11_method_6_code 22 = .ok (.iload_n 2, 1) := by decide +kernel
theorem d_Wr_writePiece_23 : decode prog_11_method_6_code 23 = .ok (.bipush 63, 2) := by decide +kernel
theorem d_Wr_writePiece_25 : decode prog_11_method_6_code 25 = .ok (.if_icmp .eq 15, 3) := by decide +kernel
theorem d_Wr_writePiece_28 : decode prog_11_method_6_code 28 = .ok (.iload_n 2, 1) := by decide +kernel
theorem d_Wr_writePiece_29 : decode prog_11_method_6_code 29 = .ok (.bipush 42, 2) := by decide +kernel
theorem d_Wr_writePiece_31 : decode prog_11_method_6_code 31 = .ok (.if_icmp .eq 9, 3) := by decide +kernel
theorem d_Wr_writePiece_34 : decode prog_11_method_6_code 34 = .ok (.iload_n 2, 1) := by decide +kernel
theorem d_Wr_writePiece_35 : decode prog_11_method_6_code 35 = .ok (.bipush 43, 2) := by decide +kernel
theorem d_Wr_writePiece_37 : decode prog_11_method_6_code 37 = .ok (.if_icmp .ne 49, 3) := by decide +kernel
theorem d_Wr_writePiece_40 : decode prog_11_method_6_code 40 = .ok (.aload_n 0, 1) := by decide +kernel
theorem d_Wr_writePiece_41 : decode prog_11_method_6_code 41 = .ok (.dup, 1) := by decide +kernel
theorem d_Wr_writePiece_42 : decode prog_11_method_6_code 42 = .ok (.getfield 23, 3) := by decide +kernel
theorem d_Wr_writePiece_45 : decode prog_11_method_6_code 45 = .ok (.iconst 1, 1) := by decide +kernel
theorem d_Wr_writePiece_46 : decode prog_11_method_6_code 46 = .ok (.iadd, 1) := by decide +kernel
theorem d_Wr_writePiece_47 : decode prog_11_method_6_code 47 = .ok (.putfield 23, 3) := by decide +kernel
theorem d_Wr_writePiece_50 : decode prog_11_method_6_code 50 = .ok (.aload_n 0, 1) := by decide +kernel
theorem d_Wr_writePiece_51 : decode prog_11_method_6_code 51 = .ok (.invokevirtual 38, 3) := by decide +kernel
theorem d_Wr_writePiece_54 : decode prog_11_method_6_code 54 = .ok (.bipush 63, 2) := by decide +kernel
theorem d_Wr_writePiece_56 : decode prog_11_method_6_code 56 = .ok (.if_icmp .ne 7, 3) := by decide +kernel
theorem d_Wr_writePiece_59 : decode prog_11_method_6_code 59 = .ok (.iconst 1, 1) := by decide +kernel
theorem d_Wr_writePiece_60 : decode prog_11_method_6_code 60 = .ok (.goto 4, 3) := by decide +kernel
theorem d_Wr_writePiece_63 : decode prog_11_method_6_code 63 = .ok (.iconst 0, 1) := by decide +kernel
theorem d_Wr_writePiece_64 : decode prog_11_method_6_code 64 = .ok (.istore_n 3, 1) := by decide +kernel
theorem d_Wr_writePiece_65 : decode prog_11_method_6_code 65 = .ok (.iload_n 3, 1) := by decide +kernel
theorem d_Wr_writePiece_66 : decode prog_11_method_6_code 66 = .ok (.ifCond .eq 13, 3) := by decide +kernel
theorem d_Wr_writePiece_69 : decode prog_11_method_6_code 69 = .ok (.aload_n 0, 1) := by decide +kernel
theorem d_Wr_writePiece_70 : decode prog_11_method_6_code 70 = .ok (.dup, 1) := by decide +kernel
theorem d_Wr_writePiece_71 : decode prog_11_method_6_code 71 = .ok (.getfield 23, 3) := by decide +kernel
theorem d_Wr_writePiece_74 : decode prog_11_method_6_code 74 = .ok (.iconst 1, 1) := by decide +kernel
theorem d_Wr_writePiece_75 : decode prog_11_method_6_code 75 = .ok (.iadd, 1) := by decide +kernel
theorem d_Wr_writePiece_76 : decode prog_11_method_6_code 76 = .ok (.putfield 23, 3) := by decide +kernel
theorem d_Wr_writePiece_79 : decode prog_11_method_6_code 79 = .ok (.aload_n 0, 1) := by decide +kernel
theorem d_Wr_writePiece_80 : decode prog_11_method_6_code 80 = .ok (.iload_n 2, 1) := by decide +kernel
theorem d_Wr_writePiece_81 : decode prog_11_method_6_code 81 = .ok (.iload_n 1, 1) := by decide +kernel
theorem d_Wr_writePiece_82 : decode prog_11_method_6_code 82 = .ok (.iload_n 3, 1) := by decide +kernel
theorem d_Wr_writePiece_83 : decode prog_11_method_6_code 83 = .ok (.invokevirtual 72, 3) := by decide +kernel
theorem d_Wr_writePiece_86 : decode prog_11_method_6_code 86 = .ok (.iconst 1, 1) := by decide +kernel
theorem d_Wr_writePiece_87 : decode prog_11_method_6_code 87 = .ok (.ireturn, 1) := by decide +kernel
theorem M_Wr_writePiece : lt_M0 m_Wr_writePiece 0 := ⟨lt_m2 175 rfl rfl, lt_m1 2 rfl rfl, ⟨by decide +kernel, by decide +kernel, by decide +kernel⟩, by decide⟩
theorem in_Wr_writePiece : Cond.instanceMethod m_Wr_writePiece.1 ∈ lt_T := lt_m2 174 rfl rfl
theorem se_Wr_writePiece : Cond.selects "LinearSearch$Writer" m_Wr_writePiece.1 m_Wr_writePiece.1 ∈ lt_T := lt_memS 5 rfl rfl
abbrev m_Wr_writeAtom : lt_M := (⟨"LinearSearch$Writer", "writeAtom", "()Z"⟩, prog_11_method_7_code, 2, (some .boolean))
theorem d_Wr_writeAtom_0 : decode prog_11_method_7_code 0 = .ok (.aload_n 0, 1) := by decide +kernel
theorem d_Wr_writeAtom_1 : decode prog_11_method_7_code 1 = .ok (.invokevirtual 38, 3) := by decide +kernel
theorem d_Wr_writeAtom_4 : decode prog_11_method_7_code 4 = .ok (.istore_n 1, 1) := by decide +kernel
theorem d_Wr_writeAtom_5 : decode prog_11_method_7_code 5 = .ok (.aload_n 0, 1) := by decide +kernel
theorem d_Wr_writeAtom_6 : decode prog_11_method_7_code 6 = .ok (.dup, 1) := by decide +kernel
theorem d_Wr_writeAtom_7 : decode prog_11_method_7_code 7 = .ok (.getfield 23, 3) := by decide +kernel
theorem d_Wr_writeAtom_10 : decode prog_11_method_7_code 10 = .ok (.iconst 1, 1) := by decide +kernel
theorem d_Wr_writeAtom_11 : decode prog_11_method_7_code 11 = .ok (.iadd, 1) := by decide +kernel
theorem d_Wr_writeAtom_12 : decode prog_11_method_7_code 12 = .ok (.putfield 23, 3) := by decide +kernel
theorem d_Wr_writeAtom_15 : decode prog_11_method_7_code 15 = .ok (.iload_n 1, 1) := by decide +kernel
theorem d_Wr_writeAtom_16 : decode prog_11_method_7_code 16 = .ok (.bipush 97, 2) := by decide +kernel
theorem d_Wr_writeAtom_18 : decode prog_11_method_7_code 18 = .ok (.if_icmp .lt 23, 3) := by decide +kernel
theorem d_Wr_writeAtom_21 : decode prog_11_method_7_code 21 = .ok (.iload_n 1, 1) := by decide +kernel
theorem d_Wr_writeAtom_22 : decode prog_11_method_7_code 22 = .ok (.bipush 105, 2) := by decide +kernel
theorem d_Wr_writeAtom_24 : decode prog_11_method_7_code 24 = .ok (.if_icmp .ge 17, 3) := by decide +kernel
theorem d_Wr_writeAtom_27 : decode prog_11_method_7_code 27 = .ok (.aload_n 0, 1) := by decide +kernel
theorem d_Wr_writeAtom_28 : decode prog_11_method_7_code 28 = .ok (.getfield 19, 3) := by decide +kernel
theorem d_Wr_writeAtom_31 : decode prog_11_method_7_code 31 = .ok (.iconst 0, 1) := by decide +kernel
theorem d_Wr_writeAtom_32 : decode prog_11_method_7_code 32 = .ok (.iload_n 1, 1) := by decide +kernel
theorem d_Wr_writeAtom_33 : decode prog_11_method_7_code 33 = .ok (.bipush 97, 2) := by decide +kernel
theorem d_Wr_writeAtom_35 : decode prog_11_method_7_code 35 = .ok (.isub, 1) := by decide +kernel
theorem d_Wr_writeAtom_36 : decode prog_11_method_7_code 36 = .ok (.invokevirtual 42, 3) := by decide +kernel
theorem d_Wr_writeAtom_39 : decode prog_11_method_7_code 39 = .ok (.iconst 1, 1) := by decide +kernel
theorem d_Wr_writeAtom_40 : decode prog_11_method_7_code 40 = .ok (.ireturn, 1) := by decide +kernel
theorem d_Wr_writeAtom_41 : decode prog_11_method_7_code 41 = .ok (.iload_n 1, 1) := by decide +kernel
theorem d_Wr_writeAtom_42 : decode prog_11_method_7_code 42 = .ok (.lookupswitch 81 #[(36, 64), (40, 76), (46, 42), (94, 53)], 42) := by decide +kernel
theorem d_Wr_writeAtom_84 : decode prog_11_method_7_code 84 = .ok (.aload_n 0, 1) := by decide +kernel
theorem d_Wr_writeAtom_85 : decode prog_11_method_7_code 85 = .ok (.getfield 19, 3) := by decide +kernel
theorem d_Wr_writeAtom_88 : decode prog_11_method_7_code 88 = .ok (.iconst 1, 1) := by decide +kernel
theorem d_Wr_writeAtom_89 : decode prog_11_method_7_code 89 = .ok (.iconst 0, 1) := by decide +kernel
theorem d_Wr_writeAtom_90 : decode prog_11_method_7_code 90 = .ok (.invokevirtual 42, 3) := by decide +kernel
theorem d_Wr_writeAtom_93 : decode prog_11_method_7_code 93 = .ok (.iconst 1, 1) := by decide +kernel
theorem d_Wr_writeAtom_94 : decode prog_11_method_7_code 94 = .ok (.ireturn, 1) := by decide +kernel
theorem d_Wr_writeAtom_95 : decode prog_11_method_7_code 95 = .ok (.aload_n 0, 1) := by decide +kernel
theorem d_Wr_writeAtom_96 : decode prog_11_method_7_code 96 = .ok (.getfield 19, 3) := by decide +kernel
theorem d_Wr_writeAtom_99 : decode prog_11_method_7_code 99 = .ok (.iconst 5, 1) := by decide +kernel
theorem d_Wr_writeAtom_100 : decode prog_11_method_7_code 100 = .ok (.iconst 0, 1) := by decide +kernel
theorem d_Wr_writeAtom_101 : decode prog_11_method_7_code 101 = .ok (.invokevirtual 42, 3) := by decide +kernel
theorem d_Wr_writeAtom_104 : decode prog_11_method_7_code 104 = .ok (.iconst 1, 1) := by decide +kernel
theorem d_Wr_writeAtom_105 : decode prog_11_method_7_code 105 = .ok (.ireturn, 1) := by decide +kernel
theorem d_Wr_writeAtom_106 : decode prog_11_method_7_code 106 = .ok (.aload_n 0, 1) := by decide +kernel
theorem d_Wr_writeAtom_107 : decode prog_11_method_7_code 107 = .ok (.getfield 19, 3) := by decide +kernel
theorem d_Wr_writeAtom_110 : decode prog_11_method_7_code 110 = .ok (.bipush 6, 2) := by decide +kernel
theorem d_Wr_writeAtom_112 : decode prog_11_method_7_code 112 = .ok (.iconst 0, 1) := by decide +kernel
theorem d_Wr_writeAtom_113 : decode prog_11_method_7_code 113 = .ok (.invokevirtual 42, 3) := by decide +kernel
theorem d_Wr_writeAtom_116 : decode prog_11_method_7_code 116 = .ok (.iconst 1, 1) := by decide +kernel
theorem d_Wr_writeAtom_117 : decode prog_11_method_7_code 117 = .ok (.ireturn, 1) := by decide +kernel
theorem d_Wr_writeAtom_118 : decode prog_11_method_7_code 118 = .ok (.aload_n 0, 1) := by decide +kernel
theorem d_Wr_writeAtom_119 : decode prog_11_method_7_code 119 = .ok (.invokevirtual 76, 3) := by decide +kernel
theorem d_Wr_writeAtom_122 : decode prog_11_method_7_code 122 = .ok (.ireturn, 1) := by decide +kernel
theorem d_Wr_writeAtom_123 : decode prog_11_method_7_code 123 = .ok (.iconst 0, 1) := by decide +kernel
theorem d_Wr_writeAtom_124 : decode prog_11_method_7_code 124 = .ok (.ireturn, 1) := by decide +kernel
theorem M_Wr_writeAtom : lt_M0 m_Wr_writeAtom 0 := ⟨lt_m2 179 rfl rfl, lt_m1 2 rfl rfl, ⟨by decide +kernel, by decide +kernel, by decide +kernel⟩, by decide⟩
theorem in_Wr_writeAtom : Cond.instanceMethod m_Wr_writeAtom.1 ∈ lt_T := lt_m2 178 rfl rfl
theorem se_Wr_writeAtom : Cond.selects "LinearSearch$Writer" m_Wr_writeAtom.1 m_Wr_writeAtom.1 ∈ lt_T := lt_memS 6 rfl rfl
abbrev m_Wr_writeGroup : lt_M := (⟨"LinearSearch$Writer", "writeGroup", "()Z"⟩, prog_11_method_8_code, 2, (some .boolean))
theorem d_Wr_writeGroup_0 : decode prog_11_method_8_code 0 = .ok (.aload_n 0, 1) := by decide +kernel
theorem d_Wr_writeGroup_1 : decode prog_11_method_8_code 1 = .ok (.getfield 26, 3) := by decide +kernel
theorem d_Wr_writeGroup_4 : decode prog_11_method_8_code 4 = .ok (.iconst 3, 1) := by decide +kernel
theorem d_Wr_writeGroup_5 : decode prog_11_method_8_code 5 = .ok (.if_icmp .lt 5, 3) := by decide +kernel
theorem d_Wr_writeGroup_8 : decode prog_11_method_8_code 8 = .ok (.iconst 0, 1) := by decide +kernel
theorem d_Wr_writeGroup_9 : decode prog_11_method_8_code 9 = .ok (.ireturn, 1) := by decide +kernel
theorem d_Wr_writeGroup_10 : decode prog_11_method_8_code 10 = .ok (.aload_n 0, 1) := by decide +kernel
theorem d_Wr_writeGroup_11 : decode prog_11_method_8_code 11 = .ok (.dup, 1) := by decide +kernel
theorem d_Wr_writeGroup_12 : decode prog_11_method_8_code 12 = .ok (.getfield 26, 3) := by decide +kernel
theorem d_Wr_writeGroup_15 : decode prog_11_method_8_code 15 = .ok (.iconst 1, 1) := by decide +kernel
theorem d_Wr_writeGroup_16 : decode prog_11_method_8_code 16 = .ok (.iadd, 1) := by decide +kernel
theorem d_Wr_writeGroup_17 : decode prog_11_method_8_code 17 = .ok (.putfield 26, 3) := by decide +kernel
theorem d_Wr_writeGroup_20 : decode prog_11_method_8_code 20 = .ok (.aload_n 0, 1) := by decide +kernel
theorem d_Wr_writeGroup_21 : decode prog_11_method_8_code 21 = .ok (.getfield 26, 3) := by decide +kernel
theorem d_Wr_writeGroup_24 : decode prog_11_method_8_code 24 = .ok (.istore_n 1, 1) := by decide +kernel
theorem d_Wr_writeGroup_25 : decode prog_11_method_8_code 25 = .ok (.aload_n 0, 1) := by decide +kernel
theorem d_Wr_writeGroup_26 : decode prog_11_method_8_code 26 = .ok (.getfield 19, 3) := by decide +kernel
theorem d_Wr_writeGroup_29 : decode prog_11_method_8_code 29 = .ok (.iconst 4, 1) := by decide +kernel
theorem d_Wr_writeGroup_30 : decode prog_11_method_8_code 30 = .ok (.iconst 2, 1) := by decide +kernel
theorem d_Wr_writeGroup_31 : decode prog_11_method_8_code 31 = .ok (.iload_n 1, 1) := by decide +kernel
theorem d_Wr_writeGroup_32 : decode prog_11_method_8_code 32 = .ok (.imul, 1) := by decide +kernel
theorem d_Wr_writeGroup_33 : decode prog_11_method_8_code 33 = .ok (.invokevirtual 42, 3) := by decide +kernel
theorem d_Wr_writeGroup_36 : decode prog_11_method_8_code 36 = .ok (.aload_n 0, 1) := by decide +kernel
theorem d_Wr_writeGroup_37 : decode prog_11_method_8_code 37 = .ok (.invokevirtual 34, 3) := by decide +kernel
theorem d_Wr_writeGroup_40 : decode prog_11_method_8_code 40 = .ok (.ifCond .eq 12, 3) := by decide +kernel
theorem d_Wr_writeGroup_43 : decode prog_11_method_8_code 43 = .ok (.aload_n 0, 1) := by decide +kernel
theorem d_Wr_writeGroup_44 : decode prog_11_method_8_code 44 = .ok (.invokevirtual 38, 3) := by decide +kernel
theorem d_Wr_writeGroup_47 : decode prog_11_method_8_code 47 = .ok (.bipush 41, 2) := by decide +kernel
theorem d_Wr_writeGroup_49 : decode prog_11_method_8_code 49 = .ok (.if_icmp .eq 5, 3) := by decide +kernel
theorem d_Wr_writeGroup_52 : decode prog_11_method_8_code 52 = .ok (.iconst 0, 1) := by decide +kernel
theorem d_Wr_writeGroup_53 : decode prog_11_method_8_code 53 = .ok (.ireturn, 1) := by decide +kernel
theorem d_Wr_writeGroup_54 : decode prog_11_method_8_code 54 = .ok (.aload_n 0, 1) := by decide +kernel
theorem d_Wr_writeGroup_55 : decode prog_11_method_8_code 55 = .ok (.dup, 1) := by decide +kernel
theorem d_Wr_writeGroup_56 : decode prog_11_method_8_code 56 = .ok (.getfield 23, 3) := by decide +kernel
theorem d_Wr_writeGroup_59 : decode prog_11_method_8_code 59 = .ok (.iconst 1, 1) := by decide +kernel
theorem d_Wr_writeGroup_60 : decode prog_11_method_8_code 60 = .ok (.iadd, 1) := by decide +kernel
theorem d_Wr_writeGroup_61 : decode prog_11_method_8_code 61 = .ok (.putfield 23, 3) := by decide +kernel
theorem d_Wr_writeGroup_64 : decode prog_11_method_8_code 64 = .ok (.aload_n 0, 1) := by decide +kernel
theorem d_Wr_writeGroup_65 : decode prog_11_method_8_code 65 = .ok (.getfield 19, 3) := by decide +kernel
theorem d_Wr_writeGroup_68 : decode prog_11_method_8_code 68 = .ok (.iconst 4, 1) := by decide +kernel
theorem d_Wr_writeGroup_69 : decode prog_11_method_8_code 69 = .ok (.iconst 2, 1) := by decide +kernel
theorem d_Wr_writeGroup_70 : decode prog_11_method_8_code 70 = .ok (.iload_n 1, 1) := by decide +kernel
theorem d_Wr_writeGroup_71 : decode prog_11_method_8_code 71 = .ok (.imul, 1) := by decide +kernel
theorem d_Wr_writeGroup_72 : decode prog_11_method_8_code 72 = .ok (.iconst 1, 1) := by decide +kernel
theorem d_Wr_writeGroup_73 : decode prog_11_method_8_code 73 = .ok (.iadd, 1) := by decide +kernel
theorem d_Wr_writeGroup_74 : decode prog_11_method_8_code 74 = .ok (.invokevirtual 42, 3) := by decide +kernel
theorem d_Wr_writeGroup_77 : decode prog_11_method_8_code 77 = .ok (.iconst 1, 1) := by decide +kernel
theorem d_Wr_writeGroup_78 : decode prog_11_method_8_code 78 = .ok (.ireturn, 1) := by decide +kernel
theorem M_Wr_writeGroup : lt_M0 m_Wr_writeGroup 0 := ⟨lt_m2 187 rfl rfl, lt_m1 2 rfl rfl, ⟨by decide +kernel, by decide +kernel, by decide +kernel⟩, by decide⟩
theorem in_Wr_writeGroup : Cond.instanceMethod m_Wr_writeGroup.1 ∈ lt_T := lt_m2 186 rfl rfl
theorem se_Wr_writeGroup : Cond.selects "LinearSearch$Writer" m_Wr_writeGroup.1 m_Wr_writeGroup.1 ∈ lt_T := lt_memS 7 rfl rfl
abbrev m_Wr_writeSign : lt_M := (⟨"LinearSearch$Writer", "writeSign", "(IIZ)V"⟩, prog_11_method_9_code, 7, none)
theorem d_Wr_writeSign_0 : decode prog_11_method_9_code 0 = .ok (.iload_n 2, 1) := by decide +kernel
theorem d_Wr_writeSign_1 : decode prog_11_method_9_code 1 = .ok (.istore 4, 2) := by decide +kernel
theorem d_Wr_writeSign_3 : decode prog_11_method_9_code 3 = .ok (.iload_n 2, 1) := by decide +kernel
theorem d_Wr_writeSign_4 : decode prog_11_method_9_code 4 = .ok (.iconst 1, 1) := by decide +kernel
theorem d_Wr_writeSign_5 : decode prog_11_method_9_code 5 = .ok (.iadd, 1) := by decide +kernel
theorem d_Wr_writeSign_6 : decode prog_11_method_9_code 6 = .ok (.istore 5, 2) := by decide +kernel
theorem d_Wr_writeSign_8 : decode prog_11_method_9_code 8 = .ok (.iload_n 1, 1) := by decide +kernel
theorem d_Wr_writeSign_9 : decode prog_11_method_9_code 9 = .ok (.bipush 43, 2) := by decide +kernel
theorem d_Wr_writeSign_11 : decode prog_11_method_9_code 11 = .ok (.if_icmp .ne 27, 3) := by decide +kernel
theorem d_Wr_writeSign_14 : decode prog_11_method_9_code 14 = .ok (.aload_n 0, 1) := by decide +kernel
theorem d_Wr_writeSign_15 : decode prog_11_method_9_code 15 = .ok (.getfield 19, 3) := by decide +kernel
theorem d_Wr_writeSign_18 : decode prog_11_method_9_code 18 = .ok (.invokevirtual 46, 3) := by decide +kernel
theorem d_Wr_writeSign_21 : decode prog_11_method_9_code 21 = .ok (.istore 4, 2) := by decide +kernel
theorem d_Wr_writeSign_23 : decode prog_11_method_9_code 23 = .ok (.iload_n 2, 1) := by decide +kernel
theorem d_Wr_writeSign_24 : decode prog_11_method_9_code 24 = .ok (.istore 5, 2) := by decide +kernel
theorem d_Wr_writeSign_26 : decode prog_11_method_9_code 26 = .ok (.aload_n 0, 1) := by decide +kernel
theorem d_Wr_writeSign_27 : decode prog_11_method_9_code 27 = .ok (.getfield 19, 3) := by decide +kernel
theorem d_Wr_writeSign_30 : decode prog_11_method_9_code 30 = .ok (.iconst 2, 1) := by decide +kernel
theorem d_Wr_writeSign_31 : decode prog_11_method_9_code 31 = .ok (.iconst 0, 1) := by decide +kernel
theorem d_Wr_writeSign_32 : decode prog_11_method_9_code 32 = .ok (.invokevirtual 42, 3) := by decide +kernel
theorem d_Wr_writeSign_35 : decode prog_11_method_9_code 35 = .ok (.goto 11, 3) := by decide +kernel
theorem d_Wr_writeSign_38 : decode prog_11_method_9_code 38 = .ok (.aload_n 0, 1) := by decide +kernel
theorem d_Wr_writeSign_39 : decode prog_11_method_9_code 39 = .ok (.getfield 19, 3) := by decide +kernel
theorem d_Wr_writeSign_42 : decode prog_11_method_9_code 42 = .ok (.iload_n 2, 1) := by decide +kernel
theorem d_Wr_writeSign_43 : decode prog_11_method_9_code 43 = .ok (.invokevirtual 52, 3) := by decide +kernel
theorem d_Wr_writeSign_46 : decode prog_11_method_9_code 46 = .ok (.iload_n 1, 1) := by decide +kernel
theorem d_Wr_writeSign_47 : decode prog_11_method_9_code 47 = .ok (.bipush 42, 2) := by decide +kernel
theorem d_Wr_writeSign_49 : decode prog_11_method_9_code 49 = .ok (.if_icmp .ne 12, 3) := by decide +kernel
theorem d_Wr_writeSign_52 : decode prog_11_method_9_code 52 = .ok (.aload_n 0, 1) := by decide +kernel
theorem d_Wr_writeSign_53 : decode prog_11_method_9_code 53 = .ok (.getfield 19, 3) := by decide +kernel
theorem d_Wr_writeSign_56 : decode prog_11_method_9_code 56 = .ok (.iconst 3, 1) := by decide +kernel
theorem d_Wr_writeSign_57 : decode prog_11_method_9_code 57 = .ok (.iload_n 2, 1) := by decide +kernel
theorem d_Wr_writeSign_58 : decode prog_11_method_9_code 58 = .ok (.invokevirtual 42, 3) := by decide +kernel
theorem d_Wr_writeSign_61 : decode prog_11_method_9_code 61 = .ok (.aload_n 0, 1) := by decide +kernel
theorem d_Wr_writeSign_62 : decode prog_11_method_9_code 62 = .ok (.getfield 19, 3) := by decide +kernel
theorem d_Wr_writeSign_65 : decode prog_11_method_9_code 65 = .ok (.invokevirtual 46, 3) := by decide +kernel
theorem d_Wr_writeSign_68 : decode prog_11_method_9_code 68 = .ok (.istore 6, 2) := by decide +kernel
theorem d_Wr_writeSign_70 : decode prog_11_method_9_code 70 = .ok (.aload_n 0, 1) := by decide +kernel
theorem d_Wr_writeSign_71 : decode prog_11_method_9_code 71 = .ok (.getfield 19, 3) := by decide +kernel
theorem d_Wr_writeSign_74 : decode prog_11_method_9_code 74 = .ok (.iload 4, 2) := by decide +kernel
theorem d_Wr_writeSign_76 : decode prog_11_method_9_code 76 = .ok (.iload_n 3, 1) := by decide +kernel
theorem d_Wr_writeSign_77 : decode prog_11_method_9_code 77 = .ok (.ifCond .eq 8, 3) := by decide +kernel
theorem d_Wr_writeSign_80 : decode prog_11_method_9_code 80 = .ok (.iload 6, 2) := by decide +kernel
theorem d_Wr_writeSign_82 : decode prog_11_method_9_code 82 = .ok (.goto 5, 3) := by decide +kernel
theorem d_Wr_writeSign_85 : decode prog_11_method_9_code 85 = .ok (.iload 5, 2) := by decide +kernel
theorem d_Wr_writeSign_87 : decode prog_11_method_9_code 87 = .ok (.iload_n 3, 1) := by decide +kernel
theorem d_Wr_writeSign_88 : decode prog_11_method_9_code 88 = .ok (.ifCond .eq 8, 3) := by decide +kernel
theorem d_Wr_writeSign_91 : decode prog_11_method_9_code 91 = .ok (.iload 5, 2) := by decide +kernel
theorem d_Wr_writeSign_93 : decode prog_11_method_9_code 93 = .ok (.goto 5, 3) := by decide +kernel
theorem d_Wr_writeSign_96 : decode prog_11_method_9_code 96 = .ok (.iload 6, 2) := by decide +kernel
theorem d_Wr_writeSign_98 : decode prog_11_method_9_code 98 = .ok (.invokevirtual 59, 3) := by decide +kernel
theorem d_Wr_writeSign_101 : decode prog_11_method_9_code 101 = .ok (.return_, 1) := by decide +kernel
theorem M_Wr_writeSign : lt_M0 m_Wr_writeSign 3 := ⟨lt_m2 191 rfl rfl, lt_m1 2 rfl rfl, ⟨by decide +kernel, by decide +kernel, by decide +kernel⟩, by decide⟩
theorem in_Wr_writeSign : Cond.instanceMethod m_Wr_writeSign.1 ∈ lt_T := lt_m2 190 rfl rfl
theorem se_Wr_writeSign : Cond.selects "LinearSearch$Writer" m_Wr_writeSign.1 m_Wr_writeSign.1 ∈ lt_T := lt_memS 8 rfl rfl
abbrev m_C_withSlot : lt_M := (⟨"LinearSearch", "withSlot", "(JII)J"⟩, prog_1_method_22_code, 5, (some .long))
theorem d_C_withSlot_0 : decode prog_1_method_22_code 0 = .ok (.iconst 5, 1) := by decide +kernel
theorem d_C_withSlot_1 : decode prog_1_method_22_code 1 = .ok (.iload_n 2, 1) := by decide +kernel
theorem d_C_withSlot_2 : decode prog_1_method_22_code 2 = .ok (.imul, 1) := by decide +kernel
theorem d_C_withSlot_3 : decode prog_1_method_22_code 3 = .ok (.istore 4, 2) := by decide +kernel
theorem d_C_withSlot_5 : decode prog_1_method_22_code 5 = .ok (.lload_n 0, 1) := by decide +kernel
theorem d_C_withSlot_6 : decode prog_1_method_22_code 6 = .ok (.ldc2_w 203, 3) := by decide +kernel
theorem d_C_withSlot_9 : decode prog_1_method_22_code 9 = .ok (.iload 4, 2) := by decide +kernel
theorem d_C_withSlot_11 : decode prog_1_method_22_code 11 = .ok (.lshl, 1) := by decide +kernel
theorem d_C_withSlot_12 : decode prog_1_method_22_code 12 = .ok (.ldc2_w 205, 3) := by decide +kernel
theorem d_C_withSlot_15 : decode prog_1_method_22_code 15 = .ok (.lxor, 1) := by decide +kernel
theorem d_C_withSlot_16 : decode prog_1_method_22_code 16 = .ok (.land, 1) := by decide +kernel
theorem d_C_withSlot_17 : decode prog_1_method_22_code 17 = .ok (.iload_n 3, 1) := by decide +kernel
theorem d_C_withSlot_18 : decode prog_1_method_22_code 18 = .ok (.iconst 1, 1) := by decide +kernel
theorem d_C_withSlot_19 : decode prog_1_method_22_code 19 = .ok (.iadd, 1) := by decide +kernel
theorem d_C_withSlot_20 : decode prog_1_method_22_code 20 = .ok (.i2l, 1) := by decide +kernel
theorem d_C_withSlot_21 : decode prog_1_method_22_code 21 = .ok (.iload 4, 2) := by decide +kernel
theorem d_C_withSlot_23 : decode prog_1_method_22_code 23 = .ok (.lshl, 1) := by decide +kernel
theorem d_C_withSlot_24 : decode prog_1_method_22_code 24 = .ok (.lor, 1) := by decide +kernel
theorem d_C_withSlot_25 : decode prog_1_method_22_code 25 = .ok (.lreturn, 1) := by decide +kernel
theorem M_C_withSlot : lt_M0 m_C_withSlot 3 := ⟨lt_m3 87 rfl rfl, lt_m1 1 rfl rfl, ⟨by decide +kernel, by decide +kernel, by decide +kernel⟩, by decide⟩
theorem st_C_withSlot : Cond.static m_C_withSlot.1 ∈ lt_T := lt_m3 86 rfl rfl
abbrev m_C_instruction : lt_M := (⟨"LinearSearch", "instruction", "(II)I"⟩, prog_1_method_5_code, 3, (some .int))
theorem d_C_instruction_0 : decode prog_1_method_5_code 0 = .ok (.iload_n 1, 1) := by decide +kernel
theorem d_C_instruction_1 : decode prog_1_method_5_code 1 = .ok (.ifCond .lt 14, 3) := by decide +kernel
theorem d_C_instruction_4 : decode prog_1_method_5_code 4 = .ok (.iload_n 1, 1) := by decide +kernel
theorem d_C_instruction_5 : decode prog_1_method_5_code 5 = .ok (.aload_n 0, 1) := by decide +kernel
theorem d_C_instruction_6 : decode prog_1_method_5_code 6 = .ok (.getfield 51, 3) := by decide +kernel
theorem d_C_instruction_9 : decode prog_1_method_5_code 9 = .ok (.invokevirtual 106, 3) := by decide +kernel
theorem d_C_instruction_12 : decode prog_1_method_5_code 12 = .ok (.if_icmp .lt 13, 3) := by decide +kernel
theorem d_C_instruction_15 : decode prog_1_method_5_code 15 = .ok (.new 110, 3) := by decide +kernel
theorem d_C_instruction_18 : decode prog_1_method_5_code 18 = .ok (.dup, 1) := by decide +kernel
theorem d_C_instruction_19 : decode prog_1_method_5_code 19 = .ok (.ldc 112, 2) := by decide +kernel
theorem d_C_instruction_21 : decode prog_1_method_5_code 21 = .ok (.invokespecial 114, 3) := by decide +kernel
theorem d_C_instruction_24 : decode prog_1_method_5_code 24 = .ok (.athrow, 1) := by decide +kernel
theorem d_C_instruction_25 : decode prog_1_method_5_code 25 = .ok (.iload_n 2, 1) := by decide +kernel
theorem d_C_instruction_26 : decode prog_1_method_5_code 26 = .ok (.tableswitch 53 0 2 #[26, 35, 44], 26) := by decide +kernel
theorem d_C_instruction_52 : decode prog_1_method_5_code 52 = .ok (.aload_n 0, 1) := by decide +kernel
theorem d_C_instruction_53 : decode prog_1_method_5_code 53 = .ok (.getfield 51, 3) := by decide +kernel
theorem d_C_instruction_56 : decode prog_1_method_5_code 56 = .ok (.iload_n 1, 1) := by decide +kernel
theorem d_C_instruction_57 : decode prog_1_method_5_code 57 = .ok (.invokevirtual 115, 3) := by decide +kernel
theorem d_C_instruction_60 : decode prog_1_method_5_code 60 = .ok (.ireturn, 1) := by decide +kernel
theorem d_C_instruction_61 : decode prog_1_method_5_code 61 = .ok (.aload_n 0, 1) := by decide +kernel
theorem d_C_instruction_62 : decode prog_1_method_5_code 62 = .ok (.getfield 51, 3) := by decide +kernel
theorem d_C_instruction_65 : decode prog_1_method_5_code 65 = .ok (.iload_n 1, 1) := by decide +kernel
theorem d_C_instruction_66 : decode prog_1_method_5_code 66 = .ok (.invokevirtual 119, 3) := by decide +kernel
theorem d_C_instruction_69 : decode prog_1_method_5_code 69 = .ok (.ireturn, 1) := by decide +kernel
theorem d_C_instruction_70 : decode prog_1_method_5_code 70 = .ok (.aload_n 0, 1) := by decide +kernel
theorem d_C_instruction_71 : decode prog_1_method_5_code 71 = .ok (.getfield 51, 3) := by decide +kernel
theorem d_C_instruction_74 : decode prog_1_method_5_code 74 = .ok (.iload_n 1, 1) := by decide +kernel
theorem d_C_instruction_75 : decode prog_1_method_5_code 75 = .ok (.invokevirtual 122, 3) := by decide +kernel
theorem d_C_instruction_78 : decode prog_1_method_5_code 78 = .ok (.ireturn, 1) := by decide +kernel
theorem d_C_instruction_79 : decode prog_1_method_5_code 79 = .ok (.new 85, 3) := by decide +kernel
theorem d_C_instruction_82 : decode prog_1_method_5_code 82 = .ok (.dup, 1) := by decide +kernel
theorem d_C_instruction_83 : decode prog_1_method_5_code 83 = .ok (.ldc 125, 2) := by decide +kernel
theorem d_C_instruction_85 : decode prog_1_method_5_code 85 = .ok (.invokespecial 89, 3) := by decide +kernel
theorem d_C_instruction_88 : decode prog_1_method_5_code 88 = .ok (.athrow, 1) := by decide +kernel
theorem M_C_instruction : lt_M0 m_C_instruction 2 := ⟨lt_m3 119 rfl rfl, lt_m1 1 rfl rfl, ⟨by decide +kernel, by decide +kernel, by decide +kernel⟩, by decide⟩
theorem in_C_instruction : Cond.instanceMethod m_C_instruction.1 ∈ lt_T := lt_m3 117 rfl rfl
theorem se_C_instruction : Cond.selects "LinearSearch" m_C_instruction.1 m_C_instruction.1 ∈ lt_T := lt_m3 118 rfl rfl
abbrev m_C_simple : lt_M := (⟨"LinearSearch", "simple", "()Z"⟩, prog_1_method_6_code, 1, (some .boolean))
theorem d_C_simple_0 : decode prog_1_method_6_code 0 = .ok (.aload_n 0, 1) := by decide +kernel
theorem d_C_simple_1 : decode prog_1_method_6_code 1 = .ok (.getfield 51, 3) := by decide +kernel
theorem d_C_simple_4 : decode prog_1_method_6_code 4 = .ok (.invokevirtual 106, 3) := by decide +kernel
theorem d_C_simple_7 : decode prog_1_method_6_code 7 = .ok (.ifCond .ne 13, 3) := by decide +kernel
theorem d_C_simple_10 : decode prog_1_method_6_code 10 = .ok (.new 127, 3) := by decide +kernel
theorem d_C_simple_13 : decode prog_1_method_6_code 13 = .ok (.dup, 1) := by decide +kernel
theorem d_C_simple_14 : decode prog_1_method_6_code 14 = .ok (.ldc 129, 2) := by decide +kernel
theorem d_C_simple_16 : decode prog_1_method_6_code 16 = .ok (.invokespecial 131, 3) := by decide +kernel
theorem d_C_simple_19 : decode prog_1_method_6_code 19 = .ok (.athrow, 1) := by decide +kernel
theorem d_C_simple_20 : decode prog_1_method_6_code 20 = .ok (.aload_n 0, 1) := by decide +kernel
theorem d_C_simple_21 : decode prog_1_method_6_code 21 = .ok (.getfield 96, 3) := by decide +kernel
theorem d_C_simple_24 : decode prog_1_method_6_code 24 = .ok (.ireturn, 1) := by decide +kernel
theorem M_C_simple : lt_M0 m_C_simple 0 := ⟨lt_m3 147 rfl rfl, lt_m1 1 rfl rfl, ⟨by decide +kernel, by decide +kernel, by decide +kernel⟩, by decide⟩
theorem in_C_simple : Cond.instanceMethod m_C_simple.1 ∈ lt_T := lt_m3 145 rfl rfl
theorem se_C_simple : Cond.selects "LinearSearch" m_C_simple.1 m_C_simple.1 ∈ lt_T := lt_m3 146 rfl rfl
abbrev m_C_search : lt_M := (⟨"LinearSearch", "search", "(I)I"⟩, prog_1_method_9_code, 2, (some .int))
theorem d_C_search_0 : decode prog_1_method_9_code 0 = .ok (.iload_n 1, 1) := by decide +kernel
theorem d_C_search_1 : decode prog_1_method_9_code 1 = .ok (.ifCond .lt 8, 3) := by decide +kernel
theorem d_C_search_4 : decode prog_1_method_9_code 4 = .ok (.iload_n 1, 1) := by decide +kernel
theorem d_C_search_5 : decode prog_1_method_9_code 5 = .ok (.iconst 4, 1) := by decide +kernel
theorem d_C_search_6 : decode prog_1_method_9_code 6 = .ok (.if_icmp .le 13, 3) := by decide +kernel
theorem d_C_search_9 : decode prog_1_method_9_code 9 = .ok (.new 85, 3) := by decide +kernel
theorem d_C_search_12 : decode prog_1_method_9_code 12 = .ok (.dup, 1) := by decide +kernel
theorem d_C_search_13 : decode prog_1_method_9_code 13 = .ok (.ldc 139, 2) := by decide +kernel
theorem d_C_search_15 : decode prog_1_method_9_code 15 = .ok (.invokespecial 89, 3) := by decide +kernel
theorem d_C_search_18 : decode prog_1_method_9_code 18 = .ok (.athrow, 1) := by decide +kernel
theorem d_C_search_19 : decode prog_1_method_9_code 19 = .ok (.aload_n 0, 1) := by decide +kernel
theorem d_C_search_20 : decode prog_1_method_9_code 20 = .ok (.getfield 51, 3) := by decide +kernel
theorem d_C_search_23 : decode prog_1_method_9_code 23 = .ok (.invokevirtual 106, 3) := by decide +kernel
theorem d_C_search_26 : decode prog_1_method_9_code 26 = .ok (.ifCond .ne 13, 3) := by decide +kernel
theorem d_C_search_29 : decode prog_1_method_9_code 29 = .ok (.new 127, 3) := by decide +kernel
theorem d_C_search_32 : decode prog_1_method_9_code 32 = .ok (.dup, 1) := by decide +kernel
theorem d_C_search_33 : decode prog_1_method_9_code 33 = .ok (.ldc 129, 2) := by decide +kernel
theorem d_C_search_35 : decode prog_1_method_9_code 35 = .ok (.invokespecial 131, 3) := by decide +kernel
theorem d_C_search_38 : decode prog_1_method_9_code 38 = .ok (.athrow, 1) := by decide +kernel
theorem d_C_search_39 : decode prog_1_method_9_code 39 = .ok (.iload_n 1, 1) := by decide +kernel
theorem d_C_search_40 : decode prog_1_method_9_code 40 = .ok (.iconst 3, 1) := by decide +kernel
theorem d_C_search_41 : decode prog_1_method_9_code 41 = .ok (.if_icmp .ne 20, 3) := by decide +kernel
theorem d_C_search_44 : decode prog_1_method_9_code 44 = .ok (.aload_n 0, 1) := by decide +kernel
theorem d_C_search_45 : decode prog_1_method_9_code 45 = .ok (.getfield 96, 3) := by decide +kernel
theorem d_C_search_48 : decode prog_1_method_9_code 48 = .ok (.ifCond .ne 13, 3) := by decide +kernel
theorem d_C_search_51 : decode prog_1_method_9_code 51 = .ok (.new 127, 3) := by decide +kernel
theorem d_C_search_54 : decode prog_1_method_9_code 54 = .ok (.dup, 1) := by decide +kernel
theorem d_C_search_55 : decode prog_1_method_9_code 55 = .ok (.ldc 141, 2) := by decide +kernel
theorem d_C_search_57 : decode prog_1_method_9_code 57 = .ok (.invokespecial 131, 3) := by decide +kernel
theorem d_C_search_60 : decode prog_1_method_9_code 60 = .ok (.athrow, 1) := by decide +kernel
theorem d_C_search_61 : decode prog_1_method_9_code 61 = .ok (.iload_n 1, 1) := by decide +kernel
theorem d_C_search_62 : decode prog_1_method_9_code 62 = .ok (.iconst 4, 1) := by decide +kernel
theorem d_C_search_63 : decode prog_1_method_9_code 63 = .ok (.if_icmp .ne 10, 3) := by decide +kernel
theorem d_C_search_66 : decode prog_1_method_9_code 66 = .ok (.aload_n 0, 1) := by decide +kernel
theorem d_C_search_67 : decode prog_1_method_9_code 67 = .ok (.invokevirtual 143, 3) := by decide +kernel
theorem d_C_search_70 : decode prog_1_method_9_code 70 = .ok (.goto 4, 3) := by decide +kernel
theorem d_C_search_73 : decode prog_1_method_9_code 73 = .ok (.iload_n 1, 1) := by decide +kernel
theorem d_C_search_74 : decode prog_1_method_9_code 74 = .ok (.tableswitch 103 1 3 #[26, 60, 67], 26) := by decide +kernel
theorem d_C_search_100 : decode prog_1_method_9_code 100 = .ok (.aload_n 0, 1) := by decide +kernel
theorem d_C_search_101 : decode prog_1_method_9_code 101 = .ok (.aload_n 0, 1) := by decide +kernel
theorem d_C_search_102 : decode prog_1_method_9_code 102 = .ok (.getfield 37, 3) := by decide +kernel
theorem d_C_search_105 : decode prog_1_method_9_code 105 = .ok (.aload_n 0, 1) := by decide +kernel
theorem d_C_search_106 : decode prog_1_method_9_code 106 = .ok (.getfield 51, 3) := by decide +kernel
theorem d_C_search_109 : decode prog_1_method_9_code 109 = .ok (.aload_n 0, 1) := by decide +kernel
theorem d_C_search_110 : decode prog_1_method_9_code 110 = .ok (.getfield 23, 3) := by decide +kernel
theorem d_C_search_113 : decode prog_1_method_9_code 113 = .ok (.invokevirtual 146, 3) := by decide +kernel
theorem d_C_search_116 : decode prog_1_method_9_code 116 = .ok (.putfield 58, 3) := by decide +kernel
theorem d_C_search_119 : decode prog_1_method_9_code 119 = .ok (.aload_n 0, 1) := by decide +kernel
theorem d_C_search_120 : decode prog_1_method_9_code 120 = .ok (.iconst 1, 1) := by decide +kernel
theorem d_C_search_121 : decode prog_1_method_9_code 121 = .ok (.aload_n 0, 1) := by decide +kernel
theorem d_C_search_122 : decode prog_1_method_9_code 122 = .ok (.getfield 37, 3) := by decide +kernel
theorem d_C_search_125 : decode prog_1_method_9_code 125 = .ok (.invokevirtual 150, 3) := by decide +kernel
theorem d_C_search_128 : decode prog_1_method_9_code 128 = .ok (.invokevirtual 153, 3) := by decide +kernel
theorem d_C_search_131 : decode prog_1_method_9_code 131 = .ok (.goto 50, 3) := by decide +kernel
theorem d_C_search_134 : decode prog_1_method_9_code 134 = .ok (.aload_n 0, 1) := by decide +kernel
theorem d_C_search_135 : decode prog_1_method_9_code 135 = .ok (.invokevirtual 157, 3) := by decide +kernel
theorem d_C_search_138 : decode prog_1_method_9_code 138 = .ok (.goto 43, 3) := by decide +kernel
theorem d_C_search_141 : decode prog_1_method_9_code 141 = .ok (.aload_n 0, 1) := by decide +kernel
theorem d_C_search_142 : decode prog_1_method_9_code 142 = .ok (.aload_n 0, 1) := by decide +kernel
theorem d_C_search_143 : decode prog_1_method_9_code 143 = .ok (.getfield 44, 3) := by decide +kernel
theorem d_C_search_146 : decode prog_1_method_9_code 146 = .ok (.aload_n 0, 1) := by decide +kernel
theorem d_C_search_147 : decode prog_1_method_9_code 147 = .ok (.getfield 51, 3) := by decide +kernel
theorem d_C_search_150 : decode prog_1_method_9_code 150 = .ok (.aload_n 0, 1) := by decide +kernel
theorem d_C_search_151 : decode prog_1_method_9_code 151 = .ok (.getfield 23, 3) := by decide +kernel
theorem d_C_search_154 : decode prog_1_method_9_code 154 = .ok (.invokevirtual 160, 3) := by decide +kernel
theorem d_C_search_157 : decode prog_1_method_9_code 157 = .ok (.putfield 58, 3) := by decide +kernel
theorem d_C_search_160 : decode prog_1_method_9_code 160 = .ok (.aload_n 0, 1) := by decide +kernel
theorem d_C_search_161 : decode prog_1_method_9_code 161 = .ok (.iconst 3, 1) := by decide +kernel
theorem d_C_search_162 : decode prog_1_method_9_code 162 = .ok (.aload_n 0, 1) := by decide +kernel
theorem d_C_search_163 : decode prog_1_method_9_code 163 = .ok (.getfield 44, 3) := by decide +kernel
theorem d_C_search_166 : decode prog_1_method_9_code 166 = .ok (.invokevirtual 161, 3) := by decide +kernel
theorem d_C_search_169 : decode prog_1_method_9_code 169 = .ok (.iconst 1, 1) := by decide +kernel
theorem d_C_search_170 : decode prog_1_method_9_code 170 = .ok (.iadd, 1) := by decide +kernel
theorem d_C_search_171 : decode prog_1_method_9_code 171 = .ok (.invokevirtual 153, 3) := by decide +kernel
theorem d_C_search_174 : decode prog_1_method_9_code 174 = .ok (.goto 7, 3) := by decide +kernel
theorem d_C_search_177 : decode prog_1_method_9_code 177 = .ok (.aload_n 0, 1) := by decide +kernel
theorem d_C_search_178 : decode prog_1_method_9_code 178 = .ok (.invokevirtual 164, 3) := by decide +kernel
theorem d_C_search_181 : decode prog_1_method_9_code 181 = .ok (.aload_n 0, 1) := by decide +kernel
theorem d_C_search_182 : decode prog_1_method_9_code 182 = .ok (.getfield 58, 3) := by decide +kernel
theorem d_C_search_185 : decode prog_1_method_9_code 185 = .ok (.iconst 0, 1) := by decide +kernel
theorem d_C_search_186 : decode prog_1_method_9_code 186 = .ok (.invokestatic 167, 3) := by decide +kernel
theorem d_C_search_189 : decode prog_1_method_9_code 189 = .ok (.ireturn, 1) := by decide +kernel
theorem M_C_search : lt_M0 m_C_search 1 := ⟨lt_m3 170 rfl rfl, lt_m1 1 rfl rfl, ⟨by decide +kernel, by decide +kernel, by decide +kernel⟩, by decide⟩
theorem in_C_search : Cond.instanceMethod m_C_search.1 ∈ lt_T := lt_m3 168 rfl rfl
theorem se_C_search : Cond.selects "LinearSearch" m_C_search.1 m_C_search.1 ∈ lt_T := lt_m3 169 rfl rfl
abbrev m_C_plannedMatcher : lt_M := (⟨"LinearSearch", "plannedMatcher", "()I"⟩, prog_1_method_16_code, 1, (some .int))
theorem d_C_plannedMatcher_0 : decode prog_1_method_16_code 0 = .ok (.aload_n 0, 1) := by decide +kernel
theorem d_C_plannedMatcher_1 : decode prog_1_method_16_code 1 = .ok (.getfield 96, 3) := by decide +kernel
theorem d_C_plannedMatcher_4 : decode prog_1_method_16_code 4 = .ok (.ifCond .eq 5, 3) := by decide +kernel
theorem d_C_plannedMatcher_7 : decode prog_1_method_16_code 7 = .ok (.iconst 3, 1) := by decide +kernel
theorem d_C_plannedMatcher_8 : decode prog_1_method_16_code 8 = .ok (.ireturn, 1) := by decide +kernel
theorem d_C_plannedMatcher_9 : decode prog_1_method_16_code 9 = .ok (.aload_n 0, 1) := by decide +kernel
theorem d_C_plannedMatcher_10 : decode prog_1_method_16_code 10 = .ok (.getfield 51, 3) := by decide +kernel
theorem d_C_plannedMatcher_13 : decode prog_1_method_16_code 13 = .ok (.invokevirtual 106, 3) := by decide +kernel
theorem d_C_plannedMatcher_16 : decode prog_1_method_16_code 16 = .ok (.aload_n 0, 1) := by decide +kernel
theorem d_C_plannedMatcher_17 : decode prog_1_method_16_code 17 = .ok (.getfield 23, 3) := by decide +kernel
theorem d_C_plannedMatcher_20 : decode prog_1_method_16_code 20 = .ok (.invokevirtual 179, 3) := by decide +kernel
theorem d_C_plannedMatcher_23 : decode prog_1_method_16_code 23 = .ok (.iconst 1, 1) := by decide +kernel
theorem d_C_plannedMatcher_24 : decode prog_1_method_16_code 24 = .ok (.iadd, 1) := by decide +kernel
theorem d_C_plannedMatcher_25 : decode prog_1_method_16_code 25 = .ok (.imul, 1) := by decide +kernel
theorem d_C_plannedMatcher_26 : decode prog_1_method_16_code 26 = .ok (.sipush 128, 3) := by decide +kernel
theorem d_C_plannedMatcher_29 : decode prog_1_method_16_code 29 = .ok (.if_icmp .gt 7, 3) := by decide +kernel
theorem d_C_plannedMatcher_32 : decode prog_1_method_16_code 32 = .ok (.iconst 1, 1) := by decide +kernel
theorem d_C_plannedMatcher_33 : decode prog_1_method_16_code 33 = .ok (.goto 4, 3) := by decide +kernel
theorem d_C_plannedMatcher_36 : decode prog_1_method_16_code 36 = .ok (.iconst 2, 1) := by decide +kernel
theorem d_C_plannedMatcher_37 : decode prog_1_method_16_code 37 = .ok (.ireturn, 1) := by decide +kernel
theorem M_C_plannedMatcher : lt_M0 m_C_plannedMatcher 0 := ⟨lt_m3 176 rfl rfl, lt_m1 1 rfl rfl, ⟨by decide +kernel, by decide +kernel, by decide +kernel⟩, by decide⟩
theorem in_C_plannedMatcher : Cond.instanceMethod m_C_plannedMatcher.1 ∈ lt_T := lt_m3 175 rfl rfl
theorem se_C_plannedMatcher : Cond.selects "LinearSearch" m_C_plannedMatcher.1 m_C_plannedMatcher.1 ∈ lt_T := lt_memS 13 rfl rfl
abbrev m_Ar_fillJ : lt_M := (⟨"java/util/Arrays", "fill", "([JJ)V"⟩, prog_22_method_101_code, 5, none)
theorem d_Ar_fillJ_0 : decode prog_22_method_101_code 0 = .ok (.iconst 0, 1) := by decide +kernel
theorem d_Ar_fillJ_1 : decode prog_22_method_101_code 1 = .ok (.istore_n 3, 1) := by decide +kernel
theorem d_Ar_fillJ_2 : decode prog_22_method_101_code 2 = .ok (.aload_n 0, 1) := by decide +kernel
theorem d_Ar_fillJ_3 : decode prog_22_method_101_code 3 = .ok (.arraylength, 1) := by decide +kernel
theorem d_Ar_fillJ_4 : decode prog_22_method_101_code 4 = .ok (.istore 4, 2) := by decide +kernel
theorem d_Ar_fillJ_6 : decode prog_22_method_101_code 6 = .ok (.iload_n 3, 1) := by decide +kernel
theorem d_Ar_fillJ_7 : decode prog_22_method_101_code 7 = .ok (.iload 4, 2) := by decide +kernel
theorem d_Ar_fillJ_9 : decode prog_22_method_101_code 9 = .ok (.if_icmp .ge 13, 3) := by decide +kernel
theorem d_Ar_fillJ_12 : decode prog_22_method_101_code 12 = .ok (.aload_n 0, 1) := by decide +kernel
theorem d_Ar_fillJ_13 : decode prog_22_method_101_code 13 = .ok (.iload_n 3, 1) := by decide +kernel
theorem d_Ar_fillJ_14 : decode prog_22_method_101_code 14 = .ok (.lload_n 1, 1) := by decide +kernel
theorem d_Ar_fillJ_15 : decode prog_22_method_101_code 15 = .ok (.lastore, 1) := by decide +kernel
theorem d_Ar_fillJ_16 : decode prog_22_method_101_code 16 = .ok (.iinc 3 1, 3) := by decide +kernel
theorem d_Ar_fillJ_19 : decode prog_22_method_101_code 19 = .ok (.goto (-13), 3) := by decide +kernel
theorem d_Ar_fillJ_22 : decode prog_22_method_101_code 22 = .ok (.return_, 1) := by decide +kernel
theorem M_Ar_fillJ : lt_M0 m_Ar_fillJ 2 := ⟨lt_m3 187 rfl rfl, lt_m1 20 rfl rfl, ⟨by decide +kernel, by decide +kernel, by decide +kernel⟩, by decide⟩
theorem st_Ar_fillJ : Cond.static m_Ar_fillJ.1 ∈ lt_T := lt_m3 186 rfl rfl
abbrev m_C_slotsFrom : lt_M := (⟨"LinearSearch", "slotsFrom", "(I)J"⟩, prog_1_method_24_code, 1, (some .long))
theorem d_C_slotsFrom_0 : decode prog_1_method_24_code 0 = .ok (.lconst 0, 1) := by decide +kernel
theorem d_C_slotsFrom_1 : decode prog_1_method_24_code 1 = .ok (.iconst 0, 1) := by decide +kernel
theorem d_C_slotsFrom_2 : decode prog_1_method_24_code 2 = .ok (.iload_n 0, 1) := by decide +kernel
theorem d_C_slotsFrom_3 : decode prog_1_method_24_code 3 = .ok (.invokestatic 207, 3) := by decide +kernel
theorem d_C_slotsFrom_6 : decode prog_1_method_24_code 6 = .ok (.lreturn, 1) := by decide +kernel
theorem M_C_slotsFrom : lt_M0 m_C_slotsFrom 1 := ⟨lt_m3 195 rfl rfl, lt_m1 1 rfl rfl, ⟨by decide +kernel, by decide +kernel, by decide +kernel⟩, by decide⟩
theorem st_C_slotsFrom : Cond.static m_C_slotsFrom.1 ∈ lt_T := lt_m3 194 rfl rfl
abbrev m_C_runAutomaton : lt_M := (⟨"LinearSearch", "runAutomaton", "()V"⟩, prog_1_method_18_code, 2, none)
theorem d_C_runAutomaton_0 : decode prog_1_method_18_code 0 = .ok (.aload_n 0, 1) := by decide +kernel
theorem d_C_runAutomaton_1 : decode prog_1_method_18_code 1 = .ok (.getfield 74, 3) := by decide +kernel
theorem d_C_runAutomaton_4 : decode prog_1_method_18_code 4 = .ok (.aload_n 0, 1) := by decide +kernel
theorem d_C_runAutomaton_5 : decode prog_1_method_18_code 5 = .ok (.getfield 51, 3) := by decide +kernel
theorem d_C_runAutomaton_8 : decode prog_1_method_18_code 8 = .ok (.aload_n 0, 1) := by decide +kernel
theorem d_C_runAutomaton_9 : decode prog_1_method_18_code 9 = .ok (.getfield 23, 3) := by decide +kernel
theorem d_C_runAutomaton_12 : decode prog_1_method_18_code 12 = .ok (.invokevirtual 188, 3) := by decide +kernel
theorem d_C_runAutomaton_15 : decode prog_1_method_18_code 15 = .ok (.istore_n 1, 1) := by decide +kernel
theorem d_C_runAutomaton_16 : decode prog_1_method_18_code 16 = .ok (.aload_n 0, 1) := by decide +kernel
theorem d_C_runAutomaton_17 : decode prog_1_method_18_code 17 = .ok (.getfield 74, 3) := by decide +kernel
theorem d_C_runAutomaton_20 : decode prog_1_method_18_code 20 = .ok (.invokevirtual 192, 3) := by decide +kernel
theorem d_C_runAutomaton_23 : decode prog_1_method_18_code 23 = .ok (.ifCond .eq 8, 3) := by decide +kernel
theorem d_C_runAutomaton_26 : decode prog_1_method_18_code 26 = .ok (.aload_n 0, 1) := by decide +kernel
theorem d_C_runAutomaton_27 : decode prog_1_method_18_code 27 = .ok (.invokevirtual 164, 3) := by decide +kernel
theorem d_C_runAutomaton_30 : decode prog_1_method_18_code 30 = .ok (.return_, 1) := by decide +kernel
theorem d_C_runAutomaton_31 : decode prog_1_method_18_code 31 = .ok (.aload_n 0, 1) := by decide +kernel
theorem d_C_runAutomaton_32 : decode prog_1_method_18_code 32 = .ok (.iload_n 1, 1) := by decide +kernel
theorem d_C_runAutomaton_33 : decode prog_1_method_18_code 33 = .ok (.iconst (-1), 1) := by decide +kernel
theorem d_C_runAutomaton_34 : decode prog_1_method_18_code 34 = .ok (.if_icmp .ne 7, 3) := by decide +kernel
theorem d_C_runAutomaton_37 : decode prog_1_method_18_code 37 = .ok (.lconst 0, 1) := by decide +kernel
theorem d_C_runAutomaton_38 : decode prog_1_method_18_code 38 = .ok (.goto 8, 3) := by decide +kernel
theorem d_C_runAutomaton_41 : decode prog_1_method_18_code 41 = .ok (.aload_n 0, 1) := by decide +kernel
theorem d_C_runAutomaton_42 : decode prog_1_method_18_code 42 = .ok (.iload_n 1, 1) := by decide +kernel
theorem d_C_runAutomaton_43 : decode prog_1_method_18_code 43 = .ok (.invokevirtual 196, 3) := by decide +kernel
theorem d_C_runAutomaton_46 : decode prog_1_method_18_code 46 = .ok (.putfield 58, 3) := by decide +kernel
theorem d_C_runAutomaton_49 : decode prog_1_method_18_code 49 = .ok (.aload_n 0, 1) := by decide +kernel
theorem d_C_runAutomaton_50 : decode prog_1_method_18_code 50 = .ok (.iconst 2, 1) := by decide +kernel
theorem d_C_runAutomaton_51 : decode prog_1_method_18_code 51 = .ok (.aload_n 0, 1) := by decide +kernel
theorem d_C_runAutomaton_52 : decode prog_1_method_18_code 52 = .ok (.getfield 74, 3) := by decide +kernel
theorem d_C_runAutomaton_55 : decode prog_1_method_18_code 55 = .ok (.invokevirtual 200, 3) := by decide +kernel
theorem d_C_runAutomaton_58 : decode prog_1_method_18_code 58 = .ok (.invokevirtual 153, 3) := by decide +kernel
theorem d_C_runAutomaton_61 : decode prog_1_method_18_code 61 = .ok (.return_, 1) := by decide +kernel
theorem M_C_runAutomaton : lt_M0 m_C_runAutomaton 0 := ⟨lt_m3 229 rfl rfl, lt_m1 1 rfl rfl, ⟨by decide +kernel, by decide +kernel, by decide +kernel⟩, by decide⟩
theorem in_C_runAutomaton : Cond.instanceMethod m_C_runAutomaton.1 ∈ lt_T := lt_m3 228 rfl rfl
theorem se_C_runAutomaton : Cond.selects "LinearSearch" m_C_runAutomaton.1 m_C_runAutomaton.1 ∈ lt_T := lt_memS 18 rfl rfl
abbrev m_Ar_fillI : lt_M := (⟨"java/util/Arrays", "fill", "([II)V"⟩, prog_22_method_103_code, 4, none)
theorem d_Ar_fillI_0 : decode prog_22_method_103_code 0 = .ok (.iconst 0, 1) := by decide +kernel
theorem d_Ar_fillI_1 : decode prog_22_method_103_code 1 = .ok (.istore_n 2, 1) := by decide +kernel
theorem d_Ar_fillI_2 : decode prog_22_method_103_code 2 = .ok (.aload_n 0, 1) := by decide +kernel
theorem d_Ar_fillI_3 : decode prog_22_method_103_code 3 = .ok (.arraylength, 1) := by decide +kernel
theorem d_Ar_fillI_4 : decode prog_22_method_103_code 4 = .ok (.istore_n 3, 1) := by decide +kernel
theorem d_Ar_fillI_5 : decode prog_22_method_103_code 5 = .ok (.iload_n 2, 1) := by decide +kernel
theorem d_Ar_fillI_6 : decode prog_22_method_103_code 6 = .ok (.iload_n 3, 1) := by decide +kernel
theorem d_Ar_fillI_7 : decode prog_22_method_103_code 7 = .ok (.if_icmp .ge 13, 3) := by decide +kernel
theorem d_Ar_fillI_10 : decode prog_22_method_103_code 10 = .ok (.aload_n 0, 1) := by decide +kernel
theorem d_Ar_fillI_11 : decode prog_22_method_103_code 11 = .ok (.iload_n 2, 1) := by decide +kernel
theorem d_Ar_fillI_12 : decode prog_22_method_103_code 12 = .ok (.iload_n 1, 1) := by decide +kernel
theorem d_Ar_fillI_13 : decode prog_22_method_103_code 13 = .ok (.iastore, 1) := by decide +kernel
theorem d_Ar_fillI_14 : decode prog_22_method_103_code 14 = .ok (.iinc 2 1, 3) := by decide +kernel
theorem d_Ar_fillI_17 : decode prog_22_method_103_code 17 = .ok (.goto (-12), 3) := by decide +kernel
theorem d_Ar_fillI_20 : decode prog_22_method_103_code 20 = .ok (.return_, 1) := by decide +kernel
theorem M_Ar_fillI : lt_M0 m_Ar_fillI 2 := ⟨lt_m4 10 rfl rfl, lt_m1 20 rfl rfl, ⟨by decide +kernel, by decide +kernel, by decide +kernel⟩, by decide⟩
theorem st_Ar_fillI : Cond.static m_Ar_fillI.1 ∈ lt_T := lt_m4 9 rfl rfl
abbrev m_C_runLists : lt_M := (⟨"LinearSearch", "runLists", "()V"⟩, prog_1_method_17_code, 1, none)
theorem d_C_runLists_0 : decode prog_1_method_17_code 0 = .ok (.aload_n 0, 1) := by decide +kernel
theorem d_C_runLists_1 : decode prog_1_method_17_code 1 = .ok (.aload_n 0, 1) := by decide +kernel
theorem d_C_runLists_2 : decode prog_1_method_17_code 2 = .ok (.getfield 30, 3) := by decide +kernel
theorem d_C_runLists_5 : decode prog_1_method_17_code 5 = .ok (.aload_n 0, 1) := by decide +kernel
theorem d_C_runLists_6 : decode prog_1_method_17_code 6 = .ok (.getfield 51, 3) := by decide +kernel
theorem d_C_runLists_9 : decode prog_1_method_17_code 9 = .ok (.aload_n 0, 1) := by decide +kernel
theorem d_C_runLists_10 : decode prog_1_method_17_code 10 = .ok (.getfield 23, 3) := by decide +kernel
theorem d_C_runLists_13 : decode prog_1_method_17_code 13 = .ok (.iconst 0, 1) := by decide +kernel
theorem d_C_runLists_14 : decode prog_1_method_17_code 14 = .ok (.iconst 1, 1) := by decide +kernel
theorem d_C_runLists_15 : decode prog_1_method_17_code 15 = .ok (.invokevirtual 182, 3) := by decide +kernel
theorem d_C_runLists_18 : decode prog_1_method_17_code 18 = .ok (.putfield 58, 3) := by decide +kernel
theorem d_C_runLists_21 : decode prog_1_method_17_code 21 = .ok (.aload_n 0, 1) := by decide +kernel
theorem d_C_runLists_22 : decode prog_1_method_17_code 22 = .ok (.iconst 0, 1) := by decide +kernel
theorem d_C_runLists_23 : decode prog_1_method_17_code 23 = .ok (.aload_n 0, 1) := by decide +kernel
theorem d_C_runLists_24 : decode prog_1_method_17_code 24 = .ok (.getfield 30, 3) := by decide +kernel
theorem d_C_runLists_27 : decode prog_1_method_17_code 27 = .ok (.invokevirtual 185, 3) := by decide +kernel
theorem d_C_runLists_30 : decode prog_1_method_17_code 30 = .ok (.invokevirtual 153, 3) := by decide +kernel
theorem d_C_runLists_33 : decode prog_1_method_17_code 33 = .ok (.return_, 1) := by decide +kernel
theorem M_C_runLists : lt_M0 m_C_runLists 0 := ⟨lt_m4 64 rfl rfl, lt_m1 1 rfl rfl, ⟨by decide +kernel, by decide +kernel, by decide +kernel⟩, by decide⟩
theorem in_C_runLists : Cond.instanceMethod m_C_runLists.1 ∈ lt_T := lt_m4 63 rfl rfl
theorem se_C_runLists : Cond.selects "LinearSearch" m_C_runLists.1 m_C_runLists.1 ∈ lt_T := lt_memS 24 rfl rfl
abbrev m_C_leftmostEndingAt : lt_M := (⟨"LinearSearch", "leftmostEndingAt", "(I)J"⟩, prog_1_method_19_code, 5, (some .long))
theorem d_C_leftmostEndingAt_0 : decode prog_1_method_19_code 0 = .ok (.iconst 0, 1) := by decide +kernel
theorem d_C_leftmostEndingAt_1 : decode prog_1_method_19_code 1 = .ok (.istore_n 2, 1) := by decide +kernel
theorem d_C_leftmostEndingAt_2 : decode prog_1_method_19_code 2 = .ok (.iload_n 2, 1) := by decide +kernel
theorem d_C_leftmostEndingAt_3 : decode prog_1_method_19_code 3 = .ok (.iload_n 1, 1) := by decide +kernel
theorem d_C_leftmostEndingAt_4 : decode prog_1_method_19_code 4 = .ok (.if_icmp .gt 44, 3) := by decide +kernel
theorem d_C_leftmostEndingAt_7 : decode prog_1_method_19_code 7 = .ok (.aload_n 0, 1) := by decide +kernel
theorem d_C_leftmostEndingAt_8 : decode prog_1_method_19_code 8 = .ok (.getfield 30, 3) := by decide +kernel
theorem d_C_leftmostEndingAt_11 : decode prog_1_method_19_code 11 = .ok (.aload_n 0, 1) := by decide +kernel
theorem d_C_leftmostEndingAt_12 : decode prog_1_method_19_code 12 = .ok (.getfield 51, 3) := by decide +kernel
theorem d_C_leftmostEndingAt_15 : decode prog_1_method_19_code 15 = .ok (.aload_n 0, 1) := by decide +kernel
theorem d_C_leftmostEndingAt_16 : decode prog_1_method_19_code 16 = .ok (.getfield 23, 3) := by decide +kernel
theorem d_C_leftmostEndingAt_19 : decode prog_1_method_19_code 19 = .ok (.iload_n 2, 1) := by decide +kernel
theorem d_C_leftmostEndingAt_20 : decode prog_1_method_19_code 20 = .ok (.iconst 0, 1) := by decide +kernel
theorem d_C_leftmostEndingAt_21 : decode prog_1_method_19_code 21 = .ok (.invokevirtual 182, 3) := by decide +kernel
theorem d_C_leftmostEndingAt_24 : decode prog_1_method_19_code 24 = .ok (.lstore_n 3, 1) := by decide +kernel
theorem d_C_leftmostEndingAt_25 : decode prog_1_method_19_code 25 = .ok (.lload_n 3, 1) := by decide +kernel
theorem d_C_leftmostEndingAt_26 : decode prog_1_method_19_code 26 = .ok (.lconst 0, 1) := by decide +kernel
theorem d_C_leftmostEndingAt_27 : decode prog_1_method_19_code 27 = .ok (.lcmp, 1) := by decide +kernel
theorem d_C_leftmostEndingAt_28 : decode prog_1_method_19_code 28 = .ok (.ifCond .eq 14, 3) := by decide +kernel
theorem d_C_leftmostEndingAt_31 : decode prog_1_method_19_code 31 = .ok (.lload_n 3, 1) := by decide +kernel
theorem d_C_leftmostEndingAt_32 : decode prog_1_method_19_code 32 = .ok (.iconst 1, 1) := by decide +kernel
theorem d_C_leftmostEndingAt_33 : decode prog_1_method_19_code 33 = .ok (.invokestatic 167, 3) := by decide +kernel
theorem d_C_leftmostEndingAt_36 : decode prog_1_method_19_code 36 = .ok (.iload_n 1, 1) := by decide +kernel
theorem d_C_leftmostEndingAt_37 : decode prog_1_method_19_code 37 = .ok (.if_icmp .ne 5, 3) := by decide +kernel
theorem d_C_leftmostEndingAt_40 : decode prog_1_method_19_code 40 = .ok (.lload_n 3, 1) := by decide +kernel
theorem d_C_leftmostEndingAt_41 : decode prog_1_method_19_code 41 = .ok (.lreturn, 1) := by decide +kernel
theorem d_C_leftmostEndingAt_42 : decode prog_1_method_19_code 42 = .ok (.iinc 2 1, 3) := by decide +kernel
theorem d_C_leftmostEndingAt_45 : decode prog_1_method_19_code 45 = .ok (.goto (-43), 3) := by decide +kernel
theorem d_C_leftmostEndingAt_48 : decode prog_1_method_19_code 48 = .ok (.lconst 0, 1) := by decide +kernel
theorem d_C_leftmostEndingAt_49 : decode prog_1_method_19_code 49 = .ok (.lreturn, 1) := by decide +kernel
theorem M_C_leftmostEndingAt : lt_M0 m_C_leftmostEndingAt 1 := ⟨lt_m4 102 rfl rfl, lt_m1 1 rfl rfl, ⟨by decide +kernel, by decide +kernel, by decide +kernel⟩, by decide⟩
theorem in_C_leftmostEndingAt : Cond.instanceMethod m_C_leftmostEndingAt.1 ∈ lt_T := lt_m4 101 rfl rfl
theorem se_C_leftmostEndingAt : Cond.selects "LinearSearch" m_C_leftmostEndingAt.1 m_C_leftmostEndingAt.1 ∈ lt_T := lt_memS 27 rfl rfl
abbrev m_C_placeIn : lt_M := (⟨"LinearSearch", "placeIn", "(JI)I"⟩, prog_1_method_23_code, 3, (some .int))
theorem d_C_placeIn_0 : decode prog_1_method_23_code 0 = .ok (.lload_n 0, 1) := by decide +kernel
theorem d_C_placeIn_1 : decode prog_1_method_23_code 1 = .ok (.iconst 5, 1) := by decide +kernel
theorem d_C_placeIn_2 : decode prog_1_method_23_code 2 = .ok (.iload_n 2, 1) := by decide +kernel
theorem d_C_placeIn_3 : decode prog_1_method_23_code 3 = .ok (.imul, 1) := by decide +kernel
theorem d_C_placeIn_4 : decode prog_1_method_23_code 4 = .ok (.lushr, 1) := by decide +kernel
theorem d_C_placeIn_5 : decode prog_1_method_23_code 5 = .ok (.ldc2_w 203, 3) := by decide +kernel
theorem d_C_placeIn_8 : decode prog_1_method_23_code 8 = .ok (.land, 1) := by decide +kernel
theorem d_C_placeIn_9 : decode prog_1_method_23_code 9 = .ok (.l2i, 1) := by decide +kernel
theorem d_C_placeIn_10 : decode prog_1_method_23_code 10 = .ok (.iconst 1, 1) := by decide +kernel
theorem d_C_placeIn_11 : decode prog_1_method_23_code 11 = .ok (.isub, 1) := by decide +kernel
theorem d_C_placeIn_12 : decode prog_1_method_23_code 12 = .ok (.ireturn, 1) := by decide +kernel
theorem M_C_placeIn : lt_M0 m_C_placeIn 2 := ⟨lt_m4 105 rfl rfl, lt_m1 1 rfl rfl, ⟨by decide +kernel, by decide +kernel, by decide +kernel⟩, by decide⟩
theorem st_C_placeIn : Cond.static m_C_placeIn.1 ∈ lt_T := lt_m4 104 rfl rfl
abbrev m_C_slot : lt_M := (⟨"LinearSearch", "slot", "(IZ)I"⟩, prog_1_method_10_code, 3, (some .int))
theorem d_C_slot_0 : decode prog_1_method_10_code 0 = .ok (.iload_n 1, 1) := by decide +kernel
theorem d_C_slot_1 : decode prog_1_method_10_code 1 = .ok (.ifCond .lt 8, 3) := by decide +kernel
theorem d_C_slot_4 : decode prog_1_method_10_code 4 = .ok (.iload_n 1, 1) := by decide +kernel
theorem d_C_slot_5 : decode prog_1_method_10_code 5 = .ok (.iconst 3, 1) := by decide +kernel
theorem d_C_slot_6 : decode prog_1_method_10_code 6 = .ok (.if_icmp .le 13, 3) := by decide +kernel
theorem d_C_slot_9 : decode prog_1_method_10_code 9 = .ok (.new 110, 3) := by decide +kernel
theorem d_C_slot_12 : decode prog_1_method_10_code 12 = .ok (.dup, 1) := by decide +kernel
theorem d_C_slot_13 : decode prog_1_method_10_code 13 = .ok (.ldc 171, 2) := by decide +kernel
theorem d_C_slot_15 : decode prog_1_method_10_code 15 = .ok (.invokespecial 114, 3) := by decide +kernel
theorem d_C_slot_18 : decode prog_1_method_10_code 18 = .ok (.athrow, 1) := by decide +kernel
theorem d_C_slot_19 : decode prog_1_method_10_code 19 = .ok (.aload_n 0, 1) := by decide +kernel
theorem d_C_slot_20 : decode prog_1_method_10_code 20 = .ok (.getfield 58, 3) := by decide +kernel
theorem d_C_slot_23 : decode prog_1_method_10_code 23 = .ok (.iload_n 2, 1) := by decide +kernel
theorem d_C_slot_24 : decode prog_1_method_10_code 24 = .ok (.ifCond .eq 11, 3) := by decide +kernel
theorem d_C_slot_27 : decode prog_1_method_10_code 27 = .ok (.iconst 2, 1) := by decide +kernel
theorem d_C_slot_28 : decode prog_1_method_10_code 28 = .ok (.iload_n 1, 1) := by decide +kernel
theorem d_C_slot_29 : decode prog_1_method_10_code 29 = .ok (.imul, 1) := by decide +kernel
theorem d_C_slot_30 : decode prog_1_method_10_code 30 = .ok (.iconst 1, 1) := by decide +kernel
theorem d_C_slot_31 : decode prog_1_method_10_code 31 = .ok (.iadd, 1) := by decide +kernel
theorem d_C_slot_32 : decode prog_1_method_10_code 32 = .ok (.goto 6, 3) := by decide +kernel
theorem d_C_slot_35 : decode prog_1_method_10_code 35 = .ok (.iconst 2, 1) := by decide +kernel
theorem d_C_slot_36 : decode prog_1_method_10_code 36 = .ok (.iload_n 1, 1) := by decide +kernel
theorem d_C_slot_37 : decode prog_1_method_10_code 37 = .ok (.imul, 1) := by decide +kernel
theorem d_C_slot_38 : decode prog_1_method_10_code 38 = .ok (.invokestatic 167, 3) := by decide +kernel
theorem d_C_slot_41 : decode prog_1_method_10_code 41 = .ok (.ireturn, 1) := by decide +kernel
theorem M_C_slot : lt_M0 m_C_slot 2 := ⟨lt_m4 135 rfl rfl, lt_m1 1 rfl rfl, ⟨by decide +kernel, by decide +kernel, by decide +kernel⟩, by decide⟩
theorem in_C_slot : Cond.instanceMethod m_C_slot.1 ∈ lt_T := lt_m4 133 rfl rfl
theorem se_C_slot : Cond.selects "LinearSearch" m_C_slot.1 m_C_slot.1 ∈ lt_T := lt_m4 134 rfl rfl
abbrev m_C_breaks : lt_M := (⟨"LinearSearch", "breaks", "()I"⟩, prog_1_method_15_code, 10, (some .int))
theorem d_C_breaks_0 : decode prog_1_method_15_code 0 = .ok (.aload_n 0, 1) := by decide +kernel
theorem d_C_breaks_1 : decode prog_1_method_15_code 1 = .ok (.getfield 51, 3) := by decide +kernel
theorem d_C_breaks_4 : decode prog_1_method_15_code 4 = .ok (.invokevirtual 106, 3) := by decide +kernel
theorem d_C_breaks_7 : decode prog_1_method_15_code 7 = .ok (.ifCond .ne 13, 3) := by decide +kernel
theorem d_C_breaks_10 : decode prog_1_method_15_code 10 = .ok (.new 127, 3) := by decide +kernel
theorem d_C_breaks_13 : decode prog_1_method_15_code 13 = .ok (.dup, 1) := by decide +kernel
theorem d_C_breaks_14 : decode prog_1_method_15_code 14 = .ok (.ldc 129, 2) := by decide +kernel
theorem d_C_breaks_16 : decode prog_1_method_15_code 16 = .ok (.invokespecial 131, 3) := by decide +kernel
theorem d_C_breaks_19 : decode prog_1_method_15_code 19 = .ok (.athrow, 1) := by decide +kernel
theorem d_C_breaks_20 : decode prog_1_method_15_code 20 = .ok (.iconst 0, 1) := by decide +kernel
theorem d_C_breaks_21 : decode prog_1_method_15_code 21 = .ok (.istore_n 1, 1) := by decide +kernel
theorem d_C_breaks_22 : decode prog_1_method_15_code 22 = .ok (.iconst (-1), 1) := by decide +kernel
theorem d_C_breaks_23 : decode prog_1_method_15_code 23 = .ok (.istore_n 2, 1) := by decide +kernel
theorem d_C_breaks_24 : decode prog_1_method_15_code 24 = .ok (.iconst 0, 1) := by decide +kernel
theorem d_C_breaks_25 : decode prog_1_method_15_code 25 = .ok (.istore_n 3, 1) := by decide +kernel
theorem d_C_breaks_26 : decode prog_1_method_15_code 26 = .ok (.iconst 0, 1) := by decide +kernel
theorem d_C_breaks_27 : decode prog_1_method_15_code 27 = .ok (.istore 4, 2) := by decide +kernel
theorem d_C_breaks_29 : decode prog_1_method_15_code 29 = .ok (.iload 4, 2) := by decide +kernel
theorem d_C_breaks_31 : decode prog_1_method_15_code 31 = .ok (.bipush 20, 2) := by decide +kernel
theorem d_C_breaks_33 : decode prog_1_method_15_code 33 = .ok (.if_icmp .gt 111, 3) := by decide +kernel
theorem d_C_breaks_36 : decode prog_1_method_15_code 36 = .ok (.iload_n 3, 1) := by decide +kernel
theorem d_C_breaks_37 : decode prog_1_method_15_code 37 = .ok (.aload_n 0, 1) := by decide +kernel
theorem d_C_breaks_38 : decode prog_1_method_15_code 38 = .ok (.getfield 23, 3) := by decide +kernel
theorem d_C_breaks_41 : decode prog_1_method_15_code 41 = .ok (.invokevirtual 179, 3) := by decide +kernel
theorem d_C_breaks_44 : decode prog_1_method_15_code 44 = .ok (.if_icmp .gt 100, 3) := by decide +kernel
theorem d_C_breaks_47 : decode prog_1_method_15_code 47 = .ok (.aload_n 0, 1) := by decide +kernel
theorem d_C_breaks_48 : decode prog_1_method_15_code 48 = .ok (.getfield 30, 3) := by decide +kernel
theorem d_C_breaks_51 : decode prog_1_method_15_code 51 = .ok (.aload_n 0, 1) := by decide +kernel
theorem d_C_breaks_52 : decode prog_1_method_15_code 52 = .ok (.getfield 51, 3) := by decide +kernel
theorem d_C_breaks_55 : decode prog_1_method_15_code 55 = .ok (.aload_n 0, 1) := by decide +kernel
theorem d_C_breaks_56 : decode prog_1_method_15_code 56 = .ok (.getfield 23, 3) := by decide +kernel
theorem d_C_breaks_59 : decode prog_1_method_15_code 59 = .ok (.iload_n 3, 1) := by decide +kernel
theorem d_C_breaks_60 : decode prog_1_method_15_code 60 = .ok (.iconst 1, 1) := by decide +kernel
theorem d_C_breaks_61 : decode prog_1_method_15_code 61 = .ok (.invokevirtual 182, 3) := by decide +kernel
theorem d_C_breaks_64 : decode prog_1_method_15_code 64 = .ok (.lstore 5, 2) := by decide +kernel
theorem d_C_breaks_66 : decode prog_1_method_15_code 66 = .ok (.lload 5, 2) := by decide +kernel
theorem d_C_breaks_68 : decode prog_1_method_15_code 68 = .ok (.lconst 0, 1) := by decide +kernel
theorem d_C_breaks_69 : decode prog_1_method_15_code 69 = .ok (.lcmp, 1) := by decide +kernel
theorem d_C_breaks_70 : decode prog_1_method_15_code 70 = .ok (.ifCond .ne 6, 3) := by decide +kernel
theorem d_C_breaks_73 : decode prog_1_method_15_code 73 = .ok (.goto 71, 3) := by decide +kernel
theorem d_C_breaks_76 : decode prog_1_method_15_code 76 = .ok (.lload 5, 2) := by decide +kernel
theorem d_C_breaks_78 : decode prog_1_method_15_code 78 = .ok (.iconst 0, 1) := by decide +kernel
theorem d_C_breaks_79 : decode prog_1_method_15_code 79 = .ok (.invokestatic 167, 3) := by decide +kernel
theorem d_C_breaks_82 : decode prog_1_method_15_code 82 = .ok (.istore 7, 2) := by decide +kernel
theorem d_C_breaks_84 : decode prog_1_method_15_code 84 = .ok (.lload 5, 2) := by decide +kernel
theorem d_C_breaks_86 : decode prog_1_method_15_code 86 = .ok (.iconst 1, 1) := by decide +kernel
theorem d_C_breaks_87 : decode prog_1_method_15_code 87 = .ok (.invokestatic 167, 3) := by decide +kernel
theorem d_C_breaks_90 : decode prog_1_method_15_code 90 = .ok (.istore 8, 2) := by decide +kernel
theorem d_C_breaks_92 : decode prog_1_method_15_code 92 = .ok (.iload 7, 2) := by decide +kernel
theorem d_C_breaks_94 : decode prog_1_method_15_code 94 = .ok (.iload 8, 2) := by decide +kernel
theorem d_C_breaks_96 : decode prog_1_method_15_code 96 = .ok (.if_icmp .ne 7, 3) := by decide +kernel
theorem d_C_breaks_99 : decode prog_1_method_15_code 99 = .ok (.iconst 1, 1) := by decide +kernel
theorem d_C_breaks_100 : decode prog_1_method_15_code 100 = .ok (.goto 4, 3) := by decide +kernel
theorem d_C_breaks_103 : decode prog_1_method_15_code 103 = .ok (.iconst 0, 1) := by decide +kernel
theorem d_C_breaks_104 : decode prog_1_method_15_code 104 = .ok (.istore 9, 2) := by decide +kernel
theorem d_C_breaks_106 : decode prog_1_method_15_code 106 = .ok (.iload 9, 2) := by decide +kernel
theorem d_C_breaks_108 : decode prog_1_method_15_code 108 = .ok (.ifCond .eq 9, 3) := by decide +kernel
theorem d_C_breaks_111 : decode prog_1_method_15_code 111 = .ok (.iload 7, 2) := by decide +kernel
theorem d_C_breaks_113 : decode prog_1_method_15_code 113 = .ok (.iload_n 2, 1) := by decide +kernel
theorem d_C_breaks_114 : decode prog_1_method_15_code 114 = .ok (.if_icmp .eq 6, 3) := by decide +kernel
theorem d_C_breaks_117 : decode prog_1_method_15_code 117 = .ok (.iinc 1 1, 3) := by decide +kernel
theorem d_C_breaks_120 : decode prog_1_method_15_code 120 = .ok (.iload 8, 2) := by decide +kernel
theorem d_C_breaks_122 : decode prog_1_method_15_code 122 = .ok (.istore_n 2, 1) := by decide +kernel
theorem d_C_breaks_123 : decode prog_1_method_15_code 123 = .ok (.iload 9, 2) := by decide +kernel
theorem d_C_breaks_125 : decode prog_1_method_15_code 125 = .ok (.ifCond .eq 10, 3) := by decide +kernel
theorem d_C_breaks_128 : decode prog_1_method_15_code 128 = .ok (.iload 8, 2) := by decide +kernel
theorem d_C_breaks_130 : decode prog_1_method_15_code 130 = .ok (.iconst 1, 1) := by decide +kernel
theorem d_C_breaks_131 : decode prog_1_method_15_code 131 = .ok (.iadd, 1) := by decide +kernel
theorem d_C_breaks_132 : decode prog_1_method_15_code 132 = .ok (.goto 5, 3) := by decide +kernel
theorem d_C_breaks_135 : decode prog_1_method_15_code 135 = .ok (.iload 8, 2) := by decide +kernel
theorem d_C_breaks_137 : decode prog_1_method_15_code 137 = .ok (.istore_n 3, 1) := by decide +kernel
theorem d_C_breaks_138 : decode prog_1_method_15_code 138 = .ok (.iinc 4 1, 3) := by decide +kernel
theorem d_C_breaks_141 : decode prog_1_method_15_code 141 = .ok (.goto (-112), 3) := by decide +kernel
theorem d_C_breaks_144 : decode prog_1_method_15_code 144 = .ok (.iload_n 1, 1) := by decide +kernel
theorem d_C_breaks_145 : decode prog_1_method_15_code 145 = .ok (.ireturn, 1) := by decide +kernel
theorem M_C_breaks : lt_M0 m_C_breaks 0 := ⟨lt_m4 143 rfl rfl, lt_m1 1 rfl rfl, ⟨by decide +kernel, by decide +kernel, by decide +kernel⟩, by decide⟩
theorem in_C_breaks : Cond.instanceMethod m_C_breaks.1 ∈ lt_T := lt_m4 141 rfl rfl
theorem se_C_breaks : Cond.selects "LinearSearch" m_C_breaks.1 m_C_breaks.1 ∈ lt_T := lt_m4 142 rfl rfl
