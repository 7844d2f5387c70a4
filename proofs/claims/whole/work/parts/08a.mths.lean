/-! METHODS: names, code, decode rows, words; printed by wip/whole/gen_methods.py -/
abbrev m_Tx_init : lt_M := (⟨"LinearSearch$Text", "<init>", "()V"⟩, prog_9_method_1_code, 1, none)
theorem d_Tx_init_0 : decode prog_9_method_1_code 0 = .ok (.aload_n 0, 1) := by decide +kernel
theorem d_Tx_init_1 : decode prog_9_method_1_code 1 = .ok (.invokespecial 3, 3) := by decide +kernel
theorem d_Tx_init_4 : decode prog_9_method_1_code 4 = .ok (.aload_n 0, 1) := by decide +kernel
theorem d_Tx_init_5 : decode prog_9_method_1_code 5 = .ok (.bipush 20, 2) := by decide +kernel
theorem d_Tx_init_7 : decode prog_9_method_1_code 7 = .ok (.newarray .int, 2) := by decide +kernel
theorem d_Tx_init_9 : decode prog_9_method_1_code 9 = .ok (.putfield 9, 3) := by decide +kernel
theorem d_Tx_init_12 : decode prog_9_method_1_code 12 = .ok (.return_, 1) := by decide +kernel
theorem M_Tx_init : lt_M0 m_Tx_init 0 := ⟨lt_m1 56 rfl rfl, lt_m1 3 rfl rfl, ⟨by decide +kernel, by decide +kernel, by decide +kernel⟩, by decide⟩
theorem in_Tx_init : Cond.instanceMethod m_Tx_init.1 ∈ lt_T := lt_m1 55 rfl rfl
abbrev m_Fo_init : lt_M := (⟨"LinearSearch$Follower", "<init>", "()V"⟩, prog_3_method_1_code, 1, none)
theorem d_Fo_init_0 : decode prog_3_method_1_code 0 = .ok (.aload_n 0, 1) := by decide +kernel
theorem d_Fo_init_1 : decode prog_3_method_1_code 1 = .ok (.invokespecial 3, 3) := by decide +kernel
theorem d_Fo_init_4 : decode prog_3_method_1_code 4 = .ok (.aload_n 0, 1) := by decide +kernel
theorem d_Fo_init_5 : decode prog_3_method_1_code 5 = .ok (.bipush 25, 2) := by decide +kernel
theorem d_Fo_init_7 : decode prog_3_method_1_code 7 = .ok (.newarray .int, 2) := by decide +kernel
theorem d_Fo_init_9 : decode prog_3_method_1_code 9 = .ok (.putfield 11, 3) := by decide +kernel
theorem d_Fo_init_12 : decode prog_3_method_1_code 12 = .ok (.aload_n 0, 1) := by decide +kernel
theorem d_Fo_init_13 : decode prog_3_method_1_code 13 = .ok (.bipush 25, 2) := by decide +kernel
theorem d_Fo_init_15 : decode prog_3_method_1_code 15 = .ok (.newarray .long, 2) := by decide +kernel
theorem d_Fo_init_17 : decode prog_3_method_1_code 17 = .ok (.putfield 15, 3) := by decide +kernel
theorem d_Fo_init_20 : decode prog_3_method_1_code 20 = .ok (.return_, 1) := by decide +kernel
theorem M_Fo_init : lt_M0 m_Fo_init 0 := ⟨lt_m1 76 rfl rfl, lt_m1 5 rfl rfl, ⟨by decide +kernel, by decide +kernel, by decide +kernel⟩, by decide⟩
theorem in_Fo_init : Cond.instanceMethod m_Fo_init.1 ∈ lt_T := lt_m1 75 rfl rfl
abbrev m_TL_init : lt_M := (⟨"LinearSearch$ThreadList", "<init>", "()V"⟩, prog_10_method_1_code, 1, none)
theorem d_TL_init_0 : decode prog_10_method_1_code 0 = .ok (.aload_n 0, 1) := by decide +kernel
theorem d_TL_init_1 : decode prog_10_method_1_code 1 = .ok (.invokespecial 3, 3) := by decide +kernel
theorem d_TL_init_4 : decode prog_10_method_1_code 4 = .ok (.aload_n 0, 1) := by decide +kernel
theorem d_TL_init_5 : decode prog_10_method_1_code 5 = .ok (.bipush 25, 2) := by decide +kernel
theorem d_TL_init_7 : decode prog_10_method_1_code 7 = .ok (.newarray .int, 2) := by decide +kernel
theorem d_TL_init_9 : decode prog_10_method_1_code 9 = .ok (.putfield 9, 3) := by decide +kernel
theorem d_TL_init_12 : decode prog_10_method_1_code 12 = .ok (.aload_n 0, 1) := by decide +kernel
theorem d_TL_init_13 : decode prog_10_method_1_code 13 = .ok (.bipush 25, 2) := by decide +kernel
theorem d_TL_init_15 : decode prog_10_method_1_code 15 = .ok (.newarray .long, 2) := by decide +kernel
theorem d_TL_init_17 : decode prog_10_method_1_code 17 = .ok (.putfield 15, 3) := by decide +kernel
theorem d_TL_init_20 : decode prog_10_method_1_code 20 = .ok (.return_, 1) := by decide +kernel
theorem M_TL_init : lt_M0 m_TL_init 0 := ⟨lt_m1 111 rfl rfl, lt_m1 6 rfl rfl, ⟨by decide +kernel, by decide +kernel, by decide +kernel⟩, by decide⟩
theorem in_TL_init : Cond.instanceMethod m_TL_init.1 ∈ lt_T := lt_m1 110 rfl rfl
abbrev m_Pr_init : lt_M := (⟨"LinearSearch$Program", "<init>", "()V"⟩, prog_6_method_1_code, 1, none)
theorem d_Pr_init_0 : decode prog_6_method_1_code 0 = .ok (.aload_n 0, 1) := by decide +kernel
theorem d_Pr_init_1 : decode prog_6_method_1_code 1 = .ok (.invokespecial 3, 3) := by decide +kernel
theorem d_Pr_init_4 : decode prog_6_method_1_code 4 = .ok (.aload_n 0, 1) := by decide +kernel
theorem d_Pr_init_5 : decode prog_6_method_1_code 5 = .ok (.bipush 49, 2) := by decide +kernel
theorem d_Pr_init_7 : decode prog_6_method_1_code 7 = .ok (.newarray .int, 2) := by decide +kernel
theorem d_Pr_init_9 : decode prog_6_method_1_code 9 = .ok (.putfield 9, 3) := by decide +kernel
theorem d_Pr_init_12 : decode prog_6_method_1_code 12 = .ok (.aload_n 0, 1) := by decide +kernel
theorem d_Pr_init_13 : decode prog_6_method_1_code 13 = .ok (.bipush 49, 2) := by decide +kernel
theorem d_Pr_init_15 : decode prog_6_method_1_code 15 = .ok (.newarray .int, 2) := by decide +kernel
theorem d_Pr_init_17 : decode prog_6_method_1_code 17 = .ok (.putfield 15, 3) := by decide +kernel
theorem d_Pr_init_20 : decode prog_6_method_1_code 20 = .ok (.aload_n 0, 1) := by decide +kernel
theorem d_Pr_init_21 : decode prog_6_method_1_code 21 = .ok (.bipush 49, 2) := by decide +kernel
theorem d_Pr_init_23 : decode prog_6_method_1_code 23 = .ok (.newarray .int, 2) := by decide +kernel
theorem d_Pr_init_25 : decode prog_6_method_1_code 25 = .ok (.putfield 18, 3) := by decide +kernel
theorem d_Pr_init_28 : decode prog_6_method_1_code 28 = .ok (.return_, 1) := by decide +kernel
theorem M_Pr_init : lt_M0 m_Pr_init 0 := ⟨lt_m1 200 rfl rfl, lt_m1 9 rfl rfl, ⟨by decide +kernel, by decide +kernel, by decide +kernel⟩, by decide⟩
theorem in_Pr_init : Cond.instanceMethod m_Pr_init.1 ∈ lt_T := lt_m1 199 rfl rfl
abbrev m_St_init : lt_M := (⟨"LinearSearch$State", "<init>", "()V"⟩, prog_8_method_1_code, 1, none)
theorem d_St_init_0 : decode prog_8_method_1_code 0 = .ok (.aload_n 0, 1) := by decide +kernel
theorem d_St_init_1 : decode prog_8_method_1_code 1 = .ok (.invokespecial 3, 3) := by decide +kernel
theorem d_St_init_4 : decode prog_8_method_1_code 4 = .ok (.aload_n 0, 1) := by decide +kernel
theorem d_St_init_5 : decode prog_8_method_1_code 5 = .ok (.bipush 25, 2) := by decide +kernel
theorem d_St_init_7 : decode prog_8_method_1_code 7 = .ok (.newarray .int, 2) := by decide +kernel
theorem d_St_init_9 : decode prog_8_method_1_code 9 = .ok (.putfield 9, 3) := by decide +kernel
theorem d_St_init_12 : decode prog_8_method_1_code 12 = .ok (.aload_n 0, 1) := by decide +kernel
theorem d_St_init_13 : decode prog_8_method_1_code 13 = .ok (.bipush 8, 2) := by decide +kernel
theorem d_St_init_15 : decode prog_8_method_1_code 15 = .ok (.newarray .int, 2) := by decide +kernel
theorem d_St_init_17 : decode prog_8_method_1_code 17 = .ok (.putfield 15, 3) := by decide +kernel
theorem d_St_init_20 : decode prog_8_method_1_code 20 = .ok (.return_, 1) := by decide +kernel
theorem M_St_init : lt_M0 m_St_init 0 := ⟨lt_m1 229 rfl rfl, lt_m1 11 rfl rfl, ⟨by decide +kernel, by decide +kernel, by decide +kernel⟩, by decide⟩
theorem in_St_init : Cond.instanceMethod m_St_init.1 ∈ lt_T := lt_m1 228 rfl rfl
abbrev m_Tx_add : lt_M := (⟨"LinearSearch$Text", "add", "(C)Z"⟩, prog_9_method_2_code, 3, (some .boolean))
theorem d_Tx_add_0 : decode prog_9_method_2_code 0 = .ok (.iload_n 1, 1) := by decide +kernel
theorem d_Tx_add_1 : decode prog_9_method_2_code 1 = .ok (.bipush 97, 2) := by decide +kernel
theorem d_Tx_add_3 : decode prog_9_method_2_code 3 = .ok (.isub, 1) := by decide +kernel
theorem d_Tx_add_4 : decode prog_9_method_2_code 4 = .ok (.istore_n 2, 1) := by decide +kernel
theorem d_Tx_add_5 : decode prog_9_method_2_code 5 = .ok (.iload_n 2, 1) := by decide +kernel
theorem d_Tx_add_6 : decode prog_9_method_2_code 6 = .ok (.ifCond .lt 28, 3) := by decide +kernel
theorem d_Tx_add_9 : decode prog_9_method_2_code 9 = .ok (.iload_n 2, 1) := by decide +kernel
theorem d_Tx_add_10 : decode prog_9_method_2_code 10 = .ok (.bipush 8, 2) := by decide +kernel
theorem d_Tx_add_12 : decode prog_9_method_2_code 12 = .ok (.if_icmp .ge 22, 3) := by decide +kernel
theorem d_Tx_add_15 : decode prog_9_method_2_code 15 = .ok (.aload_n 0, 1) := by decide +kernel
theorem d_Tx_add_16 : decode prog_9_method_2_code 16 = .ok (.getfield 15, 3) := by decide +kernel
theorem d_Tx_add_19 : decode prog_9_method_2_code 19 = .ok (.ifCond .lt 15, 3) := by decide +kernel
theorem d_Tx_add_22 : decode prog_9_method_2_code 22 = .ok (.aload_n 0, 1) := by decide +kernel
theorem d_Tx_add_23 : decode prog_9_method_2_code 23 = .ok (.getfield 15, 3) := by decide +kernel
theorem d_Tx_add_26 : decode prog_9_method_2_code 26 = .ok (.aload_n 0, 1) := by decide +kernel
theorem d_Tx_add_27 : decode prog_9_method_2_code 27 = .ok (.getfield 9, 3) := by decide +kernel
theorem d_Tx_add_30 : decode prog_9_method_2_code 30 = .ok (.arraylength, 1) := by decide +kernel
theorem d_Tx_add_31 : decode prog_9_method_2_code 31 = .ok (.if_icmp .lt 5, 3) := by decide +kernel
theorem d_Tx_add_34 : decode prog_9_method_2_code 34 = .ok (.iconst 0, 1) := by decide +kernel
theorem d_Tx_add_35 : decode prog_9_method_2_code 35 = .ok (.ireturn, 1) := by decide +kernel
theorem d_Tx_add_36 : decode prog_9_method_2_code 36 = .ok (.aload_n 0, 1) := by decide +kernel
theorem d_Tx_add_37 : decode prog_9_method_2_code 37 = .ok (.getfield 9, 3) := by decide +kernel
theorem d_Tx_add_40 : decode prog_9_method_2_code 40 = .ok (.aload_n 0, 1) := by decide +kernel
theorem d_Tx_add_41 : decode prog_9_method_2_code 41 = .ok (.getfield 15, 3) := by decide +kernel
theorem d_Tx_add_44 : decode prog_9_method_2_code 44 = .ok (.iload_n 2, 1) := by decide +kernel
theorem d_Tx_add_45 : decode prog_9_method_2_code 45 = .ok (.iastore, 1) := by decide +kernel
theorem d_Tx_add_46 : decode prog_9_method_2_code 46 = .ok (.aload_n 0, 1) := by decide +kernel
theorem d_Tx_add_47 : decode prog_9_method_2_code 47 = .ok (.dup, 1) := by decide +kernel
theorem d_Tx_add_48 : decode prog_9_method_2_code 48 = .ok (.getfield 15, 3) := by decide +kernel
theorem d_Tx_add_51 : decode prog_9_method_2_code 51 = .ok (.iconst 1, 1) := by decide +kernel
theorem d_Tx_add_52 : decode prog_9_method_2_code 52 = .ok (.iadd, 1) := by decide +kernel
theorem d_Tx_add_53 : decode prog_9_method_2_code 53 = .ok (.putfield 15, 3) := by decide +kernel
theorem d_Tx_add_56 : decode prog_9_method_2_code 56 = .ok (.iconst 1, 1) := by decide +kernel
theorem d_Tx_add_57 : decode prog_9_method_2_code 57 = .ok (.ireturn, 1) := by decide +kernel
theorem M_Tx_add : lt_M0 m_Tx_add 1 := ⟨lt_m2 96 rfl rfl, lt_m1 3 rfl rfl, ⟨by decide +kernel, by decide +kernel, by decide +kernel⟩, by decide⟩
theorem in_Tx_add : Cond.instanceMethod m_Tx_add.1 ∈ lt_T := lt_m2 94 rfl rfl
theorem se_Tx_add : Cond.selects "LinearSearch$Text" m_Tx_add.1 m_Tx_add.1 ∈ lt_T := lt_m2 95 rfl rfl
abbrev m_Tx_empty : lt_M := (⟨"LinearSearch$Text", "empty", "()V"⟩, prog_9_method_3_code, 1, none)
theorem d_Tx_empty_0 : decode prog_9_method_3_code 0 = .ok (.aload_n 0, 1) := by decide +kernel
theorem d_Tx_empty_1 : decode prog_9_method_3_code 1 = .ok (.iconst 0, 1) := by decide +kernel
theorem d_Tx_empty_2 : decode prog_9_method_3_code 2 = .ok (.putfield 15, 3) := by decide +kernel
theorem d_Tx_empty_5 : decode prog_9_method_3_code 5 = .ok (.return_, 1) := by decide +kernel
theorem M_Tx_empty : lt_M0 m_Tx_empty 0 := ⟨lt_m2 112 rfl rfl, lt_m1 3 rfl rfl, ⟨by decide +kernel, by decide +kernel, by decide +kernel⟩, by decide⟩
theorem in_Tx_empty : Cond.instanceMethod m_Tx_empty.1 ∈ lt_T := lt_m2 110 rfl rfl
theorem se_Tx_empty : Cond.selects "LinearSearch$Text" m_Tx_empty.1 m_Tx_empty.1 ∈ lt_T := lt_m2 111 rfl rfl
abbrev m_Pr_empty : lt_M := (⟨"LinearSearch$Program", "empty", "()V"⟩, prog_6_method_2_code, 1, none)
theorem d_Pr_empty_0 : decode prog_6_method_2_code 0 = .ok (.aload_n 0, 1) := by decide +kernel
theorem d_Pr_empty_1 : decode prog_6_method_2_code 1 = .ok (.iconst 0, 1) := by decide +kernel
theorem d_Pr_empty_2 : decode prog_6_method_2_code 2 = .ok (.putfield 21, 3) := by decide +kernel
theorem d_Pr_empty_5 : decode prog_6_method_2_code 5 = .ok (.return_, 1) := by decide +kernel
theorem M_Pr_empty : lt_M0 m_Pr_empty 0 := ⟨lt_m2 155 rfl rfl, lt_m1 9 rfl rfl, ⟨by decide +kernel, by decide +kernel, by decide +kernel⟩, by decide⟩
theorem in_Pr_empty : Cond.instanceMethod m_Pr_empty.1 ∈ lt_T := lt_m2 153 rfl rfl
theorem se_Pr_empty : Cond.selects "LinearSearch$Program" m_Pr_empty.1 m_Pr_empty.1 ∈ lt_T := lt_m2 154 rfl rfl
abbrev m_Pr_size : lt_M := (⟨"LinearSearch$Program", "size", "()I"⟩, prog_6_method_3_code, 1, (some .int))
theorem d_Pr_size_0 : decode prog_6_method_3_code 0 = .ok (.aload_n 0, 1) := by decide +kernel
theorem d_Pr_size_1 : decode prog_6_method_3_code 1 = .ok (.getfield 21, 3) := by decide +kernel
theorem d_Pr_size_4 : decode prog_6_method_3_code 4 = .ok (.ireturn, 1) := by decide +kernel
theorem M_Pr_size : lt_M0 m_Pr_size 0 := ⟨lt_m2 163 rfl rfl, lt_m1 9 rfl rfl, ⟨by decide +kernel, by decide +kernel, by decide +kernel⟩, by decide⟩
theorem in_Pr_size : Cond.instanceMethod m_Pr_size.1 ∈ lt_T := lt_m2 161 rfl rfl
theorem se_Pr_size : Cond.selects "LinearSearch$Program" m_Pr_size.1 m_Pr_size.1 ∈ lt_T := lt_m2 162 rfl rfl
abbrev m_Pr_add : lt_M := (⟨"LinearSearch$Program", "add", "(II)V"⟩, prog_6_method_9_code, 3, none)
theorem d_Pr_add_0 : decode prog_6_method_9_code 0 = .ok (.aload_n 0, 1) := by decide +kernel
theorem d_Pr_add_1 : decode prog_6_method_9_code 1 = .ok (.getfield 21, 3) := by decide +kernel
theorem d_Pr_add_4 : decode prog_6_method_9_code 4 = .ok (.ifCond .lt 52, 3) := by decide +kernel
theorem d_Pr_add_7 : decode prog_6_method_9_code 7 = .ok (.aload_n 0, 1) := by decide +kernel
theorem d_Pr_add_8 : decode prog_6_method_9_code 8 = .ok (.getfield 21, 3) := by decide +kernel
theorem d_Pr_add_11 : decode prog_6_method_9_code 11 = .ok (.bipush 49, 2) := by decide +kernel
theorem d_Pr_add_13 : decode prog_6_method_9_code 13 = .ok (.if_icmp .ge 43, 3) := by decide +kernel
theorem d_Pr_add_16 : decode prog_6_method_9_code 16 = .ok (.aload_n 0, 1) := by decide +kernel
theorem d_Pr_add_17 : decode prog_6_method_9_code 17 = .ok (.getfield 9, 3) := by decide +kernel
theorem d_Pr_add_20 : decode prog_6_method_9_code 20 = .ok (.aload_n 0, 1) := by decide +kernel
theorem d_Pr_add_21 : decode prog_6_method_9_code 21 = .ok (.getfield 21, 3) := by decide +kernel
theorem d_Pr_add_24 : decode prog_6_method_9_code 24 = .ok (.iload_n 1, 1) := by decide +kernel
theorem d_Pr_add_25 : decode prog_6_method_9_code 25 = .ok (.iastore, 1) := by decide +kernel
theorem d_Pr_add_26 : decode prog_6_method_9_code 26 = .ok (.aload_n 0, 1) := by decide +kernel
theorem d_Pr_add_27 : decode prog_6_method_9_code 27 = .ok (.getfield 15, 3) := by decide +kernel
theorem d_Pr_add_30 : decode prog_6_method_9_code 30 = .ok (.aload_n 0, 1) := by decide +kernel
theorem d_Pr_add_31 : decode prog_6_method_9_code 31 = .ok (.getfield 21, 3) := by decide +kernel
theorem d_Pr_add_34 : decode prog_6_method_9_code 34 = .ok (.iload_n 2, 1) := by decide +kernel
theorem d_Pr_add_35 : decode prog_6_method_9_code 35 = .ok (.iastore, 1) := by decide +kernel
theorem d_Pr_add_36 : decode prog_6_method_9_code 36 = .ok (.aload_n 0, 1) := by decide +kernel
theorem d_Pr_add_37 : decode prog_6_method_9_code 37 = .ok (.getfield 18, 3) := by decide +kernel
theorem d_Pr_add_40 : decode prog_6_method_9_code 40 = .ok (.aload_n 0, 1) := by decide +kernel
theorem d_Pr_add_41 : decode prog_6_method_9_code 41 = .ok (.getfield 21, 3) := by decide +kernel
theorem d_Pr_add_44 : decode prog_6_method_9_code 44 = .ok (.iconst 0, 1) := by decide +kernel
theorem d_Pr_add_45 : decode prog_6_method_9_code 45 = .ok (.iastore, 1) := by decide +kernel
theorem d_Pr_add_46 : decode prog_6_method_9_code 46 = .ok (.aload_n 0, 1) := by decide +kernel
theorem d_Pr_add_47 : decode prog_6_method_9_code 47 = .ok (.dup, 1) := by decide +kernel
theorem d_Pr_add_48 : decode prog_6_method_9_code 48 = .ok (.getfield 21, 3) := by decide +kernel
theorem d_Pr_add_51 : decode prog_6_method_9_code 51 = .ok (.iconst 1, 1) := by decide +kernel
theorem d_Pr_add_52 : decode prog_6_method_9_code 52 = .ok (.iadd, 1) := by decide +kernel
theorem d_Pr_add_53 : decode prog_6_method_9_code 53 = .ok (.putfield 21, 3) := by decide +kernel
theorem d_Pr_add_56 : decode prog_6_method_9_code 56 = .ok (.return_, 1) := by decide +kernel
theorem M_Pr_add : lt_M0 m_Pr_add 2 := ⟨lt_m2 183 rfl rfl, lt_m1 9 rfl rfl, ⟨by decide +kernel, by decide +kernel, by decide +kernel⟩, by decide⟩
theorem in_Pr_add : Cond.instanceMethod m_Pr_add.1 ∈ lt_T := lt_m2 181 rfl rfl
theorem se_Pr_add : Cond.selects "LinearSearch$Program" m_Pr_add.1 m_Pr_add.1 ∈ lt_T := lt_m2 182 rfl rfl
abbrev m_Pr_insertSplit : lt_M := (⟨"LinearSearch$Program", "insertSplit", "(I)V"⟩, prog_6_method_11_code, 5, none)
theorem d_Pr_insertSplit_0 : decode prog_6_method_11_code 0 = .ok (.iload_n 1, 1) := by decide +kernel
theorem d_Pr_insertSplit_1 : decode prog_6_method_11_code 1 = .ok (.ifCond .lt 20, 3) := by decide +kernel
theorem d_Pr_insertSplit_4 : decode prog_6_method_11_code 4 = .ok (.iload_n 1, 1) := by decide +kernel
theorem d_Pr_insertSplit_5 : decode prog_6_method_11_code 5 = .ok (.aload_n 0, 1) := by decide +kernel
theorem d_Pr_insertSplit_6 : decode prog_6_method_11_code 6 = .ok (.getfield 21, 3) := by decide +kernel
theorem d_Pr_insertSplit_9 : decode prog_6_method_11_code 9 = .ok (.if_icmp .gt 12, 3) := by decide +kernel
theorem d_Pr_insertSplit_12 : decode prog_6_method_11_code 12 = .ok (.aload_n 0, 1) := by decide +kernel
theorem d_Pr_insertSplit_13 : decode prog_6_method_11_code 13 = .ok (.getfield 21, 3) := by decide +kernel
theorem d_Pr_insertSplit_16 : decode prog_6_method_11_code 16 = .ok (.bipush 49, 2) := by decide +kernel
theorem d_Pr_insertSplit_18 : decode prog_6_method_11_code 18 = .ok (.if_icmp .lt 4, 3) := by decide +kernel
theorem d_Pr_insertSplit_21 : decode prog_6_method_11_code 21 = .ok (.return_, 1) := by decide +kernel
theorem d_Pr_insertSplit_22 : decode prog_6_method_11_code 22 = .ok (.aload_n 0, 1) := by decide +kernel
theorem d_Pr_insertSplit_23 : decode prog_6_method_11_code 23 = .ok (.getfield 21, 3) := by decide +kernel
theorem d_Pr_insertSplit_26 : decode prog_6_method_11_code 26 = .ok (.istore_n 2, 1) := by decide +kernel
theorem d_Pr_insertSplit_27 : decode prog_6_method_11_code 27 = .ok (.iload_n 2, 1) := by decide +kernel
theorem d_Pr_insertSplit_28 : decode prog_6_method_11_code 28 = .ok (.iload_n 1, 1) := by decide +kernel
theorem d_Pr_insertSplit_29 : decode prog_6_method_11_code 29 = .ok (.if_icmp .le 130, 3) := by decide +kernel
theorem d_Pr_insertSplit_32 : decode prog_6_method_11_code 32 = .ok (.aload_n 0, 1) := by decide +kernel
theorem d_Pr_insertSplit_33 : decode prog_6_method_11_code 33 = .ok (.getfield 9, 3) := by decide +kernel
theorem d_Pr_insertSplit_36 : decode prog_6_method_11_code 36 = .ok (.iload_n 2, 1) := by decide +kernel
theorem d_Pr_insertSplit_37 : decode prog_6_method_11_code 37 = .ok (.iconst 1, 1) := by decide +kernel
theorem d_Pr_insertSplit_38 : decode prog_6_method_11_code 38 = .ok (.isub, 1) := by decide +kernel
theorem d_Pr_insertSplit_39 : decode prog_6_method_11_code 39 = .ok (.iaload, 1) := by decide +kernel
theorem d_Pr_insertSplit_40 : decode prog_6_method_11_code 40 = .ok (.istore_n 3, 1) := by decide +kernel
theorem d_Pr_insertSplit_41 : decode prog_6_method_11_code 41 = .ok (.iload_n 3, 1) := by decide +kernel
theorem d_Pr_insertSplit_42 : decode prog_6_method_11_code 42 = .ok (.iconst 2, 1) := by decide +kernel
theorem d_Pr_insertSplit_43 : decode prog_6_method_11_code 43 = .ok (.if_icmp .eq 8, 3) := by decide +kernel
theorem d_Pr_insertSplit_46 : decode prog_6_method_11_code 46 = .ok (.iload_n 3, 1) := by decide +kernel
theorem d_Pr_insertSplit_47 : decode prog_6_method_11_code 47 = .ok (.iconst 3, 1) := by decide +kernel
theorem d_Pr_insertSplit_48 : decode prog_6_method_11_code 48 = .ok (.if_icmp .ne 7, 3) := by decide +kernel
theorem d_Pr_insertSplit_51 : decode prog_6_method_11_code 51 = .ok (.iconst 1, 1) := by decide +kernel
theorem d_Pr_insertSplit_52 : decode prog_6_method_11_code 52 = .ok (.goto 4, 3) := by decide +kernel
theorem d_Pr_insertSplit_55 : decode prog_6_method_11_code 55 = .ok (.iconst 0, 1) := by decide +kernel
theorem d_Pr_insertSplit_56 : decode prog_6_method_11_code 56 = .ok (.istore 4, 2) := by decide +kernel
theorem d_Pr_insertSplit_58 : decode prog_6_method_11_code 58 = .ok (.aload_n 0, 1) := by decide +kernel
theorem d_Pr_insertSplit_59 : decode prog_6_method_11_code 59 = .ok (.getfield 9, 3) := by decide +kernel
theorem d_Pr_insertSplit_62 : decode prog_6_method_11_code 62 = .ok (.iload_n 2, 1) := by decide +kernel
theorem d_Pr_insertSplit_63 : decode prog_6_method_11_code 63 = .ok (.iload_n 3, 1) := by decide +kernel
theorem d_Pr_insertSplit_64 : decode prog_6_method_11_code 64 = .ok (.iastore, 1) := by decide +kernel
theorem d_Pr_insertSplit_65 : decode prog_6_method_11_code 65 = .ok (.aload_n 0, 1) := by decide +kernel
theorem d_Pr_insertSplit_66 : decode prog_6_method_11_code 66 = .ok (.getfield 15, 3) := by decide +kernel
theorem d_Pr_insertSplit_69 : decode prog_6_method_11_code 69 = .ok (.iload_n 2, 1) := by decide +kernel
theorem d_Pr_insertSplit_70 : decode prog_6_method_11_code 70 = .ok (.iload 4, 2) := by decide +kernel
theorem d_Pr_insertSplit_72 : decode prog_6_method_11_code 72 = .ok (.ifCond .eq 28, 3) := by decide +kernel
theorem d_Pr_insertSplit_75 : decode prog_6_method_11_code 75 = .ok (.aload_n 0, 1) := by decide +kernel
theorem d_Pr_insertSplit_76 : decode prog_6_method_11_code 76 = .ok (.getfield 15, 3) := by decide +kernel
theorem d_Pr_insertSplit_79 : decode prog_6_method_11_code 79 = .ok (.iload_n 2, 1) := by decide +kernel
theorem d_Pr_insertSplit_80 : decode prog_6_method_11_code 80 = .ok (.iconst 1, 1) := by decide +kernel
theorem d_Pr_insertSplit_81 : decode prog_6_method_11_code 81 = .ok (.isub, 1) := by decide +kernel
theorem d_Pr_insertSplit_82 : decode prog_6_method_11_code 82 = .ok (.iaload, 1) := by decide +kernel
theorem d_Pr_insertSplit_83 : decode prog_6_method_11_code 83 = .ok (.iload_n 1, 1) := by decide +kernel
theorem d_Pr_insertSplit_84 : decode prog_6_method_11_code 84 = .ok (.if_icmp .lt 16, 3) := by decide +kernel
theorem d_Pr_insertSplit_87 : decode prog_6_method_11_code 87 = .ok (.aload_n 0, 1) := by decide +kernel
theorem d_Pr_insertSplit_88 : decode prog_6_method_11_code 88 = .ok (.getfield 15, 3) := by decide +kernel
theorem d_Pr_insertSplit_91 : decode prog_6_method_11_code 91 = .ok (.iload_n 2, 1) := by decide +kernel
theorem d_Pr_insertSplit_92 : decode prog_6_method_11_code 92 = .ok (.iconst 1, 1) := by decide +kernel
theorem d_Pr_insertSplit_93 : decode prog_6_method_11_code 93 = .ok (.isub, 1) := by decide +kernel
theorem d_Pr_insertSplit_94 : decode prog_6_method_11_code 94 = .ok (.iaload, 1) := by decide +kernel
theorem d_Pr_insertSplit_95 : decode prog_6_method_11_code 95 = .ok (.iconst 1, 1) := by decide +kernel
theorem d_Pr_insertSplit_96 : decode prog_6_method_11_code 96 = .ok (.iadd, 1) := by decide +kernel
theorem d_Pr_insertSplit_97 : decode prog_6_method_11_code 97 = .ok (.goto 11, 3) := by decide +kernel
theorem d_Pr_insertSplit_100 : decode prog_6_method_11_code 100 = .ok (.aload_n 0, 1) := by decide +kernel
theorem d_Pr_insertSplit_101 : decode prog_6_method_11_code 101 = .ok (.getfield 15, 3) := by decide +kernel
theorem d_Pr_insertSplit_104 : decode prog_6_method_11_code 104 = .ok (.iload_n 2, 1) := by decide +kernel
theorem d_Pr_insertSplit_105 : decode prog_6_method_11_code 105 = .ok (.iconst 1, 1) := by decide +kernel
theorem d_Pr_insertSplit_106 : decode prog_6_method_11_code 106 = .ok (.isub, 1) := by decide +kernel
theorem d_Pr_insertSplit_107 : decode prog_6_method_11_code 107 = .ok (.iaload, 1) := by decide +kernel
theorem d_Pr_insertSplit_108 : decode prog_6_method_11_code 108 = .ok (.iastore, 1) := by decide +kernel
theorem d_Pr_insertSplit_109 : decode prog_6_method_11_code 109 = .ok (.aload_n 0, 1) := by decide +kernel
theorem d_Pr_insertSplit_110 : decode prog_6_method_11_code 110 = .ok (.getfield 18, 3) := by decide +kernel
theorem d_Pr_insertSplit_113 : decode prog_6_method_11_code 113 = .ok (.iload_n 2, 1) := by decide +kernel
theorem d_Pr_insertSplit_114 : decode prog_6_method_11_code 114 = .ok (.iload_n 3, 1) := by decide +kernel
theorem d_Pr_insertSplit_115 : decode prog_6_method_11_code 115 = .ok (.iconst 2, 1) := by decide +kernel
theorem d_Pr_insertSplit_116 : decode prog_6_method_11_code 116 = .ok (.if_icmp .ne 28, 3) := by decide +kernel
theorem d_Pr_insertSplit_119 : decode prog_6_method_11_code 119 = .ok (.aload_n 0, 1) := by decide +kernel
theorem d_Pr_insertSplit_120 : decode prog_6_method_11_code 120 = .ok (.getfield 18, 3) := by decide +kernel
theorem d_Pr_insertSplit_123 : decode prog_6_method_11_code 123 = .ok (.iload_n 2, 1) := by decide +kernel
theorem d_Pr_insertSplit_124 : decode prog_6_method_11_code 124 = .ok (.iconst 1, 1) := by decide +kernel
theorem d_Pr_insertSplit_125 : decode prog_6_method_11_code 125 = .ok (.isub, 1) := by decide +kernel
theorem d_Pr_insertSplit_126 : decode prog_6_method_11_code 126 = .ok (.iaload, 1) := by decide +kernel
theorem d_Pr_insertSplit_127 : decode prog_6_method_11_code 127 = .ok (.iload_n 1, 1) := by decide +kernel
theorem d_Pr_insertSplit_128 : decode prog_6_method_11_code 128 = .ok (.if_icmp .lt 16, 3) := by decide +kernel
theorem d_Pr_insertSplit_131 : decode prog_6_method_11_code 131 = .ok (.aload_n 0, 1) := by decide +kernel
theorem d_Pr_insertSplit_132 : decode prog_6_method_11_code 132 = .ok (.getfield 18, 3) := by decide +kernel
theorem d_Pr_insertSplit_135 : decode prog_6_method_11_code 135 = .ok (.iload_n 2, 1) := by decide +kernel
theorem d_Pr_insertSplit_136 : decode prog_6_method_11_code 136 = .ok (.iconst 1, 1) := by decide +kernel
theorem d_Pr_insertSplit_137 : decode prog_6_method_11_code 137 = .ok (.isub, 1) := by decide +kernel
theorem d_Pr_insertSplit_138 : decode prog_6_method_11_code 138 = .ok (.iaload, 1) := by decide +kernel
theorem d_Pr_insertSplit_139 : decode prog_6_method_11_code 139 = .ok (.iconst 1, 1) := by decide +kernel
theorem d_Pr_insertSplit_140 : decode prog_6_method_11_code 140 = .ok (.iadd, 1) := by decide +kernel
theorem d_Pr_insertSplit_141 : decode prog_6_method_11_code 141 = .ok (.goto 11, 3) := by decide +kernel
theorem d_Pr_insertSplit_144 : decode prog_6_method_11_code 144 = .ok (.aload_n 0, 1) := by decide +kernel
theorem d_Pr_insertSplit_145 : decode prog_6_method_11_code 145 = .ok (.getfield 18, 3) := by decide +kernel
theorem d_Pr_insertSplit_148 : decode prog_6_method_11_code 148 = .ok (.iload_n 2, 1) := by decide +kernel
theorem d_Pr_insertSplit_149 : decode prog_6_method_11_code 149 = .ok (.iconst 1, 1) := by decide +kernel
theorem d_Pr_insertSplit_150 : decode prog_6_method_11_code 150 = .ok (.isub, 1) := by decide +kernel
theorem d_Pr_insertSplit_151 : decode prog_6_method_11_code 151 = .ok (.iaload, 1) := by decide +kernel
theorem d_Pr_insertSplit_152 : decode prog_6_method_11_code 152 = .ok (.iastore, 1) := by decide +kernel
theorem d_Pr_insertSplit_153 : decode prog_6_method_11_code 153 = .ok (.iinc 2 (-1), 3) := by decide +kernel
theorem d_Pr_insertSplit_156 : decode prog_6_method_11_code 156 = .ok (.goto (-129), 3) := by decide +kernel
theorem d_Pr_insertSplit_159 : decode prog_6_method_11_code 159 = .ok (.aload_n 0, 1) := by decide +kernel
theorem d_Pr_insertSplit_160 : decode prog_6_method_11_code 160 = .ok (.getfield 9, 3) := by decide +kernel
theorem d_Pr_insertSplit_163 : decode prog_6_method_11_code 163 = .ok (.iload_n 1, 1) := by decide +kernel
theorem d_Pr_insertSplit_164 : decode prog_6_method_11_code 164 = .ok (.iconst 2, 1) := by decide +kernel
theorem d_Pr_insertSplit_165 : decode prog_6_method_11_code 165 = .ok (.iastore, 1) := by decide +kernel
theorem d_Pr_insertSplit_166 : decode prog_6_method_11_code 166 = .ok (.aload_n 0, 1) := by decide +kernel
theorem d_Pr_insertSplit_167 : decode prog_6_method_11_code 167 = .ok (.dup, 1) := by decide +kernel
theorem d_Pr_insertSplit_168 : decode prog_6_method_11_code 168 = .ok (.getfield 21, 3) := by decide +kernel
theorem d_Pr_insertSplit_171 : decode prog_6_method_11_code 171 = .ok (.iconst 1, 1) := by decide +kernel
theorem d_Pr_insertSplit_172 : decode prog_6_method_11_code 172 = .ok (.iadd, 1) := by decide +kernel
theorem d_Pr_insertSplit_173 : decode prog_6_method_11_code 173 = .ok (.putfield 21, 3) := by decide +kernel
theorem d_Pr_insertSplit_176 : decode prog_6_method_11_code 176 = .ok (.return_, 1) := by decide +kernel
theorem M_Pr_insertSplit : lt_M0 m_Pr_insertSplit 1 := ⟨lt_m2 195 rfl rfl, lt_m1 9 rfl rfl, ⟨by decide +kernel, by decide +kernel, by decide +kernel⟩, by decide⟩
theorem in_Pr_insertSplit : Cond.instanceMethod m_Pr_insertSplit.1 ∈ lt_T := lt_m2 193 rfl rfl
theorem se_Pr_insertSplit : Cond.selects "LinearSearch$Program" m_Pr_insertSplit.1 m_Pr_insertSplit.1 ∈ lt_T := lt_m2 194 rfl rfl
abbrev m_Pr_aimSplit : lt_M := (⟨"LinearSearch$Program", "aimSplit", "(III)V"⟩, prog_6_method_12_code, 4, none)
theorem d_Pr_aimSplit_0 : decode prog_6_method_12_code 0 = .ok (.iload_n 1, 1) := by decide +kernel
theorem d_Pr_aimSplit_1 : decode prog_6_method_12_code 1 = .ok (.ifCond .lt 31, 3) := by decide +kernel
theorem d_Pr_aimSplit_4 : decode prog_6_method_12_code 4 = .ok (.iload_n 1, 1) := by decide +kernel
theorem d_Pr_aimSplit_5 : decode prog_6_method_12_code 5 = .ok (.aload_n 0, 1) := by decide +kernel
theorem d_Pr_aimSplit_6 : decode prog_6_method_12_code 6 = .ok (.getfield 21, 3) := by decide +kernel
theorem d_Pr_aimSplit_9 : decode prog_6_method_12_code 9 = .ok (.if_icmp .ge 23, 3) := by decide +kernel
theorem d_Pr_aimSplit_12 : decode prog_6_method_12_code 12 = .ok (.iload_n 1, 1) := by decide +kernel
theorem d_Pr_aimSplit_13 : decode prog_6_method_12_code 13 = .ok (.bipush 49, 2) := by decide +kernel
theorem d_Pr_aimSplit_15 : decode prog_6_method_12_code 15 = .ok (.if_icmp .ge 17, 3) := by decide +kernel
theorem d_Pr_aimSplit_18 : decode prog_6_method_12_code 18 = .ok (.aload_n 0, 1) := by decide +kernel
theorem d_Pr_aimSplit_19 : decode prog_6_method_12_code 19 = .ok (.getfield 15, 3) := by decide +kernel
theorem d_Pr_aimSplit_22 : decode prog_6_method_12_code 22 = .ok (.iload_n 1, 1) := by decide +kernel
theorem d_Pr_aimSplit_23 : decode prog_6_method_12_code 23 = .ok (.iload_n 2, 1) := by decide +kernel
theorem d_Pr_aimSplit_24 : decode prog_6_method_12_code 24 = .ok (.iastore, 1) := by decide +kernel
theorem d_Pr_aimSplit_25 : decode prog_6_method_12_code 25 = .ok (.aload_n 0, 1) := by decide +kernel
theorem d_Pr_aimSplit_26 : decode prog_6_method_12_code 26 = .ok (.getfield 18, 3) := by decide +kernel
theorem d_Pr_aimSplit_29 : decode prog_6_method_12_code 29 = .ok (.iload_n 1, 1) := by decide +kernel
theorem d_Pr_aimSplit_30 : decode prog_6_method_12_code 30 = .ok (.iload_n 3, 1) := by decide +kernel
theorem d_Pr_aimSplit_31 : decode prog_6_method_12_code 31 = .ok (.iastore, 1) := by decide +kernel
theorem d_Pr_aimSplit_32 : decode prog_6_method_12_code 32 = .ok (.return_, 1) := by decide +kernel
theorem M_Pr_aimSplit : lt_M0 m_Pr_aimSplit 3 := ⟨lt_m2 199 rfl rfl, lt_m1 9 rfl rfl, ⟨by decide +kernel, by decide +kernel, by decide +kernel⟩, by decide⟩
theorem in_Pr_aimSplit : Cond.instanceMethod m_Pr_aimSplit.1 ∈ lt_T := lt_m2 197 rfl rfl
theorem se_Pr_aimSplit : Cond.selects "LinearSearch$Program" m_Pr_aimSplit.1 m_Pr_aimSplit.1 ∈ lt_T := lt_m2 198 rfl rfl
abbrev m_Pr_addOpenGo : lt_M := (⟨"LinearSearch$Program", "addOpenGo", "()V"⟩, prog_6_method_10_code, 1, none)
theorem d_Pr_addOpenGo_0 : decode prog_6_method_10_code 0 = .ok (.aload_n 0, 1) := by decide +kernel
theorem d_Pr_addOpenGo_1 : decode prog_6_method_10_code 1 = .ok (.iconst 3, 1) := by decide +kernel
theorem d_Pr_addOpenGo_2 : decode prog_6_method_10_code 2 = .ok (.iconst (-1), 1) := by decide +kernel
theorem d_Pr_addOpenGo_3 : decode prog_6_method_10_code 3 = .ok (.invokevirtual 32, 3) := by decide +kernel
theorem d_Pr_addOpenGo_6 : decode prog_6_method_10_code 6 = .ok (.return_, 1) := by decide +kernel
theorem M_Pr_addOpenGo : lt_M0 m_Pr_addOpenGo 0 := ⟨lt_m2 203 rfl rfl, lt_m1 9 rfl rfl, ⟨by decide +kernel, by decide +kernel, by decide +kernel⟩, by decide⟩
theorem in_Pr_addOpenGo : Cond.instanceMethod m_Pr_addOpenGo.1 ∈ lt_T := lt_m2 201 rfl rfl
theorem se_Pr_addOpenGo : Cond.selects "LinearSearch$Program" m_Pr_addOpenGo.1 m_Pr_addOpenGo.1 ∈ lt_T := lt_m2 202 rfl rfl
abbrev m_Pr_closeChoice : lt_M := (⟨"LinearSearch$Program", "closeChoice", "(I)V"⟩, prog_6_method_13_code, 3, none)
theorem d_Pr_closeChoice_0 : decode prog_6_method_13_code 0 = .ok (.iload_n 1, 1) := by decide +kernel
theorem d_Pr_closeChoice_1 : decode prog_6_method_13_code 1 = .ok (.iconst 0, 1) := by decide +kernel
theorem d_Pr_closeChoice_2 : decode prog_6_method_13_code 2 = .ok (.invokestatic 36, 3) := by decide +kernel
theorem d_Pr_closeChoice_5 : decode prog_6_method_13_code 5 = .ok (.istore_n 2, 1) := by decide +kernel
theorem d_Pr_closeChoice_6 : decode prog_6_method_13_code 6 = .ok (.iload_n 2, 1) := by decide +kernel
theorem d_Pr_closeChoice_7 : decode prog_6_method_13_code 7 = .ok (.aload_n 0, 1) := by decide +kernel
theorem d_Pr_closeChoice_8 : decode prog_6_method_13_code 8 = .ok (.getfield 21, 3) := by decide +kernel
theorem d_Pr_closeChoice_11 : decode prog_6_method_13_code 11 = .ok (.if_icmp .ge 45, 3) := by decide +kernel
theorem d_Pr_closeChoice_14 : decode prog_6_method_13_code 14 = .ok (.iload_n 2, 1) := by decide +kernel
theorem d_Pr_closeChoice_15 : decode prog_6_method_13_code 15 = .ok (.bipush 49, 2) := by decide +kernel
theorem d_Pr_closeChoice_17 : decode prog_6_method_13_code 17 = .ok (.if_icmp .ge 39, 3) := by decide +kernel
theorem d_Pr_closeChoice_20 : decode prog_6_method_13_code 20 = .ok (.aload_n 0, 1) := by decide +kernel
theorem d_Pr_closeChoice_21 : decode prog_6_method_13_code 21 = .ok (.getfield 9, 3) := by decide +kernel
theorem d_Pr_closeChoice_24 : decode prog_6_method_13_code 24 = .ok (.iload_n 2, 1) := by decide +kernel
theorem d_Pr_closeChoice_25 : decode prog_6_method_13_code 25 = .ok (.iaload, 1) := by decide +kernel
theorem d_Pr_closeChoice_26 : decode prog_6_method_13_code 26 = .ok (.iconst 3, 1) := by decide +kernel
theorem d_Pr_closeChoice_27 : decode prog_6_method_13_code 27 = .ok (.if_icmp .ne 23, 3) := by decide +kernel
theorem d_Pr_closeChoice_30 : decode prog_6_method_13_code 30 = .ok (.aload_n 0, 1) := by decide +kernel
theorem d_Pr_closeChoice_31 : decode prog_6_method_13_code 31 = .ok (.getfield 15, 3) := by decide +kernel
theorem d_Pr_closeChoice_34 : decode prog_6_method_13_code 34 = .ok (.iload_n 2, 1) := by decide +kernel
theorem d_Pr_closeChoice_35 : decode prog_6_method_13_code 35 = .ok (.iaload, 1) := by decide +kernel
theorem d_Pr_closeChoice_36 : decode prog_6_method_13_code 36 = .ok (.iconst (-1), 1) := by decide +kernel
theorem d_Pr_closeChoice_37 : decode prog_6_method_13_code 37 = .ok (.if_icmp .ne 13, 3) := by decide +kernel
theorem d_Pr_closeChoice_40 : decode prog_6_method_13_code 40 = .ok (.aload_n 0, 1) := by decide +kernel
theorem d_Pr_closeChoice_41 : decode prog_6_method_13_code 41 = .ok (.getfield 15, 3) := by decide +kernel
theorem d_Pr_closeChoice_44 : decode prog_6_method_13_code 44 = .ok (.iload_n 2, 1) := by decide +kernel
theorem d_Pr_closeChoice_45 : decode prog_6_method_13_code 45 = .ok (.aload_n 0, 1) := by decide +kernel
theorem d_Pr_closeChoice_46 : decode prog_6_method_13_code 46 = .ok (.getfield 21, 3) := by decide +kernel
theorem d_Pr_closeChoice_49 : decode prog_6_method_13_code 49 = .ok (.iastore, 1) := by decide +kernel
theorem d_Pr_closeChoice_50 : decode prog_6_method_13_code 50 = .ok (.iinc 2 1, 3) := by decide +kernel
theorem d_Pr_closeChoice_53 : decode prog_6_method_13_code 53 = .ok (.goto (-47), 3) := by decide +kernel
theorem d_Pr_closeChoice_56 : decode prog_6_method_13_code 56 = .ok (.return_, 1) := by decide +kernel
theorem M_Pr_closeChoice : lt_M0 m_Pr_closeChoice 1 := ⟨lt_m2 208 rfl rfl, lt_m1 9 rfl rfl, ⟨by decide +kernel, by decide +kernel, by decide +kernel⟩, by decide⟩
theorem in_Pr_closeChoice : Cond.instanceMethod m_Pr_closeChoice.1 ∈ lt_T := lt_m2 206 rfl rfl
theorem se_Pr_closeChoice : Cond.selects "LinearSearch$Program" m_Pr_closeChoice.1 m_Pr_closeChoice.1 ∈ lt_T := lt_m2 207 rfl rfl
abbrev m_Pr_kindAt : lt_M := (⟨"LinearSearch$Program", "kindAt", "(I)I"⟩, prog_6_method_4_code, 2, (some .int))
theorem d_Pr_kindAt_0 : decode prog_6_method_4_code 0 = .ok (.iload_n 1, 1) := by decide +kernel
theorem d_Pr_kindAt_1 : decode prog_6_method_4_code 1 = .ok (.ifCond .lt 26, 3) := by decide +kernel
theorem d_Pr_kindAt_4 : decode prog_6_method_4_code 4 = .ok (.iload_n 1, 1) := by decide +kernel
theorem d_Pr_kindAt_5 : decode prog_6_method_4_code 5 = .ok (.aload_n 0, 1) := by decide +kernel
theorem d_Pr_kindAt_6 : decode prog_6_method_4_code 6 = .ok (.getfield 21, 3) := by decide +kernel
theorem d_Pr_kindAt_9 : decode prog_6_method_4_code 9 = .ok (.if_icmp .ge 18, 3) := by decide +kernel
theorem d_Pr_kindAt_12 : decode prog_6_method_4_code 12 = .ok (.iload_n 1, 1) := by decide +kernel
theorem d_Pr_kindAt_13 : decode prog_6_method_4_code 13 = .ok (.bipush 49, 2) := by decide +kernel
theorem d_Pr_kindAt_15 : decode prog_6_method_4_code 15 = .ok (.if_icmp .ge 12, 3) := by decide +kernel
theorem d_Pr_kindAt_18 : decode prog_6_method_4_code 18 = .ok (.aload_n 0, 1) := by decide +kernel
theorem d_Pr_kindAt_19 : decode prog_6_method_4_code 19 = .ok (.getfield 9, 3) := by decide +kernel
theorem d_Pr_kindAt_22 : decode prog_6_method_4_code 22 = .ok (.iload_n 1, 1) := by decide +kernel
theorem d_Pr_kindAt_23 : decode prog_6_method_4_code 23 = .ok (.iaload, 1) := by decide +kernel
theorem d_Pr_kindAt_24 : decode prog_6_method_4_code 24 = .ok (.goto 4, 3) := by decide +kernel
theorem d_Pr_kindAt_27 : decode prog_6_method_4_code 27 = .ok (.iconst (-1), 1) := by decide +kernel
theorem d_Pr_kindAt_28 : decode prog_6_method_4_code 28 = .ok (.ireturn, 1) := by decide +kernel
theorem M_Pr_kindAt : lt_M0 m_Pr_kindAt 1 := ⟨lt_m3 45 rfl rfl, lt_m1 9 rfl rfl, ⟨by decide +kernel, by decide +kernel, by decide +kernel⟩, by decide⟩
theorem in_Pr_kindAt : Cond.instanceMethod m_Pr_kindAt.1 ∈ lt_T := lt_m3 43 rfl rfl
theorem se_Pr_kindAt : Cond.selects "LinearSearch$Program" m_Pr_kindAt.1 m_Pr_kindAt.1 ∈ lt_T := lt_m3 44 rfl rfl
abbrev m_Pr_readsLetter : lt_M := (⟨"LinearSearch$Program", "readsLetter", "(I)Z"⟩, prog_6_method_8_code, 3, (some .boolean))
theorem d_Pr_readsLetter_0 : decode prog_6_method_8_code 0 = .ok (.aload_n 0, 1) := by decide +kernel
theorem d_Pr_readsLetter_1 : decode prog_6_method_8_code 1 = .ok (.iload_n 1, 1) := by decide +kernel
theorem d_Pr_readsLetter_2 : decode prog_6_method_8_code 2 = .ok (.invokevirtual 25, 3) := by decide +kernel
theorem d_Pr_readsLetter_5 : decode prog_6_method_8_code 5 = .ok (.istore_n 2, 1) := by decide +kernel
theorem d_Pr_readsLetter_6 : decode prog_6_method_8_code 6 = .ok (.iload_n 2, 1) := by decide +kernel
theorem d_Pr_readsLetter_7 : decode prog_6_method_8_code 7 = .ok (.ifCond .eq 8, 3) := by decide +kernel
theorem d_Pr_readsLetter_10 : decode prog_6_method_8_code 10 = .ok (.iload_n 2, 1) := by decide +kernel
theorem d_Pr_readsLetter_11 : decode prog_6_method_8_code 11 = .ok (.iconst 1, 1) := by decide +kernel
theorem d_Pr_readsLetter_12 : decode prog_6_method_8_code 12 = .ok (.if_icmp .ne 7, 3) := by decide +kernel
theorem d_Pr_readsLetter_15 : decode prog_6_method_8_code 15 = .ok (.iconst 1, 1) := by decide +kernel
theorem d_Pr_readsLetter_16 : decode prog_6_method_8_code 16 = .ok (.goto 4, 3) := by decide +kernel
theorem d_Pr_readsLetter_19 : decode prog_6_method_8_code 19 = .ok (.iconst 0, 1) := by decide +kernel
theorem d_Pr_readsLetter_20 : decode prog_6_method_8_code 20 = .ok (.ireturn, 1) := by decide +kernel
theorem M_Pr_readsLetter : lt_M0 m_Pr_readsLetter 1 := ⟨lt_m3 50 rfl rfl, lt_m1 9 rfl rfl, ⟨by decide +kernel, by decide +kernel, by decide +kernel⟩, by decide⟩
theorem in_Pr_readsLetter : Cond.instanceMethod m_Pr_readsLetter.1 ∈ lt_T := lt_m3 48 rfl rfl
theorem se_Pr_readsLetter : Cond.selects "LinearSearch$Program" m_Pr_readsLetter.1 m_Pr_readsLetter.1 ∈ lt_T := lt_m3 49 rfl rfl
abbrev m_Fo_begin : lt_M := (⟨"LinearSearch$Follower", "begin", "(LLinearSearch$Program;LLinearSearch$ThreadList;II)V"⟩, prog_3_method_2_code, 5, none)
theorem d_Fo_begin_0 : decode prog_3_method_2_code 0 = .ok (.aload_n 0, 1) := by decide +kernel
theorem d_Fo_begin_1 : decode prog_3_method_2_code 1 = .ok (.aload_n 1, 1) := by decide +kernel
theorem d_Fo_begin_2 : decode prog_3_method_2_code 2 = .ok (.putfield 19, 3) := by decide +kernel
theorem d_Fo_begin_5 : decode prog_3_method_2_code 5 = .ok (.aload_n 0, 1) := by decide +kernel
theorem d_Fo_begin_6 : decode prog_3_method_2_code 6 = .ok (.aload_n 2, 1) := by decide +kernel
theorem d_Fo_begin_7 : decode prog_3_method_2_code 7 = .ok (.putfield 23, 3) := by decide +kernel
theorem d_Fo_begin_10 : decode prog_3_method_2_code 10 = .ok (.aload_n 0, 1) := by decide +kernel
theorem d_Fo_begin_11 : decode prog_3_method_2_code 11 = .ok (.iload_n 3, 1) := by decide +kernel
theorem d_Fo_begin_12 : decode prog_3_method_2_code 12 = .ok (.putfield 27, 3) := by decide +kernel
theorem d_Fo_begin_15 : decode prog_3_method_2_code 15 = .ok (.aload_n 0, 1) := by decide +kernel
theorem d_Fo_begin_16 : decode prog_3_method_2_code 16 = .ok (.iload 4, 2) := by decide +kernel
theorem d_Fo_begin_18 : decode prog_3_method_2_code 18 = .ok (.putfield 31, 3) := by decide +kernel
theorem d_Fo_begin_21 : decode prog_3_method_2_code 21 = .ok (.aload_n 0, 1) := by decide +kernel
theorem d_Fo_begin_22 : decode prog_3_method_2_code 22 = .ok (.iconst 0, 1) := by decide +kernel
theorem d_Fo_begin_23 : decode prog_3_method_2_code 23 = .ok (.putfield 34, 3) := by decide +kernel
theorem d_Fo_begin_26 : decode prog_3_method_2_code 26 = .ok (.aload_n 0, 1) := by decide +kernel
theorem d_Fo_begin_27 : decode prog_3_method_2_code 27 = .ok (.lconst 0, 1) := by decide +kernel
theorem d_Fo_begin_28 : decode prog_3_method_2_code 28 = .ok (.putfield 37, 3) := by decide +kernel
theorem d_Fo_begin_31 : decode prog_3_method_2_code 31 = .ok (.aload_n 0, 1) := by decide +kernel
theorem d_Fo_begin_32 : decode prog_3_method_2_code 32 = .ok (.iconst 0, 1) := by decide +kernel
theorem d_Fo_begin_33 : decode prog_3_method_2_code 33 = .ok (.putfield 41, 3) := by decide +kernel
theorem d_Fo_begin_36 : decode prog_3_method_2_code 36 = .ok (.aload_n 0, 1) := by decide +kernel
theorem d_Fo_begin_37 : decode prog_3_method_2_code 37 = .ok (.getfield 23, 3) := by decide +kernel
theorem d_Fo_begin_40 : decode prog_3_method_2_code 40 = .ok (.ifnull 10, 3) := by decide +kernel
theorem d_Fo_begin_43 : decode prog_3_method_2_code 43 = .ok (.aload_n 0, 1) := by decide +kernel
theorem d_Fo_begin_44 : decode prog_3_method_2_code 44 = .ok (.getfield 23, 3) := by decide +kernel
theorem d_Fo_begin_47 : decode prog_3_method_2_code 47 = .ok (.invokevirtual 45, 3) := by decide +kernel
theorem d_Fo_begin_50 : decode prog_3_method_2_code 50 = .ok (.return_, 1) := by decide +kernel
theorem M_Fo_begin : lt_M0 m_Fo_begin 4 := ⟨lt_m3 59 rfl rfl, lt_m1 5 rfl rfl, ⟨by decide +kernel, by decide +kernel, by decide +kernel⟩, by decide⟩
theorem in_Fo_begin : Cond.instanceMethod m_Fo_begin.1 ∈ lt_T := lt_m3 57 rfl rfl
theorem se_Fo_begin : Cond.selects "LinearSearch$Follower" m_Fo_begin.1 m_Fo_begin.1 ∈ lt_T := lt_m3 58 rfl rfl
abbrev m_TL_empty : lt_M := (⟨"LinearSearch$ThreadList", "empty", "()V"⟩, prog_10_method_2_code, 1, none)
theorem d_TL_empty_0 : decode prog_10_method_2_code 0 = .ok (.aload_n 0, 1) := by decide +kernel
theorem d_TL_empty_1 : decode prog_10_method_2_code 1 = .ok (.iconst 0, 1) := by decide +kernel
theorem d_TL_empty_2 : decode prog_10_method_2_code 2 = .ok (.putfield 19, 3) := by decide +kernel
theorem d_TL_empty_5 : decode prog_10_method_2_code 5 = .ok (.return_, 1) := by decide +kernel
theorem M_TL_empty : lt_M0 m_TL_empty 0 := ⟨lt_m3 63 rfl rfl, lt_m1 6 rfl rfl, ⟨by decide +kernel, by decide +kernel, by decide +kernel⟩, by decide⟩
theorem in_TL_empty : Cond.instanceMethod m_TL_empty.1 ∈ lt_T := lt_m3 61 rfl rfl
theorem se_TL_empty : Cond.selects "LinearSearch$ThreadList" m_TL_empty.1 m_TL_empty.1 ∈ lt_T := lt_m3 62 rfl rfl
abbrev m_Fo_follow : lt_M := (⟨"LinearSearch$Follower", "follow", "(IJ)V"⟩, prog_3_method_5_code, 5, none)
theorem d_Fo_follow_0 : decode prog_3_method_5_code 0 = .ok (.aload_n 0, 1) := by decide +kernel
theorem d_Fo_follow_1 : decode prog_3_method_5_code 1 = .ok (.getfield 19, 3) := by decide +kernel
theorem d_Fo_follow_4 : decode prog_3_method_5_code 4 = .ok (.ifnull 10, 3) := by decide +kernel
theorem d_Fo_follow_7 : decode prog_3_method_5_code 7 = .ok (.aload_n 0, 1) := by decide +kernel
theorem d_Fo_follow_8 : decode prog_3_method_5_code 8 = .ok (.getfield 23, 3) := by decide +kernel
theorem d_Fo_follow_11 : decode prog_3_method_5_code 11 = .ok (.ifnonnull 4, 3) := by decide +kernel
theorem d_Fo_follow_14 : decode prog_3_method_5_code 14 = .ok (.return_, 1) := by decide +kernel
theorem d_Fo_follow_15 : decode prog_3_method_5_code 15 = .ok (.aload_n 0, 1) := by decide +kernel
theorem d_Fo_follow_16 : decode prog_3_method_5_code 16 = .ok (.iload_n 1, 1) := by decide +kernel
theorem d_Fo_follow_17 : decode prog_3_method_5_code 17 = .ok (.lload_n 2, 1) := by decide +kernel
theorem d_Fo_follow_18 : decode prog_3_method_5_code 18 = .ok (.invokevirtual 56, 3) := by decide +kernel
theorem d_Fo_follow_21 : decode prog_3_method_5_code 21 = .ok (.iconst 0, 1) := by decide +kernel
theorem d_Fo_follow_22 : decode prog_3_method_5_code 22 = .ok (.istore 4, 2) := by decide +kernel
theorem d_Fo_follow_24 : decode prog_3_method_5_code 24 = .ok (.iload 4, 2) := by decide +kernel
theorem d_Fo_follow_26 : decode prog_3_method_5_code 26 = .ok (.bipush 99, 2) := by decide +kernel
theorem d_Fo_follow_28 : decode prog_3_method_5_code 28 = .ok (.if_icmp .ge 57, 3) := by decide +kernel
theorem d_Fo_follow_31 : decode prog_3_method_5_code 31 = .ok (.aload_n 0, 1) := by decide +kernel
theorem d_Fo_follow_32 : decode prog_3_method_5_code 32 = .ok (.getfield 34, 3) := by decide +kernel
theorem d_Fo_follow_35 : decode prog_3_method_5_code 35 = .ok (.ifCond .le 50, 3) := by decide +kernel
theorem d_Fo_follow_38 : decode prog_3_method_5_code 38 = .ok (.aload_n 0, 1) := by decide +kernel
theorem d_Fo_follow_39 : decode prog_3_method_5_code 39 = .ok (.getfield 34, 3) := by decide +kernel
theorem d_Fo_follow_42 : decode prog_3_method_5_code 42 = .ok (.bipush 25, 2) := by decide +kernel
theorem d_Fo_follow_44 : decode prog_3_method_5_code 44 = .ok (.if_icmp .gt 41, 3) := by decide +kernel
theorem d_Fo_follow_47 : decode prog_3_method_5_code 47 = .ok (.aload_n 0, 1) := by decide +kernel
theorem d_Fo_follow_48 : decode prog_3_method_5_code 48 = .ok (.dup, 1) := by decide +kernel
theorem d_Fo_follow_49 : decode prog_3_method_5_code 49 = .ok (.getfield 34, 3) := by decide +kernel
theorem d_Fo_follow_52 : decode prog_3_method_5_code 52 = .ok (.iconst 1, 1) := by decide +kernel
theorem d_Fo_follow_53 : decode prog_3_method_5_code 53 = .ok (.isub, 1) := by decide +kernel
theorem d_Fo_follow_54 : decode prog_3_method_5_code 54 = .ok (.putfield 34, 3) := by decide +kernel
theorem d_Fo_follow_57 : decode prog_3_method_5_code 57 = .ok (.aload_n 0, 1) := by decide +kernel
theorem d_Fo_follow_58 : decode prog_3_method_5_code 58 = .ok (.aload_n 0, 1) := by decide +kernel
theorem d_Fo_follow_59 : decode prog_3_method_5_code 59 = .ok (.getfield 11, 3) := by decide +kernel
theorem d_Fo_follow_62 : decode prog_3_method_5_code 62 = .ok (.aload_n 0, 1) := by decide +kernel
theorem d_Fo_follow_63 : decode prog_3_method_5_code 63 = .ok (.getfield 34, 3) := by decide +kernel
theorem d_Fo_follow_66 : decode prog_3_method_5_code 66 = .ok (.iaload, 1) := by decide +kernel
theorem d_Fo_follow_67 : decode prog_3_method_5_code 67 = .ok (.aload_n 0, 1) := by decide +kernel
theorem d_Fo_follow_68 : decode prog_3_method_5_code 68 = .ok (.getfield 15, 3) := by decide +kernel
theorem d_Fo_follow_71 : decode prog_3_method_5_code 71 = .ok (.aload_n 0, 1) := by decide +kernel
theorem d_Fo_follow_72 : decode prog_3_method_5_code 72 = .ok (.getfield 34, 3) := by decide +kernel
theorem d_Fo_follow_75 : decode prog_3_method_5_code 75 = .ok (.laload, 1) := by decide +kernel
theorem d_Fo_follow_76 : decode prog_3_method_5_code 76 = .ok (.invokevirtual 60, 3) := by decide +kernel
theorem d_Fo_follow_79 : decode prog_3_method_5_code 79 = .ok (.iinc 4 1, 3) := by decide +kernel
theorem d_Fo_follow_82 : decode prog_3_method_5_code 82 = .ok (.goto (-58), 3) := by decide +kernel
theorem d_Fo_follow_85 : decode prog_3_method_5_code 85 = .ok (.return_, 1) := by decide +kernel
theorem M_Fo_follow : lt_M0 m_Fo_follow 2 := ⟨lt_m3 67 rfl rfl, lt_m1 5 rfl rfl, ⟨by decide +kernel, by decide +kernel, by decide +kernel⟩, by decide⟩
theorem in_Fo_follow : Cond.instanceMethod m_Fo_follow.1 ∈ lt_T := lt_m3 65 rfl rfl
theorem se_Fo_follow : Cond.selects "LinearSearch$Follower" m_Fo_follow.1 m_Fo_follow.1 ∈ lt_T := lt_m3 66 rfl rfl
abbrev m_Fo_push : lt_M := (⟨"LinearSearch$Follower", "push", "(IJ)V"⟩, prog_3_method_6_code, 4, none)
theorem d_Fo_push_0 : decode prog_3_method_6_code 0 = .ok (.iload_n 1, 1) := by decide +kernel
theorem d_Fo_push_1 : decode prog_3_method_6_code 1 = .ok (.ifCond .lt 55, 3) := by decide +kernel
theorem d_Fo_push_4 : decode prog_3_method_6_code 4 = .ok (.iload_n 1, 1) := by decide +kernel
theorem d_Fo_push_5 : decode prog_3_method_6_code 5 = .ok (.bipush 49, 2) := by decide +kernel
theorem d_Fo_push_7 : decode prog_3_method_6_code 7 = .ok (.if_icmp .ge 49, 3) := by decide +kernel
theorem d_Fo_push_10 : decode prog_3_method_6_code 10 = .ok (.aload_n 0, 1) := by decide +kernel
theorem d_Fo_push_11 : decode prog_3_method_6_code 11 = .ok (.getfield 34, 3) := by decide +kernel
theorem d_Fo_push_14 : decode prog_3_method_6_code 14 = .ok (.ifCond .lt 42, 3) := by decide +kernel
theorem d_Fo_push_17 : decode prog_3_method_6_code 17 = .ok (.aload_n 0, 1) := by decide +kernel
theorem d_Fo_push_18 : decode prog_3_method_6_code 18 = .ok (.getfield 34, 3) := by decide +kernel
theorem d_Fo_push_21 : decode prog_3_method_6_code 21 = .ok (.bipush 25, 2) := by decide +kernel
theorem d_Fo_push_23 : decode prog_3_method_6_code 23 = .ok (.if_icmp .ge 33, 3) := by decide +kernel
theorem d_Fo_push_26 : decode prog_3_method_6_code 26 = .ok (.aload_n 0, 1) := by decide +kernel
theorem d_Fo_push_27 : decode prog_3_method_6_code 27 = .ok (.getfield 11, 3) := by decide +kernel
theorem d_Fo_push_30 : decode prog_3_method_6_code 30 = .ok (.aload_n 0, 1) := by decide +kernel
theorem d_Fo_push_31 : decode prog_3_method_6_code 31 = .ok (.getfield 34, 3) := by decide +kernel
theorem d_Fo_push_34 : decode prog_3_method_6_code 34 = .ok (.iload_n 1, 1) := by decide +kernel
theorem d_Fo_push_35 : decode prog_3_method_6_code 35 = .ok (.iastore, 1) := by decide +kernel
theorem d_Fo_push_36 : decode prog_3_method_6_code 36 = .ok (.aload_n 0, 1) := by decide +kernel
theorem d_Fo_push_37 : decode prog_3_method_6_code 37 = .ok (.getfield 15, 3) := by decide +kernel
theorem d_Fo_push_40 : decode prog_3_method_6_code 40 = .ok (.aload_n 0, 1) := by decide +kernel
theorem d_Fo_push_41 : decode prog_3_method_6_code 41 = .ok (.getfield 34, 3) := by decide +kernel
theorem d_Fo_push_44 : decode prog_3_method_6_code 44 = .ok (.lload_n 2, 1) := by decide +kernel
theorem d_Fo_push_45 : decode prog_3_method_6_code 45 = .ok (.lastore, 1) := by decide +kernel
theorem d_Fo_push_46 : decode prog_3_method_6_code 46 = .ok (.aload_n 0, 1) := by decide +kernel
theorem d_Fo_push_47 : decode prog_3_method_6_code 47 = .ok (.dup, 1) := by decide +kernel
theorem d_Fo_push_48 : decode prog_3_method_6_code 48 = .ok (.getfield 34, 3) := by decide +kernel
theorem d_Fo_push_51 : decode prog_3_method_6_code 51 = .ok (.iconst 1, 1) := by decide +kernel
theorem d_Fo_push_52 : decode prog_3_method_6_code 52 = .ok (.iadd, 1) := by decide +kernel
theorem d_Fo_push_53 : decode prog_3_method_6_code 53 = .ok (.putfield 34, 3) := by decide +kernel
theorem d_Fo_push_56 : decode prog_3_method_6_code 56 = .ok (.return_, 1) := by decide +kernel
theorem M_Fo_push : lt_M0 m_Fo_push 2 := ⟨lt_m3 71 rfl rfl, lt_m1 5 rfl rfl, ⟨by decide +kernel, by decide +kernel, by decide +kernel⟩, by decide⟩
theorem in_Fo_push : Cond.instanceMethod m_Fo_push.1 ∈ lt_T := lt_m3 70 rfl rfl
theorem se_Fo_push : Cond.selects "LinearSearch$Follower" m_Fo_push.1 m_Fo_push.1 ∈ lt_T := lt_memS 11 rfl rfl
abbrev m_Fo_step : lt_M := (⟨"LinearSearch$Follower", "step", "(IJ)V"⟩, prog_3_method_7_code, 6, none)
theorem d_Fo_step_0 : decode prog_3_method_7_code 0 = .ok (.lconst 1, 1) := by decide +kernel
theorem d_Fo_step_1 : decode prog_3_method_7_code 1 = .ok (.iload_n 1, 1) := by decide +kernel
theorem d_Fo_step_2 : decode prog_3_method_7_code 2 = .ok (.lshl, 1) := by decide +kernel
theorem d_Fo_step_3 : decode prog_3_method_7_code 3 = .ok (.lstore 4, 2) := by decide +kernel
theorem d_Fo_step_5 : decode prog_3_method_7_code 5 = .ok (.aload_n 0, 1) := by decide +kernel
theorem d_Fo_step_6 : decode prog_3_method_7_code 6 = .ok (.getfield 37, 3) := by decide +kernel
theorem d_Fo_step_9 : decode prog_3_method_7_code 9 = .ok (.lload 4, 2) := by decide +kernel
theorem d_Fo_step_11 : decode prog_3_method_7_code 11 = .ok (.land, 1) := by decide +kernel
theorem d_Fo_step_12 : decode prog_3_method_7_code 12 = .ok (.lconst 0, 1) := by decide +kernel
theorem d_Fo_step_13 : decode prog_3_method_7_code 13 = .ok (.lcmp, 1) := by decide +kernel
theorem d_Fo_step_14 : decode prog_3_method_7_code 14 = .ok (.ifCond .eq 9, 3) := by decide +kernel
theorem d_Fo_step_17 : decode prog_3_method_7_code 17 = .ok (.aload_n 0, 1) := by decide +kernel
theorem d_Fo_step_18 : decode prog_3_method_7_code 18 = .ok (.iconst 1, 1) := by decide +kernel
theorem d_Fo_step_19 : decode prog_3_method_7_code 19 = .ok (.putfield 41, 3) := by decide +kernel
theorem d_Fo_step_22 : decode prog_3_method_7_code 22 = .ok (.return_, 1) := by decide +kernel
theorem d_Fo_step_23 : decode prog_3_method_7_code 23 = .ok (.aload_n 0, 1) := by decide +kernel
theorem d_Fo_step_24 : decode prog_3_method_7_code 24 = .ok (.dup, 1) := by decide +kernel
theorem d_Fo_step_25 : decode prog_3_method_7_code 25 = .ok (.getfield 37, 3) := by decide +kernel
theorem d_Fo_step_28 : decode prog_3_method_7_code 28 = .ok (.lload 4, 2) := by decide +kernel
theorem d_Fo_step_30 : decode prog_3_method_7_code 30 = .ok (.lor, 1) := by decide +kernel
theorem d_Fo_step_31 : decode prog_3_method_7_code 31 = .ok (.putfield 37, 3) := by decide +kernel
theorem d_Fo_step_34 : decode prog_3_method_7_code 34 = .ok (.aload_n 0, 1) := by decide +kernel
theorem d_Fo_step_35 : decode prog_3_method_7_code 35 = .ok (.getfield 19, 3) := by decide +kernel
theorem d_Fo_step_38 : decode prog_3_method_7_code 38 = .ok (.iload_n 1, 1) := by decide +kernel
theorem d_Fo_step_39 : decode prog_3_method_7_code 39 = .ok (.invokevirtual 63, 3) := by decide +kernel
theorem d_Fo_step_42 : decode prog_3_method_7_code 42 = .ok (.tableswitch 162 2 6 #[34, 63, 79, 105, 123], 34) := by decide +kernel
theorem d_Fo_step_76 : decode prog_3_method_7_code 76 = .ok (.aload_n 0, 1) := by decide +kernel
theorem d_Fo_step_77 : decode prog_3_method_7_code 77 = .ok (.aload_n 0, 1) := by decide +kernel
theorem d_Fo_step_78 : decode prog_3_method_7_code 78 = .ok (.getfield 19, 3) := by decide +kernel
theorem d_Fo_step_81 : decode prog_3_method_7_code 81 = .ok (.iload_n 1, 1) := by decide +kernel
theorem d_Fo_step_82 : decode prog_3_method_7_code 82 = .ok (.invokevirtual 69, 3) := by decide +kernel
theorem d_Fo_step_85 : decode prog_3_method_7_code 85 = .ok (.lload_n 2, 1) := by decide +kernel
theorem d_Fo_step_86 : decode prog_3_method_7_code 86 = .ok (.invokevirtual 56, 3) := by decide +kernel
theorem d_Fo_step_89 : decode prog_3_method_7_code 89 = .ok (.aload_n 0, 1) := by decide +kernel
theorem d_Fo_step_90 : decode prog_3_method_7_code 90 = .ok (.aload_n 0, 1) := by decide +kernel
theorem d_Fo_step_91 : decode prog_3_method_7_code 91 = .ok (.getfield 19, 3) := by decide +kernel
theorem d_Fo_step_94 : decode prog_3_method_7_code 94 = .ok (.iload_n 1, 1) := by decide +kernel
theorem d_Fo_step_95 : decode prog_3_method_7_code 95 = .ok (.invokevirtual 72, 3) := by decide +kernel
theorem d_Fo_step_98 : decode prog_3_method_7_code 98 = .ok (.lload_n 2, 1) := by decide +kernel
theorem d_Fo_step_99 : decode prog_3_method_7_code 99 = .ok (.invokevirtual 56, 3) := by decide +kernel
theorem d_Fo_step_102 : decode prog_3_method_7_code 102 = .ok (.goto 111, 3) := by decide +kernel
theorem d_Fo_step_105 : decode prog_3_method_7_code 105 = .ok (.aload_n 0, 1) := by decide +kernel
theorem d_Fo_step_106 : decode prog_3_method_7_code 106 = .ok (.aload_n 0, 1) := by decide +kernel
theorem d_Fo_step_107 : decode prog_3_method_7_code 107 = .ok (.getfield 19, 3) := by decide +kernel
theorem d_Fo_step_110 : decode prog_3_method_7_code 110 = .ok (.iload_n 1, 1) := by decide +kernel
theorem d_Fo_step_111 : decode prog_3_method_7_code 111 = .ok (.invokevirtual 72, 3) := by decide +kernel
theorem d_Fo_step_114 : decode prog_3_method_7_code 114 = .ok (.lload_n 2, 1) := by decide +kernel
theorem d_Fo_step_115 : decode prog_3_method_7_code 115 = .ok (.invokevirtual 56, 3) := by decide +kernel
theorem d_Fo_step_118 : decode prog_3_method_7_code 118 = .ok (.goto 95, 3) := by decide +kernel
theorem d_Fo_step_121 : decode prog_3_method_7_code 121 = .ok (.aload_n 0, 1) := by decide +kernel
theorem d_Fo_step_122 : decode prog_3_method_7_code 122 = .ok (.iload_n 1, 1) := by decide +kernel
theorem d_Fo_step_123 : decode prog_3_method_7_code 123 = .ok (.iconst 1, 1) := by decide +kernel
theorem d_Fo_step_124 : decode prog_3_method_7_code 124 = .ok (.iadd, 1) := by decide +kernel
theorem d_Fo_step_125 : decode prog_3_method_7_code 125 = .ok (.lload_n 2, 1) := by decide +kernel
theorem d_Fo_step_126 : decode prog_3_method_7_code 126 = .ok (.aload_n 0, 1) := by decide +kernel
theorem d_Fo_step_127 : decode prog_3_method_7_code 127 = .ok (.getfield 19, 3) := by decide +kernel
theorem d_Fo_step_130 : decode prog_3_method_7_code 130 = .ok (.iload_n 1, 1) := by decide +kernel
theorem d_Fo_step_131 : decode prog_3_method_7_code 131 = .ok (.invokevirtual 72, 3) := by decide +kernel
theorem d_Fo_step_134 : decode prog_3_method_7_code 134 = .ok (.aload_n 0, 1) := by decide +kernel
theorem d_Fo_step_135 : decode prog_3_method_7_code 135 = .ok (.getfield 27, 3) := by decide +kernel
theorem d_Fo_step_138 : decode prog_3_method_7_code 138 = .ok (.invokestatic 75, 3) := by decide +kernel
theorem d_Fo_step_141 : decode prog_3_method_7_code 141 = .ok (.invokevirtual 56, 3) := by decide +kernel
theorem d_Fo_step_144 : decode prog_3_method_7_code 144 = .ok (.goto 69, 3) := by decide +kernel
theorem d_Fo_step_147 : decode prog_3_method_7_code 147 = .ok (.aload_n 0, 1) := by decide +kernel
theorem d_Fo_step_148 : decode prog_3_method_7_code 148 = .ok (.getfield 27, 3) := by decide +kernel
theorem d_Fo_step_151 : decode prog_3_method_7_code 151 = .ok (.ifCond .ne 62, 3) := by decide +kernel
theorem d_Fo_step_154 : decode prog_3_method_7_code 154 = .ok (.aload_n 0, 1) := by decide +kernel
theorem d_Fo_step_155 : decode prog_3_method_7_code 155 = .ok (.iload_n 1, 1) := by decide +kernel
theorem d_Fo_step_156 : decode prog_3_method_7_code 156 = .ok (.iconst 1, 1) := by decide +kernel
theorem d_Fo_step_157 : decode prog_3_method_7_code 157 = .ok (.iadd, 1) := by decide +kernel
theorem d_Fo_step_158 : decode prog_3_method_7_code 158 = .ok (.lload_n 2, 1) := by decide +kernel
theorem d_Fo_step_159 : decode prog_3_method_7_code 159 = .ok (.invokevirtual 56, 3) := by decide +kernel
theorem d_Fo_step_162 : decode prog_3_method_7_code 162 = .ok (.goto 51, 3) := by decide +kernel
theorem d_Fo_step_165 : decode prog_3_method_7_code 165 = .ok (.aload_n 0, 1) := by decide +kernel
theorem d_Fo_step_166 : decode prog_3_method_7_code 166 = .ok (.getfield 31, 3) := by decide +kernel
theorem d_Fo_step_169 : decode prog_3_method_7_code 169 = .ok (.iconst 1, 1) := by decide +kernel
theorem d_Fo_step_170 : decode prog_3_method_7_code 170 = .ok (.if_icmp .ne 14, 3) := by decide +kernel
theorem d_Fo_step_173 : decode prog_3_method_7_code 173 = .ok (.aload_n 0, 1) := by decide +kernel
theorem d_Fo_step_174 : decode prog_3_method_7_code 174 = .ok (.iload_n 1, 1) := by decide +kernel
theorem d_Fo_step_175 : decode prog_3_method_7_code 175 = .ok (.iconst 1, 1) := by decide +kernel
theorem d_Fo_step_176 : decode prog_3_method_7_code 176 = .ok (.iadd, 1) := by decide +kernel
theorem d_Fo_step_177 : decode prog_3_method_7_code 177 = .ok (.lload_n 2, 1) := by decide +kernel
theorem d_Fo_step_178 : decode prog_3_method_7_code 178 = .ok (.invokevirtual 56, 3) := by decide +kernel
theorem d_Fo_step_181 : decode prog_3_method_7_code 181 = .ok (.goto 32, 3) := by decide +kernel
theorem d_Fo_step_184 : decode prog_3_method_7_code 184 = .ok (.aload_n 0, 1) := by decide +kernel
theorem d_Fo_step_185 : decode prog_3_method_7_code 185 = .ok (.getfield 31, 3) := by decide +kernel
theorem d_Fo_step_188 : decode prog_3_method_7_code 188 = .ok (.iconst 2, 1) := by decide +kernel
theorem d_Fo_step_189 : decode prog_3_method_7_code 189 = .ok (.if_icmp .ne 24, 3) := by decide +kernel
theorem d_Fo_step_192 : decode prog_3_method_7_code 192 = .ok (.aload_n 0, 1) := by decide +kernel
theorem d_Fo_step_193 : decode prog_3_method_7_code 193 = .ok (.getfield 23, 3) := by decide +kernel
theorem d_Fo_step_196 : decode prog_3_method_7_code 196 = .ok (.iload_n 1, 1) := by decide +kernel
theorem d_Fo_step_197 : decode prog_3_method_7_code 197 = .ok (.lload_n 2, 1) := by decide +kernel
theorem d_Fo_step_198 : decode prog_3_method_7_code 198 = .ok (.invokevirtual 79, 3) := by decide +kernel
theorem d_Fo_step_201 : decode prog_3_method_7_code 201 = .ok (.goto 12, 3) := by decide +kernel
theorem d_Fo_step_204 : decode prog_3_method_7_code 204 = .ok (.aload_n 0, 1) := by decide +kernel
theorem d_Fo_step_205 : decode prog_3_method_7_code 205 = .ok (.getfield 23, 3) := by decide +kernel
theorem d_Fo_step_208 : decode prog_3_method_7_code 208 = .ok (.iload_n 1, 1) := by decide +kernel
theorem d_Fo_step_209 : decode prog_3_method_7_code 209 = .ok (.lload_n 2, 1) := by decide +kernel
theorem d_Fo_step_210 : decode prog_3_method_7_code 210 = .ok (.invokevirtual 79, 3) := by decide +kernel
theorem d_Fo_step_213 : decode prog_3_method_7_code 213 = .ok (.return_, 1) := by decide +kernel
theorem M_Fo_step : lt_M0 m_Fo_step 2 := ⟨lt_m3 75 rfl rfl, lt_m1 5 rfl rfl, ⟨by decide +kernel, by decide +kernel, by decide +kernel⟩, by decide⟩
theorem in_Fo_step : Cond.instanceMethod m_Fo_step.1 ∈ lt_T := lt_m3 74 rfl rfl
theorem se_Fo_step : Cond.selects "LinearSearch$Follower" m_Fo_step.1 m_Fo_step.1 ∈ lt_T := lt_memS 12 rfl rfl
abbrev m_Pr_yAt : lt_M := (⟨"LinearSearch$Program", "yAt", "(I)I"⟩, prog_6_method_6_code, 2, (some .int))
theorem d_Pr_yAt_0 : decode prog_6_method_6_code 0 = .ok (.iload_n 1, 1) := by decide +kernel
theorem d_Pr_yAt_1 : decode prog_6_method_6_code 1 = .ok (.ifCond .lt 26, 3) := by decide +kernel
theorem d_Pr_yAt_4 : decode prog_6_method_6_code 4 = .ok (.iload_n 1, 1) := by decide +kernel
theorem d_Pr_yAt_5 : decode prog_6_method_6_code 5 = .ok (.aload_n 0, 1) := by decide +kernel
theorem d_Pr_yAt_6 : decode prog_6_method_6_code 6 = .ok (.getfield 21, 3) := by decide +kernel
theorem d_Pr_yAt_9 : decode prog_6_method_6_code 9 = .ok (.if_icmp .ge 18, 3) := by decide +kernel
theorem d_Pr_yAt_12 : decode prog_6_method_6_code 12 = .ok (.iload_n 1, 1) := by decide +kernel
theorem d_Pr_yAt_13 : decode prog_6_method_6_code 13 = .ok (.bipush 49, 2) := by decide +kernel
theorem d_Pr_yAt_15 : decode prog_6_method_6_code 15 = .ok (.if_icmp .ge 12, 3) := by decide +kernel
theorem d_Pr_yAt_18 : decode prog_6_method_6_code 18 = .ok (.aload_n 0, 1) := by decide +kernel
theorem d_Pr_yAt_19 : decode prog_6_method_6_code 19 = .ok (.getfield 18, 3) := by decide +kernel
theorem d_Pr_yAt_22 : decode prog_6_method_6_code 22 = .ok (.iload_n 1, 1) := by decide +kernel
theorem d_Pr_yAt_23 : decode prog_6_method_6_code 23 = .ok (.iaload, 1) := by decide +kernel
theorem d_Pr_yAt_24 : decode prog_6_method_6_code 24 = .ok (.goto 4, 3) := by decide +kernel
theorem d_Pr_yAt_27 : decode prog_6_method_6_code 27 = .ok (.iconst 0, 1) := by decide +kernel
theorem d_Pr_yAt_28 : decode prog_6_method_6_code 28 = .ok (.ireturn, 1) := by decide +kernel
theorem M_Pr_yAt : lt_M0 m_Pr_yAt 1 := ⟨lt_m3 80 rfl rfl, lt_m1 9 rfl rfl, ⟨by decide +kernel, by decide +kernel, by decide +kernel⟩, by decide⟩
theorem in_Pr_yAt : Cond.instanceMethod m_Pr_yAt.1 ∈ lt_T := lt_m3 78 rfl rfl
theorem se_Pr_yAt : Cond.selects "LinearSearch$Program" m_Pr_yAt.1 m_Pr_yAt.1 ∈ lt_T := lt_m3 79 rfl rfl
abbrev m_Pr_xAt : lt_M := (⟨"LinearSearch$Program", "xAt", "(I)I"⟩, prog_6_method_5_code, 2, (some .int))
theorem d_Pr_xAt_0 : decode prog_6_method_5_code 0 = .ok (.iload_n 1, 1) := by decide +kernel
theorem d_Pr_xAt_1 : decode prog_6_method_5_code 1 = .ok (.ifCond .lt 26, 3) := by decide +kernel
theorem d_Pr_xAt_4 : decode prog_6_method_5_code 4 = .ok (.iload_n 1, 1) := by decide +kernel
theorem d_Pr_xAt_5 : decode prog_6_method_5_code 5 = .ok (.aload_n 0, 1) := by decide +kernel
theorem d_Pr_xAt_6 : decode prog_6_method_5_code 6 = .ok (.getfield 21, 3) := by decide +kernel
theorem d_Pr_xAt_9 : decode prog_6_method_5_code 9 = .ok (.if_icmp .ge 18, 3) := by decide +kernel
theorem d_Pr_xAt_12 : decode prog_6_method_5_code 12 = .ok (.iload_n 1, 1) := by decide +kernel
theorem d_Pr_xAt_13 : decode prog_6_method_5_code 13 = .ok (.bipush 49, 2) := by decide +kernel
theorem d_Pr_xAt_15 : decode prog_6_method_5_code 15 = .ok (.if_icmp .ge 12, 3) := by decide +kernel
theorem d_Pr_xAt_18 : decode prog_6_method_5_code 18 = .ok (.aload_n 0, 1) := by decide +kernel
theorem d_Pr_xAt_19 : decode prog_6_method_5_code 19 = .ok (.getfield 15, 3) := by decide +kernel
theorem d_Pr_xAt_22 : decode prog_6_method_5_code 22 = .ok (.iload_n 1, 1) := by decide +kernel
theorem d_Pr_xAt_23 : decode prog_6_method_5_code 23 = .ok (.iaload, 1) := by decide +kernel
theorem d_Pr_xAt_24 : decode prog_6_method_5_code 24 = .ok (.goto 4, 3) := by decide +kernel
theorem d_Pr_xAt_27 : decode prog_6_method_5_code 27 = .ok (.iconst 0, 1) := by decide +kernel
theorem d_Pr_xAt_28 : decode prog_6_method_5_code 28 = .ok (.ireturn, 1) := by decide +kernel
theorem M_Pr_xAt : lt_M0 m_Pr_xAt 1 := ⟨lt_m3 84 rfl rfl, lt_m1 9 rfl rfl, ⟨by decide +kernel, by decide +kernel, by decide +kernel⟩, by decide⟩
theorem in_Pr_xAt : Cond.instanceMethod m_Pr_xAt.1 ∈ lt_T := lt_m3 82 rfl rfl
theorem se_Pr_xAt : Cond.selects "LinearSearch$Program" m_Pr_xAt.1 m_Pr_xAt.1 ∈ lt_T := lt_m3 83 rfl rfl
abbrev m_TL_add : lt_M := (⟨"LinearSearch$ThreadList", "add", "(IJ)V"⟩, prog_10_method_4_code, 4, none)
theorem d_TL_add_0 : decode prog_10_method_4_code 0 = .ok (.aload_n 0, 1) := by decide +kernel
theorem d_TL_add_1 : decode prog_10_method_4_code 1 = .ok (.getfield 19, 3) := by decide +kernel
theorem d_TL_add_4 : decode prog_10_method_4_code 4 = .ok (.ifCond .lt 42, 3) := by decide +kernel
theorem d_TL_add_7 : decode prog_10_method_4_code 7 = .ok (.aload_n 0, 1) := by decide +kernel
theorem d_TL_add_8 : decode prog_10_method_4_code 8 = .ok (.getfield 19, 3) := by decide +kernel
theorem d_TL_add_11 : decode prog_10_method_4_code 11 = .ok (.bipush 25, 2) := by decide +kernel
theorem d_TL_add_13 : decode prog_10_method_4_code 13 = .ok (.if_icmp .ge 33, 3) := by decide +kernel
theorem d_TL_add_16 : decode prog_10_method_4_code 16 = .ok (.aload_n 0, 1) := by decide +kernel
theorem d_TL_add_17 : decode prog_10_method_4_code 17 = .ok (.getfield 9, 3) := by decide +kernel
theorem d_TL_add_20 : decode prog_10_method_4_code 20 = .ok (.aload_n 0, 1) := by decide +kernel
theorem d_TL_add_21 : decode prog_10_method_4_code 21 = .ok (.getfield 19, 3) := by decide +kernel
theorem d_TL_add_24 : decode prog_10_method_4_code 24 = .ok (.iload_n 1, 1) := by decide +kernel
theorem d_TL_add_25 : decode prog_10_method_4_code 25 = .ok (.iastore, 1) := by decide +kernel
theorem d_TL_add_26 : decode prog_10_method_4_code 26 = .ok (.aload_n 0, 1) := by decide +kernel
theorem d_TL_add_27 : decode prog_10_method_4_code 27 = .ok (.getfield 15, 3) := by decide +kernel
theorem d_TL_add_30 : decode prog_10_method_4_code 30 = .ok (.aload_n 0, 1) := by decide +kernel
theorem d_TL_add_31 : decode prog_10_method_4_code 31 = .ok (.getfield 19, 3) := by decide +kernel
theorem d_TL_add_34 : decode prog_10_method_4_code 34 = .ok (.lload_n 2, 1) := by decide +kernel
theorem d_TL_add_35 : decode prog_10_method_4_code 35 = .ok (.lastore, 1) := by decide +kernel
theorem d_TL_add_36 : decode prog_10_method_4_code 36 = .ok (.aload_n 0, 1) := by decide +kernel
theorem d_TL_add_37 : decode prog_10_method_4_code 37 = .ok (.dup, 1) := by decide +kernel
theorem d_TL_add_38 : decode prog_10_method_4_code 38 = .ok (.getfield 19, 3) := by decide +kernel
theorem d_TL_add_41 : decode prog_10_method_4_code 41 = .ok (.iconst 1, 1) := by decide +kernel
theorem d_TL_add_42 : decode prog_10_method_4_code 42 = .ok (.iadd, 1) := by decide +kernel
theorem d_TL_add_43 : decode prog_10_method_4_code 43 = .ok (.putfield 19, 3) := by decide +kernel
theorem d_TL_add_46 : decode prog_10_method_4_code 46 = .ok (.return_, 1) := by decide +kernel
theorem M_TL_add : lt_M0 m_TL_add 2 := ⟨lt_m3 93 rfl rfl, lt_m1 6 rfl rfl, ⟨by decide +kernel, by decide +kernel, by decide +kernel⟩, by decide⟩
theorem in_TL_add : Cond.instanceMethod m_TL_add.1 ∈ lt_T := lt_m3 91 rfl rfl
theorem se_TL_add : Cond.selects "LinearSearch$ThreadList" m_TL_add.1 m_TL_add.1 ∈ lt_T := lt_m3 92 rfl rfl
abbrev m_Fo_cameTwice : lt_M := (⟨"LinearSearch$Follower", "cameTwice", "()Z"⟩, prog_3_method_4_code, 1, (some .boolean))
theorem d_Fo_cameTwice_0 : decode prog_3_method_4_code 0 = .ok (.aload_n 0, 1) := by decide +kernel
theorem d_Fo_cameTwice_1 : decode prog_3_method_4_code 1 = .ok (.getfield 41, 3) := by decide +kernel
theorem d_Fo_cameTwice_4 : decode prog_3_method_4_code 4 = .ok (.ireturn, 1) := by decide +kernel
theorem M_Fo_cameTwice : lt_M0 m_Fo_cameTwice 0 := ⟨lt_m3 97 rfl rfl, lt_m1 5 rfl rfl, ⟨by decide +kernel, by decide +kernel, by decide +kernel⟩, by decide⟩
theorem in_Fo_cameTwice : Cond.instanceMethod m_Fo_cameTwice.1 ∈ lt_T := lt_m3 95 rfl rfl
theorem se_Fo_cameTwice : Cond.selects "LinearSearch$Follower" m_Fo_cameTwice.1 m_Fo_cameTwice.1 ∈ lt_T := lt_m3 96 rfl rfl
abbrev m_TL_size : lt_M := (⟨"LinearSearch$ThreadList", "size", "()I"⟩, prog_10_method_3_code, 1, (some .int))
theorem d_TL_size_0 : decode prog_10_method_3_code 0 = .ok (.aload_n 0, 1) := by decide +kernel
theorem d_TL_size_1 : decode prog_10_method_3_code 1 = .ok (.getfield 19, 3) := by decide +kernel
theorem d_TL_size_4 : decode prog_10_method_3_code 4 = .ok (.ireturn, 1) := by decide +kernel
theorem M_TL_size : lt_M0 m_TL_size 0 := ⟨lt_m3 101 rfl rfl, lt_m1 6 rfl rfl, ⟨by decide +kernel, by decide +kernel, by decide +kernel⟩, by decide⟩
theorem in_TL_size : Cond.instanceMethod m_TL_size.1 ∈ lt_T := lt_m3 99 rfl rfl
theorem se_TL_size : Cond.selects "LinearSearch$ThreadList" m_TL_size.1 m_TL_size.1 ∈ lt_T := lt_m3 100 rfl rfl
abbrev m_TL_instructionAt : lt_M := (⟨"LinearSearch$ThreadList", "instructionAt", "(I)I"⟩, prog_10_method_5_code, 2, (some .int))
theorem d_TL_instructionAt_0 : decode prog_10_method_5_code 0 = .ok (.iload_n 1, 1) := by decide +kernel
theorem d_TL_instructionAt_1 : decode prog_10_method_5_code 1 = .ok (.ifCond .lt 26, 3) := by decide +kernel
theorem d_TL_instructionAt_4 : decode prog_10_method_5_code 4 = .ok (.iload_n 1, 1) := by decide +kernel
theorem d_TL_instructionAt_5 : decode prog_10_method_5_code 5 = .ok (.aload_n 0, 1) := by decide +kernel
theorem d_TL_instructionAt_6 : decode prog_10_method_5_code 6 = .ok (.getfield 19, 3) := by decide +kernel
theorem d_TL_instructionAt_9 : decode prog_10_method_5_code 9 = .ok (.if_icmp .ge 18, 3) := by decide +kernel
theorem d_TL_instructionAt_12 : decode prog_10_method_5_code 12 = .ok (.iload_n 1, 1) := by decide +kernel
theorem d_TL_instructionAt_13 : decode prog_10_method_5_code 13 = .ok (.bipush 25, 2) := by decide +kernel
theorem d_TL_instructionAt_15 : decode prog_10_method_5_code 15 = .ok (.if_icmp .ge 12, 3) := by decide +kernel
theorem d_TL_instructionAt_18 : decode prog_10_method_5_code 18 = .ok (.aload_n 0, 1) := by decide +kernel
theorem d_TL_instructionAt_19 : decode prog_10_method_5_code 19 = .ok (.getfield 9, 3) := by decide +kernel
theorem d_TL_instructionAt_22 : decode prog_10_method_5_code 22 = .ok (.iload_n 1, 1) := by decide +kernel
theorem d_TL_instructionAt_23 : decode prog_10_method_5_code 23 = .ok (.iaload, 1) := by decide +kernel
theorem d_TL_instructionAt_24 : decode prog_10_method_5_code 24 = .ok (.goto 4, 3) := by decide +kernel
theorem d_TL_instructionAt_27 : decode prog_10_method_5_code 27 = .ok (.iconst (-1), 1) := by decide +kernel
theorem d_TL_instructionAt_28 : decode prog_10_method_5_code 28 = .ok (.ireturn, 1) := by decide +kernel
theorem M_TL_instructionAt : lt_M0 m_TL_instructionAt 1 := ⟨lt_m3 105 rfl rfl, lt_m1 6 rfl rfl, ⟨by decide +kernel, by decide +kernel, by decide +kernel⟩, by decide⟩
theorem in_TL_instructionAt : Cond.instanceMethod m_TL_instructionAt.1 ∈ lt_T := lt_m3 103 rfl rfl
theorem se_TL_instructionAt : Cond.selects "LinearSearch$ThreadList" m_TL_instructionAt.1 m_TL_instructionAt.1 ∈ lt_T := lt_m3 104 rfl rfl
abbrev m_Tx_length : lt_M := (⟨"LinearSearch$Text", "length", "()I"⟩, prog_9_method_4_code, 1, (some .int))
theorem d_Tx_length_0 : decode prog_9_method_4_code 0 = .ok (.aload_n 0, 1) := by decide +kernel
theorem d_Tx_length_1 : decode prog_9_method_4_code 1 = .ok (.getfield 15, 3) := by decide +kernel
theorem d_Tx_length_4 : decode prog_9_method_4_code 4 = .ok (.ireturn, 1) := by decide +kernel
theorem M_Tx_length : lt_M0 m_Tx_length 0 := ⟨lt_m3 180 rfl rfl, lt_m1 3 rfl rfl, ⟨by decide +kernel, by decide +kernel, by decide +kernel⟩, by decide⟩
theorem in_Tx_length : Cond.instanceMethod m_Tx_length.1 ∈ lt_T := lt_m3 178 rfl rfl
theorem se_Tx_length : Cond.selects "LinearSearch$Text" m_Tx_length.1 m_Tx_length.1 ∈ lt_T := lt_m3 179 rfl rfl
abbrev m_Tx_letterAt : lt_M := (⟨"LinearSearch$Text", "letterAt", "(I)I"⟩, prog_9_method_5_code, 2, (some .int))
theorem d_Tx_letterAt_0 : decode prog_9_method_5_code 0 = .ok (.iload_n 1, 1) := by decide +kernel
theorem d_Tx_letterAt_1 : decode prog_9_method_5_code 1 = .ok (.ifCond .lt 29, 3) := by decide +kernel
theorem d_Tx_letterAt_4 : decode prog_9_method_5_code 4 = .ok (.iload_n 1, 1) := by decide +kernel
theorem d_Tx_letterAt_5 : decode prog_9_method_5_code 5 = .ok (.aload_n 0, 1) := by decide +kernel
theorem d_Tx_letterAt_6 : decode prog_9_method_5_code 6 = .ok (.getfield 15, 3) := by decide +kernel
theorem d_Tx_letterAt_9 : decode prog_9_method_5_code 9 = .ok (.if_icmp .ge 21, 3) := by decide +kernel
theorem d_Tx_letterAt_12 : decode prog_9_method_5_code 12 = .ok (.iload_n 1, 1) := by decide +kernel
theorem d_Tx_letterAt_13 : decode prog_9_method_5_code 13 = .ok (.aload_n 0, 1) := by decide +kernel
theorem d_Tx_letterAt_14 : decode prog_9_method_5_code 14 = .ok (.getfield 9, 3) := by decide +kernel
theorem d_Tx_letterAt_17 : decode prog_9_method_5_code 17 = .ok (.arraylength, 1) := by decide +kernel
theorem d_Tx_letterAt_18 : decode prog_9_method_5_code 18 = .ok (.if_icmp .ge 12, 3) := by decide +kernel
theorem d_Tx_letterAt_21 : decode prog_9_method_5_code 21 = .ok (.aload_n 0, 1) := by decide +kernel
theorem d_Tx_letterAt_22 : decode prog_9_method_5_code 22 = .ok (.getfield 9, 3) := by decide +kernel
theorem d_Tx_letterAt_25 : decode prog_9_method_5_code 25 = .ok (.iload_n 1, 1) := by decide +kernel
theorem d_Tx_letterAt_26 : decode prog_9_method_5_code 26 = .ok (.iaload, 1) := by decide +kernel
theorem d_Tx_letterAt_27 : decode prog_9_method_5_code 27 = .ok (.goto 4, 3) := by decide +kernel
theorem d_Tx_letterAt_30 : decode prog_9_method_5_code 30 = .ok (.iconst (-1), 1) := by decide +kernel
theorem d_Tx_letterAt_31 : decode prog_9_method_5_code 31 = .ok (.ireturn, 1) := by decide +kernel
theorem M_Tx_letterAt : lt_M0 m_Tx_letterAt 1 := ⟨lt_m3 216 rfl rfl, lt_m1 3 rfl rfl, ⟨by decide +kernel, by decide +kernel, by decide +kernel⟩, by decide⟩
theorem in_Tx_letterAt : Cond.instanceMethod m_Tx_letterAt.1 ∈ lt_T := lt_m3 214 rfl rfl
theorem se_Tx_letterAt : Cond.selects "LinearSearch$Text" m_Tx_letterAt.1 m_Tx_letterAt.1 ∈ lt_T := lt_m3 215 rfl rfl
abbrev m_Pr_takes : lt_M := (⟨"LinearSearch$Program", "takes", "(II)Z"⟩, prog_6_method_7_code, 4, (some .boolean))
theorem d_Pr_takes_0 : decode prog_6_method_7_code 0 = .ok (.aload_n 0, 1) := by decide +kernel
theorem d_Pr_takes_1 : decode prog_6_method_7_code 1 = .ok (.iload_n 1, 1) := by decide +kernel
theorem d_Pr_takes_2 : decode prog_6_method_7_code 2 = .ok (.invokevirtual 25, 3) := by decide +kernel
theorem d_Pr_takes_5 : decode prog_6_method_7_code 5 = .ok (.istore_n 3, 1) := by decide +kernel
theorem d_Pr_takes_6 : decode prog_6_method_7_code 6 = .ok (.iload_n 2, 1) := by decide +kernel
theorem d_Pr_takes_7 : decode prog_6_method_7_code 7 = .ok (.iconst (-1), 1) := by decide +kernel
theorem d_Pr_takes_8 : decode prog_6_method_7_code 8 = .ok (.if_icmp .eq 25, 3) := by decide +kernel
theorem d_Pr_takes_11 : decode prog_6_method_7_code 11 = .ok (.iload_n 3, 1) := by decide +kernel
theorem d_Pr_takes_12 : decode prog_6_method_7_code 12 = .ok (.iconst 1, 1) := by decide +kernel
theorem d_Pr_takes_13 : decode prog_6_method_7_code 13 = .ok (.if_icmp .eq 16, 3) := by decide +kernel
theorem d_Pr_takes_16 : decode prog_6_method_7_code 16 = .ok (.iload_n 3, 1) := by decide +kernel
theorem d_Pr_takes_17 : decode prog_6_method_7_code 17 = .ok (.ifCond .ne 16, 3) := by decide +kernel
theorem d_Pr_takes_20 : decode prog_6_method_7_code 20 = .ok (.aload_n 0, 1) := by decide +kernel
theorem d_Pr_takes_21 : decode prog_6_method_7_code 21 = .ok (.iload_n 1, 1) := by decide +kernel
theorem d_Pr_takes_22 : decode prog_6_method_7_code 22 = .ok (.invokevirtual 29, 3) := by decide +kernel
theorem d_Pr_takes_25 : decode prog_6_method_7_code 25 = .ok (.iload_n 2, 1) := by decide +kernel
theorem d_Pr_takes_26 : decode prog_6_method_7_code 26 = .ok (.if_icmp .ne 7, 3) := by decide +kernel
theorem d_Pr_takes_29 : decode prog_6_method_7_code 29 = .ok (.iconst 1, 1) := by decide +kernel
theorem d_Pr_takes_30 : decode prog_6_method_7_code 30 = .ok (.goto 4, 3) := by decide +kernel
theorem d_Pr_takes_33 : decode prog_6_method_7_code 33 = .ok (.iconst 0, 1) := by decide +kernel
theorem d_Pr_takes_34 : decode prog_6_method_7_code 34 = .ok (.ireturn, 1) := by decide +kernel
theorem M_Pr_takes : lt_M0 m_Pr_takes 2 := ⟨lt_m3 220 rfl rfl, lt_m1 9 rfl rfl, ⟨by decide +kernel, by decide +kernel, by decide +kernel⟩, by decide⟩
theorem in_Pr_takes : Cond.instanceMethod m_Pr_takes.1 ∈ lt_T := lt_m3 218 rfl rfl
theorem se_Pr_takes : Cond.selects "LinearSearch$Program" m_Pr_takes.1 m_Pr_takes.1 ∈ lt_T := lt_m3 219 rfl rfl
abbrev m_St_fill : lt_M := (⟨"LinearSearch$State", "fill", "(LLinearSearch$Program;LLinearSearch$ThreadList;Z)V"⟩, prog_8_method_2_code, 5, none)
theorem d_St_fill_0 : decode prog_8_method_2_code 0 = .ok (.aload_n 0, 1) := by decide +kernel
theorem d_St_fill_1 : decode prog_8_method_2_code 1 = .ok (.iconst 0, 1) := by decide +kernel
theorem d_St_fill_2 : decode prog_8_method_2_code 2 = .ok (.putfield 18, 3) := by decide +kernel
theorem d_St_fill_5 : decode prog_8_method_2_code 5 = .ok (.aload_n 0, 1) := by decide +kernel
theorem d_St_fill_6 : decode prog_8_method_2_code 6 = .ok (.iload_n 3, 1) := by decide +kernel
theorem d_St_fill_7 : decode prog_8_method_2_code 7 = .ok (.putfield 22, 3) := by decide +kernel
theorem d_St_fill_10 : decode prog_8_method_2_code 10 = .ok (.aload_n 0, 1) := by decide +kernel
theorem d_St_fill_11 : decode prog_8_method_2_code 11 = .ok (.iconst 0, 1) := by decide +kernel
theorem d_St_fill_12 : decode prog_8_method_2_code 12 = .ok (.putfield 26, 3) := by decide +kernel
theorem d_St_fill_15 : decode prog_8_method_2_code 15 = .ok (.aload_n 0, 1) := by decide +kernel
theorem d_St_fill_16 : decode prog_8_method_2_code 16 = .ok (.getfield 15, 3) := by decide +kernel
theorem d_St_fill_19 : decode prog_8_method_2_code 19 = .ok (.iconst (-1), 1) := by decide +kernel
theorem d_St_fill_20 : decode prog_8_method_2_code 20 = .ok (.invokestatic 29, 3) := by decide +kernel
theorem d_St_fill_23 : decode prog_8_method_2_code 23 = .ok (.iconst 0, 1) := by decide +kernel
theorem d_St_fill_24 : decode prog_8_method_2_code 24 = .ok (.istore 4, 2) := by decide +kernel
theorem d_St_fill_26 : decode prog_8_method_2_code 26 = .ok (.iload 4, 2) := by decide +kernel
theorem d_St_fill_28 : decode prog_8_method_2_code 28 = .ok (.aload_n 2, 1) := by decide +kernel
theorem d_St_fill_29 : decode prog_8_method_2_code 29 = .ok (.invokevirtual 35, 3) := by decide +kernel
theorem d_St_fill_32 : decode prog_8_method_2_code 32 = .ok (.if_icmp .ge 71, 3) := by decide +kernel
theorem d_St_fill_35 : decode prog_8_method_2_code 35 = .ok (.iload 4, 2) := by decide +kernel
theorem d_St_fill_37 : decode prog_8_method_2_code 37 = .ok (.bipush 25, 2) := by decide +kernel
theorem d_St_fill_39 : decode prog_8_method_2_code 39 = .ok (.if_icmp .ge 64, 3) := by decide +kernel
theorem d_St_fill_42 : decode prog_8_method_2_code 42 = .ok (.aload_n 0, 1) := by decide +kernel
theorem d_St_fill_43 : decode prog_8_method_2_code 43 = .ok (.getfield 26, 3) := by decide +kernel
theorem d_St_fill_46 : decode prog_8_method_2_code 46 = .ok (.ifCond .ne 57, 3) := by decide +kernel
theorem d_St_fill_49 : decode prog_8_method_2_code 49 = .ok (.aload_n 0, 1) := by decide +kernel
theorem d_St_fill_50 : decode prog_8_method_2_code 50 = .ok (.getfield 9, 3) := by decide +kernel
theorem d_St_fill_53 : decode prog_8_method_2_code 53 = .ok (.iload 4, 2) := by decide +kernel
theorem d_St_fill_55 : decode prog_8_method_2_code 55 = .ok (.aload_n 2, 1) := by decide +kernel
theorem d_St_fill_56 : decode prog_8_method_2_code 56 = .ok (.iload 4, 2) := by decide +kernel
theorem d_St_fill_58 : decode prog_8_method_2_code 58 = .ok (.invokevirtual 40, 3) := by decide +kernel
theorem d_St_fill_61 : decode prog_8_method_2_code 61 = .ok (.iastore, 1) := by decide +kernel
theorem d_St_fill_62 : decode prog_8_method_2_code 62 = .ok (.aload_n 0, 1) := by decide +kernel
theorem d_St_fill_63 : decode prog_8_method_2_code 63 = .ok (.aload_n 1, 1) := by decide +kernel
theorem d_St_fill_64 : decode prog_8_method_2_code 64 = .ok (.aload_n 0, 1) := by decide +kernel
theorem d_St_fill_65 : decode prog_8_method_2_code 65 = .ok (.getfield 9, 3) := by decide +kernel
theorem d_St_fill_68 : decode prog_8_method_2_code 68 = .ok (.iload 4, 2) := by decide +kernel
theorem d_St_fill_70 : decode prog_8_method_2_code 70 = .ok (.iaload, 1) := by decide +kernel
theorem d_St_fill_71 : decode prog_8_method_2_code 71 = .ok (.invokevirtual 44, 3) := by decide +kernel
theorem d_St_fill_74 : decode prog_8_method_2_code 74 = .ok (.bipush 7, 2) := by decide +kernel
theorem d_St_fill_76 : decode prog_8_method_2_code 76 = .ok (.if_icmp .ne 7, 3) := by decide +kernel
theorem d_St_fill_79 : decode prog_8_method_2_code 79 = .ok (.iconst 1, 1) := by decide +kernel
theorem d_St_fill_80 : decode prog_8_method_2_code 80 = .ok (.goto 4, 3) := by decide +kernel
theorem d_St_fill_83 : decode prog_8_method_2_code 83 = .ok (.iconst 0, 1) := by decide +kernel
theorem d_St_fill_84 : decode prog_8_method_2_code 84 = .ok (.putfield 26, 3) := by decide +kernel
theorem d_St_fill_87 : decode prog_8_method_2_code 87 = .ok (.aload_n 0, 1) := by decide +kernel
theorem d_St_fill_88 : decode prog_8_method_2_code 88 = .ok (.dup, 1) := by decide +kernel
theorem d_St_fill_89 : decode prog_8_method_2_code 89 = .ok (.getfield 18, 3) := by decide +kernel
theorem d_St_fill_92 : decode prog_8_method_2_code 92 = .ok (.iconst 1, 1) := by decide +kernel
theorem d_St_fill_93 : decode prog_8_method_2_code 93 = .ok (.iadd, 1) := by decide +kernel
theorem d_St_fill_94 : decode prog_8_method_2_code 94 = .ok (.putfield 18, 3) := by decide +kernel
theorem d_St_fill_97 : decode prog_8_method_2_code 97 = .ok (.iinc 4 1, 3) := by decide +kernel
theorem d_St_fill_100 : decode prog_8_method_2_code 100 = .ok (.goto (-74), 3) := by decide +kernel
theorem d_St_fill_103 : decode prog_8_method_2_code 103 = .ok (.return_, 1) := by decide +kernel
theorem M_St_fill : lt_M0 m_St_fill 3 := ⟨lt_m4 7 rfl rfl, lt_m1 11 rfl rfl, ⟨by decide +kernel, by decide +kernel, by decide +kernel⟩, by decide⟩
theorem in_St_fill : Cond.instanceMethod m_St_fill.1 ∈ lt_T := lt_m4 5 rfl rfl
theorem se_St_fill : Cond.selects "LinearSearch$State" m_St_fill.1 m_St_fill.1 ∈ lt_T := lt_m4 6 rfl rfl
abbrev m_St_isSameAs : lt_M := (⟨"LinearSearch$State", "isSameAs", "(LLinearSearch$State;)Z"⟩, prog_8_method_3_code, 3, (some .boolean))
theorem d_St_isSameAs_0 : decode prog_8_method_3_code 0 = .ok (.aload_n 0, 1) := by decide +kernel
theorem d_St_isSameAs_1 : decode prog_8_method_3_code 1 = .ok (.getfield 18, 3) := by decide +kernel
theorem d_St_isSameAs_4 : decode prog_8_method_3_code 4 = .ok (.aload_n 1, 1) := by decide +kernel
theorem d_St_isSameAs_5 : decode prog_8_method_3_code 5 = .ok (.getfield 18, 3) := by decide +kernel
theorem d_St_isSameAs_8 : decode prog_8_method_3_code 8 = .ok (.if_icmp .ne 14, 3) := by decide +kernel
theorem d_St_isSameAs_11 : decode prog_8_method_3_code 11 = .ok (.aload_n 0, 1) := by decide +kernel
theorem d_St_isSameAs_12 : decode prog_8_method_3_code 12 = .ok (.getfield 22, 3) := by decide +kernel
theorem d_St_isSameAs_15 : decode prog_8_method_3_code 15 = .ok (.aload_n 1, 1) := by decide +kernel
theorem d_St_isSameAs_16 : decode prog_8_method_3_code 16 = .ok (.getfield 22, 3) := by decide +kernel
theorem d_St_isSameAs_19 : decode prog_8_method_3_code 19 = .ok (.if_icmp .eq 5, 3) := by decide +kernel
theorem d_St_isSameAs_22 : decode prog_8_method_3_code 22 = .ok (.iconst 0, 1) := by decide +kernel
theorem d_St_isSameAs_23 : decode prog_8_method_3_code 23 = .ok (.ireturn, 1) := by decide +kernel
theorem d_St_isSameAs_24 : decode prog_8_method_3_code 24 = .ok (.iconst 0, 1) := by decide +kernel
theorem d_St_isSameAs_25 : decode prog_8_method_3_code 25 = .ok (.istore_n 2, 1) := by decide +kernel
theorem d_St_isSameAs_26 : decode prog_8_method_3_code 26 = .ok (.iload_n 2, 1) := by decide +kernel
theorem d_St_isSameAs_27 : decode prog_8_method_3_code 27 = .ok (.aload_n 0, 1) := by decide +kernel
theorem d_St_isSameAs_28 : decode prog_8_method_3_code 28 = .ok (.getfield 18, 3) := by decide +kernel
theorem d_St_isSameAs_31 : decode prog_8_method_3_code 31 = .ok (.if_icmp .ge 32, 3) := by decide +kernel
theorem d_St_isSameAs_34 : decode prog_8_method_3_code 34 = .ok (.iload_n 2, 1) := by decide +kernel
theorem d_St_isSameAs_35 : decode prog_8_method_3_code 35 = .ok (.bipush 25, 2) := by decide +kernel
theorem d_St_isSameAs_37 : decode prog_8_method_3_code 37 = .ok (.if_icmp .ge 26, 3) := by decide +kernel
theorem d_St_isSameAs_40 : decode prog_8_method_3_code 40 = .ok (.aload_n 0, 1) := by decide +kernel
theorem d_St_isSameAs_41 : decode prog_8_method_3_code 41 = .ok (.getfield 9, 3) := by decide +kernel
theorem d_St_isSameAs_44 : decode prog_8_method_3_code 44 = .ok (.iload_n 2, 1) := by decide +kernel
theorem d_St_isSameAs_45 : decode prog_8_method_3_code 45 = .ok (.iaload, 1) := by decide +kernel
theorem d_St_isSameAs_46 : decode prog_8_method_3_code 46 = .ok (.aload_n 1, 1) := by decide +kernel
theorem d_St_isSameAs_47 : decode prog_8_method_3_code 47 = .ok (.getfield 9, 3) := by decide +kernel
theorem d_St_isSameAs_50 : decode prog_8_method_3_code 50 = .ok (.iload_n 2, 1) := by decide +kernel
theorem d_St_isSameAs_51 : decode prog_8_method_3_code 51 = .ok (.iaload, 1) := by decide +kernel
theorem d_St_isSameAs_52 : decode prog_8_method_3_code 52 = .ok (.if_icmp .eq 5, 3) := by decide +kernel
theorem d_St_isSameAs_55 : decode prog_8_method_3_code 55 = .ok (.iconst 0, 1) := by decide +kernel
theorem d_St_isSameAs_56 : decode prog_8_method_3_code 56 = .ok (.ireturn, 1) := by decide +kernel
theorem d_St_isSameAs_57 : decode prog_8_method_3_code 57 = .ok (.iinc 2 1, 3) := by decide +kernel
theorem d_St_isSameAs_60 : decode prog_8_method_3_code 60 = .ok (.goto (-34), 3) := by decide +kernel
theorem d_St_isSameAs_63 : decode prog_8_method_3_code 63 = .ok (.iconst 1, 1) := by decide +kernel
theorem d_St_isSameAs_64 : decode prog_8_method_3_code 64 = .ok (.ireturn, 1) := by decide +kernel
theorem M_St_isSameAs : lt_M0 m_St_isSameAs 1 := ⟨lt_m4 17 rfl rfl, lt_m1 11 rfl rfl, ⟨by decide +kernel, by decide +kernel, by decide +kernel⟩, by decide⟩
theorem in_St_isSameAs : Cond.instanceMethod m_St_isSameAs.1 ∈ lt_T := lt_m4 15 rfl rfl
theorem se_St_isSameAs : Cond.selects "LinearSearch$State" m_St_isSameAs.1 m_St_isSameAs.1 ∈ lt_T := lt_m4 16 rfl rfl
abbrev m_St_entryAt : lt_M := (⟨"LinearSearch$State", "entryAt", "(I)I"⟩, prog_8_method_6_code, 2, (some .int))
theorem d_St_entryAt_0 : decode prog_8_method_6_code 0 = .ok (.iload_n 1, 1) := by decide +kernel
theorem d_St_entryAt_1 : decode prog_8_method_6_code 1 = .ok (.ifCond .lt 26, 3) := by decide +kernel
theorem d_St_entryAt_4 : decode prog_8_method_6_code 4 = .ok (.iload_n 1, 1) := by decide +kernel
theorem d_St_entryAt_5 : decode prog_8_method_6_code 5 = .ok (.aload_n 0, 1) := by decide +kernel
theorem d_St_entryAt_6 : decode prog_8_method_6_code 6 = .ok (.getfield 18, 3) := by decide +kernel
theorem d_St_entryAt_9 : decode prog_8_method_6_code 9 = .ok (.if_icmp .ge 18, 3) := by decide +kernel
theorem d_St_entryAt_12 : decode prog_8_method_6_code 12 = .ok (.iload_n 1, 1) := by decide +kernel
theorem d_St_entryAt_13 : decode prog_8_method_6_code 13 = .ok (.bipush 25, 2) := by decide +kernel
theorem d_St_entryAt_15 : decode prog_8_method_6_code 15 = .ok (.if_icmp .ge 12, 3) := by decide +kernel
theorem d_St_entryAt_18 : decode prog_8_method_6_code 18 = .ok (.aload_n 0, 1) := by decide +kernel
theorem d_St_entryAt_19 : decode prog_8_method_6_code 19 = .ok (.getfield 9, 3) := by decide +kernel
theorem d_St_entryAt_22 : decode prog_8_method_6_code 22 = .ok (.iload_n 1, 1) := by decide +kernel
theorem d_St_entryAt_23 : decode prog_8_method_6_code 23 = .ok (.iaload, 1) := by decide +kernel
theorem d_St_entryAt_24 : decode prog_8_method_6_code 24 = .ok (.goto 4, 3) := by decide +kernel
theorem d_St_entryAt_27 : decode prog_8_method_6_code 27 = .ok (.iconst (-1), 1) := by decide +kernel
theorem d_St_entryAt_28 : decode prog_8_method_6_code 28 = .ok (.ireturn, 1) := by decide +kernel
theorem M_St_entryAt : lt_M0 m_St_entryAt 1 := ⟨lt_m4 34 rfl rfl, lt_m1 11 rfl rfl, ⟨by decide +kernel, by decide +kernel, by decide +kernel⟩, by decide⟩
theorem in_St_entryAt : Cond.instanceMethod m_St_entryAt.1 ∈ lt_T := lt_m4 32 rfl rfl
theorem se_St_entryAt : Cond.selects "LinearSearch$State" m_St_entryAt.1 m_St_entryAt.1 ∈ lt_T := lt_m4 33 rfl rfl
abbrev m_St_isOver : lt_M := (⟨"LinearSearch$State", "isOver", "()Z"⟩, prog_8_method_4_code, 1, (some .boolean))
theorem d_St_isOver_0 : decode prog_8_method_4_code 0 = .ok (.aload_n 0, 1) := by decide +kernel
theorem d_St_isOver_1 : decode prog_8_method_4_code 1 = .ok (.getfield 22, 3) := by decide +kernel
theorem d_St_isOver_4 : decode prog_8_method_4_code 4 = .ok (.ifCond .ne 14, 3) := by decide +kernel
theorem d_St_isOver_7 : decode prog_8_method_4_code 7 = .ok (.aload_n 0, 1) := by decide +kernel
theorem d_St_isOver_8 : decode prog_8_method_4_code 8 = .ok (.getfield 18, 3) := by decide +kernel
theorem d_St_isOver_11 : decode prog_8_method_4_code 11 = .ok (.ifCond .ne 7, 3) := by decide +kernel
theorem d_St_isOver_14 : decode prog_8_method_4_code 14 = .ok (.iconst 1, 1) := by decide +kernel
theorem d_St_isOver_15 : decode prog_8_method_4_code 15 = .ok (.goto 4, 3) := by decide +kernel
theorem d_St_isOver_18 : decode prog_8_method_4_code 18 = .ok (.iconst 0, 1) := by decide +kernel
theorem d_St_isOver_19 : decode prog_8_method_4_code 19 = .ok (.ireturn, 1) := by decide +kernel
theorem M_St_isOver : lt_M0 m_St_isOver 0 := ⟨lt_m4 41 rfl rfl, lt_m1 11 rfl rfl, ⟨by decide +kernel, by decide +kernel, by decide +kernel⟩, by decide⟩
theorem in_St_isOver : Cond.instanceMethod m_St_isOver.1 ∈ lt_T := lt_m4 39 rfl rfl
theorem se_St_isOver : Cond.selects "LinearSearch$State" m_St_isOver.1 m_St_isOver.1 ∈ lt_T := lt_m4 40 rfl rfl
abbrev m_St_leadBy : lt_M := (⟨"LinearSearch$State", "leadBy", "(I)I"⟩, prog_8_method_7_code, 2, (some .int))
theorem d_St_leadBy_0 : decode prog_8_method_7_code 0 = .ok (.iload_n 1, 1) := by decide +kernel
theorem d_St_leadBy_1 : decode prog_8_method_7_code 1 = .ok (.ifCond .lt 18, 3) := by decide +kernel
theorem d_St_leadBy_4 : decode prog_8_method_7_code 4 = .ok (.iload_n 1, 1) := by decide +kernel
theorem d_St_leadBy_5 : decode prog_8_method_7_code 5 = .ok (.bipush 8, 2) := by decide +kernel
theorem d_St_leadBy_7 : decode prog_8_method_7_code 7 = .ok (.if_icmp .ge 12, 3) := by decide +kernel
theorem d_St_leadBy_10 : decode prog_8_method_7_code 10 = .ok (.aload_n 0, 1) := by decide +kernel
theorem d_St_leadBy_11 : decode prog_8_method_7_code 11 = .ok (.getfield 15, 3) := by decide +kernel
theorem d_St_leadBy_14 : decode prog_8_method_7_code 14 = .ok (.iload_n 1, 1) := by decide +kernel
theorem d_St_leadBy_15 : decode prog_8_method_7_code 15 = .ok (.iaload, 1) := by decide +kernel
theorem d_St_leadBy_16 : decode prog_8_method_7_code 16 = .ok (.goto 4, 3) := by decide +kernel
theorem d_St_leadBy_19 : decode prog_8_method_7_code 19 = .ok (.iconst (-1), 1) := by decide +kernel
theorem d_St_leadBy_20 : decode prog_8_method_7_code 20 = .ok (.ireturn, 1) := by decide +kernel
theorem M_St_leadBy : lt_M0 m_St_leadBy 1 := ⟨lt_m4 50 rfl rfl, lt_m1 11 rfl rfl, ⟨by decide +kernel, by decide +kernel, by decide +kernel⟩, by decide⟩
theorem in_St_leadBy : Cond.instanceMethod m_St_leadBy.1 ∈ lt_T := lt_m4 48 rfl rfl
theorem se_St_leadBy : Cond.selects "LinearSearch$State" m_St_leadBy.1 m_St_leadBy.1 ∈ lt_T := lt_m4 49 rfl rfl
abbrev m_St_opensNext : lt_M := (⟨"LinearSearch$State", "opensNext", "()Z"⟩, prog_8_method_5_code, 1, (some .boolean))
theorem d_St_opensNext_0 : decode prog_8_method_5_code 0 = .ok (.aload_n 0, 1) := by decide +kernel
theorem d_St_opensNext_1 : decode prog_8_method_5_code 1 = .ok (.getfield 22, 3) := by decide +kernel
theorem d_St_opensNext_4 : decode prog_8_method_5_code 4 = .ok (.ifCond .eq 14, 3) := by decide +kernel
theorem d_St_opensNext_7 : decode prog_8_method_5_code 7 = .ok (.aload_n 0, 1) := by decide +kernel
theorem d_St_opensNext_8 : decode prog_8_method_5_code 8 = .ok (.getfield 26, 3) := by decide +kernel
theorem d_St_opensNext_11 : decode prog_8_method_5_code 11 = .ok (.ifCond .ne 7, 3) := by decide +kernel
theorem d_St_opensNext_14 : decode prog_8_method_5_code 14 = .ok (.iconst 1, 1) := by decide +kernel
theorem d_St_opensNext_15 : decode prog_8_method_5_code 15 = .ok (.goto 4, 3) := by decide +kernel
theorem d_St_opensNext_18 : decode prog_8_method_5_code 18 = .ok (.iconst 0, 1) := by decide +kernel
theorem d_St_opensNext_19 : decode prog_8_method_5_code 19 = .ok (.ireturn, 1) := by decide +kernel
theorem M_St_opensNext : lt_M0 m_St_opensNext 0 := ⟨lt_m4 55 rfl rfl, lt_m1 11 rfl rfl, ⟨by decide +kernel, by decide +kernel, by decide +kernel⟩, by decide⟩
theorem in_St_opensNext : Cond.instanceMethod m_St_opensNext.1 ∈ lt_T := lt_m4 53 rfl rfl
theorem se_St_opensNext : Cond.selects "LinearSearch$State" m_St_opensNext.1 m_St_opensNext.1 ∈ lt_T := lt_m4 54 rfl rfl
abbrev m_St_setLead : lt_M := (⟨"LinearSearch$State", "setLead", "(II)V"⟩, prog_8_method_8_code, 3, none)
theorem d_St_setLead_0 : decode prog_8_method_8_code 0 = .ok (.iload_n 1, 1) := by decide +kernel
theorem d_St_setLead_1 : decode prog_8_method_8_code 1 = .ok (.ifCond .lt 16, 3) := by decide +kernel
theorem d_St_setLead_4 : decode prog_8_method_8_code 4 = .ok (.iload_n 1, 1) := by decide +kernel
theorem d_St_setLead_5 : decode prog_8_method_8_code 5 = .ok (.bipush 8, 2) := by decide +kernel
theorem d_St_setLead_7 : decode prog_8_method_8_code 7 = .ok (.if_icmp .ge 10, 3) := by decide +kernel
theorem d_St_setLead_10 : decode prog_8_method_8_code 10 = .ok (.aload_n 0, 1) := by decide +kernel
theorem d_St_setLead_11 : decode prog_8_method_8_code 11 = .ok (.getfield 15, 3) := by decide +kernel
theorem d_St_setLead_14 : decode prog_8_method_8_code 14 = .ok (.iload_n 1, 1) := by decide +kernel
theorem d_St_setLead_15 : decode prog_8_method_8_code 15 = .ok (.iload_n 2, 1) := by decide +kernel
theorem d_St_setLead_16 : decode prog_8_method_8_code 16 = .ok (.iastore, 1) := by decide +kernel
theorem d_St_setLead_17 : decode prog_8_method_8_code 17 = .ok (.return_, 1) := by decide +kernel
theorem M_St_setLead : lt_M0 m_St_setLead 2 := ⟨lt_m4 59 rfl rfl, lt_m1 11 rfl rfl, ⟨by decide +kernel, by decide +kernel, by decide +kernel⟩, by decide⟩
theorem in_St_setLead : Cond.instanceMethod m_St_setLead.1 ∈ lt_T := lt_m4 57 rfl rfl
theorem se_St_setLead : Cond.selects "LinearSearch$State" m_St_setLead.1 m_St_setLead.1 ∈ lt_T := lt_m4 58 rfl rfl
abbrev m_Fo_ruleAt : lt_M := (⟨"LinearSearch$Follower", "ruleAt", "(ILLinearSearch$Text;)I"⟩, prog_3_method_3_code, 2, (some .int))
theorem d_Fo_ruleAt_0 : decode prog_3_method_3_code 0 = .ok (.iload_n 0, 1) := by decide +kernel
theorem d_Fo_ruleAt_1 : decode prog_3_method_3_code 1 = .ok (.aload_n 1, 1) := by decide +kernel
theorem d_Fo_ruleAt_2 : decode prog_3_method_3_code 2 = .ok (.invokevirtual 50, 3) := by decide +kernel
theorem d_Fo_ruleAt_5 : decode prog_3_method_3_code 5 = .ok (.if_icmp .ne 7, 3) := by decide +kernel
theorem d_Fo_ruleAt_8 : decode prog_3_method_3_code 8 = .ok (.iconst 1, 1) := by decide +kernel
theorem d_Fo_ruleAt_9 : decode prog_3_method_3_code 9 = .ok (.goto 4, 3) := by decide +kernel
theorem d_Fo_ruleAt_12 : decode prog_3_method_3_code 12 = .ok (.iconst 0, 1) := by decide +kernel
theorem d_Fo_ruleAt_13 : decode prog_3_method_3_code 13 = .ok (.ireturn, 1) := by decide +kernel
theorem M_Fo_ruleAt : lt_M0 m_Fo_ruleAt 2 := ⟨lt_m4 71 rfl rfl, lt_m1 5 rfl rfl, ⟨by decide +kernel, by decide +kernel, by decide +kernel⟩, by decide⟩
theorem st_Fo_ruleAt : Cond.static m_Fo_ruleAt.1 ∈ lt_T := lt_m4 70 rfl rfl
abbrev m_TL_slotsAt : lt_M := (⟨"LinearSearch$ThreadList", "slotsAt", "(I)J"⟩, prog_10_method_6_code, 2, (some .long))
theorem d_TL_slotsAt_0 : decode prog_10_method_6_code 0 = .ok (.iload_n 1, 1) := by decide +kernel
theorem d_TL_slotsAt_1 : decode prog_10_method_6_code 1 = .ok (.ifCond .lt 26, 3) := by decide +kernel
theorem d_TL_slotsAt_4 : decode prog_10_method_6_code 4 = .ok (.iload_n 1, 1) := by decide +kernel
theorem d_TL_slotsAt_5 : decode prog_10_method_6_code 5 = .ok (.aload_n 0, 1) := by decide +kernel
theorem d_TL_slotsAt_6 : decode prog_10_method_6_code 6 = .ok (.getfield 19, 3) := by decide +kernel
theorem d_TL_slotsAt_9 : decode prog_10_method_6_code 9 = .ok (.if_icmp .ge 18, 3) := by decide +kernel
theorem d_TL_slotsAt_12 : decode prog_10_method_6_code 12 = .ok (.iload_n 1, 1) := by decide +kernel
theorem d_TL_slotsAt_13 : decode prog_10_method_6_code 13 = .ok (.bipush 25, 2) := by decide +kernel
theorem d_TL_slotsAt_15 : decode prog_10_method_6_code 15 = .ok (.if_icmp .ge 12, 3) := by decide +kernel
theorem d_TL_slotsAt_18 : decode prog_10_method_6_code 18 = .ok (.aload_n 0, 1) := by decide +kernel
theorem d_TL_slotsAt_19 : decode prog_10_method_6_code 19 = .ok (.getfield 15, 3) := by decide +kernel
theorem d_TL_slotsAt_22 : decode prog_10_method_6_code 22 = .ok (.iload_n 1, 1) := by decide +kernel
theorem d_TL_slotsAt_23 : decode prog_10_method_6_code 23 = .ok (.laload, 1) := by decide +kernel
theorem d_TL_slotsAt_24 : decode prog_10_method_6_code 24 = .ok (.goto 4, 3) := by decide +kernel
theorem d_TL_slotsAt_27 : decode prog_10_method_6_code 27 = .ok (.lconst 0, 1) := by decide +kernel
theorem d_TL_slotsAt_28 : decode prog_10_method_6_code 28 = .ok (.lreturn, 1) := by decide +kernel
theorem M_TL_slotsAt : lt_M0 m_TL_slotsAt 1 := ⟨lt_m4 88 rfl rfl, lt_m1 6 rfl rfl, ⟨by decide +kernel, by decide +kernel, by decide +kernel⟩, by decide⟩
theorem in_TL_slotsAt : Cond.instanceMethod m_TL_slotsAt.1 ∈ lt_T := lt_m4 86 rfl rfl
theorem se_TL_slotsAt : Cond.selects "LinearSearch$ThreadList" m_TL_slotsAt.1 m_TL_slotsAt.1 ∈ lt_T := lt_m4 87 rfl rfl
