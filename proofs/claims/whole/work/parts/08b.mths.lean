/-! METHODS: names, code, decode rows, words; printed by wip/whole/gen_methods.py -/
abbrev m_Ls_init : lt_M := (⟨"LinearSearch$Lists", "<init>", "()V"⟩, prog_4_method_1_code, 1, none)
theorem d_Ls_init_0 : decode prog_4_method_1_code 0 = .ok (.aload_n 0, 1) := by decide +kernel
theorem d_Ls_init_1 : decode prog_4_method_1_code 1 = .ok (.invokespecial 3, 3) := by decide +kernel
theorem d_Ls_init_4 : decode prog_4_method_1_code 4 = .ok (.aload_n 0, 1) := by decide +kernel
theorem d_Ls_init_5 : decode prog_4_method_1_code 5 = .ok (.new 9, 3) := by decide +kernel
theorem d_Ls_init_8 : decode prog_4_method_1_code 8 = .ok (.dup, 1) := by decide +kernel
theorem d_Ls_init_9 : decode prog_4_method_1_code 9 = .ok (.invokespecial 11, 3) := by decide +kernel
theorem d_Ls_init_12 : decode prog_4_method_1_code 12 = .ok (.putfield 12, 3) := by decide +kernel
theorem d_Ls_init_15 : decode prog_4_method_1_code 15 = .ok (.aload_n 0, 1) := by decide +kernel
theorem d_Ls_init_16 : decode prog_4_method_1_code 16 = .ok (.new 18, 3) := by decide +kernel
theorem d_Ls_init_19 : decode prog_4_method_1_code 19 = .ok (.dup, 1) := by decide +kernel
theorem d_Ls_init_20 : decode prog_4_method_1_code 20 = .ok (.invokespecial 20, 3) := by decide +kernel
theorem d_Ls_init_23 : decode prog_4_method_1_code 23 = .ok (.putfield 21, 3) := by decide +kernel
theorem d_Ls_init_26 : decode prog_4_method_1_code 26 = .ok (.aload_n 0, 1) := by decide +kernel
theorem d_Ls_init_27 : decode prog_4_method_1_code 27 = .ok (.new 18, 3) := by decide +kernel
theorem d_Ls_init_30 : decode prog_4_method_1_code 30 = .ok (.dup, 1) := by decide +kernel
theorem d_Ls_init_31 : decode prog_4_method_1_code 31 = .ok (.invokespecial 20, 3) := by decide +kernel
theorem d_Ls_init_34 : decode prog_4_method_1_code 34 = .ok (.putfield 25, 3) := by decide +kernel
theorem d_Ls_init_37 : decode prog_4_method_1_code 37 = .ok (.return_, 1) := by decide +kernel
theorem M_Ls_init : lt_M0 m_Ls_init 0 := ⟨lt_m1 70 rfl rfl, lt_m1 4 rfl rfl, ⟨by decide +kernel, by decide +kernel, by decide +kernel⟩, by decide⟩
theorem in_Ls_init : Cond.instanceMethod m_Ls_init.1 ∈ lt_T := lt_m1 69 rfl rfl
abbrev m_Ma_init : lt_M := (⟨"LinearSearch$Marks", "<init>", "()V"⟩, prog_5_method_1_code, 1, none)
theorem d_Ma_init_0 : decode prog_5_method_1_code 0 = .ok (.aload_n 0, 1) := by decide +kernel
theorem d_Ma_init_1 : decode prog_5_method_1_code 1 = .ok (.invokespecial 3, 3) := by decide +kernel
theorem d_Ma_init_4 : decode prog_5_method_1_code 4 = .ok (.aload_n 0, 1) := by decide +kernel
theorem d_Ma_init_5 : decode prog_5_method_1_code 5 = .ok (.bipush 21, 2) := by decide +kernel
theorem d_Ma_init_7 : decode prog_5_method_1_code 7 = .ok (.newarray .long, 2) := by decide +kernel
theorem d_Ma_init_9 : decode prog_5_method_1_code 9 = .ok (.putfield 9, 3) := by decide +kernel
theorem d_Ma_init_12 : decode prog_5_method_1_code 12 = .ok (.aload_n 0, 1) := by decide +kernel
theorem d_Ma_init_13 : decode prog_5_method_1_code 13 = .ok (.sipush 505, 3) := by decide +kernel
theorem d_Ma_init_16 : decode prog_5_method_1_code 16 = .ok (.newarray .int, 2) := by decide +kernel
theorem d_Ma_init_18 : decode prog_5_method_1_code 18 = .ok (.putfield 15, 3) := by decide +kernel
theorem d_Ma_init_21 : decode prog_5_method_1_code 21 = .ok (.aload_n 0, 1) := by decide +kernel
theorem d_Ma_init_22 : decode prog_5_method_1_code 22 = .ok (.sipush 505, 3) := by decide +kernel
theorem d_Ma_init_25 : decode prog_5_method_1_code 25 = .ok (.newarray .int, 2) := by decide +kernel
theorem d_Ma_init_27 : decode prog_5_method_1_code 27 = .ok (.putfield 19, 3) := by decide +kernel
theorem d_Ma_init_30 : decode prog_5_method_1_code 30 = .ok (.aload_n 0, 1) := by decide +kernel
theorem d_Ma_init_31 : decode prog_5_method_1_code 31 = .ok (.sipush 505, 3) := by decide +kernel
theorem d_Ma_init_34 : decode prog_5_method_1_code 34 = .ok (.newarray .long, 2) := by decide +kernel
theorem d_Ma_init_36 : decode prog_5_method_1_code 36 = .ok (.putfield 22, 3) := by decide +kernel
theorem d_Ma_init_39 : decode prog_5_method_1_code 39 = .ok (.return_, 1) := by decide +kernel
theorem M_Ma_init : lt_M0 m_Ma_init 0 := ⟨lt_m1 140 rfl rfl, lt_m1 7 rfl rfl, ⟨by decide +kernel, by decide +kernel, by decide +kernel⟩, by decide⟩
theorem in_Ma_init : Cond.instanceMethod m_Ma_init.1 ∈ lt_T := lt_m1 139 rfl rfl
abbrev m_Si_init : lt_M := (⟨"LinearSearch$Single", "<init>", "()V"⟩, prog_7_method_1_code, 1, none)
theorem d_Si_init_0 : decode prog_7_method_1_code 0 = .ok (.aload_n 0, 1) := by decide +kernel
theorem d_Si_init_1 : decode prog_7_method_1_code 1 = .ok (.invokespecial 3, 3) := by decide +kernel
theorem d_Si_init_4 : decode prog_7_method_1_code 4 = .ok (.aload_n 0, 1) := by decide +kernel
theorem d_Si_init_5 : decode prog_7_method_1_code 5 = .ok (.new 9, 3) := by decide +kernel
theorem d_Si_init_8 : decode prog_7_method_1_code 8 = .ok (.dup, 1) := by decide +kernel
theorem d_Si_init_9 : decode prog_7_method_1_code 9 = .ok (.invokespecial 11, 3) := by decide +kernel
theorem d_Si_init_12 : decode prog_7_method_1_code 12 = .ok (.putfield 12, 3) := by decide +kernel
theorem d_Si_init_15 : decode prog_7_method_1_code 15 = .ok (.aload_n 0, 1) := by decide +kernel
theorem d_Si_init_16 : decode prog_7_method_1_code 16 = .ok (.new 18, 3) := by decide +kernel
theorem d_Si_init_19 : decode prog_7_method_1_code 19 = .ok (.dup, 1) := by decide +kernel
theorem d_Si_init_20 : decode prog_7_method_1_code 20 = .ok (.invokespecial 20, 3) := by decide +kernel
theorem d_Si_init_23 : decode prog_7_method_1_code 23 = .ok (.putfield 21, 3) := by decide +kernel
theorem d_Si_init_26 : decode prog_7_method_1_code 26 = .ok (.return_, 1) := by decide +kernel
theorem M_Si_init : lt_M0 m_Si_init 0 := ⟨lt_m1 171 rfl rfl, lt_m1 8 rfl rfl, ⟨by decide +kernel, by decide +kernel, by decide +kernel⟩, by decide⟩
theorem in_Si_init : Cond.instanceMethod m_Si_init.1 ∈ lt_T := lt_m1 170 rfl rfl
abbrev m_Au_init : lt_M := (⟨"LinearSearch$Automaton", "<init>", "(I)V"⟩, prog_2_method_1_code, 3, none)
theorem d_Au_init_0 : decode prog_2_method_1_code 0 = .ok (.aload_n 0, 1) := by decide +kernel
theorem d_Au_init_1 : decode prog_2_method_1_code 1 = .ok (.invokespecial 3, 3) := by decide +kernel
theorem d_Au_init_4 : decode prog_2_method_1_code 4 = .ok (.aload_n 0, 1) := by decide +kernel
theorem d_Au_init_5 : decode prog_2_method_1_code 5 = .ok (.new 9, 3) := by decide +kernel
theorem d_Au_init_8 : decode prog_2_method_1_code 8 = .ok (.dup, 1) := by decide +kernel
theorem d_Au_init_9 : decode prog_2_method_1_code 9 = .ok (.invokespecial 11, 3) := by decide +kernel
theorem d_Au_init_12 : decode prog_2_method_1_code 12 = .ok (.putfield 12, 3) := by decide +kernel
theorem d_Au_init_15 : decode prog_2_method_1_code 15 = .ok (.aload_n 0, 1) := by decide +kernel
theorem d_Au_init_16 : decode prog_2_method_1_code 16 = .ok (.new 18, 3) := by decide +kernel
theorem d_Au_init_19 : decode prog_2_method_1_code 19 = .ok (.dup, 1) := by decide +kernel
theorem d_Au_init_20 : decode prog_2_method_1_code 20 = .ok (.invokespecial 20, 3) := by decide +kernel
theorem d_Au_init_23 : decode prog_2_method_1_code 23 = .ok (.putfield 21, 3) := by decide +kernel
theorem d_Au_init_26 : decode prog_2_method_1_code 26 = .ok (.aload_n 0, 1) := by decide +kernel
theorem d_Au_init_27 : decode prog_2_method_1_code 27 = .ok (.new 25, 3) := by decide +kernel
theorem d_Au_init_30 : decode prog_2_method_1_code 30 = .ok (.dup, 1) := by decide +kernel
theorem d_Au_init_31 : decode prog_2_method_1_code 31 = .ok (.invokespecial 27, 3) := by decide +kernel
theorem d_Au_init_34 : decode prog_2_method_1_code 34 = .ok (.putfield 28, 3) := by decide +kernel
theorem d_Au_init_37 : decode prog_2_method_1_code 37 = .ok (.aload_n 0, 1) := by decide +kernel
theorem d_Au_init_38 : decode prog_2_method_1_code 38 = .ok (.iload_n 1, 1) := by decide +kernel
theorem d_Au_init_39 : decode prog_2_method_1_code 39 = .ok (.iconst 1, 1) := by decide +kernel
theorem d_Au_init_40 : decode prog_2_method_1_code 40 = .ok (.invokestatic 32, 3) := by decide +kernel
theorem d_Au_init_43 : decode prog_2_method_1_code 43 = .ok (.anewarray 25, 3) := by decide +kernel
theorem d_Au_init_46 : decode prog_2_method_1_code 46 = .ok (.putfield 38, 3) := by decide +kernel
theorem d_Au_init_49 : decode prog_2_method_1_code 49 = .ok (.iconst 0, 1) := by decide +kernel
theorem d_Au_init_50 : decode prog_2_method_1_code 50 = .ok (.istore_n 2, 1) := by decide +kernel
theorem d_Au_init_51 : decode prog_2_method_1_code 51 = .ok (.iload_n 2, 1) := by decide +kernel
theorem d_Au_init_52 : decode prog_2_method_1_code 52 = .ok (.aload_n 0, 1) := by decide +kernel
theorem d_Au_init_53 : decode prog_2_method_1_code 53 = .ok (.getfield 38, 3) := by decide +kernel
theorem d_Au_init_56 : decode prog_2_method_1_code 56 = .ok (.arraylength, 1) := by decide +kernel
theorem d_Au_init_57 : decode prog_2_method_1_code 57 = .ok (.if_icmp .ge 22, 3) := by decide +kernel
theorem d_Au_init_60 : decode prog_2_method_1_code 60 = .ok (.aload_n 0, 1) := by decide +kernel
theorem d_Au_init_61 : decode prog_2_method_1_code 61 = .ok (.getfield 38, 3) := by decide +kernel
theorem d_Au_init_64 : decode prog_2_method_1_code 64 = .ok (.iload_n 2, 1) := by decide +kernel
theorem d_Au_init_65 : decode prog_2_method_1_code 65 = .ok (.new 25, 3) := by decide +kernel
theorem d_Au_init_68 : decode prog_2_method_1_code 68 = .ok (.dup, 1) := by decide +kernel
theorem d_Au_init_69 : decode prog_2_method_1_code 69 = .ok (.invokespecial 27, 3) := by decide +kernel
theorem d_Au_init_72 : decode prog_2_method_1_code 72 = .ok (.aastore, 1) := by decide +kernel
theorem d_Au_init_73 : decode prog_2_method_1_code 73 = .ok (.iinc 2 1, 3) := by decide +kernel
theorem d_Au_init_76 : decode prog_2_method_1_code 76 = .ok (.goto (-25), 3) := by decide +kernel
theorem d_Au_init_79 : decode prog_2_method_1_code 79 = .ok (.return_, 1) := by decide +kernel
theorem M_Au_init : lt_M0 m_Au_init 1 := ⟨lt_m1 219 rfl rfl, lt_m1 10 rfl rfl, ⟨by decide +kernel, by decide +kernel, by decide +kernel⟩, by decide⟩
theorem in_Au_init : Cond.instanceMethod m_Au_init.1 ∈ lt_T := lt_m1 218 rfl rfl
abbrev m_Au_keptCount : lt_M := (⟨"LinearSearch$Automaton", "keptCount", "()I"⟩, prog_2_method_3_code, 1, (some .int))
theorem d_Au_keptCount_0 : decode prog_2_method_3_code 0 = .ok (.aload_n 0, 1) := by decide +kernel
theorem d_Au_keptCount_1 : decode prog_2_method_3_code 1 = .ok (.getfield 42, 3) := by decide +kernel
theorem d_Au_keptCount_4 : decode prog_2_method_3_code 4 = .ok (.ireturn, 1) := by decide +kernel
theorem M_Au_keptCount : lt_M0 m_Au_keptCount 0 := ⟨lt_m2 128 rfl rfl, lt_m1 10 rfl rfl, ⟨by decide +kernel, by decide +kernel, by decide +kernel⟩, by decide⟩
theorem in_Au_keptCount : Cond.instanceMethod m_Au_keptCount.1 ∈ lt_T := lt_m2 126 rfl rfl
theorem se_Au_keptCount : Cond.selects "LinearSearch$Automaton" m_Au_keptCount.1 m_Au_keptCount.1 ∈ lt_T := lt_m2 127 rfl rfl
abbrev m_Au_flushCount : lt_M := (⟨"LinearSearch$Automaton", "flushCount", "()I"⟩, prog_2_method_4_code, 1, (some .int))
theorem d_Au_flushCount_0 : decode prog_2_method_4_code 0 = .ok (.aload_n 0, 1) := by decide +kernel
theorem d_Au_flushCount_1 : decode prog_2_method_4_code 1 = .ok (.getfield 46, 3) := by decide +kernel
theorem d_Au_flushCount_4 : decode prog_2_method_4_code 4 = .ok (.ireturn, 1) := by decide +kernel
theorem M_Au_flushCount : lt_M0 m_Au_flushCount 0 := ⟨lt_m2 136 rfl rfl, lt_m1 10 rfl rfl, ⟨by decide +kernel, by decide +kernel, by decide +kernel⟩, by decide⟩
theorem in_Au_flushCount : Cond.instanceMethod m_Au_flushCount.1 ∈ lt_T := lt_m2 134 rfl rfl
theorem se_Au_flushCount : Cond.selects "LinearSearch$Automaton" m_Au_flushCount.1 m_Au_flushCount.1 ∈ lt_T := lt_m2 135 rfl rfl
abbrev m_Si_fits : lt_M := (⟨"LinearSearch$Single", "fits", "(LLinearSearch$Program;)Z"⟩, prog_7_method_3_code, 3, (some .boolean))
theorem d_Si_fits_0 : decode prog_7_method_3_code 0 = .ok (.aload_n 1, 1) := by decide +kernel
theorem d_Si_fits_1 : decode prog_7_method_3_code 1 = .ok (.iconst 0, 1) := by decide +kernel
theorem d_Si_fits_2 : decode prog_7_method_3_code 2 = .ok (.invokevirtual 29, 3) := by decide +kernel
theorem d_Si_fits_5 : decode prog_7_method_3_code 5 = .ok (.iconst 5, 1) := by decide +kernel
theorem d_Si_fits_6 : decode prog_7_method_3_code 6 = .ok (.if_icmp .eq 5, 3) := by decide +kernel
theorem d_Si_fits_9 : decode prog_7_method_3_code 9 = .ok (.iconst 0, 1) := by decide +kernel
theorem d_Si_fits_10 : decode prog_7_method_3_code 10 = .ok (.ireturn, 1) := by decide +kernel
theorem d_Si_fits_11 : decode prog_7_method_3_code 11 = .ok (.iconst 0, 1) := by decide +kernel
theorem d_Si_fits_12 : decode prog_7_method_3_code 12 = .ok (.istore_n 2, 1) := by decide +kernel
theorem d_Si_fits_13 : decode prog_7_method_3_code 13 = .ok (.iload_n 2, 1) := by decide +kernel
theorem d_Si_fits_14 : decode prog_7_method_3_code 14 = .ok (.aload_n 1, 1) := by decide +kernel
theorem d_Si_fits_15 : decode prog_7_method_3_code 15 = .ok (.invokevirtual 35, 3) := by decide +kernel
theorem d_Si_fits_18 : decode prog_7_method_3_code 18 = .ok (.if_icmp .ge 34, 3) := by decide +kernel
theorem d_Si_fits_21 : decode prog_7_method_3_code 21 = .ok (.iload_n 2, 1) := by decide +kernel
theorem d_Si_fits_22 : decode prog_7_method_3_code 22 = .ok (.ifCond .eq 13, 3) := by decide +kernel
theorem d_Si_fits_25 : decode prog_7_method_3_code 25 = .ok (.aload_n 1, 1) := by decide +kernel
theorem d_Si_fits_26 : decode prog_7_method_3_code 26 = .ok (.iload_n 2, 1) := by decide +kernel
theorem d_Si_fits_27 : decode prog_7_method_3_code 27 = .ok (.iconst 1, 1) := by decide +kernel
theorem d_Si_fits_28 : decode prog_7_method_3_code 28 = .ok (.isub, 1) := by decide +kernel
theorem d_Si_fits_29 : decode prog_7_method_3_code 29 = .ok (.invokevirtual 39, 3) := by decide +kernel
theorem d_Si_fits_32 : decode prog_7_method_3_code 32 = .ok (.ifCond .eq 14, 3) := by decide +kernel
theorem d_Si_fits_35 : decode prog_7_method_3_code 35 = .ok (.aload_n 0, 1) := by decide +kernel
theorem d_Si_fits_36 : decode prog_7_method_3_code 36 = .ok (.aload_n 1, 1) := by decide +kernel
theorem d_Si_fits_37 : decode prog_7_method_3_code 37 = .ok (.iload_n 2, 1) := by decide +kernel
theorem d_Si_fits_38 : decode prog_7_method_3_code 38 = .ok (.invokevirtual 43, 3) := by decide +kernel
theorem d_Si_fits_41 : decode prog_7_method_3_code 41 = .ok (.ifCond .ne 5, 3) := by decide +kernel
theorem d_Si_fits_44 : decode prog_7_method_3_code 44 = .ok (.iconst 0, 1) := by decide +kernel
theorem d_Si_fits_45 : decode prog_7_method_3_code 45 = .ok (.ireturn, 1) := by decide +kernel
theorem d_Si_fits_46 : decode prog_7_method_3_code 46 = .ok (.iinc 2 1, 3) := by decide +kernel
theorem d_Si_fits_49 : decode prog_7_method_3_code 49 = .ok (.goto (-36), 3) := by decide +kernel
theorem d_Si_fits_52 : decode prog_7_method_3_code 52 = .ok (.iconst 1, 1) := by decide +kernel
theorem d_Si_fits_53 : decode prog_7_method_3_code 53 = .ok (.ireturn, 1) := by decide +kernel
theorem M_Si_fits : lt_M0 m_Si_fits 1 := ⟨lt_m3 41 rfl rfl, lt_m1 8 rfl rfl, ⟨by decide +kernel, by decide +kernel, by decide +kernel⟩, by decide⟩
theorem in_Si_fits : Cond.instanceMethod m_Si_fits.1 ∈ lt_T := lt_m3 39 rfl rfl
theorem se_Si_fits : Cond.selects "LinearSearch$Single" m_Si_fits.1 m_Si_fits.1 ∈ lt_T := lt_m3 40 rfl rfl
abbrev m_Si_isPlainFrom : lt_M := (⟨"LinearSearch$Single", "isPlainFrom", "(LLinearSearch$Program;I)Z"⟩, prog_7_method_4_code, 9, (some .boolean))
theorem d_Si_isPlainFrom_0 : decode prog_7_method_4_code 0 = .ok (.aload_n 0, 1) := by decide +kernel
theorem d_Si_isPlainFrom_1 : decode prog_7_method_4_code 1 = .ok (.getfield 12, 3) := by decide +kernel
theorem d_Si_isPlainFrom_4 : decode prog_7_method_4_code 4 = .ok (.aload_n 1, 1) := by decide +kernel
theorem d_Si_isPlainFrom_5 : decode prog_7_method_4_code 5 = .ok (.aload_n 0, 1) := by decide +kernel
theorem d_Si_isPlainFrom_6 : decode prog_7_method_4_code 6 = .ok (.getfield 21, 3) := by decide +kernel
theorem d_Si_isPlainFrom_9 : decode prog_7_method_4_code 9 = .ok (.iconst 0, 1) := by decide +kernel
theorem d_Si_isPlainFrom_10 : decode prog_7_method_4_code 10 = .ok (.iconst 1, 1) := by decide +kernel
theorem d_Si_isPlainFrom_11 : decode prog_7_method_4_code 11 = .ok (.invokevirtual 47, 3) := by decide +kernel
theorem d_Si_isPlainFrom_14 : decode prog_7_method_4_code 14 = .ok (.aload_n 0, 1) := by decide +kernel
theorem d_Si_isPlainFrom_15 : decode prog_7_method_4_code 15 = .ok (.getfield 12, 3) := by decide +kernel
theorem d_Si_isPlainFrom_18 : decode prog_7_method_4_code 18 = .ok (.iload_n 2, 1) := by decide +kernel
theorem d_Si_isPlainFrom_19 : decode prog_7_method_4_code 19 = .ok (.lconst 0, 1) := by decide +kernel
theorem d_Si_isPlainFrom_20 : decode prog_7_method_4_code 20 = .ok (.invokevirtual 51, 3) := by decide +kernel
theorem d_Si_isPlainFrom_23 : decode prog_7_method_4_code 23 = .ok (.aload_n 0, 1) := by decide +kernel
theorem d_Si_isPlainFrom_24 : decode prog_7_method_4_code 24 = .ok (.getfield 12, 3) := by decide +kernel
theorem d_Si_isPlainFrom_27 : decode prog_7_method_4_code 27 = .ok (.invokevirtual 55, 3) := by decide +kernel
theorem d_Si_isPlainFrom_30 : decode prog_7_method_4_code 30 = .ok (.ifCond .eq 5, 3) := by decide +kernel
theorem d_Si_isPlainFrom_33 : decode prog_7_method_4_code 33 = .ok (.iconst 0, 1) := by decide +kernel
theorem d_Si_isPlainFrom_34 : decode prog_7_method_4_code 34 = .ok (.ireturn, 1) := by decide +kernel
theorem d_Si_isPlainFrom_35 : decode prog_7_method_4_code 35 = .ok (.iconst 0, 1) := by decide +kernel
theorem d_Si_isPlainFrom_36 : decode prog_7_method_4_code 36 = .ok (.istore_n 3, 1) := by decide +kernel
theorem d_Si_isPlainFrom_37 : decode prog_7_method_4_code 37 = .ok (.iconst 0, 1) := by decide +kernel
theorem d_Si_isPlainFrom_38 : decode prog_7_method_4_code 38 = .ok (.istore 4, 2) := by decide +kernel
theorem d_Si_isPlainFrom_40 : decode prog_7_method_4_code 40 = .ok (.iconst 0, 1) := by decide +kernel
theorem d_Si_isPlainFrom_41 : decode prog_7_method_4_code 41 = .ok (.istore 5, 2) := by decide +kernel
theorem d_Si_isPlainFrom_43 : decode prog_7_method_4_code 43 = .ok (.iconst 0, 1) := by decide +kernel
theorem d_Si_isPlainFrom_44 : decode prog_7_method_4_code 44 = .ok (.istore 6, 2) := by decide +kernel
theorem d_Si_isPlainFrom_46 : decode prog_7_method_4_code 46 = .ok (.iload 6, 2) := by decide +kernel
theorem d_Si_isPlainFrom_48 : decode prog_7_method_4_code 48 = .ok (.aload_n 0, 1) := by decide +kernel
theorem d_Si_isPlainFrom_49 : decode prog_7_method_4_code 49 = .ok (.getfield 21, 3) := by decide +kernel
theorem d_Si_isPlainFrom_52 : decode prog_7_method_4_code 52 = .ok (.invokevirtual 59, 3) := by decide +kernel
theorem d_Si_isPlainFrom_55 : decode prog_7_method_4_code 55 = .ok (.if_icmp .ge 78, 3) := by decide +kernel
theorem d_Si_isPlainFrom_58 : decode prog_7_method_4_code 58 = .ok (.aload_n 0, 1) := by decide +kernel
theorem d_Si_isPlainFrom_59 : decode prog_7_method_4_code 59 = .ok (.getfield 21, 3) := by decide +kernel
theorem d_Si_isPlainFrom_62 : decode prog_7_method_4_code 62 = .ok (.iload 6, 2) := by decide +kernel
theorem d_Si_isPlainFrom_64 : decode prog_7_method_4_code 64 = .ok (.invokevirtual 60, 3) := by decide +kernel
theorem d_Si_isPlainFrom_67 : decode prog_7_method_4_code 67 = .ok (.istore 7, 2) := by decide +kernel
theorem d_Si_isPlainFrom_69 : decode prog_7_method_4_code 69 = .ok (.aload_n 1, 1) := by decide +kernel
theorem d_Si_isPlainFrom_70 : decode prog_7_method_4_code 70 = .ok (.iload 7, 2) := by decide +kernel
theorem d_Si_isPlainFrom_72 : decode prog_7_method_4_code 72 = .ok (.invokevirtual 39, 3) := by decide +kernel
theorem d_Si_isPlainFrom_75 : decode prog_7_method_4_code 75 = .ok (.ifCond .ne 6, 3) := by decide +kernel
theorem d_Si_isPlainFrom_78 : decode prog_7_method_4_code 78 = .ok (.goto 49, 3) := by decide +kernel
theorem d_Si_isPlainFrom_81 : decode prog_7_method_4_code 81 = .ok (.iinc 3 1, 3) := by decide +kernel
theorem d_Si_isPlainFrom_84 : decode prog_7_method_4_code 84 = .ok (.aload_n 1, 1) := by decide +kernel
theorem d_Si_isPlainFrom_85 : decode prog_7_method_4_code 85 = .ok (.iload 7, 2) := by decide +kernel
theorem d_Si_isPlainFrom_87 : decode prog_7_method_4_code 87 = .ok (.invokevirtual 29, 3) := by decide +kernel
theorem d_Si_isPlainFrom_90 : decode prog_7_method_4_code 90 = .ok (.iconst 1, 1) := by decide +kernel
theorem d_Si_isPlainFrom_91 : decode prog_7_method_4_code 91 = .ok (.if_icmp .ne 9, 3) := by decide +kernel
theorem d_Si_isPlainFrom_94 : decode prog_7_method_4_code 94 = .ok (.iinc 4 1, 3) := by decide +kernel
theorem d_Si_isPlainFrom_97 : decode prog_7_method_4_code 97 = .ok (.goto 30, 3) := by decide +kernel
theorem d_Si_isPlainFrom_100 : decode prog_7_method_4_code 100 = .ok (.iconst 1, 1) := by decide +kernel
theorem d_Si_isPlainFrom_101 : decode prog_7_method_4_code 101 = .ok (.aload_n 1, 1) := by decide +kernel
theorem d_Si_isPlainFrom_102 : decode prog_7_method_4_code 102 = .ok (.iload 7, 2) := by decide +kernel
theorem d_Si_isPlainFrom_104 : decode prog_7_method_4_code 104 = .ok (.invokevirtual 63, 3) := by decide +kernel
theorem d_Si_isPlainFrom_107 : decode prog_7_method_4_code 107 = .ok (.ishl, 1) := by decide +kernel
theorem d_Si_isPlainFrom_108 : decode prog_7_method_4_code 108 = .ok (.istore 8, 2) := by decide +kernel
theorem d_Si_isPlainFrom_110 : decode prog_7_method_4_code 110 = .ok (.iload 5, 2) := by decide +kernel
theorem d_Si_isPlainFrom_112 : decode prog_7_method_4_code 112 = .ok (.iload 8, 2) := by decide +kernel
theorem d_Si_isPlainFrom_114 : decode prog_7_method_4_code 114 = .ok (.iand, 1) := by decide +kernel
theorem d_Si_isPlainFrom_115 : decode prog_7_method_4_code 115 = .ok (.ifCond .eq 5, 3) := by decide +kernel
theorem d_Si_isPlainFrom_118 : decode prog_7_method_4_code 118 = .ok (.iconst 0, 1) := by decide +kernel
theorem d_Si_isPlainFrom_119 : decode prog_7_method_4_code 119 = .ok (.ireturn, 1) := by decide +kernel
theorem d_Si_isPlainFrom_120 : decode prog_7_method_4_code 120 = .ok (.iload 5, 2) := by decide +kernel
theorem d_Si_isPlainFrom_122 : decode prog_7_method_4_code 122 = .ok (.iload 8, 2) := by decide +kernel
theorem d_Si_isPlainFrom_124 : decode prog_7_method_4_code 124 = .ok (.ior, 1) := by decide +kernel
theorem d_Si_isPlainFrom_125 : decode prog_7_method_4_code 125 = .ok (.istore 5, 2) := by decide +kernel
theorem d_Si_isPlainFrom_127 : decode prog_7_method_4_code 127 = .ok (.iinc 6 1, 3) := by decide +kernel
theorem d_Si_isPlainFrom_130 : decode prog_7_method_4_code 130 = .ok (.goto (-84), 3) := by decide +kernel
theorem d_Si_isPlainFrom_133 : decode prog_7_method_4_code 133 = .ok (.iload 4, 2) := by decide +kernel
theorem d_Si_isPlainFrom_135 : decode prog_7_method_4_code 135 = .ok (.ifCond .eq 8, 3) := by decide +kernel
theorem d_Si_isPlainFrom_138 : decode prog_7_method_4_code 138 = .ok (.iload_n 3, 1) := by decide +kernel
theorem d_Si_isPlainFrom_139 : decode prog_7_method_4_code 139 = .ok (.iconst 1, 1) := by decide +kernel
theorem d_Si_isPlainFrom_140 : decode prog_7_method_4_code 140 = .ok (.if_icmp .ne 7, 3) := by decide +kernel
theorem d_Si_isPlainFrom_143 : decode prog_7_method_4_code 143 = .ok (.iconst 1, 1) := by decide +kernel
theorem d_Si_isPlainFrom_144 : decode prog_7_method_4_code 144 = .ok (.goto 4, 3) := by decide +kernel
theorem d_Si_isPlainFrom_147 : decode prog_7_method_4_code 147 = .ok (.iconst 0, 1) := by decide +kernel
theorem d_Si_isPlainFrom_148 : decode prog_7_method_4_code 148 = .ok (.ireturn, 1) := by decide +kernel
theorem M_Si_isPlainFrom : lt_M0 m_Si_isPlainFrom 2 := ⟨lt_m3 55 rfl rfl, lt_m1 8 rfl rfl, ⟨by decide +kernel, by decide +kernel, by decide +kernel⟩, by decide⟩
theorem in_Si_isPlainFrom : Cond.instanceMethod m_Si_isPlainFrom.1 ∈ lt_T := lt_m3 54 rfl rfl
theorem se_Si_isPlainFrom : Cond.selects "LinearSearch$Single" m_Si_isPlainFrom.1 m_Si_isPlainFrom.1 ∈ lt_T := lt_memS 10 rfl rfl
abbrev m_Au_reset : lt_M := (⟨"LinearSearch$Automaton", "reset", "()V"⟩, prog_2_method_2_code, 1, none)
theorem d_Au_reset_0 : decode prog_2_method_2_code 0 = .ok (.aload_n 0, 1) := by decide +kernel
theorem d_Au_reset_1 : decode prog_2_method_2_code 1 = .ok (.iconst 0, 1) := by decide +kernel
theorem d_Au_reset_2 : decode prog_2_method_2_code 2 = .ok (.putfield 42, 3) := by decide +kernel
theorem d_Au_reset_5 : decode prog_2_method_2_code 5 = .ok (.aload_n 0, 1) := by decide +kernel
theorem d_Au_reset_6 : decode prog_2_method_2_code 6 = .ok (.iconst 0, 1) := by decide +kernel
theorem d_Au_reset_7 : decode prog_2_method_2_code 7 = .ok (.putfield 46, 3) := by decide +kernel
theorem d_Au_reset_10 : decode prog_2_method_2_code 10 = .ok (.return_, 1) := by decide +kernel
theorem M_Au_reset : lt_M0 m_Au_reset 0 := ⟨lt_m3 110 rfl rfl, lt_m1 10 rfl rfl, ⟨by decide +kernel, by decide +kernel, by decide +kernel⟩, by decide⟩
theorem in_Au_reset : Cond.instanceMethod m_Au_reset.1 ∈ lt_T := lt_m3 108 rfl rfl
theorem se_Au_reset : Cond.selects "LinearSearch$Automaton" m_Au_reset.1 m_Au_reset.1 ∈ lt_T := lt_m3 109 rfl rfl
abbrev m_Ma_find : lt_M := (⟨"LinearSearch$Marks", "find", "(LLinearSearch$Program;LLinearSearch$Text;)J"⟩, prog_5_method_3_code, 6, (some .long))
theorem d_Ma_find_0 : decode prog_5_method_3_code 0 = .ok (.aload_n 0, 1) := by decide +kernel
theorem d_Ma_find_1 : decode prog_5_method_3_code 1 = .ok (.aload_n 1, 1) := by decide +kernel
theorem d_Ma_find_2 : decode prog_5_method_3_code 2 = .ok (.putfield 29, 3) := by decide +kernel
theorem d_Ma_find_5 : decode prog_5_method_3_code 5 = .ok (.aload_n 0, 1) := by decide +kernel
theorem d_Ma_find_6 : decode prog_5_method_3_code 6 = .ok (.aload_n 2, 1) := by decide +kernel
theorem d_Ma_find_7 : decode prog_5_method_3_code 7 = .ok (.putfield 33, 3) := by decide +kernel
theorem d_Ma_find_10 : decode prog_5_method_3_code 10 = .ok (.aload_n 0, 1) := by decide +kernel
theorem d_Ma_find_11 : decode prog_5_method_3_code 11 = .ok (.iconst 0, 1) := by decide +kernel
theorem d_Ma_find_12 : decode prog_5_method_3_code 12 = .ok (.putfield 25, 3) := by decide +kernel
theorem d_Ma_find_15 : decode prog_5_method_3_code 15 = .ok (.aload_n 0, 1) := by decide +kernel
theorem d_Ma_find_16 : decode prog_5_method_3_code 16 = .ok (.getfield 9, 3) := by decide +kernel
theorem d_Ma_find_19 : decode prog_5_method_3_code 19 = .ok (.lconst 0, 1) := by decide +kernel
theorem d_Ma_find_20 : decode prog_5_method_3_code 20 = .ok (.invokestatic 37, 3) := by decide +kernel
theorem d_Ma_find_23 : decode prog_5_method_3_code 23 = .ok (.iconst 0, 1) := by decide +kernel
theorem d_Ma_find_24 : decode prog_5_method_3_code 24 = .ok (.istore_n 3, 1) := by decide +kernel
theorem d_Ma_find_25 : decode prog_5_method_3_code 25 = .ok (.iload_n 3, 1) := by decide +kernel
theorem d_Ma_find_26 : decode prog_5_method_3_code 26 = .ok (.aload_n 0, 1) := by decide +kernel
theorem d_Ma_find_27 : decode prog_5_method_3_code 27 = .ok (.getfield 33, 3) := by decide +kernel
theorem d_Ma_find_30 : decode prog_5_method_3_code 30 = .ok (.invokevirtual 43, 3) := by decide +kernel
theorem d_Ma_find_33 : decode prog_5_method_3_code 33 = .ok (.if_icmp .gt 26, 3) := by decide +kernel
theorem d_Ma_find_36 : decode prog_5_method_3_code 36 = .ok (.aload_n 0, 1) := by decide +kernel
theorem d_Ma_find_37 : decode prog_5_method_3_code 37 = .ok (.iload_n 3, 1) := by decide +kernel
theorem d_Ma_find_38 : decode prog_5_method_3_code 38 = .ok (.invokevirtual 49, 3) := by decide +kernel
theorem d_Ma_find_41 : decode prog_5_method_3_code 41 = .ok (.lstore 4, 2) := by decide +kernel
theorem d_Ma_find_43 : decode prog_5_method_3_code 43 = .ok (.lload 4, 2) := by decide +kernel
theorem d_Ma_find_45 : decode prog_5_method_3_code 45 = .ok (.lconst 0, 1) := by decide +kernel
theorem d_Ma_find_46 : decode prog_5_method_3_code 46 = .ok (.lcmp, 1) := by decide +kernel
theorem d_Ma_find_47 : decode prog_5_method_3_code 47 = .ok (.ifCond .eq 6, 3) := by decide +kernel
theorem d_Ma_find_50 : decode prog_5_method_3_code 50 = .ok (.lload 4, 2) := by decide +kernel
theorem d_Ma_find_52 : decode prog_5_method_3_code 52 = .ok (.lreturn, 1) := by decide +kernel
theorem d_Ma_find_53 : decode prog_5_method_3_code 53 = .ok (.iinc 3 1, 3) := by decide +kernel
theorem d_Ma_find_56 : decode prog_5_method_3_code 56 = .ok (.goto (-31), 3) := by decide +kernel
theorem d_Ma_find_59 : decode prog_5_method_3_code 59 = .ok (.lconst 0, 1) := by decide +kernel
theorem d_Ma_find_60 : decode prog_5_method_3_code 60 = .ok (.lreturn, 1) := by decide +kernel
theorem M_Ma_find : lt_M0 m_Ma_find 2 := ⟨lt_m3 184 rfl rfl, lt_m1 7 rfl rfl, ⟨by decide +kernel, by decide +kernel, by decide +kernel⟩, by decide⟩
theorem in_Ma_find : Cond.instanceMethod m_Ma_find.1 ∈ lt_T := lt_m3 182 rfl rfl
theorem se_Ma_find : Cond.selects "LinearSearch$Marks" m_Ma_find.1 m_Ma_find.1 ∈ lt_T := lt_m3 183 rfl rfl
abbrev m_Ma_findFrom : lt_M := (⟨"LinearSearch$Marks", "findFrom", "(I)J"⟩, prog_5_method_4_code, 7, (some .long))
theorem d_Ma_findFrom_0 : decode prog_5_method_4_code 0 = .ok (.aload_n 0, 1) := by decide +kernel
theorem d_Ma_findFrom_1 : decode prog_5_method_4_code 1 = .ok (.iconst 0, 1) := by decide +kernel
theorem d_Ma_findFrom_2 : decode prog_5_method_4_code 2 = .ok (.putfield 53, 3) := by decide +kernel
theorem d_Ma_findFrom_5 : decode prog_5_method_4_code 5 = .ok (.aload_n 0, 1) := by decide +kernel
theorem d_Ma_findFrom_6 : decode prog_5_method_4_code 6 = .ok (.iconst 0, 1) := by decide +kernel
theorem d_Ma_findFrom_7 : decode prog_5_method_4_code 7 = .ok (.iload_n 1, 1) := by decide +kernel
theorem d_Ma_findFrom_8 : decode prog_5_method_4_code 8 = .ok (.iload_n 1, 1) := by decide +kernel
theorem d_Ma_findFrom_9 : decode prog_5_method_4_code 9 = .ok (.invokestatic 56, 3) := by decide +kernel
theorem d_Ma_findFrom_12 : decode prog_5_method_4_code 12 = .ok (.invokevirtual 59, 3) := by decide +kernel
theorem d_Ma_findFrom_15 : decode prog_5_method_4_code 15 = .ok (.iconst 0, 1) := by decide +kernel
theorem d_Ma_findFrom_16 : decode prog_5_method_4_code 16 = .ok (.istore_n 2, 1) := by decide +kernel
theorem d_Ma_findFrom_17 : decode prog_5_method_4_code 17 = .ok (.iload_n 2, 1) := by decide +kernel
theorem d_Ma_findFrom_18 : decode prog_5_method_4_code 18 = .ok (.sipush 2059, 3) := by decide +kernel
theorem d_Ma_findFrom_21 : decode prog_5_method_4_code 21 = .ok (.if_icmp .ge 112, 3) := by decide +kernel
theorem d_Ma_findFrom_24 : decode prog_5_method_4_code 24 = .ok (.aload_n 0, 1) := by decide +kernel
theorem d_Ma_findFrom_25 : decode prog_5_method_4_code 25 = .ok (.getfield 53, 3) := by decide +kernel
theorem d_Ma_findFrom_28 : decode prog_5_method_4_code 28 = .ok (.ifCond .le 105, 3) := by decide +kernel
theorem d_Ma_findFrom_31 : decode prog_5_method_4_code 31 = .ok (.aload_n 0, 1) := by decide +kernel
theorem d_Ma_findFrom_32 : decode prog_5_method_4_code 32 = .ok (.getfield 53, 3) := by decide +kernel
theorem d_Ma_findFrom_35 : decode prog_5_method_4_code 35 = .ok (.sipush 505, 3) := by decide +kernel
theorem d_Ma_findFrom_38 : decode prog_5_method_4_code 38 = .ok (.if_icmp .gt 95, 3) := by decide +kernel
theorem d_Ma_findFrom_41 : decode prog_5_method_4_code 41 = .ok (.aload_n 0, 1) := by decide +kernel
theorem d_Ma_findFrom_42 : decode prog_5_method_4_code 42 = .ok (.dup, 1) := by decide +kernel
theorem d_Ma_findFrom_43 : decode prog_5_method_4_code 43 = .ok (.getfield 53, 3) := by decide +kernel
theorem d_Ma_findFrom_46 : decode prog_5_method_4_code 46 = .ok (.iconst 1, 1) := by decide +kernel
theorem d_Ma_findFrom_47 : decode prog_5_method_4_code 47 = .ok (.isub, 1) := by decide +kernel
theorem d_Ma_findFrom_48 : decode prog_5_method_4_code 48 = .ok (.putfield 53, 3) := by decide +kernel
theorem d_Ma_findFrom_51 : decode prog_5_method_4_code 51 = .ok (.aload_n 0, 1) := by decide +kernel
theorem d_Ma_findFrom_52 : decode prog_5_method_4_code 52 = .ok (.getfield 15, 3) := by decide +kernel
theorem d_Ma_findFrom_55 : decode prog_5_method_4_code 55 = .ok (.aload_n 0, 1) := by decide +kernel
theorem d_Ma_findFrom_56 : decode prog_5_method_4_code 56 = .ok (.getfield 53, 3) := by decide +kernel
theorem d_Ma_findFrom_59 : decode prog_5_method_4_code 59 = .ok (.iaload, 1) := by decide +kernel
theorem d_Ma_findFrom_60 : decode prog_5_method_4_code 60 = .ok (.istore_n 3, 1) := by decide +kernel
theorem d_Ma_findFrom_61 : decode prog_5_method_4_code 61 = .ok (.aload_n 0, 1) := by decide +kernel
theorem d_Ma_findFrom_62 : decode prog_5_method_4_code 62 = .ok (.getfield 19, 3) := by decide +kernel
theorem d_Ma_findFrom_65 : decode prog_5_method_4_code 65 = .ok (.aload_n 0, 1) := by decide +kernel
theorem d_Ma_findFrom_66 : decode prog_5_method_4_code 66 = .ok (.getfield 53, 3) := by decide +kernel
theorem d_Ma_findFrom_69 : decode prog_5_method_4_code 69 = .ok (.iaload, 1) := by decide +kernel
theorem d_Ma_findFrom_70 : decode prog_5_method_4_code 70 = .ok (.istore 4, 2) := by decide +kernel
theorem d_Ma_findFrom_72 : decode prog_5_method_4_code 72 = .ok (.aload_n 0, 1) := by decide +kernel
theorem d_Ma_findFrom_73 : decode prog_5_method_4_code 73 = .ok (.getfield 22, 3) := by decide +kernel
theorem d_Ma_findFrom_76 : decode prog_5_method_4_code 76 = .ok (.aload_n 0, 1) := by decide +kernel
theorem d_Ma_findFrom_77 : decode prog_5_method_4_code 77 = .ok (.getfield 53, 3) := by decide +kernel
theorem d_Ma_findFrom_80 : decode prog_5_method_4_code 80 = .ok (.laload, 1) := by decide +kernel
theorem d_Ma_findFrom_81 : decode prog_5_method_4_code 81 = .ok (.lstore 5, 2) := by decide +kernel
theorem d_Ma_findFrom_83 : decode prog_5_method_4_code 83 = .ok (.aload_n 0, 1) := by decide +kernel
theorem d_Ma_findFrom_84 : decode prog_5_method_4_code 84 = .ok (.iload_n 3, 1) := by decide +kernel
theorem d_Ma_findFrom_85 : decode prog_5_method_4_code 85 = .ok (.iload 4, 2) := by decide +kernel
theorem d_Ma_findFrom_87 : decode prog_5_method_4_code 87 = .ok (.invokevirtual 63, 3) := by decide +kernel
theorem d_Ma_findFrom_90 : decode prog_5_method_4_code 90 = .ok (.ifCond .ne 6, 3) := by decide +kernel
theorem d_Ma_findFrom_93 : decode prog_5_method_4_code 93 = .ok (.goto 34, 3) := by decide +kernel
theorem d_Ma_findFrom_96 : decode prog_5_method_4_code 96 = .ok (.aload_n 0, 1) := by decide +kernel
theorem d_Ma_findFrom_97 : decode prog_5_method_4_code 97 = .ok (.getfield 29, 3) := by decide +kernel
theorem d_Ma_findFrom_100 : decode prog_5_method_4_code 100 = .ok (.iload_n 3, 1) := by decide +kernel
theorem d_Ma_findFrom_101 : decode prog_5_method_4_code 101 = .ok (.invokevirtual 67, 3) := by decide +kernel
theorem d_Ma_findFrom_104 : decode prog_5_method_4_code 104 = .ok (.bipush 7, 2) := by decide +kernel
theorem d_Ma_findFrom_106 : decode prog_5_method_4_code 106 = .ok (.if_icmp .ne 12, 3) := by decide +kernel
theorem d_Ma_findFrom_109 : decode prog_5_method_4_code 109 = .ok (.lload 5, 2) := by decide +kernel
theorem d_Ma_findFrom_111 : decode prog_5_method_4_code 111 = .ok (.iconst 1, 1) := by decide +kernel
theorem d_Ma_findFrom_112 : decode prog_5_method_4_code 112 = .ok (.iload 4, 2) := by decide +kernel
theorem d_Ma_findFrom_114 : decode prog_5_method_4_code 114 = .ok (.invokestatic 73, 3) := by decide +kernel
theorem d_Ma_findFrom_117 : decode prog_5_method_4_code 117 = .ok (.lreturn, 1) := by decide +kernel
theorem d_Ma_findFrom_118 : decode prog_5_method_4_code 118 = .ok (.aload_n 0, 1) := by decide +kernel
theorem d_Ma_findFrom_119 : decode prog_5_method_4_code 119 = .ok (.iload_n 3, 1) := by decide +kernel
theorem d_Ma_findFrom_120 : decode prog_5_method_4_code 120 = .ok (.iload 4, 2) := by decide +kernel
theorem d_Ma_findFrom_122 : decode prog_5_method_4_code 122 = .ok (.lload 5, 2) := by decide +kernel
theorem d_Ma_findFrom_124 : decode prog_5_method_4_code 124 = .ok (.invokevirtual 77, 3) := by decide +kernel
theorem d_Ma_findFrom_127 : decode prog_5_method_4_code 127 = .ok (.iinc 2 1, 3) := by decide +kernel
theorem d_Ma_findFrom_130 : decode prog_5_method_4_code 130 = .ok (.goto (-113), 3) := by decide +kernel
theorem d_Ma_findFrom_133 : decode prog_5_method_4_code 133 = .ok (.lconst 0, 1) := by decide +kernel
theorem d_Ma_findFrom_134 : decode prog_5_method_4_code 134 = .ok (.lreturn, 1) := by decide +kernel
theorem M_Ma_findFrom : lt_M0 m_Ma_findFrom 1 := ⟨lt_m3 192 rfl rfl, lt_m1 7 rfl rfl, ⟨by decide +kernel, by decide +kernel, by decide +kernel⟩, by decide⟩
theorem in_Ma_findFrom : Cond.instanceMethod m_Ma_findFrom.1 ∈ lt_T := lt_m3 191 rfl rfl
theorem se_Ma_findFrom : Cond.selects "LinearSearch$Marks" m_Ma_findFrom.1 m_Ma_findFrom.1 ∈ lt_T := lt_memS 14 rfl rfl
abbrev m_Ma_push : lt_M := (⟨"LinearSearch$Marks", "push", "(IIJ)V"⟩, prog_5_method_5_code, 5, none)
theorem d_Ma_push_0 : decode prog_5_method_5_code 0 = .ok (.aload_n 0, 1) := by decide +kernel
theorem d_Ma_push_1 : decode prog_5_method_5_code 1 = .ok (.getfield 53, 3) := by decide +kernel
theorem d_Ma_push_4 : decode prog_5_method_5_code 4 = .ok (.ifCond .lt 53, 3) := by decide +kernel
theorem d_Ma_push_7 : decode prog_5_method_5_code 7 = .ok (.aload_n 0, 1) := by decide +kernel
theorem d_Ma_push_8 : decode prog_5_method_5_code 8 = .ok (.getfield 53, 3) := by decide +kernel
theorem d_Ma_push_11 : decode prog_5_method_5_code 11 = .ok (.sipush 505, 3) := by decide +kernel
theorem d_Ma_push_14 : decode prog_5_method_5_code 14 = .ok (.if_icmp .ge 43, 3) := by decide +kernel
theorem d_Ma_push_17 : decode prog_5_method_5_code 17 = .ok (.aload_n 0, 1) := by decide +kernel
theorem d_Ma_push_18 : decode prog_5_method_5_code 18 = .ok (.getfield 15, 3) := by decide +kernel
theorem d_Ma_push_21 : decode prog_5_method_5_code 21 = .ok (.aload_n 0, 1) := by decide +kernel
theorem d_Ma_push_22 : decode prog_5_method_5_code 22 = .ok (.getfield 53, 3) := by decide +kernel
theorem d_Ma_push_25 : decode prog_5_method_5_code 25 = .ok (.iload_n 1, 1) := by decide +kernel
theorem d_Ma_push_26 : decode prog_5_method_5_code 26 = .ok (.iastore, 1) := by decide +kernel
theorem d_Ma_push_27 : decode prog_5_method_5_code 27 = .ok (.aload_n 0, 1) := by decide +kernel
theorem d_Ma_push_28 : decode prog_5_method_5_code 28 = .ok (.getfield 19, 3) := by decide +kernel
theorem d_Ma_push_31 : decode prog_5_method_5_code 31 = .ok (.aload_n 0, 1) := by decide +kernel
theorem d_Ma_push_32 : decode prog_5_method_5_code 32 = .ok (.getfield 53, 3) := by decide +kernel
theorem d_Ma_push_35 : decode prog_5_method_5_code 35 = .ok (.iload_n 2, 1) := by decide +kernel
theorem d_Ma_push_36 : decode prog_5_method_5_code 36 = .ok (.iastore, 1) := by decide +kernel
theorem d_Ma_push_37 : decode prog_5_method_5_code 37 = .ok (.aload_n 0, 1) := by decide +kernel
theorem d_Ma_push_38 : decode prog_5_method_5_code 38 = .ok (.getfield 22, 3) := by decide +kernel
theorem d_Ma_push_41 : decode prog_5_method_5_code 41 = .ok (.aload_n 0, 1) := by decide +kernel
theorem d_Ma_push_42 : decode prog_5_method_5_code 42 = .ok (.getfield 53, 3) := by decide +kernel
theorem d_Ma_push_45 : decode prog_5_method_5_code 45 = .ok (.lload_n 3, 1) := by decide +kernel
theorem d_Ma_push_46 : decode prog_5_method_5_code 46 = .ok (.lastore, 1) := by decide +kernel
theorem d_Ma_push_47 : decode prog_5_method_5_code 47 = .ok (.aload_n 0, 1) := by decide +kernel
theorem d_Ma_push_48 : decode prog_5_method_5_code 48 = .ok (.dup, 1) := by decide +kernel
theorem d_Ma_push_49 : decode prog_5_method_5_code 49 = .ok (.getfield 53, 3) := by decide +kernel
theorem d_Ma_push_52 : decode prog_5_method_5_code 52 = .ok (.iconst 1, 1) := by decide +kernel
theorem d_Ma_push_53 : decode prog_5_method_5_code 53 = .ok (.iadd, 1) := by decide +kernel
theorem d_Ma_push_54 : decode prog_5_method_5_code 54 = .ok (.putfield 53, 3) := by decide +kernel
theorem d_Ma_push_57 : decode prog_5_method_5_code 57 = .ok (.return_, 1) := by decide +kernel
theorem M_Ma_push : lt_M0 m_Ma_push 3 := ⟨lt_m3 200 rfl rfl, lt_m1 7 rfl rfl, ⟨by decide +kernel, by decide +kernel, by decide +kernel⟩, by decide⟩
theorem in_Ma_push : Cond.instanceMethod m_Ma_push.1 ∈ lt_T := lt_m3 199 rfl rfl
theorem se_Ma_push : Cond.selects "LinearSearch$Marks" m_Ma_push.1 m_Ma_push.1 ∈ lt_T := lt_memS 15 rfl rfl
abbrev m_Ma_mark : lt_M := (⟨"LinearSearch$Marks", "mark", "(II)Z"⟩, prog_5_method_6_code, 5, (some .boolean))
theorem d_Ma_mark_0 : decode prog_5_method_6_code 0 = .ok (.iload_n 2, 1) := by decide +kernel
theorem d_Ma_mark_1 : decode prog_5_method_6_code 1 = .ok (.ifCond .lt 9, 3) := by decide +kernel
theorem d_Ma_mark_4 : decode prog_5_method_6_code 4 = .ok (.iload_n 2, 1) := by decide +kernel
theorem d_Ma_mark_5 : decode prog_5_method_6_code 5 = .ok (.bipush 20, 2) := by decide +kernel
theorem d_Ma_mark_7 : decode prog_5_method_6_code 7 = .ok (.if_icmp .le 5, 3) := by decide +kernel
theorem d_Ma_mark_10 : decode prog_5_method_6_code 10 = .ok (.iconst 0, 1) := by decide +kernel
theorem d_Ma_mark_11 : decode prog_5_method_6_code 11 = .ok (.ireturn, 1) := by decide +kernel
theorem d_Ma_mark_12 : decode prog_5_method_6_code 12 = .ok (.lconst 1, 1) := by decide +kernel
theorem d_Ma_mark_13 : decode prog_5_method_6_code 13 = .ok (.iload_n 1, 1) := by decide +kernel
theorem d_Ma_mark_14 : decode prog_5_method_6_code 14 = .ok (.lshl, 1) := by decide +kernel
theorem d_Ma_mark_15 : decode prog_5_method_6_code 15 = .ok (.lstore_n 3, 1) := by decide +kernel
theorem d_Ma_mark_16 : decode prog_5_method_6_code 16 = .ok (.aload_n 0, 1) := by decide +kernel
theorem d_Ma_mark_17 : decode prog_5_method_6_code 17 = .ok (.getfield 9, 3) := by decide +kernel
theorem d_Ma_mark_20 : decode prog_5_method_6_code 20 = .ok (.iload_n 2, 1) := by decide +kernel
theorem d_Ma_mark_21 : decode prog_5_method_6_code 21 = .ok (.laload, 1) := by decide +kernel
theorem d_Ma_mark_22 : decode prog_5_method_6_code 22 = .ok (.lload_n 3, 1) := by decide +kernel
theorem d_Ma_mark_23 : decode prog_5_method_6_code 23 = .ok (.land, 1) := by decide +kernel
theorem d_Ma_mark_24 : decode prog_5_method_6_code 24 = .ok (.lconst 0, 1) := by decide +kernel
theorem d_Ma_mark_25 : decode prog_5_method_6_code 25 = .ok (.lcmp, 1) := by decide +kernel
theorem d_Ma_mark_26 : decode prog_5_method_6_code 26 = .ok (.ifCond .eq 5, 3) := by decide +kernel
theorem d_Ma_mark_29 : decode prog_5_method_6_code 29 = .ok (.iconst 0, 1) := by decide +kernel
theorem d_Ma_mark_30 : decode prog_5_method_6_code 30 = .ok (.ireturn, 1) := by decide +kernel
theorem d_Ma_mark_31 : decode prog_5_method_6_code 31 = .ok (.aload_n 0, 1) := by decide +kernel
theorem d_Ma_mark_32 : decode prog_5_method_6_code 32 = .ok (.getfield 9, 3) := by decide +kernel
theorem d_Ma_mark_35 : decode prog_5_method_6_code 35 = .ok (.iload_n 2, 1) := by decide +kernel
theorem d_Ma_mark_36 : decode prog_5_method_6_code 36 = .ok (.dup2, 1) := by decide +kernel
theorem d_Ma_mark_37 : decode prog_5_method_6_code 37 = .ok (.laload, 1) := by decide +kernel
theorem d_Ma_mark_38 : decode prog_5_method_6_code 38 = .ok (.lload_n 3, 1) := by decide +kernel
theorem d_Ma_mark_39 : decode prog_5_method_6_code 39 = .ok (.lor, 1) := by decide +kernel
theorem d_Ma_mark_40 : decode prog_5_method_6_code 40 = .ok (.lastore, 1) := by decide +kernel
theorem d_Ma_mark_41 : decode prog_5_method_6_code 41 = .ok (.aload_n 0, 1) := by decide +kernel
theorem d_Ma_mark_42 : decode prog_5_method_6_code 42 = .ok (.dup, 1) := by decide +kernel
theorem d_Ma_mark_43 : decode prog_5_method_6_code 43 = .ok (.getfield 25, 3) := by decide +kernel
theorem d_Ma_mark_46 : decode prog_5_method_6_code 46 = .ok (.iconst 1, 1) := by decide +kernel
theorem d_Ma_mark_47 : decode prog_5_method_6_code 47 = .ok (.iadd, 1) := by decide +kernel
theorem d_Ma_mark_48 : decode prog_5_method_6_code 48 = .ok (.putfield 25, 3) := by decide +kernel
theorem d_Ma_mark_51 : decode prog_5_method_6_code 51 = .ok (.iconst 1, 1) := by decide +kernel
theorem d_Ma_mark_52 : decode prog_5_method_6_code 52 = .ok (.ireturn, 1) := by decide +kernel
theorem M_Ma_mark : lt_M0 m_Ma_mark 2 := ⟨lt_m3 204 rfl rfl, lt_m1 7 rfl rfl, ⟨by decide +kernel, by decide +kernel, by decide +kernel⟩, by decide⟩
theorem in_Ma_mark : Cond.instanceMethod m_Ma_mark.1 ∈ lt_T := lt_m3 203 rfl rfl
theorem se_Ma_mark : Cond.selects "LinearSearch$Marks" m_Ma_mark.1 m_Ma_mark.1 ∈ lt_T := lt_memS 16 rfl rfl
abbrev m_Ma_step : lt_M := (⟨"LinearSearch$Marks", "step", "(IIJ)V"⟩, prog_5_method_7_code, 5, none)
theorem d_Ma_step_0 : decode prog_5_method_7_code 0 = .ok (.aload_n 0, 1) := by decide +kernel
theorem d_Ma_step_1 : decode prog_5_method_7_code 1 = .ok (.getfield 29, 3) := by decide +kernel
theorem d_Ma_step_4 : decode prog_5_method_7_code 4 = .ok (.iload_n 1, 1) := by decide +kernel
theorem d_Ma_step_5 : decode prog_5_method_7_code 5 = .ok (.invokevirtual 67, 3) := by decide +kernel
theorem d_Ma_step_8 : decode prog_5_method_7_code 8 = .ok (.tableswitch 147 2 6 #[36, 67, 84, 108, 124], 36) := by decide +kernel
theorem d_Ma_step_44 : decode prog_5_method_7_code 44 = .ok (.aload_n 0, 1) := by decide +kernel
theorem d_Ma_step_45 : decode prog_5_method_7_code 45 = .ok (.aload_n 0, 1) := by decide +kernel
theorem d_Ma_step_46 : decode prog_5_method_7_code 46 = .ok (.getfield 29, 3) := by decide +kernel
theorem d_Ma_step_49 : decode prog_5_method_7_code 49 = .ok (.iload_n 1, 1) := by decide +kernel
theorem d_Ma_step_50 : decode prog_5_method_7_code 50 = .ok (.invokevirtual 80, 3) := by decide +kernel
theorem d_Ma_step_53 : decode prog_5_method_7_code 53 = .ok (.iload_n 2, 1) := by decide +kernel
theorem d_Ma_step_54 : decode prog_5_method_7_code 54 = .ok (.lload_n 3, 1) := by decide +kernel
theorem d_Ma_step_55 : decode prog_5_method_7_code 55 = .ok (.invokevirtual 59, 3) := by decide +kernel
theorem d_Ma_step_58 : decode prog_5_method_7_code 58 = .ok (.aload_n 0, 1) := by decide +kernel
theorem d_Ma_step_59 : decode prog_5_method_7_code 59 = .ok (.aload_n 0, 1) := by decide +kernel
theorem d_Ma_step_60 : decode prog_5_method_7_code 60 = .ok (.getfield 29, 3) := by decide +kernel
theorem d_Ma_step_63 : decode prog_5_method_7_code 63 = .ok (.iload_n 1, 1) := by decide +kernel
theorem d_Ma_step_64 : decode prog_5_method_7_code 64 = .ok (.invokevirtual 83, 3) := by decide +kernel
theorem d_Ma_step_67 : decode prog_5_method_7_code 67 = .ok (.iload_n 2, 1) := by decide +kernel
theorem d_Ma_step_68 : decode prog_5_method_7_code 68 = .ok (.lload_n 3, 1) := by decide +kernel
theorem d_Ma_step_69 : decode prog_5_method_7_code 69 = .ok (.invokevirtual 59, 3) := by decide +kernel
theorem d_Ma_step_72 : decode prog_5_method_7_code 72 = .ok (.goto 113, 3) := by decide +kernel
theorem d_Ma_step_75 : decode prog_5_method_7_code 75 = .ok (.aload_n 0, 1) := by decide +kernel
theorem d_Ma_step_76 : decode prog_5_method_7_code 76 = .ok (.aload_n 0, 1) := by decide +kernel
theorem d_Ma_step_77 : decode prog_5_method_7_code 77 = .ok (.getfield 29, 3) := by decide +kernel
theorem d_Ma_step_80 : decode prog_5_method_7_code 80 = .ok (.iload_n 1, 1) := by decide +kernel
theorem d_Ma_step_81 : decode prog_5_method_7_code 81 = .ok (.invokevirtual 83, 3) := by decide +kernel
theorem d_Ma_step_84 : decode prog_5_method_7_code 84 = .ok (.iload_n 2, 1) := by decide +kernel
theorem d_Ma_step_85 : decode prog_5_method_7_code 85 = .ok (.lload_n 3, 1) := by decide +kernel
theorem d_Ma_step_86 : decode prog_5_method_7_code 86 = .ok (.invokevirtual 59, 3) := by decide +kernel
theorem d_Ma_step_89 : decode prog_5_method_7_code 89 = .ok (.goto 96, 3) := by decide +kernel
theorem d_Ma_step_92 : decode prog_5_method_7_code 92 = .ok (.aload_n 0, 1) := by decide +kernel
theorem d_Ma_step_93 : decode prog_5_method_7_code 93 = .ok (.iload_n 1, 1) := by decide +kernel
theorem d_Ma_step_94 : decode prog_5_method_7_code 94 = .ok (.iconst 1, 1) := by decide +kernel
theorem d_Ma_step_95 : decode prog_5_method_7_code 95 = .ok (.iadd, 1) := by decide +kernel
theorem d_Ma_step_96 : decode prog_5_method_7_code 96 = .ok (.iload_n 2, 1) := by decide +kernel
theorem d_Ma_step_97 : decode prog_5_method_7_code 97 = .ok (.lload_n 3, 1) := by decide +kernel
theorem d_Ma_step_98 : decode prog_5_method_7_code 98 = .ok (.aload_n 0, 1) := by decide +kernel
theorem d_Ma_step_99 : decode prog_5_method_7_code 99 = .ok (.getfield 29, 3) := by decide +kernel
theorem d_Ma_step_102 : decode prog_5_method_7_code 102 = .ok (.iload_n 1, 1) := by decide +kernel
theorem d_Ma_step_103 : decode prog_5_method_7_code 103 = .ok (.invokevirtual 83, 3) := by decide +kernel
theorem d_Ma_step_106 : decode prog_5_method_7_code 106 = .ok (.iload_n 2, 1) := by decide +kernel
theorem d_Ma_step_107 : decode prog_5_method_7_code 107 = .ok (.invokestatic 73, 3) := by decide +kernel
theorem d_Ma_step_110 : decode prog_5_method_7_code 110 = .ok (.invokevirtual 59, 3) := by decide +kernel
theorem d_Ma_step_113 : decode prog_5_method_7_code 113 = .ok (.goto 72, 3) := by decide +kernel
theorem d_Ma_step_116 : decode prog_5_method_7_code 116 = .ok (.iload_n 2, 1) := by decide +kernel
theorem d_Ma_step_117 : decode prog_5_method_7_code 117 = .ok (.ifCond .ne 68, 3) := by decide +kernel
theorem d_Ma_step_120 : decode prog_5_method_7_code 120 = .ok (.aload_n 0, 1) := by decide +kernel
theorem d_Ma_step_121 : decode prog_5_method_7_code 121 = .ok (.iload_n 1, 1) := by decide +kernel
theorem d_Ma_step_122 : decode prog_5_method_7_code 122 = .ok (.iconst 1, 1) := by decide +kernel
theorem d_Ma_step_123 : decode prog_5_method_7_code 123 = .ok (.iadd, 1) := by decide +kernel
theorem d_Ma_step_124 : decode prog_5_method_7_code 124 = .ok (.iload_n 2, 1) := by decide +kernel
theorem d_Ma_step_125 : decode prog_5_method_7_code 125 = .ok (.lload_n 3, 1) := by decide +kernel
theorem d_Ma_step_126 : decode prog_5_method_7_code 126 = .ok (.invokevirtual 59, 3) := by decide +kernel
theorem d_Ma_step_129 : decode prog_5_method_7_code 129 = .ok (.goto 56, 3) := by decide +kernel
theorem d_Ma_step_132 : decode prog_5_method_7_code 132 = .ok (.iload_n 2, 1) := by decide +kernel
theorem d_Ma_step_133 : decode prog_5_method_7_code 133 = .ok (.aload_n 0, 1) := by decide +kernel
theorem d_Ma_step_134 : decode prog_5_method_7_code 134 = .ok (.getfield 33, 3) := by decide +kernel
theorem d_Ma_step_137 : decode prog_5_method_7_code 137 = .ok (.invokevirtual 43, 3) := by decide +kernel
theorem d_Ma_step_140 : decode prog_5_method_7_code 140 = .ok (.if_icmp .ne 45, 3) := by decide +kernel
theorem d_Ma_step_143 : decode prog_5_method_7_code 143 = .ok (.aload_n 0, 1) := by decide +kernel
theorem d_Ma_step_144 : decode prog_5_method_7_code 144 = .ok (.iload_n 1, 1) := by decide +kernel
theorem d_Ma_step_145 : decode prog_5_method_7_code 145 = .ok (.iconst 1, 1) := by decide +kernel
theorem d_Ma_step_146 : decode prog_5_method_7_code 146 = .ok (.iadd, 1) := by decide +kernel
theorem d_Ma_step_147 : decode prog_5_method_7_code 147 = .ok (.iload_n 2, 1) := by decide +kernel
theorem d_Ma_step_148 : decode prog_5_method_7_code 148 = .ok (.lload_n 3, 1) := by decide +kernel
theorem d_Ma_step_149 : decode prog_5_method_7_code 149 = .ok (.invokevirtual 59, 3) := by decide +kernel
theorem d_Ma_step_152 : decode prog_5_method_7_code 152 = .ok (.goto 33, 3) := by decide +kernel
theorem d_Ma_step_155 : decode prog_5_method_7_code 155 = .ok (.aload_n 0, 1) := by decide +kernel
theorem d_Ma_step_156 : decode prog_5_method_7_code 156 = .ok (.getfield 29, 3) := by decide +kernel
theorem d_Ma_step_159 : decode prog_5_method_7_code 159 = .ok (.iload_n 1, 1) := by decide +kernel
theorem d_Ma_step_160 : decode prog_5_method_7_code 160 = .ok (.aload_n 0, 1) := by decide +kernel
theorem d_Ma_step_161 : decode prog_5_method_7_code 161 = .ok (.getfield 33, 3) := by decide +kernel
theorem d_Ma_step_164 : decode prog_5_method_7_code 164 = .ok (.iload_n 2, 1) := by decide +kernel
theorem d_Ma_step_165 : decode prog_5_method_7_code 165 = .ok (.invokevirtual 86, 3) := by decide +kernel
theorem d_Ma_step_168 : decode prog_5_method_7_code 168 = .ok (.invokevirtual 89, 3) := by decide +kernel
theorem d_Ma_step_171 : decode prog_5_method_7_code 171 = .ok (.ifCond .eq 14, 3) := by decide +kernel
theorem d_Ma_step_174 : decode prog_5_method_7_code 174 = .ok (.aload_n 0, 1) := by decide +kernel
theorem d_Ma_step_175 : decode prog_5_method_7_code 175 = .ok (.iload_n 1, 1) := by decide +kernel
theorem d_Ma_step_176 : decode prog_5_method_7_code 176 = .ok (.iconst 1, 1) := by decide +kernel
theorem d_Ma_step_177 : decode prog_5_method_7_code 177 = .ok (.iadd, 1) := by decide +kernel
theorem d_Ma_step_178 : decode prog_5_method_7_code 178 = .ok (.iload_n 2, 1) := by decide +kernel
theorem d_Ma_step_179 : decode prog_5_method_7_code 179 = .ok (.iconst 1, 1) := by decide +kernel
theorem d_Ma_step_180 : decode prog_5_method_7_code 180 = .ok (.iadd, 1) := by decide +kernel
theorem d_Ma_step_181 : decode prog_5_method_7_code 181 = .ok (.lload_n 3, 1) := by decide +kernel
theorem d_Ma_step_182 : decode prog_5_method_7_code 182 = .ok (.invokevirtual 59, 3) := by decide +kernel
theorem d_Ma_step_185 : decode prog_5_method_7_code 185 = .ok (.return_, 1) := by decide +kernel
theorem M_Ma_step : lt_M0 m_Ma_step 3 := ⟨lt_m3 210 rfl rfl, lt_m1 7 rfl rfl, ⟨by decide +kernel, by decide +kernel, by decide +kernel⟩, by decide⟩
theorem in_Ma_step : Cond.instanceMethod m_Ma_step.1 ∈ lt_T := lt_m3 209 rfl rfl
theorem se_Ma_step : Cond.selects "LinearSearch$Marks" m_Ma_step.1 m_Ma_step.1 ∈ lt_T := lt_memS 17 rfl rfl
abbrev m_Ma_marksSet : lt_M := (⟨"LinearSearch$Marks", "marksSet", "()I"⟩, prog_5_method_2_code, 1, (some .int))
theorem d_Ma_marksSet_0 : decode prog_5_method_2_code 0 = .ok (.aload_n 0, 1) := by decide +kernel
theorem d_Ma_marksSet_1 : decode prog_5_method_2_code 1 = .ok (.getfield 25, 3) := by decide +kernel
theorem d_Ma_marksSet_4 : decode prog_5_method_2_code 4 = .ok (.ireturn, 1) := by decide +kernel
theorem M_Ma_marksSet : lt_M0 m_Ma_marksSet 0 := ⟨lt_m3 225 rfl rfl, lt_m1 7 rfl rfl, ⟨by decide +kernel, by decide +kernel, by decide +kernel⟩, by decide⟩
theorem in_Ma_marksSet : Cond.instanceMethod m_Ma_marksSet.1 ∈ lt_T := lt_m3 223 rfl rfl
theorem se_Ma_marksSet : Cond.selects "LinearSearch$Marks" m_Ma_marksSet.1 m_Ma_marksSet.1 ∈ lt_T := lt_m3 224 rfl rfl
abbrev m_Au_lastEnd : lt_M := (⟨"LinearSearch$Automaton", "lastEnd", "(LLinearSearch$Program;LLinearSearch$Text;)I"⟩, prog_2_method_7_code, 7, (some .int))
theorem d_Au_lastEnd_0 : decode prog_2_method_7_code 0 = .ok (.aload_n 0, 1) := by decide +kernel
theorem d_Au_lastEnd_1 : decode prog_2_method_7_code 1 = .ok (.iconst 0, 1) := by decide +kernel
theorem d_Au_lastEnd_2 : decode prog_2_method_7_code 2 = .ok (.putfield 49, 3) := by decide +kernel
theorem d_Au_lastEnd_5 : decode prog_2_method_7_code 5 = .ok (.aload_n 0, 1) := by decide +kernel
theorem d_Au_lastEnd_6 : decode prog_2_method_7_code 6 = .ok (.iconst 0, 1) := by decide +kernel
theorem d_Au_lastEnd_7 : decode prog_2_method_7_code 7 = .ok (.putfield 52, 3) := by decide +kernel
theorem d_Au_lastEnd_10 : decode prog_2_method_7_code 10 = .ok (.iconst (-1), 1) := by decide +kernel
theorem d_Au_lastEnd_11 : decode prog_2_method_7_code 11 = .ok (.istore_n 3, 1) := by decide +kernel
theorem d_Au_lastEnd_12 : decode prog_2_method_7_code 12 = .ok (.aload_n 0, 1) := by decide +kernel
theorem d_Au_lastEnd_13 : decode prog_2_method_7_code 13 = .ok (.aload_n 1, 1) := by decide +kernel
theorem d_Au_lastEnd_14 : decode prog_2_method_7_code 14 = .ok (.invokevirtual 55, 3) := by decide +kernel
theorem d_Au_lastEnd_17 : decode prog_2_method_7_code 17 = .ok (.istore 4, 2) := by decide +kernel
theorem d_Au_lastEnd_19 : decode prog_2_method_7_code 19 = .ok (.iconst 0, 1) := by decide +kernel
theorem d_Au_lastEnd_20 : decode prog_2_method_7_code 20 = .ok (.istore 5, 2) := by decide +kernel
theorem d_Au_lastEnd_22 : decode prog_2_method_7_code 22 = .ok (.iload 5, 2) := by decide +kernel
theorem d_Au_lastEnd_24 : decode prog_2_method_7_code 24 = .ok (.aload_n 2, 1) := by decide +kernel
theorem d_Au_lastEnd_25 : decode prog_2_method_7_code 25 = .ok (.invokevirtual 59, 3) := by decide +kernel
theorem d_Au_lastEnd_28 : decode prog_2_method_7_code 28 = .ok (.if_icmp .gt 91, 3) := by decide +kernel
theorem d_Au_lastEnd_31 : decode prog_2_method_7_code 31 = .ok (.aload_n 0, 1) := by decide +kernel
theorem d_Au_lastEnd_32 : decode prog_2_method_7_code 32 = .ok (.iload 4, 2) := by decide +kernel
theorem d_Au_lastEnd_34 : decode prog_2_method_7_code 34 = .ok (.invokevirtual 65, 3) := by decide +kernel
theorem d_Au_lastEnd_37 : decode prog_2_method_7_code 37 = .ok (.astore 6, 2) := by decide +kernel
theorem d_Au_lastEnd_39 : decode prog_2_method_7_code 39 = .ok (.aload 6, 2) := by decide +kernel
theorem d_Au_lastEnd_41 : decode prog_2_method_7_code 41 = .ok (.ifnonnull 5, 3) := by decide +kernel
theorem d_Au_lastEnd_44 : decode prog_2_method_7_code 44 = .ok (.iconst (-1), 1) := by decide +kernel
theorem d_Au_lastEnd_45 : decode prog_2_method_7_code 45 = .ok (.ireturn, 1) := by decide +kernel
theorem d_Au_lastEnd_46 : decode prog_2_method_7_code 46 = .ok (.aload 6, 2) := by decide +kernel
theorem d_Au_lastEnd_48 : decode prog_2_method_7_code 48 = .ok (.getfield 69, 3) := by decide +kernel
theorem d_Au_lastEnd_51 : decode prog_2_method_7_code 51 = .ok (.ifCond .ne 24, 3) := by decide +kernel
theorem d_Au_lastEnd_54 : decode prog_2_method_7_code 54 = .ok (.iload 5, 2) := by decide +kernel
theorem d_Au_lastEnd_56 : decode prog_2_method_7_code 56 = .ok (.aload_n 2, 1) := by decide +kernel
theorem d_Au_lastEnd_57 : decode prog_2_method_7_code 57 = .ok (.invokevirtual 59, 3) := by decide +kernel
theorem d_Au_lastEnd_60 : decode prog_2_method_7_code 60 = .ok (.if_icmp .ne 18, 3) := by decide +kernel
theorem d_Au_lastEnd_63 : decode prog_2_method_7_code 63 = .ok (.aload_n 0, 1) := by decide +kernel
theorem d_Au_lastEnd_64 : decode prog_2_method_7_code 64 = .ok (.aload_n 1, 1) := by decide +kernel
theorem d_Au_lastEnd_65 : decode prog_2_method_7_code 65 = .ok (.aload 6, 2) := by decide +kernel
theorem d_Au_lastEnd_67 : decode prog_2_method_7_code 67 = .ok (.iload 5, 2) := by decide +kernel
theorem d_Au_lastEnd_69 : decode prog_2_method_7_code 69 = .ok (.invokevirtual 73, 3) := by decide +kernel
theorem d_Au_lastEnd_72 : decode prog_2_method_7_code 72 = .ok (.ifCond .eq 6, 3) := by decide +kernel
theorem d_Au_lastEnd_75 : decode prog_2_method_7_code 75 = .ok (.iload 5, 2) := by decide +kernel
theorem d_Au_lastEnd_77 : decode prog_2_method_7_code 77 = .ok (.istore_n 3, 1) := by decide +kernel
theorem d_Au_lastEnd_78 : decode prog_2_method_7_code 78 = .ok (.iload 5, 2) := by decide +kernel
theorem d_Au_lastEnd_80 : decode prog_2_method_7_code 80 = .ok (.aload_n 2, 1) := by decide +kernel
theorem d_Au_lastEnd_81 : decode prog_2_method_7_code 81 = .ok (.invokevirtual 59, 3) := by decide +kernel
theorem d_Au_lastEnd_84 : decode prog_2_method_7_code 84 = .ok (.if_icmp .eq 35, 3) := by decide +kernel
theorem d_Au_lastEnd_87 : decode prog_2_method_7_code 87 = .ok (.aload 6, 2) := by decide +kernel
theorem d_Au_lastEnd_89 : decode prog_2_method_7_code 89 = .ok (.invokevirtual 77, 3) := by decide +kernel
theorem d_Au_lastEnd_92 : decode prog_2_method_7_code 92 = .ok (.ifCond .eq 6, 3) := by decide +kernel
theorem d_Au_lastEnd_95 : decode prog_2_method_7_code 95 = .ok (.goto 24, 3) := by decide +kernel
theorem d_Au_lastEnd_98 : decode prog_2_method_7_code 98 = .ok (.aload_n 0, 1) := by decide +kernel
theorem d_Au_lastEnd_99 : decode prog_2_method_7_code 99 = .ok (.aload_n 1, 1) := by decide +kernel
theorem d_Au_lastEnd_100 : decode prog_2_method_7_code 100 = .ok (.iload 4, 2) := by decide +kernel
theorem d_Au_lastEnd_102 : decode prog_2_method_7_code 102 = .ok (.aload_n 2, 1) := by decide +kernel
theorem d_Au_lastEnd_103 : decode prog_2_method_7_code 103 = .ok (.iload 5, 2) := by decide +kernel
theorem d_Au_lastEnd_105 : decode prog_2_method_7_code 105 = .ok (.invokevirtual 81, 3) := by decide +kernel
theorem d_Au_lastEnd_108 : decode prog_2_method_7_code 108 = .ok (.invokevirtual 85, 3) := by decide +kernel
theorem d_Au_lastEnd_111 : decode prog_2_method_7_code 111 = .ok (.istore 4, 2) := by decide +kernel
theorem d_Au_lastEnd_113 : decode prog_2_method_7_code 113 = .ok (.iinc 5 1, 3) := by decide +kernel
theorem d_Au_lastEnd_116 : decode prog_2_method_7_code 116 = .ok (.goto (-94), 3) := by decide +kernel
theorem d_Au_lastEnd_119 : decode prog_2_method_7_code 119 = .ok (.iload_n 3, 1) := by decide +kernel
theorem d_Au_lastEnd_120 : decode prog_2_method_7_code 120 = .ok (.ireturn, 1) := by decide +kernel
theorem M_Au_lastEnd : lt_M0 m_Au_lastEnd 2 := ⟨lt_m3 233 rfl rfl, lt_m1 10 rfl rfl, ⟨by decide +kernel, by decide +kernel, by decide +kernel⟩, by decide⟩
theorem in_Au_lastEnd : Cond.instanceMethod m_Au_lastEnd.1 ∈ lt_T := lt_m3 231 rfl rfl
theorem se_Au_lastEnd : Cond.selects "LinearSearch$Automaton" m_Au_lastEnd.1 m_Au_lastEnd.1 ∈ lt_T := lt_m3 232 rfl rfl
abbrev m_Au_firstState : lt_M := (⟨"LinearSearch$Automaton", "firstState", "(LLinearSearch$Program;)I"⟩, prog_2_method_9_code, 2, (some .int))
theorem d_Au_firstState_0 : decode prog_2_method_9_code 0 = .ok (.aload_n 0, 1) := by decide +kernel
theorem d_Au_firstState_1 : decode prog_2_method_9_code 1 = .ok (.getfield 12, 3) := by decide +kernel
theorem d_Au_firstState_4 : decode prog_2_method_9_code 4 = .ok (.aload_n 1, 1) := by decide +kernel
theorem d_Au_firstState_5 : decode prog_2_method_9_code 5 = .ok (.aload_n 0, 1) := by decide +kernel
theorem d_Au_firstState_6 : decode prog_2_method_9_code 6 = .ok (.getfield 21, 3) := by decide +kernel
theorem d_Au_firstState_9 : decode prog_2_method_9_code 9 = .ok (.iconst 0, 1) := by decide +kernel
theorem d_Au_firstState_10 : decode prog_2_method_9_code 10 = .ok (.iconst 2, 1) := by decide +kernel
theorem d_Au_firstState_11 : decode prog_2_method_9_code 11 = .ok (.invokevirtual 89, 3) := by decide +kernel
theorem d_Au_firstState_14 : decode prog_2_method_9_code 14 = .ok (.aload_n 0, 1) := by decide +kernel
theorem d_Au_firstState_15 : decode prog_2_method_9_code 15 = .ok (.getfield 12, 3) := by decide +kernel
theorem d_Au_firstState_18 : decode prog_2_method_9_code 18 = .ok (.iconst 0, 1) := by decide +kernel
theorem d_Au_firstState_19 : decode prog_2_method_9_code 19 = .ok (.lconst 0, 1) := by decide +kernel
theorem d_Au_firstState_20 : decode prog_2_method_9_code 20 = .ok (.invokevirtual 93, 3) := by decide +kernel
theorem d_Au_firstState_23 : decode prog_2_method_9_code 23 = .ok (.aload_n 0, 1) := by decide +kernel
theorem d_Au_firstState_24 : decode prog_2_method_9_code 24 = .ok (.aload_n 1, 1) := by decide +kernel
theorem d_Au_firstState_25 : decode prog_2_method_9_code 25 = .ok (.iconst 1, 1) := by decide +kernel
theorem d_Au_firstState_26 : decode prog_2_method_9_code 26 = .ok (.invokevirtual 97, 3) := by decide +kernel
theorem d_Au_firstState_29 : decode prog_2_method_9_code 29 = .ok (.ireturn, 1) := by decide +kernel
theorem M_Au_firstState : lt_M0 m_Au_firstState 1 := ⟨lt_m3 237 rfl rfl, lt_m1 10 rfl rfl, ⟨by decide +kernel, by decide +kernel, by decide +kernel⟩, by decide⟩
theorem in_Au_firstState : Cond.instanceMethod m_Au_firstState.1 ∈ lt_T := lt_m3 236 rfl rfl
theorem se_Au_firstState : Cond.selects "LinearSearch$Automaton" m_Au_firstState.1 m_Au_firstState.1 ∈ lt_T := lt_memS 19 rfl rfl
abbrev m_Au_keep : lt_M := (⟨"LinearSearch$Automaton", "keep", "(LLinearSearch$Program;Z)I"⟩, prog_2_method_11_code, 5, (some .int))
theorem d_Au_keep_0 : decode prog_2_method_11_code 0 = .ok (.aload_n 0, 1) := by decide +kernel
theorem d_Au_keep_1 : decode prog_2_method_11_code 1 = .ok (.getfield 28, 3) := by decide +kernel
theorem d_Au_keep_4 : decode prog_2_method_11_code 4 = .ok (.astore_n 3, 1) := by decide +kernel
theorem d_Au_keep_5 : decode prog_2_method_11_code 5 = .ok (.aload_n 3, 1) := by decide +kernel
theorem d_Au_keep_6 : decode prog_2_method_11_code 6 = .ok (.aload_n 1, 1) := by decide +kernel
theorem d_Au_keep_7 : decode prog_2_method_11_code 7 = .ok (.aload_n 0, 1) := by decide +kernel
theorem d_Au_keep_8 : decode prog_2_method_11_code 8 = .ok (.getfield 21, 3) := by decide +kernel
theorem d_Au_keep_11 : decode prog_2_method_11_code 11 = .ok (.iload_n 2, 1) := by decide +kernel
theorem d_Au_keep_12 : decode prog_2_method_11_code 12 = .ok (.invokevirtual 123, 3) := by decide +kernel
theorem d_Au_keep_15 : decode prog_2_method_11_code 15 = .ok (.iconst 0, 1) := by decide +kernel
theorem d_Au_keep_16 : decode prog_2_method_11_code 16 = .ok (.istore 4, 2) := by decide +kernel
theorem d_Au_keep_18 : decode prog_2_method_11_code 18 = .ok (.iload 4, 2) := by decide +kernel
theorem d_Au_keep_20 : decode prog_2_method_11_code 20 = .ok (.aload_n 0, 1) := by decide +kernel
theorem d_Au_keep_21 : decode prog_2_method_11_code 21 = .ok (.getfield 42, 3) := by decide +kernel
theorem d_Au_keep_24 : decode prog_2_method_11_code 24 = .ok (.if_icmp .ge 36, 3) := by decide +kernel
theorem d_Au_keep_27 : decode prog_2_method_11_code 27 = .ok (.iload 4, 2) := by decide +kernel
theorem d_Au_keep_29 : decode prog_2_method_11_code 29 = .ok (.aload_n 0, 1) := by decide +kernel
theorem d_Au_keep_30 : decode prog_2_method_11_code 30 = .ok (.getfield 38, 3) := by decide +kernel
theorem d_Au_keep_33 : decode prog_2_method_11_code 33 = .ok (.arraylength, 1) := by decide +kernel
theorem d_Au_keep_34 : decode prog_2_method_11_code 34 = .ok (.if_icmp .ge 26, 3) := by decide +kernel
theorem d_Au_keep_37 : decode prog_2_method_11_code 37 = .ok (.aload_n 0, 1) := by decide +kernel
theorem d_Au_keep_38 : decode prog_2_method_11_code 38 = .ok (.getfield 38, 3) := by decide +kernel
theorem d_Au_keep_41 : decode prog_2_method_11_code 41 = .ok (.iload 4, 2) := by decide +kernel
theorem d_Au_keep_43 : decode prog_2_method_11_code 43 = .ok (.aaload, 1) := by decide +kernel
theorem d_Au_keep_44 : decode prog_2_method_11_code 44 = .ok (.aload_n 3, 1) := by decide +kernel
theorem d_Au_keep_45 : decode prog_2_method_11_code 45 = .ok (.invokevirtual 127, 3) := by decide +kernel
theorem d_Au_keep_48 : decode prog_2_method_11_code 48 = .ok (.ifCond .eq 6, 3) := by decide +kernel
theorem d_Au_keep_51 : decode prog_2_method_11_code 51 = .ok (.iload 4, 2) := by decide +kernel
theorem d_Au_keep_53 : decode prog_2_method_11_code 53 = .ok (.ireturn, 1) := by decide +kernel
theorem d_Au_keep_54 : decode prog_2_method_11_code 54 = .ok (.iinc 4 1, 3) := by decide +kernel
theorem d_Au_keep_57 : decode prog_2_method_11_code 57 = .ok (.goto (-39), 3) := by decide +kernel
theorem d_Au_keep_60 : decode prog_2_method_11_code 60 = .ok (.aload_n 0, 1) := by decide +kernel
theorem d_Au_keep_61 : decode prog_2_method_11_code 61 = .ok (.getfield 42, 3) := by decide +kernel
theorem d_Au_keep_64 : decode prog_2_method_11_code 64 = .ok (.ifCond .lt 15, 3) := by decide +kernel
theorem d_Au_keep_67 : decode prog_2_method_11_code 67 = .ok (.aload_n 0, 1) := by decide +kernel
theorem d_Au_keep_68 : decode prog_2_method_11_code 68 = .ok (.getfield 42, 3) := by decide +kernel
theorem d_Au_keep_71 : decode prog_2_method_11_code 71 = .ok (.aload_n 0, 1) := by decide +kernel
theorem d_Au_keep_72 : decode prog_2_method_11_code 72 = .ok (.getfield 38, 3) := by decide +kernel
theorem d_Au_keep_75 : decode prog_2_method_11_code 75 = .ok (.arraylength, 1) := by decide +kernel
theorem d_Au_keep_76 : decode prog_2_method_11_code 76 = .ok (.if_icmp .lt 37, 3) := by decide +kernel
theorem d_Au_keep_79 : decode prog_2_method_11_code 79 = .ok (.aload_n 0, 1) := by decide +kernel
theorem d_Au_keep_80 : decode prog_2_method_11_code 80 = .ok (.iconst 0, 1) := by decide +kernel
theorem d_Au_keep_81 : decode prog_2_method_11_code 81 = .ok (.putfield 42, 3) := by decide +kernel
theorem d_Au_keep_84 : decode prog_2_method_11_code 84 = .ok (.aload_n 0, 1) := by decide +kernel
theorem d_Au_keep_85 : decode prog_2_method_11_code 85 = .ok (.dup, 1) := by decide +kernel
theorem d_Au_keep_86 : decode prog_2_method_11_code 86 = .ok (.getfield 46, 3) := by decide +kernel
theorem d_Au_keep_89 : decode prog_2_method_11_code 89 = .ok (.iconst 1, 1) := by decide +kernel
theorem d_Au_keep_90 : decode prog_2_method_11_code 90 = .ok (.iadd, 1) := by decide +kernel
theorem d_Au_keep_91 : decode prog_2_method_11_code 91 = .ok (.putfield 46, 3) := by decide +kernel
theorem d_Au_keep_94 : decode prog_2_method_11_code 94 = .ok (.aload_n 0, 1) := by decide +kernel
theorem d_Au_keep_95 : decode prog_2_method_11_code 95 = .ok (.dup, 1) := by decide +kernel
theorem d_Au_keep_96 : decode prog_2_method_11_code 96 = .ok (.getfield 52, 3) := by decide +kernel
theorem d_Au_keep_99 : decode prog_2_method_11_code 99 = .ok (.iconst 1, 1) := by decide +kernel
theorem d_Au_keep_100 : decode prog_2_method_11_code 100 = .ok (.iadd, 1) := by decide +kernel
theorem d_Au_keep_101 : decode prog_2_method_11_code 101 = .ok (.putfield 52, 3) := by decide +kernel
theorem d_Au_keep_104 : decode prog_2_method_11_code 104 = .ok (.aload_n 0, 1) := by decide +kernel
theorem d_Au_keep_105 : decode prog_2_method_11_code 105 = .ok (.invokevirtual 131, 3) := by decide +kernel
theorem d_Au_keep_108 : decode prog_2_method_11_code 108 = .ok (.ifCond .eq 5, 3) := by decide +kernel
theorem d_Au_keep_111 : decode prog_2_method_11_code 111 = .ok (.iconst (-1), 1) := by decide +kernel
theorem d_Au_keep_112 : decode prog_2_method_11_code 112 = .ok (.ireturn, 1) := by decide +kernel
theorem d_Au_keep_113 : decode prog_2_method_11_code 113 = .ok (.aload_n 0, 1) := by decide +kernel
theorem d_Au_keep_114 : decode prog_2_method_11_code 114 = .ok (.aload_n 0, 1) := by decide +kernel
theorem d_Au_keep_115 : decode prog_2_method_11_code 115 = .ok (.getfield 38, 3) := by decide +kernel
theorem d_Au_keep_118 : decode prog_2_method_11_code 118 = .ok (.aload_n 0, 1) := by decide +kernel
theorem d_Au_keep_119 : decode prog_2_method_11_code 119 = .ok (.getfield 42, 3) := by decide +kernel
theorem d_Au_keep_122 : decode prog_2_method_11_code 122 = .ok (.aaload, 1) := by decide +kernel
theorem d_Au_keep_123 : decode prog_2_method_11_code 123 = .ok (.putfield 28, 3) := by decide +kernel
theorem d_Au_keep_126 : decode prog_2_method_11_code 126 = .ok (.aload_n 0, 1) := by decide +kernel
theorem d_Au_keep_127 : decode prog_2_method_11_code 127 = .ok (.getfield 38, 3) := by decide +kernel
theorem d_Au_keep_130 : decode prog_2_method_11_code 130 = .ok (.aload_n 0, 1) := by decide +kernel
theorem d_Au_keep_131 : decode prog_2_method_11_code 131 = .ok (.getfield 42, 3) := by decide +kernel
theorem d_Au_keep_134 : decode prog_2_method_11_code 134 = .ok (.aload_n 3, 1) := by decide +kernel
theorem d_Au_keep_135 : decode prog_2_method_11_code 135 = .ok (.aastore, 1) := by decide +kernel
theorem d_Au_keep_136 : decode prog_2_method_11_code 136 = .ok (.aload_n 0, 1) := by decide +kernel
theorem d_Au_keep_137 : decode prog_2_method_11_code 137 = .ok (.dup, 1) := by decide +kernel
theorem d_Au_keep_138 : decode prog_2_method_11_code 138 = .ok (.getfield 42, 3) := by decide +kernel
theorem d_Au_keep_141 : decode prog_2_method_11_code 141 = .ok (.iconst 1, 1) := by decide +kernel
theorem d_Au_keep_142 : decode prog_2_method_11_code 142 = .ok (.iadd, 1) := by decide +kernel
theorem d_Au_keep_143 : decode prog_2_method_11_code 143 = .ok (.putfield 42, 3) := by decide +kernel
theorem d_Au_keep_146 : decode prog_2_method_11_code 146 = .ok (.aload_n 0, 1) := by decide +kernel
theorem d_Au_keep_147 : decode prog_2_method_11_code 147 = .ok (.dup, 1) := by decide +kernel
theorem d_Au_keep_148 : decode prog_2_method_11_code 148 = .ok (.getfield 49, 3) := by decide +kernel
theorem d_Au_keep_151 : decode prog_2_method_11_code 151 = .ok (.iconst 1, 1) := by decide +kernel
theorem d_Au_keep_152 : decode prog_2_method_11_code 152 = .ok (.iadd, 1) := by decide +kernel
theorem d_Au_keep_153 : decode prog_2_method_11_code 153 = .ok (.putfield 49, 3) := by decide +kernel
theorem d_Au_keep_156 : decode prog_2_method_11_code 156 = .ok (.aload_n 0, 1) := by decide +kernel
theorem d_Au_keep_157 : decode prog_2_method_11_code 157 = .ok (.getfield 42, 3) := by decide +kernel
theorem d_Au_keep_160 : decode prog_2_method_11_code 160 = .ok (.iconst 1, 1) := by decide +kernel
theorem d_Au_keep_161 : decode prog_2_method_11_code 161 = .ok (.isub, 1) := by decide +kernel
theorem d_Au_keep_162 : decode prog_2_method_11_code 162 = .ok (.ireturn, 1) := by decide +kernel
theorem M_Au_keep : lt_M0 m_Au_keep 2 := ⟨lt_m4 3 rfl rfl, lt_m1 10 rfl rfl, ⟨by decide +kernel, by decide +kernel, by decide +kernel⟩, by decide⟩
theorem in_Au_keep : Cond.instanceMethod m_Au_keep.1 ∈ lt_T := lt_m4 2 rfl rfl
theorem se_Au_keep : Cond.selects "LinearSearch$Automaton" m_Au_keep.1 m_Au_keep.1 ∈ lt_T := lt_memS 20 rfl rfl
abbrev m_Au_gaveUp : lt_M := (⟨"LinearSearch$Automaton", "gaveUp", "()Z"⟩, prog_2_method_6_code, 1, (some .boolean))
theorem d_Au_gaveUp_0 : decode prog_2_method_6_code 0 = .ok (.aload_n 0, 1) := by decide +kernel
theorem d_Au_gaveUp_1 : decode prog_2_method_6_code 1 = .ok (.getfield 52, 3) := by decide +kernel
theorem d_Au_gaveUp_4 : decode prog_2_method_6_code 4 = .ok (.iconst 3, 1) := by decide +kernel
theorem d_Au_gaveUp_5 : decode prog_2_method_6_code 5 = .ok (.if_icmp .lt 7, 3) := by decide +kernel
theorem d_Au_gaveUp_8 : decode prog_2_method_6_code 8 = .ok (.iconst 1, 1) := by decide +kernel
theorem d_Au_gaveUp_9 : decode prog_2_method_6_code 9 = .ok (.goto 4, 3) := by decide +kernel
theorem d_Au_gaveUp_12 : decode prog_2_method_6_code 12 = .ok (.iconst 0, 1) := by decide +kernel
theorem d_Au_gaveUp_13 : decode prog_2_method_6_code 13 = .ok (.ireturn, 1) := by decide +kernel
theorem M_Au_gaveUp : lt_M0 m_Au_gaveUp 0 := ⟨lt_m4 21 rfl rfl, lt_m1 10 rfl rfl, ⟨by decide +kernel, by decide +kernel, by decide +kernel⟩, by decide⟩
theorem in_Au_gaveUp : Cond.instanceMethod m_Au_gaveUp.1 ∈ lt_T := lt_m4 19 rfl rfl
theorem se_Au_gaveUp : Cond.selects "LinearSearch$Automaton" m_Au_gaveUp.1 m_Au_gaveUp.1 ∈ lt_T := lt_m4 20 rfl rfl
abbrev m_Au_stateAt : lt_M := (⟨"LinearSearch$Automaton", "stateAt", "(I)LLinearSearch$State;"⟩, prog_2_method_8_code, 2, (some (.object "LinearSearch$State")))
theorem d_Au_stateAt_0 : decode prog_2_method_8_code 0 = .ok (.iload_n 1, 1) := by decide +kernel
theorem d_Au_stateAt_1 : decode prog_2_method_8_code 1 = .ok (.ifCond .lt 29, 3) := by decide +kernel
theorem d_Au_stateAt_4 : decode prog_2_method_8_code 4 = .ok (.iload_n 1, 1) := by decide +kernel
theorem d_Au_stateAt_5 : decode prog_2_method_8_code 5 = .ok (.aload_n 0, 1) := by decide +kernel
theorem d_Au_stateAt_6 : decode prog_2_method_8_code 6 = .ok (.getfield 42, 3) := by decide +kernel
theorem d_Au_stateAt_9 : decode prog_2_method_8_code 9 = .ok (.if_icmp .ge 21, 3) := by decide +kernel
theorem d_Au_stateAt_12 : decode prog_2_method_8_code 12 = .ok (.iload_n 1, 1) := by decide +kernel
theorem d_Au_stateAt_13 : decode prog_2_method_8_code 13 = .ok (.aload_n 0, 1) := by decide +kernel
theorem d_Au_stateAt_14 : decode prog_2_method_8_code 14 = .ok (.getfield 38, 3) := by decide +kernel
theorem d_Au_stateAt_17 : decode prog_2_method_8_code 17 = .ok (.arraylength, 1) := by decide +kernel
theorem d_Au_stateAt_18 : decode prog_2_method_8_code 18 = .ok (.if_icmp .ge 12, 3) := by decide +kernel
theorem d_Au_stateAt_21 : decode prog_2_method_8_code 21 = .ok (.aload_n 0, 1) := by decide +kernel
theorem d_Au_stateAt_22 : decode prog_2_method_8_code 22 = .ok (.getfield 38, 3) := by decide +kernel
theorem d_Au_stateAt_25 : decode prog_2_method_8_code 25 = .ok (.iload_n 1, 1) := by decide +kernel
theorem d_Au_stateAt_26 : decode prog_2_method_8_code 26 = .ok (.aaload, 1) := by decide +kernel
theorem d_Au_stateAt_27 : decode prog_2_method_8_code 27 = .ok (.goto 4, 3) := by decide +kernel
theorem d_Au_stateAt_30 : decode prog_2_method_8_code 30 = .ok (.aconst_null, 1) := by decide +kernel
theorem d_Au_stateAt_31 : decode prog_2_method_8_code 31 = .ok (.areturn, 1) := by decide +kernel
theorem M_Au_stateAt : lt_M0 m_Au_stateAt 1 := ⟨lt_m4 26 rfl rfl, lt_m1 10 rfl rfl, ⟨by decide +kernel, by decide +kernel, by decide +kernel⟩, by decide⟩
theorem in_Au_stateAt : Cond.instanceMethod m_Au_stateAt.1 ∈ lt_T := lt_m4 25 rfl rfl
theorem se_Au_stateAt : Cond.selects "LinearSearch$Automaton" m_Au_stateAt.1 m_Au_stateAt.1 ∈ lt_T := lt_memS 21 rfl rfl
abbrev m_Au_foundBehindLasts : lt_M := (⟨"LinearSearch$Automaton", "foundBehindLasts", "(LLinearSearch$Program;LLinearSearch$State;I)Z"⟩, prog_2_method_12_code, 5, (some .boolean))
theorem d_Au_foundBehindLasts_0 : decode prog_2_method_12_code 0 = .ok (.aload_n 0, 1) := by decide +kernel
theorem d_Au_foundBehindLasts_1 : decode prog_2_method_12_code 1 = .ok (.getfield 12, 3) := by decide +kernel
theorem d_Au_foundBehindLasts_4 : decode prog_2_method_12_code 4 = .ok (.aload_n 1, 1) := by decide +kernel
theorem d_Au_foundBehindLasts_5 : decode prog_2_method_12_code 5 = .ok (.aload_n 0, 1) := by decide +kernel
theorem d_Au_foundBehindLasts_6 : decode prog_2_method_12_code 6 = .ok (.getfield 21, 3) := by decide +kernel
theorem d_Au_foundBehindLasts_9 : decode prog_2_method_12_code 9 = .ok (.iload_n 3, 1) := by decide +kernel
theorem d_Au_foundBehindLasts_10 : decode prog_2_method_12_code 10 = .ok (.iconst 1, 1) := by decide +kernel
theorem d_Au_foundBehindLasts_11 : decode prog_2_method_12_code 11 = .ok (.invokevirtual 89, 3) := by decide +kernel
theorem d_Au_foundBehindLasts_14 : decode prog_2_method_12_code 14 = .ok (.iconst 0, 1) := by decide +kernel
theorem d_Au_foundBehindLasts_15 : decode prog_2_method_12_code 15 = .ok (.istore 4, 2) := by decide +kernel
theorem d_Au_foundBehindLasts_17 : decode prog_2_method_12_code 17 = .ok (.iload 4, 2) := by decide +kernel
theorem d_Au_foundBehindLasts_19 : decode prog_2_method_12_code 19 = .ok (.aload_n 2, 1) := by decide +kernel
theorem d_Au_foundBehindLasts_20 : decode prog_2_method_12_code 20 = .ok (.getfield 104, 3) := by decide +kernel
theorem d_Au_foundBehindLasts_23 : decode prog_2_method_12_code 23 = .ok (.if_icmp .ge 40, 3) := by decide +kernel
theorem d_Au_foundBehindLasts_26 : decode prog_2_method_12_code 26 = .ok (.aload_n 1, 1) := by decide +kernel
theorem d_Au_foundBehindLasts_27 : decode prog_2_method_12_code 27 = .ok (.aload_n 2, 1) := by decide +kernel
theorem d_Au_foundBehindLasts_28 : decode prog_2_method_12_code 28 = .ok (.iload 4, 2) := by decide +kernel
theorem d_Au_foundBehindLasts_30 : decode prog_2_method_12_code 30 = .ok (.invokevirtual 107, 3) := by decide +kernel
theorem d_Au_foundBehindLasts_33 : decode prog_2_method_12_code 33 = .ok (.invokevirtual 134, 3) := by decide +kernel
theorem d_Au_foundBehindLasts_36 : decode prog_2_method_12_code 36 = .ok (.bipush 6, 2) := by decide +kernel
theorem d_Au_foundBehindLasts_38 : decode prog_2_method_12_code 38 = .ok (.if_icmp .ne 19, 3) := by decide +kernel
theorem d_Au_foundBehindLasts_41 : decode prog_2_method_12_code 41 = .ok (.aload_n 0, 1) := by decide +kernel
theorem d_Au_foundBehindLasts_42 : decode prog_2_method_12_code 42 = .ok (.getfield 12, 3) := by decide +kernel
theorem d_Au_foundBehindLasts_45 : decode prog_2_method_12_code 45 = .ok (.aload_n 2, 1) := by decide +kernel
theorem d_Au_foundBehindLasts_46 : decode prog_2_method_12_code 46 = .ok (.iload 4, 2) := by decide +kernel
theorem d_Au_foundBehindLasts_48 : decode prog_2_method_12_code 48 = .ok (.invokevirtual 107, 3) := by decide +kernel
theorem d_Au_foundBehindLasts_51 : decode prog_2_method_12_code 51 = .ok (.iconst 1, 1) := by decide +kernel
theorem d_Au_foundBehindLasts_52 : decode prog_2_method_12_code 52 = .ok (.iadd, 1) := by decide +kernel
theorem d_Au_foundBehindLasts_53 : decode prog_2_method_12_code 53 = .ok (.lconst 0, 1) := by decide +kernel
theorem d_Au_foundBehindLasts_54 : decode prog_2_method_12_code 54 = .ok (.invokevirtual 93, 3) := by decide +kernel
theorem d_Au_foundBehindLasts_57 : decode prog_2_method_12_code 57 = .ok (.iinc 4 1, 3) := by decide +kernel
theorem d_Au_foundBehindLasts_60 : decode prog_2_method_12_code 60 = .ok (.goto (-43), 3) := by decide +kernel
theorem d_Au_foundBehindLasts_63 : decode prog_2_method_12_code 63 = .ok (.iconst 0, 1) := by decide +kernel
theorem d_Au_foundBehindLasts_64 : decode prog_2_method_12_code 64 = .ok (.istore 4, 2) := by decide +kernel
theorem d_Au_foundBehindLasts_66 : decode prog_2_method_12_code 66 = .ok (.iload 4, 2) := by decide +kernel
theorem d_Au_foundBehindLasts_68 : decode prog_2_method_12_code 68 = .ok (.aload_n 0, 1) := by decide +kernel
theorem d_Au_foundBehindLasts_69 : decode prog_2_method_12_code 69 = .ok (.getfield 21, 3) := by decide +kernel
theorem d_Au_foundBehindLasts_72 : decode prog_2_method_12_code 72 = .ok (.invokevirtual 137, 3) := by decide +kernel
theorem d_Au_foundBehindLasts_75 : decode prog_2_method_12_code 75 = .ok (.if_icmp .ge 29, 3) := by decide +kernel
theorem d_Au_foundBehindLasts_78 : decode prog_2_method_12_code 78 = .ok (.aload_n 1, 1) := by decide +kernel
theorem d_Au_foundBehindLasts_79 : decode prog_2_method_12_code 79 = .ok (.aload_n 0, 1) := by decide +kernel
theorem d_Au_foundBehindLasts_80 : decode prog_2_method_12_code 80 = .ok (.getfield 21, 3) := by decide +kernel
theorem d_Au_foundBehindLasts_83 : decode prog_2_method_12_code 83 = .ok (.iload 4, 2) := by decide +kernel
theorem d_Au_foundBehindLasts_85 : decode prog_2_method_12_code 85 = .ok (.invokevirtual 139, 3) := by decide +kernel
theorem d_Au_foundBehindLasts_88 : decode prog_2_method_12_code 88 = .ok (.invokevirtual 134, 3) := by decide +kernel
theorem d_Au_foundBehindLasts_91 : decode prog_2_method_12_code 91 = .ok (.bipush 7, 2) := by decide +kernel
theorem d_Au_foundBehindLasts_93 : decode prog_2_method_12_code 93 = .ok (.if_icmp .ne 5, 3) := by decide +kernel
theorem d_Au_foundBehindLasts_96 : decode prog_2_method_12_code 96 = .ok (.iconst 1, 1) := by decide +kernel
theorem d_Au_foundBehindLasts_97 : decode prog_2_method_12_code 97 = .ok (.ireturn, 1) := by decide +kernel
theorem d_Au_foundBehindLasts_98 : decode prog_2_method_12_code 98 = .ok (.iinc 4 1, 3) := by decide +kernel
theorem d_Au_foundBehindLasts_101 : decode prog_2_method_12_code 101 = .ok (.goto (-35), 3) := by decide +kernel
theorem d_Au_foundBehindLasts_104 : decode prog_2_method_12_code 104 = .ok (.iconst 0, 1) := by decide +kernel
theorem d_Au_foundBehindLasts_105 : decode prog_2_method_12_code 105 = .ok (.ireturn, 1) := by decide +kernel
theorem M_Au_foundBehindLasts : lt_M0 m_Au_foundBehindLasts 3 := ⟨lt_m4 30 rfl rfl, lt_m1 10 rfl rfl, ⟨by decide +kernel, by decide +kernel, by decide +kernel⟩, by decide⟩
theorem in_Au_foundBehindLasts : Cond.instanceMethod m_Au_foundBehindLasts.1 ∈ lt_T := lt_m4 29 rfl rfl
theorem se_Au_foundBehindLasts : Cond.selects "LinearSearch$Automaton" m_Au_foundBehindLasts.1 m_Au_foundBehindLasts.1 ∈ lt_T := lt_memS 22 rfl rfl
abbrev m_Au_nextState : lt_M := (⟨"LinearSearch$Automaton", "nextState", "(LLinearSearch$Program;II)I"⟩, prog_2_method_10_code, 9, (some .int))
theorem d_Au_nextState_0 : decode prog_2_method_10_code 0 = .ok (.aload_n 0, 1) := by decide +kernel
theorem d_Au_nextState_1 : decode prog_2_method_10_code 1 = .ok (.iload_n 2, 1) := by decide +kernel
theorem d_Au_nextState_2 : decode prog_2_method_10_code 2 = .ok (.invokevirtual 65, 3) := by decide +kernel
theorem d_Au_nextState_5 : decode prog_2_method_10_code 5 = .ok (.astore 4, 2) := by decide +kernel
theorem d_Au_nextState_7 : decode prog_2_method_10_code 7 = .ok (.aload 4, 2) := by decide +kernel
theorem d_Au_nextState_9 : decode prog_2_method_10_code 9 = .ok (.ifnonnull 5, 3) := by decide +kernel
theorem d_Au_nextState_12 : decode prog_2_method_10_code 12 = .ok (.iconst (-1), 1) := by decide +kernel
theorem d_Au_nextState_13 : decode prog_2_method_10_code 13 = .ok (.ireturn, 1) := by decide +kernel
theorem d_Au_nextState_14 : decode prog_2_method_10_code 14 = .ok (.aload 4, 2) := by decide +kernel
theorem d_Au_nextState_16 : decode prog_2_method_10_code 16 = .ok (.iload_n 3, 1) := by decide +kernel
theorem d_Au_nextState_17 : decode prog_2_method_10_code 17 = .ok (.invokevirtual 101, 3) := by decide +kernel
theorem d_Au_nextState_20 : decode prog_2_method_10_code 20 = .ok (.istore 5, 2) := by decide +kernel
theorem d_Au_nextState_22 : decode prog_2_method_10_code 22 = .ok (.iload 5, 2) := by decide +kernel
theorem d_Au_nextState_24 : decode prog_2_method_10_code 24 = .ok (.iconst (-1), 1) := by decide +kernel
theorem d_Au_nextState_25 : decode prog_2_method_10_code 25 = .ok (.if_icmp .eq 6, 3) := by decide +kernel
theorem d_Au_nextState_28 : decode prog_2_method_10_code 28 = .ok (.iload 5, 2) := by decide +kernel
theorem d_Au_nextState_30 : decode prog_2_method_10_code 30 = .ok (.ireturn, 1) := by decide +kernel
theorem d_Au_nextState_31 : decode prog_2_method_10_code 31 = .ok (.aload_n 0, 1) := by decide +kernel
theorem d_Au_nextState_32 : decode prog_2_method_10_code 32 = .ok (.getfield 12, 3) := by decide +kernel
theorem d_Au_nextState_35 : decode prog_2_method_10_code 35 = .ok (.aload_n 1, 1) := by decide +kernel
theorem d_Au_nextState_36 : decode prog_2_method_10_code 36 = .ok (.aload_n 0, 1) := by decide +kernel
theorem d_Au_nextState_37 : decode prog_2_method_10_code 37 = .ok (.getfield 21, 3) := by decide +kernel
theorem d_Au_nextState_40 : decode prog_2_method_10_code 40 = .ok (.iconst 1, 1) := by decide +kernel
theorem d_Au_nextState_41 : decode prog_2_method_10_code 41 = .ok (.iconst 2, 1) := by decide +kernel
theorem d_Au_nextState_42 : decode prog_2_method_10_code 42 = .ok (.invokevirtual 89, 3) := by decide +kernel
theorem d_Au_nextState_45 : decode prog_2_method_10_code 45 = .ok (.iconst 0, 1) := by decide +kernel
theorem d_Au_nextState_46 : decode prog_2_method_10_code 46 = .ok (.istore 6, 2) := by decide +kernel
theorem d_Au_nextState_48 : decode prog_2_method_10_code 48 = .ok (.iload 6, 2) := by decide +kernel
theorem d_Au_nextState_50 : decode prog_2_method_10_code 50 = .ok (.aload 4, 2) := by decide +kernel
theorem d_Au_nextState_52 : decode prog_2_method_10_code 52 = .ok (.getfield 104, 3) := by decide +kernel
theorem d_Au_nextState_55 : decode prog_2_method_10_code 55 = .ok (.if_icmp .ge 41, 3) := by decide +kernel
theorem d_Au_nextState_58 : decode prog_2_method_10_code 58 = .ok (.aload_n 1, 1) := by decide +kernel
theorem d_Au_nextState_59 : decode prog_2_method_10_code 59 = .ok (.aload 4, 2) := by decide +kernel
theorem d_Au_nextState_61 : decode prog_2_method_10_code 61 = .ok (.iload 6, 2) := by decide +kernel
theorem d_Au_nextState_63 : decode prog_2_method_10_code 63 = .ok (.invokevirtual 107, 3) := by decide +kernel
theorem d_Au_nextState_66 : decode prog_2_method_10_code 66 = .ok (.iload_n 3, 1) := by decide +kernel
theorem d_Au_nextState_67 : decode prog_2_method_10_code 67 = .ok (.invokevirtual 110, 3) := by decide +kernel
theorem d_Au_nextState_70 : decode prog_2_method_10_code 70 = .ok (.ifCond .eq 20, 3) := by decide +kernel
theorem d_Au_nextState_73 : decode prog_2_method_10_code 73 = .ok (.aload_n 0, 1) := by decide +kernel
theorem d_Au_nextState_74 : decode prog_2_method_10_code 74 = .ok (.getfield 12, 3) := by decide +kernel
theorem d_Au_nextState_77 : decode prog_2_method_10_code 77 = .ok (.aload 4, 2) := by decide +kernel
theorem d_Au_nextState_79 : decode prog_2_method_10_code 79 = .ok (.iload 6, 2) := by decide +kernel
theorem d_Au_nextState_81 : decode prog_2_method_10_code 81 = .ok (.invokevirtual 107, 3) := by decide +kernel
theorem d_Au_nextState_84 : decode prog_2_method_10_code 84 = .ok (.iconst 1, 1) := by decide +kernel
theorem d_Au_nextState_85 : decode prog_2_method_10_code 85 = .ok (.iadd, 1) := by decide +kernel
theorem d_Au_nextState_86 : decode prog_2_method_10_code 86 = .ok (.lconst 0, 1) := by decide +kernel
theorem d_Au_nextState_87 : decode prog_2_method_10_code 87 = .ok (.invokevirtual 93, 3) := by decide +kernel
theorem d_Au_nextState_90 : decode prog_2_method_10_code 90 = .ok (.iinc 6 1, 3) := by decide +kernel
theorem d_Au_nextState_93 : decode prog_2_method_10_code 93 = .ok (.goto (-45), 3) := by decide +kernel
theorem d_Au_nextState_96 : decode prog_2_method_10_code 96 = .ok (.aload 4, 2) := by decide +kernel
theorem d_Au_nextState_98 : decode prog_2_method_10_code 98 = .ok (.invokevirtual 116, 3) := by decide +kernel
theorem d_Au_nextState_101 : decode prog_2_method_10_code 101 = .ok (.istore 6, 2) := by decide +kernel
theorem d_Au_nextState_103 : decode prog_2_method_10_code 103 = .ok (.iload 6, 2) := by decide +kernel
theorem d_Au_nextState_105 : decode prog_2_method_10_code 105 = .ok (.ifCond .eq 12, 3) := by decide +kernel
theorem d_Au_nextState_108 : decode prog_2_method_10_code 108 = .ok (.aload_n 0, 1) := by decide +kernel
theorem d_Au_nextState_109 : decode prog_2_method_10_code 109 = .ok (.getfield 12, 3) := by decide +kernel
theorem d_Au_nextState_112 : decode prog_2_method_10_code 112 = .ok (.iconst 0, 1) := by decide +kernel
theorem d_Au_nextState_113 : decode prog_2_method_10_code 113 = .ok (.lconst 0, 1) := by decide +kernel
theorem d_Au_nextState_114 : decode prog_2_method_10_code 114 = .ok (.invokevirtual 93, 3) := by decide +kernel
theorem d_Au_nextState_117 : decode prog_2_method_10_code 117 = .ok (.aload_n 0, 1) := by decide +kernel
theorem d_Au_nextState_118 : decode prog_2_method_10_code 118 = .ok (.getfield 46, 3) := by decide +kernel
theorem d_Au_nextState_121 : decode prog_2_method_10_code 121 = .ok (.istore 7, 2) := by decide +kernel
theorem d_Au_nextState_123 : decode prog_2_method_10_code 123 = .ok (.aload_n 0, 1) := by decide +kernel
theorem d_Au_nextState_124 : decode prog_2_method_10_code 124 = .ok (.aload_n 1, 1) := by decide +kernel
theorem d_Au_nextState_125 : decode prog_2_method_10_code 125 = .ok (.iload 6, 2) := by decide +kernel
theorem d_Au_nextState_127 : decode prog_2_method_10_code 127 = .ok (.invokevirtual 97, 3) := by decide +kernel
theorem d_Au_nextState_130 : decode prog_2_method_10_code 130 = .ok (.istore 8, 2) := by decide +kernel
theorem d_Au_nextState_132 : decode prog_2_method_10_code 132 = .ok (.aload_n 0, 1) := by decide +kernel
theorem d_Au_nextState_133 : decode prog_2_method_10_code 133 = .ok (.getfield 46, 3) := by decide +kernel
theorem d_Au_nextState_136 : decode prog_2_method_10_code 136 = .ok (.iload 7, 2) := by decide +kernel
theorem d_Au_nextState_138 : decode prog_2_method_10_code 138 = .ok (.if_icmp .ne 11, 3) := by decide +kernel
theorem d_Au_nextState_141 : decode prog_2_method_10_code 141 = .ok (.aload 4, 2) := by decide +kernel
theorem d_Au_nextState_143 : decode prog_2_method_10_code 143 = .ok (.iload_n 3, 1) := by decide +kernel
theorem d_Au_nextState_144 : decode prog_2_method_10_code 144 = .ok (.iload 8, 2) := by decide +kernel
theorem d_Au_nextState_146 : decode prog_2_method_10_code 146 = .ok (.invokevirtual 119, 3) := by decide +kernel
theorem d_Au_nextState_149 : decode prog_2_method_10_code 149 = .ok (.iload 8, 2) := by decide +kernel
theorem d_Au_nextState_151 : decode prog_2_method_10_code 151 = .ok (.ireturn, 1) := by decide +kernel
theorem M_Au_nextState : lt_M0 m_Au_nextState 3 := ⟨lt_m4 46 rfl rfl, lt_m1 10 rfl rfl, ⟨by decide +kernel, by decide +kernel, by decide +kernel⟩, by decide⟩
theorem in_Au_nextState : Cond.instanceMethod m_Au_nextState.1 ∈ lt_T := lt_m4 45 rfl rfl
theorem se_Au_nextState : Cond.selects "LinearSearch$Automaton" m_Au_nextState.1 m_Au_nextState.1 ∈ lt_T := lt_memS 23 rfl rfl
abbrev m_Ls_find : lt_M := (⟨"LinearSearch$Lists", "find", "(LLinearSearch$Program;LLinearSearch$Text;IZ)J"⟩, prog_4_method_3_code, 11, (some .long))
theorem d_Ls_find_0 : decode prog_4_method_3_code 0 = .ok (.aload_n 0, 1) := by decide +kernel
theorem d_Ls_find_1 : decode prog_4_method_3_code 1 = .ok (.iconst 0, 1) := by decide +kernel
theorem d_Ls_find_2 : decode prog_4_method_3_code 2 = .ok (.putfield 28, 3) := by decide +kernel
theorem d_Ls_find_5 : decode prog_4_method_3_code 5 = .ok (.lconst 0, 1) := by decide +kernel
theorem d_Ls_find_6 : decode prog_4_method_3_code 6 = .ok (.lstore 5, 2) := by decide +kernel
theorem d_Ls_find_8 : decode prog_4_method_3_code 8 = .ok (.aload_n 0, 1) := by decide +kernel
theorem d_Ls_find_9 : decode prog_4_method_3_code 9 = .ok (.getfield 12, 3) := by decide +kernel
theorem d_Ls_find_12 : decode prog_4_method_3_code 12 = .ok (.aload_n 1, 1) := by decide +kernel
theorem d_Ls_find_13 : decode prog_4_method_3_code 13 = .ok (.aload_n 0, 1) := by decide +kernel
theorem d_Ls_find_14 : decode prog_4_method_3_code 14 = .ok (.getfield 21, 3) := by decide +kernel
theorem d_Ls_find_17 : decode prog_4_method_3_code 17 = .ok (.iload_n 3, 1) := by decide +kernel
theorem d_Ls_find_18 : decode prog_4_method_3_code 18 = .ok (.iload_n 3, 1) := by decide +kernel
theorem d_Ls_find_19 : decode prog_4_method_3_code 19 = .ok (.aload_n 2, 1) := by decide +kernel
theorem d_Ls_find_20 : decode prog_4_method_3_code 20 = .ok (.invokestatic 32, 3) := by decide +kernel
theorem d_Ls_find_23 : decode prog_4_method_3_code 23 = .ok (.invokevirtual 36, 3) := by decide +kernel
theorem d_Ls_find_26 : decode prog_4_method_3_code 26 = .ok (.aload_n 0, 1) := by decide +kernel
theorem d_Ls_find_27 : decode prog_4_method_3_code 27 = .ok (.getfield 12, 3) := by decide +kernel
theorem d_Ls_find_30 : decode prog_4_method_3_code 30 = .ok (.iconst 0, 1) := by decide +kernel
theorem d_Ls_find_31 : decode prog_4_method_3_code 31 = .ok (.iload_n 3, 1) := by decide +kernel
theorem d_Ls_find_32 : decode prog_4_method_3_code 32 = .ok (.invokestatic 40, 3) := by decide +kernel
theorem d_Ls_find_35 : decode prog_4_method_3_code 35 = .ok (.invokevirtual 44, 3) := by decide +kernel
theorem d_Ls_find_38 : decode prog_4_method_3_code 38 = .ok (.iload_n 3, 1) := by decide +kernel
theorem d_Ls_find_39 : decode prog_4_method_3_code 39 = .ok (.istore 7, 2) := by decide +kernel
theorem d_Ls_find_41 : decode prog_4_method_3_code 41 = .ok (.iload 7, 2) := by decide +kernel
theorem d_Ls_find_43 : decode prog_4_method_3_code 43 = .ok (.aload_n 2, 1) := by decide +kernel
theorem d_Ls_find_44 : decode prog_4_method_3_code 44 = .ok (.invokevirtual 48, 3) := by decide +kernel
theorem d_Ls_find_47 : decode prog_4_method_3_code 47 = .ok (.if_icmp .gt 133, 3) := by decide +kernel
theorem d_Ls_find_50 : decode prog_4_method_3_code 50 = .ok (.aload_n 0, 1) := by decide +kernel
theorem d_Ls_find_51 : decode prog_4_method_3_code 51 = .ok (.getfield 12, 3) := by decide +kernel
theorem d_Ls_find_54 : decode prog_4_method_3_code 54 = .ok (.aload_n 1, 1) := by decide +kernel
theorem d_Ls_find_55 : decode prog_4_method_3_code 55 = .ok (.aload_n 0, 1) := by decide +kernel
theorem d_Ls_find_56 : decode prog_4_method_3_code 56 = .ok (.getfield 25, 3) := by decide +kernel
theorem d_Ls_find_59 : decode prog_4_method_3_code 59 = .ok (.iload 7, 2) := by decide +kernel
theorem d_Ls_find_61 : decode prog_4_method_3_code 61 = .ok (.iconst 1, 1) := by decide +kernel
theorem d_Ls_find_62 : decode prog_4_method_3_code 62 = .ok (.iadd, 1) := by decide +kernel
theorem d_Ls_find_63 : decode prog_4_method_3_code 63 = .ok (.iload 7, 2) := by decide +kernel
theorem d_Ls_find_65 : decode prog_4_method_3_code 65 = .ok (.iconst 1, 1) := by decide +kernel
theorem d_Ls_find_66 : decode prog_4_method_3_code 66 = .ok (.iadd, 1) := by decide +kernel
theorem d_Ls_find_67 : decode prog_4_method_3_code 67 = .ok (.aload_n 2, 1) := by decide +kernel
theorem d_Ls_find_68 : decode prog_4_method_3_code 68 = .ok (.invokestatic 32, 3) := by decide +kernel
theorem d_Ls_find_71 : decode prog_4_method_3_code 71 = .ok (.invokevirtual 36, 3) := by decide +kernel
theorem d_Ls_find_74 : decode prog_4_method_3_code 74 = .ok (.aload_n 0, 1) := by decide +kernel
theorem d_Ls_find_75 : decode prog_4_method_3_code 75 = .ok (.aload_n 1, 1) := by decide +kernel
theorem d_Ls_find_76 : decode prog_4_method_3_code 76 = .ok (.aload_n 2, 1) := by decide +kernel
theorem d_Ls_find_77 : decode prog_4_method_3_code 77 = .ok (.iload 7, 2) := by decide +kernel
theorem d_Ls_find_79 : decode prog_4_method_3_code 79 = .ok (.invokevirtual 54, 3) := by decide +kernel
theorem d_Ls_find_82 : decode prog_4_method_3_code 82 = .ok (.invokevirtual 58, 3) := by decide +kernel
theorem d_Ls_find_85 : decode prog_4_method_3_code 85 = .ok (.lstore 8, 2) := by decide +kernel
theorem d_Ls_find_87 : decode prog_4_method_3_code 87 = .ok (.lload 8, 2) := by decide +kernel
theorem d_Ls_find_89 : decode prog_4_method_3_code 89 = .ok (.lconst 0, 1) := by decide +kernel
theorem d_Ls_find_90 : decode prog_4_method_3_code 90 = .ok (.lcmp, 1) := by decide +kernel
theorem d_Ls_find_91 : decode prog_4_method_3_code 91 = .ok (.ifCond .eq 13, 3) := by decide +kernel
theorem d_Ls_find_94 : decode prog_4_method_3_code 94 = .ok (.lload 8, 2) := by decide +kernel
theorem d_Ls_find_96 : decode prog_4_method_3_code 96 = .ok (.iconst 1, 1) := by decide +kernel
theorem d_Ls_find_97 : decode prog_4_method_3_code 97 = .ok (.iload 7, 2) := by decide +kernel
theorem d_Ls_find_99 : decode prog_4_method_3_code 99 = .ok (.invokestatic 62, 3) := by decide +kernel
theorem d_Ls_find_102 : decode prog_4_method_3_code 102 = .ok (.lstore 5, 2) := by decide +kernel
theorem d_Ls_find_104 : decode prog_4_method_3_code 104 = .ok (.iload 4, 2) := by decide +kernel
theorem d_Ls_find_106 : decode prog_4_method_3_code 106 = .ok (.ifCond .eq 14, 3) := by decide +kernel
theorem d_Ls_find_109 : decode prog_4_method_3_code 109 = .ok (.lload 5, 2) := by decide +kernel
theorem d_Ls_find_111 : decode prog_4_method_3_code 111 = .ok (.lconst 0, 1) := by decide +kernel
theorem d_Ls_find_112 : decode prog_4_method_3_code 112 = .ok (.lcmp, 1) := by decide +kernel
theorem d_Ls_find_113 : decode prog_4_method_3_code 113 = .ok (.ifCond .ne 7, 3) := by decide +kernel
theorem d_Ls_find_116 : decode prog_4_method_3_code 116 = .ok (.iconst 1, 1) := by decide +kernel
theorem d_Ls_find_117 : decode prog_4_method_3_code 117 = .ok (.goto 4, 3) := by decide +kernel
theorem d_Ls_find_120 : decode prog_4_method_3_code 120 = .ok (.iconst 0, 1) := by decide +kernel
theorem d_Ls_find_121 : decode prog_4_method_3_code 121 = .ok (.istore 10, 2) := by decide +kernel
theorem d_Ls_find_123 : decode prog_4_method_3_code 123 = .ok (.iload 10, 2) := by decide +kernel
theorem d_Ls_find_125 : decode prog_4_method_3_code 125 = .ok (.ifCond .eq 27, 3) := by decide +kernel
theorem d_Ls_find_128 : decode prog_4_method_3_code 128 = .ok (.iload 7, 2) := by decide +kernel
theorem d_Ls_find_130 : decode prog_4_method_3_code 130 = .ok (.aload_n 2, 1) := by decide +kernel
theorem d_Ls_find_131 : decode prog_4_method_3_code 131 = .ok (.invokevirtual 48, 3) := by decide +kernel
theorem d_Ls_find_134 : decode prog_4_method_3_code 134 = .ok (.if_icmp .ge 18, 3) := by decide +kernel
theorem d_Ls_find_137 : decode prog_4_method_3_code 137 = .ok (.aload_n 0, 1) := by decide +kernel
theorem d_Ls_find_138 : decode prog_4_method_3_code 138 = .ok (.getfield 12, 3) := by decide +kernel
theorem d_Ls_find_141 : decode prog_4_method_3_code 141 = .ok (.iconst 0, 1) := by decide +kernel
theorem d_Ls_find_142 : decode prog_4_method_3_code 142 = .ok (.iload 7, 2) := by decide +kernel
theorem d_Ls_find_144 : decode prog_4_method_3_code 144 = .ok (.iconst 1, 1) := by decide +kernel
theorem d_Ls_find_145 : decode prog_4_method_3_code 145 = .ok (.iadd, 1) := by decide +kernel
theorem d_Ls_find_146 : decode prog_4_method_3_code 146 = .ok (.invokestatic 40, 3) := by decide +kernel
theorem d_Ls_find_149 : decode prog_4_method_3_code 149 = .ok (.invokevirtual 44, 3) := by decide +kernel
theorem d_Ls_find_152 : decode prog_4_method_3_code 152 = .ok (.aload_n 0, 1) := by decide +kernel
theorem d_Ls_find_153 : decode prog_4_method_3_code 153 = .ok (.invokevirtual 66, 3) := by decide +kernel
theorem d_Ls_find_156 : decode prog_4_method_3_code 156 = .ok (.iload 10, 2) := by decide +kernel
theorem d_Ls_find_158 : decode prog_4_method_3_code 158 = .ok (.ifCond .ne 16, 3) := by decide +kernel
theorem d_Ls_find_161 : decode prog_4_method_3_code 161 = .ok (.aload_n 0, 1) := by decide +kernel
theorem d_Ls_find_162 : decode prog_4_method_3_code 162 = .ok (.getfield 21, 3) := by decide +kernel
theorem d_Ls_find_165 : decode prog_4_method_3_code 165 = .ok (.invokevirtual 69, 3) := by decide +kernel
theorem d_Ls_find_168 : decode prog_4_method_3_code 168 = .ok (.ifCond .ne 6, 3) := by decide +kernel
theorem d_Ls_find_171 : decode prog_4_method_3_code 171 = .ok (.goto 9, 3) := by decide +kernel
theorem d_Ls_find_174 : decode prog_4_method_3_code 174 = .ok (.iinc 7 1, 3) := by decide +kernel
theorem d_Ls_find_177 : decode prog_4_method_3_code 177 = .ok (.goto (-136), 3) := by decide +kernel
theorem d_Ls_find_180 : decode prog_4_method_3_code 180 = .ok (.lload 5, 2) := by decide +kernel
theorem d_Ls_find_182 : decode prog_4_method_3_code 182 = .ok (.lreturn, 1) := by decide +kernel
theorem M_Ls_find : lt_M0 m_Ls_find 4 := ⟨lt_m4 68 rfl rfl, lt_m1 4 rfl rfl, ⟨by decide +kernel, by decide +kernel, by decide +kernel⟩, by decide⟩
theorem in_Ls_find : Cond.instanceMethod m_Ls_find.1 ∈ lt_T := lt_m4 66 rfl rfl
theorem se_Ls_find : Cond.selects "LinearSearch$Lists" m_Ls_find.1 m_Ls_find.1 ∈ lt_T := lt_m4 67 rfl rfl
abbrev m_Ls_goThrough : lt_M := (⟨"LinearSearch$Lists", "goThrough", "(LLinearSearch$Program;I)J"⟩, prog_4_method_4_code, 5, (some .long))
theorem d_Ls_goThrough_0 : decode prog_4_method_4_code 0 = .ok (.iconst 0, 1) := by decide +kernel
theorem d_Ls_goThrough_1 : decode prog_4_method_4_code 1 = .ok (.istore_n 3, 1) := by decide +kernel
theorem d_Ls_goThrough_2 : decode prog_4_method_4_code 2 = .ok (.iload_n 3, 1) := by decide +kernel
theorem d_Ls_goThrough_3 : decode prog_4_method_4_code 3 = .ok (.aload_n 0, 1) := by decide +kernel
theorem d_Ls_goThrough_4 : decode prog_4_method_4_code 4 = .ok (.getfield 21, 3) := by decide +kernel
theorem d_Ls_goThrough_7 : decode prog_4_method_4_code 7 = .ok (.invokevirtual 69, 3) := by decide +kernel
theorem d_Ls_goThrough_10 : decode prog_4_method_4_code 10 = .ok (.if_icmp .ge 78, 3) := by decide +kernel
theorem d_Ls_goThrough_13 : decode prog_4_method_4_code 13 = .ok (.aload_n 0, 1) := by decide +kernel
theorem d_Ls_goThrough_14 : decode prog_4_method_4_code 14 = .ok (.dup, 1) := by decide +kernel
theorem d_Ls_goThrough_15 : decode prog_4_method_4_code 15 = .ok (.getfield 28, 3) := by decide +kernel
theorem d_Ls_goThrough_18 : decode prog_4_method_4_code 18 = .ok (.iconst 1, 1) := by decide +kernel
theorem d_Ls_goThrough_19 : decode prog_4_method_4_code 19 = .ok (.iadd, 1) := by decide +kernel
theorem d_Ls_goThrough_20 : decode prog_4_method_4_code 20 = .ok (.putfield 28, 3) := by decide +kernel
theorem d_Ls_goThrough_23 : decode prog_4_method_4_code 23 = .ok (.aload_n 0, 1) := by decide +kernel
theorem d_Ls_goThrough_24 : decode prog_4_method_4_code 24 = .ok (.getfield 21, 3) := by decide +kernel
theorem d_Ls_goThrough_27 : decode prog_4_method_4_code 27 = .ok (.iload_n 3, 1) := by decide +kernel
theorem d_Ls_goThrough_28 : decode prog_4_method_4_code 28 = .ok (.invokevirtual 72, 3) := by decide +kernel
theorem d_Ls_goThrough_31 : decode prog_4_method_4_code 31 = .ok (.istore 4, 2) := by decide +kernel
theorem d_Ls_goThrough_33 : decode prog_4_method_4_code 33 = .ok (.aload_n 1, 1) := by decide +kernel
theorem d_Ls_goThrough_34 : decode prog_4_method_4_code 34 = .ok (.iload 4, 2) := by decide +kernel
theorem d_Ls_goThrough_36 : decode prog_4_method_4_code 36 = .ok (.invokevirtual 75, 3) := by decide +kernel
theorem d_Ls_goThrough_39 : decode prog_4_method_4_code 39 = .ok (.bipush 7, 2) := by decide +kernel
theorem d_Ls_goThrough_41 : decode prog_4_method_4_code 41 = .ok (.if_icmp .ne 12, 3) := by decide +kernel
theorem d_Ls_goThrough_44 : decode prog_4_method_4_code 44 = .ok (.aload_n 0, 1) := by decide +kernel
theorem d_Ls_goThrough_45 : decode prog_4_method_4_code 45 = .ok (.getfield 21, 3) := by decide +kernel
theorem d_Ls_goThrough_48 : decode prog_4_method_4_code 48 = .ok (.iload_n 3, 1) := by decide +kernel
theorem d_Ls_goThrough_49 : decode prog_4_method_4_code 49 = .ok (.invokevirtual 80, 3) := by decide +kernel
theorem d_Ls_goThrough_52 : decode prog_4_method_4_code 52 = .ok (.lreturn, 1) := by decide +kernel
theorem d_Ls_goThrough_53 : decode prog_4_method_4_code 53 = .ok (.aload_n 1, 1) := by decide +kernel
theorem d_Ls_goThrough_54 : decode prog_4_method_4_code 54 = .ok (.iload 4, 2) := by decide +kernel
theorem d_Ls_goThrough_56 : decode prog_4_method_4_code 56 = .ok (.iload_n 2, 1) := by decide +kernel
theorem d_Ls_goThrough_57 : decode prog_4_method_4_code 57 = .ok (.invokevirtual 83, 3) := by decide +kernel
theorem d_Ls_goThrough_60 : decode prog_4_method_4_code 60 = .ok (.ifCond .eq 22, 3) := by decide +kernel
theorem d_Ls_goThrough_63 : decode prog_4_method_4_code 63 = .ok (.aload_n 0, 1) := by decide +kernel
theorem d_Ls_goThrough_64 : decode prog_4_method_4_code 64 = .ok (.getfield 12, 3) := by decide +kernel
theorem d_Ls_goThrough_67 : decode prog_4_method_4_code 67 = .ok (.iload 4, 2) := by decide +kernel
theorem d_Ls_goThrough_69 : decode prog_4_method_4_code 69 = .ok (.iconst 1, 1) := by decide +kernel
theorem d_Ls_goThrough_70 : decode prog_4_method_4_code 70 = .ok (.iadd, 1) := by decide +kernel
theorem d_Ls_goThrough_71 : decode prog_4_method_4_code 71 = .ok (.aload_n 0, 1) := by decide +kernel
theorem d_Ls_goThrough_72 : decode prog_4_method_4_code 72 = .ok (.getfield 21, 3) := by decide +kernel
theorem d_Ls_goThrough_75 : decode prog_4_method_4_code 75 = .ok (.iload_n 3, 1) := by decide +kernel
theorem d_Ls_goThrough_76 : decode prog_4_method_4_code 76 = .ok (.invokevirtual 80, 3) := by decide +kernel
theorem d_Ls_goThrough_79 : decode prog_4_method_4_code 79 = .ok (.invokevirtual 44, 3) := by decide +kernel
theorem d_Ls_goThrough_82 : decode prog_4_method_4_code 82 = .ok (.iinc 3 1, 3) := by decide +kernel
theorem d_Ls_goThrough_85 : decode prog_4_method_4_code 85 = .ok (.goto (-83), 3) := by decide +kernel
theorem d_Ls_goThrough_88 : decode prog_4_method_4_code 88 = .ok (.lconst 0, 1) := by decide +kernel
theorem d_Ls_goThrough_89 : decode prog_4_method_4_code 89 = .ok (.lreturn, 1) := by decide +kernel
theorem M_Ls_goThrough : lt_M0 m_Ls_goThrough 2 := ⟨lt_m4 81 rfl rfl, lt_m1 4 rfl rfl, ⟨by decide +kernel, by decide +kernel, by decide +kernel⟩, by decide⟩
theorem in_Ls_goThrough : Cond.instanceMethod m_Ls_goThrough.1 ∈ lt_T := lt_m4 80 rfl rfl
theorem se_Ls_goThrough : Cond.selects "LinearSearch$Lists" m_Ls_goThrough.1 m_Ls_goThrough.1 ∈ lt_T := lt_memS 25 rfl rfl
abbrev m_Ls_swapLists : lt_M := (⟨"LinearSearch$Lists", "swapLists", "()V"⟩, prog_4_method_5_code, 2, none)
theorem d_Ls_swapLists_0 : decode prog_4_method_5_code 0 = .ok (.aload_n 0, 1) := by decide +kernel
theorem d_Ls_swapLists_1 : decode prog_4_method_5_code 1 = .ok (.getfield 21, 3) := by decide +kernel
theorem d_Ls_swapLists_4 : decode prog_4_method_5_code 4 = .ok (.astore_n 1, 1) := by decide +kernel
theorem d_Ls_swapLists_5 : decode prog_4_method_5_code 5 = .ok (.aload_n 0, 1) := by decide +kernel
theorem d_Ls_swapLists_6 : decode prog_4_method_5_code 6 = .ok (.aload_n 0, 1) := by decide +kernel
theorem d_Ls_swapLists_7 : decode prog_4_method_5_code 7 = .ok (.getfield 25, 3) := by decide +kernel
theorem d_Ls_swapLists_10 : decode prog_4_method_5_code 10 = .ok (.putfield 21, 3) := by decide +kernel
theorem d_Ls_swapLists_13 : decode prog_4_method_5_code 13 = .ok (.aload_n 0, 1) := by decide +kernel
theorem d_Ls_swapLists_14 : decode prog_4_method_5_code 14 = .ok (.aload_n 1, 1) := by decide +kernel
theorem d_Ls_swapLists_15 : decode prog_4_method_5_code 15 = .ok (.putfield 25, 3) := by decide +kernel
theorem d_Ls_swapLists_18 : decode prog_4_method_5_code 18 = .ok (.return_, 1) := by decide +kernel
theorem M_Ls_swapLists : lt_M0 m_Ls_swapLists 0 := ⟨lt_m4 94 rfl rfl, lt_m1 4 rfl rfl, ⟨by decide +kernel, by decide +kernel, by decide +kernel⟩, by decide⟩
theorem in_Ls_swapLists : Cond.instanceMethod m_Ls_swapLists.1 ∈ lt_T := lt_m4 93 rfl rfl
theorem se_Ls_swapLists : Cond.selects "LinearSearch$Lists" m_Ls_swapLists.1 m_Ls_swapLists.1 ∈ lt_T := lt_memS 26 rfl rfl
abbrev m_Ls_entriesPassed : lt_M := (⟨"LinearSearch$Lists", "entriesPassed", "()I"⟩, prog_4_method_2_code, 1, (some .int))
theorem d_Ls_entriesPassed_0 : decode prog_4_method_2_code 0 = .ok (.aload_n 0, 1) := by decide +kernel
theorem d_Ls_entriesPassed_1 : decode prog_4_method_2_code 1 = .ok (.getfield 28, 3) := by decide +kernel
theorem d_Ls_entriesPassed_4 : decode prog_4_method_2_code 4 = .ok (.ireturn, 1) := by decide +kernel
theorem M_Ls_entriesPassed : lt_M0 m_Ls_entriesPassed 0 := ⟨lt_m4 98 rfl rfl, lt_m1 4 rfl rfl, ⟨by decide +kernel, by decide +kernel, by decide +kernel⟩, by decide⟩
theorem in_Ls_entriesPassed : Cond.instanceMethod m_Ls_entriesPassed.1 ∈ lt_T := lt_m4 96 rfl rfl
theorem se_Ls_entriesPassed : Cond.selects "LinearSearch$Lists" m_Ls_entriesPassed.1 m_Ls_entriesPassed.1 ∈ lt_T := lt_m4 97 rfl rfl
abbrev m_Au_statesMade : lt_M := (⟨"LinearSearch$Automaton", "statesMade", "()I"⟩, prog_2_method_5_code, 1, (some .int))
theorem d_Au_statesMade_0 : decode prog_2_method_5_code 0 = .ok (.aload_n 0, 1) := by decide +kernel
theorem d_Au_statesMade_1 : decode prog_2_method_5_code 1 = .ok (.getfield 49, 3) := by decide +kernel
theorem d_Au_statesMade_4 : decode prog_2_method_5_code 4 = .ok (.ireturn, 1) := by decide +kernel
theorem M_Au_statesMade : lt_M0 m_Au_statesMade 0 := ⟨lt_m4 109 rfl rfl, lt_m1 10 rfl rfl, ⟨by decide +kernel, by decide +kernel, by decide +kernel⟩, by decide⟩
theorem in_Au_statesMade : Cond.instanceMethod m_Au_statesMade.1 ∈ lt_T := lt_m4 107 rfl rfl
theorem se_Au_statesMade : Cond.selects "LinearSearch$Automaton" m_Au_statesMade.1 m_Au_statesMade.1 ∈ lt_T := lt_m4 108 rfl rfl
abbrev m_Si_find : lt_M := (⟨"LinearSearch$Single", "find", "(LLinearSearch$Program;LLinearSearch$Text;)J"⟩, prog_7_method_5_code, 4, (some .long))
theorem d_Si_find_0 : decode prog_7_method_5_code 0 = .ok (.aload_n 0, 1) := by decide +kernel
theorem d_Si_find_1 : decode prog_7_method_5_code 1 = .ok (.iconst 0, 1) := by decide +kernel
theorem d_Si_find_2 : decode prog_7_method_5_code 2 = .ok (.putfield 25, 3) := by decide +kernel
theorem d_Si_find_5 : decode prog_7_method_5_code 5 = .ok (.aload_n 0, 1) := by decide +kernel
theorem d_Si_find_6 : decode prog_7_method_5_code 6 = .ok (.lconst 0, 1) := by decide +kernel
theorem d_Si_find_7 : decode prog_7_method_5_code 7 = .ok (.putfield 66, 3) := by decide +kernel
theorem d_Si_find_10 : decode prog_7_method_5_code 10 = .ok (.aload_n 0, 1) := by decide +kernel
theorem d_Si_find_11 : decode prog_7_method_5_code 11 = .ok (.iconst 0, 1) := by decide +kernel
theorem d_Si_find_12 : decode prog_7_method_5_code 12 = .ok (.putfield 70, 3) := by decide +kernel
theorem d_Si_find_15 : decode prog_7_method_5_code 15 = .ok (.aload_n 0, 1) := by decide +kernel
theorem d_Si_find_16 : decode prog_7_method_5_code 16 = .ok (.iconst 0, 1) := by decide +kernel
theorem d_Si_find_17 : decode prog_7_method_5_code 17 = .ok (.invokestatic 73, 3) := by decide +kernel
theorem d_Si_find_20 : decode prog_7_method_5_code 20 = .ok (.putfield 77, 3) := by decide +kernel
theorem d_Si_find_23 : decode prog_7_method_5_code 23 = .ok (.iconst 0, 1) := by decide +kernel
theorem d_Si_find_24 : decode prog_7_method_5_code 24 = .ok (.istore_n 3, 1) := by decide +kernel
theorem d_Si_find_25 : decode prog_7_method_5_code 25 = .ok (.iload_n 3, 1) := by decide +kernel
theorem d_Si_find_26 : decode prog_7_method_5_code 26 = .ok (.aload_n 2, 1) := by decide +kernel
theorem d_Si_find_27 : decode prog_7_method_5_code 27 = .ok (.invokevirtual 80, 3) := by decide +kernel
theorem d_Si_find_30 : decode prog_7_method_5_code 30 = .ok (.if_icmp .gt 79, 3) := by decide +kernel
theorem d_Si_find_33 : decode prog_7_method_5_code 33 = .ok (.aload_n 0, 1) := by decide +kernel
theorem d_Si_find_34 : decode prog_7_method_5_code 34 = .ok (.getfield 12, 3) := by decide +kernel
theorem d_Si_find_37 : decode prog_7_method_5_code 37 = .ok (.aload_n 1, 1) := by decide +kernel
theorem d_Si_find_38 : decode prog_7_method_5_code 38 = .ok (.aload_n 0, 1) := by decide +kernel
theorem d_Si_find_39 : decode prog_7_method_5_code 39 = .ok (.getfield 21, 3) := by decide +kernel
theorem d_Si_find_42 : decode prog_7_method_5_code 42 = .ok (.iload_n 3, 1) := by decide +kernel
theorem d_Si_find_43 : decode prog_7_method_5_code 43 = .ok (.iload_n 3, 1) := by decide +kernel
theorem d_Si_find_44 : decode prog_7_method_5_code 44 = .ok (.aload_n 2, 1) := by decide +kernel
theorem d_Si_find_45 : decode prog_7_method_5_code 45 = .ok (.invokestatic 85, 3) := by decide +kernel
theorem d_Si_find_48 : decode prog_7_method_5_code 48 = .ok (.invokevirtual 47, 3) := by decide +kernel
theorem d_Si_find_51 : decode prog_7_method_5_code 51 = .ok (.aload_n 0, 1) := by decide +kernel
theorem d_Si_find_52 : decode prog_7_method_5_code 52 = .ok (.getfield 12, 3) := by decide +kernel
theorem d_Si_find_55 : decode prog_7_method_5_code 55 = .ok (.aload_n 0, 1) := by decide +kernel
theorem d_Si_find_56 : decode prog_7_method_5_code 56 = .ok (.getfield 70, 3) := by decide +kernel
theorem d_Si_find_59 : decode prog_7_method_5_code 59 = .ok (.aload_n 0, 1) := by decide +kernel
theorem d_Si_find_60 : decode prog_7_method_5_code 60 = .ok (.getfield 77, 3) := by decide +kernel
theorem d_Si_find_63 : decode prog_7_method_5_code 63 = .ok (.invokevirtual 51, 3) := by decide +kernel
theorem d_Si_find_66 : decode prog_7_method_5_code 66 = .ok (.aload_n 0, 1) := by decide +kernel
theorem d_Si_find_67 : decode prog_7_method_5_code 67 = .ok (.iconst (-1), 1) := by decide +kernel
theorem d_Si_find_68 : decode prog_7_method_5_code 68 = .ok (.putfield 70, 3) := by decide +kernel
theorem d_Si_find_71 : decode prog_7_method_5_code 71 = .ok (.aload_n 0, 1) := by decide +kernel
theorem d_Si_find_72 : decode prog_7_method_5_code 72 = .ok (.aload_n 1, 1) := by decide +kernel
theorem d_Si_find_73 : decode prog_7_method_5_code 73 = .ok (.aload_n 2, 1) := by decide +kernel
theorem d_Si_find_74 : decode prog_7_method_5_code 74 = .ok (.iload_n 3, 1) := by decide +kernel
theorem d_Si_find_75 : decode prog_7_method_5_code 75 = .ok (.invokevirtual 89, 3) := by decide +kernel
theorem d_Si_find_78 : decode prog_7_method_5_code 78 = .ok (.iload_n 3, 1) := by decide +kernel
theorem d_Si_find_79 : decode prog_7_method_5_code 79 = .ok (.invokevirtual 92, 3) := by decide +kernel
theorem d_Si_find_82 : decode prog_7_method_5_code 82 = .ok (.aload_n 0, 1) := by decide +kernel
theorem d_Si_find_83 : decode prog_7_method_5_code 83 = .ok (.getfield 70, 3) := by decide +kernel
theorem d_Si_find_86 : decode prog_7_method_5_code 86 = .ok (.iconst (-1), 1) := by decide +kernel
theorem d_Si_find_87 : decode prog_7_method_5_code 87 = .ok (.if_icmp .ne 6, 3) := by decide +kernel
theorem d_Si_find_90 : decode prog_7_method_5_code 90 = .ok (.goto 19, 3) := by decide +kernel
theorem d_Si_find_93 : decode prog_7_method_5_code 93 = .ok (.aload_n 0, 1) := by decide +kernel
theorem d_Si_find_94 : decode prog_7_method_5_code 94 = .ok (.dup, 1) := by decide +kernel
theorem d_Si_find_95 : decode prog_7_method_5_code 95 = .ok (.getfield 25, 3) := by decide +kernel
theorem d_Si_find_98 : decode prog_7_method_5_code 98 = .ok (.iconst 1, 1) := by decide +kernel
theorem d_Si_find_99 : decode prog_7_method_5_code 99 = .ok (.iadd, 1) := by decide +kernel
theorem d_Si_find_100 : decode prog_7_method_5_code 100 = .ok (.putfield 25, 3) := by decide +kernel
theorem d_Si_find_103 : decode prog_7_method_5_code 103 = .ok (.iinc 3 1, 3) := by decide +kernel
theorem d_Si_find_106 : decode prog_7_method_5_code 106 = .ok (.goto (-81), 3) := by decide +kernel
theorem d_Si_find_109 : decode prog_7_method_5_code 109 = .ok (.aload_n 0, 1) := by decide +kernel
theorem d_Si_find_110 : decode prog_7_method_5_code 110 = .ok (.getfield 66, 3) := by decide +kernel
theorem d_Si_find_113 : decode prog_7_method_5_code 113 = .ok (.lreturn, 1) := by decide +kernel
theorem M_Si_find : lt_M0 m_Si_find 2 := ⟨lt_m4 113 rfl rfl, lt_m1 8 rfl rfl, ⟨by decide +kernel, by decide +kernel, by decide +kernel⟩, by decide⟩
theorem in_Si_find : Cond.instanceMethod m_Si_find.1 ∈ lt_T := lt_m4 111 rfl rfl
theorem se_Si_find : Cond.selects "LinearSearch$Single" m_Si_find.1 m_Si_find.1 ∈ lt_T := lt_m4 112 rfl rfl
abbrev m_Si_goThrough : lt_M := (⟨"LinearSearch$Single", "goThrough", "(LLinearSearch$Program;II)V"⟩, prog_7_method_6_code, 6, none)
theorem d_Si_goThrough_0 : decode prog_7_method_6_code 0 = .ok (.iconst 0, 1) := by decide +kernel
theorem d_Si_goThrough_1 : decode prog_7_method_6_code 1 = .ok (.istore 4, 2) := by decide +kernel
theorem d_Si_goThrough_3 : decode prog_7_method_6_code 3 = .ok (.iload 4, 2) := by decide +kernel
theorem d_Si_goThrough_5 : decode prog_7_method_6_code 5 = .ok (.aload_n 0, 1) := by decide +kernel
theorem d_Si_goThrough_6 : decode prog_7_method_6_code 6 = .ok (.getfield 21, 3) := by decide +kernel
theorem d_Si_goThrough_9 : decode prog_7_method_6_code 9 = .ok (.invokevirtual 59, 3) := by decide +kernel
theorem d_Si_goThrough_12 : decode prog_7_method_6_code 12 = .ok (.if_icmp .ge 81, 3) := by decide +kernel
theorem d_Si_goThrough_15 : decode prog_7_method_6_code 15 = .ok (.aload_n 0, 1) := by decide +kernel
theorem d_Si_goThrough_16 : decode prog_7_method_6_code 16 = .ok (.getfield 21, 3) := by decide +kernel
theorem d_Si_goThrough_19 : decode prog_7_method_6_code 19 = .ok (.iload 4, 2) := by decide +kernel
theorem d_Si_goThrough_21 : decode prog_7_method_6_code 21 = .ok (.invokevirtual 60, 3) := by decide +kernel
theorem d_Si_goThrough_24 : decode prog_7_method_6_code 24 = .ok (.istore 5, 2) := by decide +kernel
theorem d_Si_goThrough_26 : decode prog_7_method_6_code 26 = .ok (.aload_n 1, 1) := by decide +kernel
theorem d_Si_goThrough_27 : decode prog_7_method_6_code 27 = .ok (.iload 5, 2) := by decide +kernel
theorem d_Si_goThrough_29 : decode prog_7_method_6_code 29 = .ok (.invokevirtual 29, 3) := by decide +kernel
theorem d_Si_goThrough_32 : decode prog_7_method_6_code 32 = .ok (.bipush 7, 2) := by decide +kernel
theorem d_Si_goThrough_34 : decode prog_7_method_6_code 34 = .ok (.if_icmp .ne 22, 3) := by decide +kernel
theorem d_Si_goThrough_37 : decode prog_7_method_6_code 37 = .ok (.aload_n 0, 1) := by decide +kernel
theorem d_Si_goThrough_38 : decode prog_7_method_6_code 38 = .ok (.aload_n 0, 1) := by decide +kernel
theorem d_Si_goThrough_39 : decode prog_7_method_6_code 39 = .ok (.getfield 21, 3) := by decide +kernel
theorem d_Si_goThrough_42 : decode prog_7_method_6_code 42 = .ok (.iload 4, 2) := by decide +kernel
theorem d_Si_goThrough_44 : decode prog_7_method_6_code 44 = .ok (.invokevirtual 96, 3) := by decide +kernel
theorem d_Si_goThrough_47 : decode prog_7_method_6_code 47 = .ok (.iconst 1, 1) := by decide +kernel
theorem d_Si_goThrough_48 : decode prog_7_method_6_code 48 = .ok (.iload_n 3, 1) := by decide +kernel
theorem d_Si_goThrough_49 : decode prog_7_method_6_code 49 = .ok (.invokestatic 99, 3) := by decide +kernel
theorem d_Si_goThrough_52 : decode prog_7_method_6_code 52 = .ok (.putfield 66, 3) := by decide +kernel
theorem d_Si_goThrough_55 : decode prog_7_method_6_code 55 = .ok (.return_, 1) := by decide +kernel
theorem d_Si_goThrough_56 : decode prog_7_method_6_code 56 = .ok (.aload_n 1, 1) := by decide +kernel
theorem d_Si_goThrough_57 : decode prog_7_method_6_code 57 = .ok (.iload 5, 2) := by decide +kernel
theorem d_Si_goThrough_59 : decode prog_7_method_6_code 59 = .ok (.iload_n 2, 1) := by decide +kernel
theorem d_Si_goThrough_60 : decode prog_7_method_6_code 60 = .ok (.invokevirtual 103, 3) := by decide +kernel
theorem d_Si_goThrough_63 : decode prog_7_method_6_code 63 = .ok (.ifCond .eq 24, 3) := by decide +kernel
theorem d_Si_goThrough_66 : decode prog_7_method_6_code 66 = .ok (.aload_n 0, 1) := by decide +kernel
theorem d_Si_goThrough_67 : decode prog_7_method_6_code 67 = .ok (.iload 5, 2) := by decide +kernel
theorem d_Si_goThrough_69 : decode prog_7_method_6_code 69 = .ok (.iconst 1, 1) := by decide +kernel
theorem d_Si_goThrough_70 : decode prog_7_method_6_code 70 = .ok (.iadd, 1) := by decide +kernel
theorem d_Si_goThrough_71 : decode prog_7_method_6_code 71 = .ok (.putfield 70, 3) := by decide +kernel
theorem d_Si_goThrough_74 : decode prog_7_method_6_code 74 = .ok (.aload_n 0, 1) := by decide +kernel
theorem d_Si_goThrough_75 : decode prog_7_method_6_code 75 = .ok (.aload_n 0, 1) := by decide +kernel
theorem d_Si_goThrough_76 : decode prog_7_method_6_code 76 = .ok (.getfield 21, 3) := by decide +kernel
theorem d_Si_goThrough_79 : decode prog_7_method_6_code 79 = .ok (.iload 4, 2) := by decide +kernel
theorem d_Si_goThrough_81 : decode prog_7_method_6_code 81 = .ok (.invokevirtual 96, 3) := by decide +kernel
theorem d_Si_goThrough_84 : decode prog_7_method_6_code 84 = .ok (.putfield 77, 3) := by decide +kernel
theorem d_Si_goThrough_87 : decode prog_7_method_6_code 87 = .ok (.iinc 4 1, 3) := by decide +kernel
theorem d_Si_goThrough_90 : decode prog_7_method_6_code 90 = .ok (.goto (-87), 3) := by decide +kernel
theorem d_Si_goThrough_93 : decode prog_7_method_6_code 93 = .ok (.return_, 1) := by decide +kernel
theorem M_Si_goThrough : lt_M0 m_Si_goThrough 3 := ⟨lt_m4 121 rfl rfl, lt_m1 8 rfl rfl, ⟨by decide +kernel, by decide +kernel, by decide +kernel⟩, by decide⟩
theorem in_Si_goThrough : Cond.instanceMethod m_Si_goThrough.1 ∈ lt_T := lt_m4 120 rfl rfl
theorem se_Si_goThrough : Cond.selects "LinearSearch$Single" m_Si_goThrough.1 m_Si_goThrough.1 ∈ lt_T := lt_memS 28 rfl rfl
abbrev m_Si_lettersPassed : lt_M := (⟨"LinearSearch$Single", "lettersPassed", "()I"⟩, prog_7_method_2_code, 1, (some .int))
theorem d_Si_lettersPassed_0 : decode prog_7_method_2_code 0 = .ok (.aload_n 0, 1) := by decide +kernel
theorem d_Si_lettersPassed_1 : decode prog_7_method_2_code 1 = .ok (.getfield 25, 3) := by decide +kernel
theorem d_Si_lettersPassed_4 : decode prog_7_method_2_code 4 = .ok (.ireturn, 1) := by decide +kernel
theorem M_Si_lettersPassed : lt_M0 m_Si_lettersPassed 0 := ⟨lt_m4 128 rfl rfl, lt_m1 8 rfl rfl, ⟨by decide +kernel, by decide +kernel, by decide +kernel⟩, by decide⟩
theorem in_Si_lettersPassed : Cond.instanceMethod m_Si_lettersPassed.1 ∈ lt_T := lt_m4 126 rfl rfl
theorem se_Si_lettersPassed : Cond.selects "LinearSearch$Single" m_Si_lettersPassed.1 m_Si_lettersPassed.1 ∈ lt_T := lt_m4 127 rfl rfl
