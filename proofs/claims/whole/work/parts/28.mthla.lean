/-! THE LAW: names, decode rows, words -/
abbrev m_La_cell : lt_M := (⟨"LinearSearchLaw", "cell", "([II)I"⟩, method_2_code, 2, (some .int))
theorem d_La_cell_0 : decode method_2_code 0 = .ok (.iload_n 1, 1) := by decide +kernel
theorem d_La_cell_1 : decode method_2_code 1 = .ok (.aload_n 0, 1) := by decide +kernel
theorem d_La_cell_2 : decode method_2_code 2 = .ok (.arraylength, 1) := by decide +kernel
theorem d_La_cell_3 : decode method_2_code 3 = .ok (.if_icmp .ge 9, 3) := by decide +kernel
theorem d_La_cell_6 : decode method_2_code 6 = .ok (.aload_n 0, 1) := by decide +kernel
theorem d_La_cell_7 : decode method_2_code 7 = .ok (.iload_n 1, 1) := by decide +kernel
theorem d_La_cell_8 : decode method_2_code 8 = .ok (.iaload, 1) := by decide +kernel
theorem d_La_cell_9 : decode method_2_code 9 = .ok (.goto 4, 3) := by decide +kernel
theorem d_La_cell_12 : decode method_2_code 12 = .ok (.iconst 0, 1) := by decide +kernel
theorem d_La_cell_13 : decode method_2_code 13 = .ok (.ireturn, 1) := by decide +kernel
theorem M_La_cell : lt_M0 m_La_cell 2 := ⟨lt_m2 139 rfl rfl, lt_m1 0 rfl rfl, ⟨by decide +kernel, by decide +kernel, by decide +kernel⟩, by decide⟩
theorem st_La_cell : Cond.static m_La_cell.1 ∈ lt_T := lt_m2 138 rfl rfl
abbrev m_La_compile : lt_M := (⟨"LinearSearchLaw", "compile", "(LLinearSearch;[J)I"⟩, method_3_code, 3, (some .int))
theorem d_La_compile_0 : decode method_3_code 0 = .ok (.aload_n 1, 1) := by decide +kernel
theorem d_La_compile_1 : decode method_3_code 1 = .ok (.iconst 0, 1) := by decide +kernel
theorem d_La_compile_2 : decode method_3_code 2 = .ok (.aload_n 0, 1) := by decide +kernel
theorem d_La_compile_3 : decode method_3_code 3 = .ok (.invokevirtual 7, 3) := by decide +kernel
theorem d_La_compile_6 : decode method_3_code 6 = .ok (.i2l, 1) := by decide +kernel
theorem d_La_compile_7 : decode method_3_code 7 = .ok (.lastore, 1) := by decide +kernel
theorem d_La_compile_8 : decode method_3_code 8 = .ok (.goto 6, 3) := by decide +kernel
theorem d_La_compile_11 : decode method_3_code 11 = .ok (.astore_n 2, 1) := by decide +kernel
theorem d_La_compile_12 : decode method_3_code 12 = .ok (.iconst 1, 1) := by decide +kernel
theorem d_La_compile_13 : decode method_3_code 13 = .ok (.ireturn, 1) := by decide +kernel
theorem d_La_compile_14 : decode method_3_code 14 = .ok (.iconst 0, 1) := by decide +kernel
theorem d_La_compile_15 : decode method_3_code 15 = .ok (.ireturn, 1) := by decide +kernel
abbrev hh_La_compile : List (Nat × Nat × Nat × Nat) := [(0, 8, 11, 13)]
theorem cw_La_compile : Cond.codeWith m_La_compile.1 m_La_compile.2.1 m_La_compile.2.2.1 m_La_compile.2.2.2 hh_La_compile ∈ lt_T := lt_m2 142 rfl rfl
theorem M_La_compile : lt_MW m_La_compile hh_La_compile 2 := ⟨cw_La_compile, lt_m1 0 rfl rfl, ⟨by decide +kernel, by decide +kernel, by decide +kernel⟩, by decide⟩
theorem st_La_compile : Cond.static m_La_compile.1 ∈ lt_T := lt_m2 141 rfl rfl
abbrev m_La_instruction : lt_M := (⟨"LinearSearchLaw", "instruction", "(LLinearSearch;II[J)I"⟩, method_4_code, 5, (some .int))
theorem d_La_instruction_0 : decode method_4_code 0 = .ok (.aload_n 3, 1) := by decide +kernel
theorem d_La_instruction_1 : decode method_4_code 1 = .ok (.iconst 0, 1) := by decide +kernel
theorem d_La_instruction_2 : decode method_4_code 2 = .ok (.aload_n 0, 1) := by decide +kernel
theorem d_La_instruction_3 : decode method_4_code 3 = .ok (.iload_n 1, 1) := by decide +kernel
theorem d_La_instruction_4 : decode method_4_code 4 = .ok (.iload_n 2, 1) := by decide +kernel
theorem d_La_instruction_5 : decode method_4_code 5 = .ok (.invokevirtual 15, 3) := by decide +kernel
theorem d_La_instruction_8 : decode method_4_code 8 = .ok (.i2l, 1) := by decide +kernel
theorem d_La_instruction_9 : decode method_4_code 9 = .ok (.lastore, 1) := by decide +kernel
theorem d_La_instruction_10 : decode method_4_code 10 = .ok (.goto 11, 3) := by decide +kernel
theorem d_La_instruction_13 : decode method_4_code 13 = .ok (.astore 4, 2) := by decide +kernel
theorem d_La_instruction_15 : decode method_4_code 15 = .ok (.iconst 1, 1) := by decide +kernel
theorem d_La_instruction_16 : decode method_4_code 16 = .ok (.ireturn, 1) := by decide +kernel
theorem d_La_instruction_17 : decode method_4_code 17 = .ok (.astore 4, 2) := by decide +kernel
theorem d_La_instruction_19 : decode method_4_code 19 = .ok (.iconst 2, 1) := by decide +kernel
theorem d_La_instruction_20 : decode method_4_code 20 = .ok (.ireturn, 1) := by decide +kernel
theorem d_La_instruction_21 : decode method_4_code 21 = .ok (.iconst 0, 1) := by decide +kernel
theorem d_La_instruction_22 : decode method_4_code 22 = .ok (.ireturn, 1) := by decide +kernel
abbrev hh_La_instruction : List (Nat × Nat × Nat × Nat) := [(0, 10, 13, 19), (0, 10, 17, 13)]
theorem cw_La_instruction : Cond.codeWith m_La_instruction.1 m_La_instruction.2.1 m_La_instruction.2.2.1 m_La_instruction.2.2.2 hh_La_instruction ∈ lt_T := lt_m3 114 rfl rfl
theorem M_La_instruction : lt_MW m_La_instruction hh_La_instruction 4 := ⟨cw_La_instruction, lt_m1 0 rfl rfl, ⟨by decide +kernel, by decide +kernel, by decide +kernel⟩, by decide⟩
theorem st_La_instruction : Cond.static m_La_instruction.1 ∈ lt_T := lt_m3 113 rfl rfl
abbrev m_La_simple : lt_M := (⟨"LinearSearchLaw", "simple", "(LLinearSearch;[J)I"⟩, method_5_code, 3, (some .int))
theorem d_La_simple_0 : decode method_5_code 0 = .ok (.aload_n 1, 1) := by decide +kernel
theorem d_La_simple_1 : decode method_5_code 1 = .ok (.iconst 0, 1) := by decide +kernel
theorem d_La_simple_2 : decode method_5_code 2 = .ok (.aload_n 0, 1) := by decide +kernel
theorem d_La_simple_3 : decode method_5_code 3 = .ok (.invokevirtual 21, 3) := by decide +kernel
theorem d_La_simple_6 : decode method_5_code 6 = .ok (.ifCond .eq 7, 3) := by decide +kernel
theorem d_La_simple_9 : decode method_5_code 9 = .ok (.lconst 1, 1) := by decide +kernel
theorem d_La_simple_10 : decode method_5_code 10 = .ok (.goto 4, 3) := by decide +kernel
theorem d_La_simple_13 : decode method_5_code 13 = .ok (.lconst 0, 1) := by decide +kernel
theorem d_La_simple_14 : decode method_5_code 14 = .ok (.lastore, 1) := by decide +kernel
theorem d_La_simple_15 : decode method_5_code 15 = .ok (.goto 6, 3) := by decide +kernel
theorem d_La_simple_18 : decode method_5_code 18 = .ok (.astore_n 2, 1) := by decide +kernel
theorem d_La_simple_19 : decode method_5_code 19 = .ok (.iconst 1, 1) := by decide +kernel
theorem d_La_simple_20 : decode method_5_code 20 = .ok (.ireturn, 1) := by decide +kernel
theorem d_La_simple_21 : decode method_5_code 21 = .ok (.iconst 0, 1) := by decide +kernel
theorem d_La_simple_22 : decode method_5_code 22 = .ok (.ireturn, 1) := by decide +kernel
abbrev hh_La_simple : List (Nat × Nat × Nat × Nat) := [(0, 15, 18, 25)]
theorem cw_La_simple : Cond.codeWith m_La_simple.1 m_La_simple.2.1 m_La_simple.2.2.1 m_La_simple.2.2.2 hh_La_simple ∈ lt_T := lt_m3 142 rfl rfl
theorem M_La_simple : lt_MW m_La_simple hh_La_simple 2 := ⟨cw_La_simple, lt_m1 0 rfl rfl, ⟨by decide +kernel, by decide +kernel, by decide +kernel⟩, by decide⟩
theorem st_La_simple : Cond.static m_La_simple.1 ∈ lt_T := lt_m3 141 rfl rfl
abbrev m_La_search : lt_M := (⟨"LinearSearchLaw", "search", "(LLinearSearch;I[J)I"⟩, method_6_code, 4, (some .int))
theorem d_La_search_0 : decode method_6_code 0 = .ok (.aload_n 2, 1) := by decide +kernel
theorem d_La_search_1 : decode method_6_code 1 = .ok (.iconst 0, 1) := by decide +kernel
theorem d_La_search_2 : decode method_6_code 2 = .ok (.aload_n 0, 1) := by decide +kernel
theorem d_La_search_3 : decode method_6_code 3 = .ok (.iload_n 1, 1) := by decide +kernel
theorem d_La_search_4 : decode method_6_code 4 = .ok (.invokevirtual 27, 3) := by decide +kernel
theorem d_La_search_7 : decode method_6_code 7 = .ok (.i2l, 1) := by decide +kernel
theorem d_La_search_8 : decode method_6_code 8 = .ok (.lastore, 1) := by decide +kernel
theorem d_La_search_9 : decode method_6_code 9 = .ok (.goto 9, 3) := by decide +kernel
theorem d_La_search_12 : decode method_6_code 12 = .ok (.astore_n 3, 1) := by decide +kernel
theorem d_La_search_13 : decode method_6_code 13 = .ok (.iconst 1, 1) := by decide +kernel
theorem d_La_search_14 : decode method_6_code 14 = .ok (.ireturn, 1) := by decide +kernel
theorem d_La_search_15 : decode method_6_code 15 = .ok (.astore_n 3, 1) := by decide +kernel
theorem d_La_search_16 : decode method_6_code 16 = .ok (.iconst 2, 1) := by decide +kernel
theorem d_La_search_17 : decode method_6_code 17 = .ok (.ireturn, 1) := by decide +kernel
theorem d_La_search_18 : decode method_6_code 18 = .ok (.iconst 0, 1) := by decide +kernel
theorem d_La_search_19 : decode method_6_code 19 = .ok (.ireturn, 1) := by decide +kernel
abbrev hh_La_search : List (Nat × Nat × Nat × Nat) := [(0, 9, 12, 13), (0, 9, 15, 25)]
theorem cw_La_search : Cond.codeWith m_La_search.1 m_La_search.2.1 m_La_search.2.2.1 m_La_search.2.2.2 hh_La_search ∈ lt_T := lt_m3 166 rfl rfl
theorem M_La_search : lt_MW m_La_search hh_La_search 3 := ⟨cw_La_search, lt_m1 0 rfl rfl, ⟨by decide +kernel, by decide +kernel, by decide +kernel⟩, by decide⟩
theorem st_La_search : Cond.static m_La_search.1 ∈ lt_T := lt_m3 165 rfl rfl
abbrev m_La_slot : lt_M := (⟨"LinearSearchLaw", "slot", "(LLinearSearch;IZ[J)I"⟩, method_7_code, 5, (some .int))
theorem d_La_slot_0 : decode method_7_code 0 = .ok (.aload_n 3, 1) := by decide +kernel
theorem d_La_slot_1 : decode method_7_code 1 = .ok (.iconst 0, 1) := by decide +kernel
theorem d_La_slot_2 : decode method_7_code 2 = .ok (.aload_n 0, 1) := by decide +kernel
theorem d_La_slot_3 : decode method_7_code 3 = .ok (.iload_n 1, 1) := by decide +kernel
theorem d_La_slot_4 : decode method_7_code 4 = .ok (.iload_n 2, 1) := by decide +kernel
theorem d_La_slot_5 : decode method_7_code 5 = .ok (.invokevirtual 31, 3) := by decide +kernel
theorem d_La_slot_8 : decode method_7_code 8 = .ok (.i2l, 1) := by decide +kernel
theorem d_La_slot_9 : decode method_7_code 9 = .ok (.lastore, 1) := by decide +kernel
theorem d_La_slot_10 : decode method_7_code 10 = .ok (.goto 7, 3) := by decide +kernel
theorem d_La_slot_13 : decode method_7_code 13 = .ok (.astore 4, 2) := by decide +kernel
theorem d_La_slot_15 : decode method_7_code 15 = .ok (.iconst 1, 1) := by decide +kernel
theorem d_La_slot_16 : decode method_7_code 16 = .ok (.ireturn, 1) := by decide +kernel
theorem d_La_slot_17 : decode method_7_code 17 = .ok (.iconst 0, 1) := by decide +kernel
theorem d_La_slot_18 : decode method_7_code 18 = .ok (.ireturn, 1) := by decide +kernel
abbrev hh_La_slot : List (Nat × Nat × Nat × Nat) := [(0, 10, 13, 19)]
theorem cw_La_slot : Cond.codeWith m_La_slot.1 m_La_slot.2.1 m_La_slot.2.2.1 m_La_slot.2.2.2 hh_La_slot ∈ lt_T := lt_m4 131 rfl rfl
theorem M_La_slot : lt_MW m_La_slot hh_La_slot 4 := ⟨cw_La_slot, lt_m1 0 rfl rfl, ⟨by decide +kernel, by decide +kernel, by decide +kernel⟩, by decide⟩
theorem st_La_slot : Cond.static m_La_slot.1 ∈ lt_T := lt_m4 130 rfl rfl
abbrev m_La_breaks : lt_M := (⟨"LinearSearchLaw", "breaks", "(LLinearSearch;[J)I"⟩, method_8_code, 3, (some .int))
theorem d_La_breaks_0 : decode method_8_code 0 = .ok (.aload_n 1, 1) := by decide +kernel
theorem d_La_breaks_1 : decode method_8_code 1 = .ok (.iconst 0, 1) := by decide +kernel
theorem d_La_breaks_2 : decode method_8_code 2 = .ok (.aload_n 0, 1) := by decide +kernel
theorem d_La_breaks_3 : decode method_8_code 3 = .ok (.invokevirtual 35, 3) := by decide +kernel
theorem d_La_breaks_6 : decode method_8_code 6 = .ok (.i2l, 1) := by decide +kernel
theorem d_La_breaks_7 : decode method_8_code 7 = .ok (.lastore, 1) := by decide +kernel
theorem d_La_breaks_8 : decode method_8_code 8 = .ok (.goto 6, 3) := by decide +kernel
theorem d_La_breaks_11 : decode method_8_code 11 = .ok (.astore_n 2, 1) := by decide +kernel
theorem d_La_breaks_12 : decode method_8_code 12 = .ok (.iconst 1, 1) := by decide +kernel
theorem d_La_breaks_13 : decode method_8_code 13 = .ok (.ireturn, 1) := by decide +kernel
theorem d_La_breaks_14 : decode method_8_code 14 = .ok (.iconst 0, 1) := by decide +kernel
theorem d_La_breaks_15 : decode method_8_code 15 = .ok (.ireturn, 1) := by decide +kernel
abbrev hh_La_breaks : List (Nat × Nat × Nat × Nat) := [(0, 8, 11, 25)]
theorem cw_La_breaks : Cond.codeWith m_La_breaks.1 m_La_breaks.2.1 m_La_breaks.2.2.1 m_La_breaks.2.2.2 hh_La_breaks ∈ lt_T := lt_m4 139 rfl rfl
theorem M_La_breaks : lt_MW m_La_breaks hh_La_breaks 2 := ⟨cw_La_breaks, lt_m1 0 rfl rfl, ⟨by decide +kernel, by decide +kernel, by decide +kernel⟩, by decide⟩
theorem st_La_breaks : Cond.static m_La_breaks.1 ∈ lt_T := lt_m4 138 rfl rfl
abbrev m_La_law : lt_M := (x, code, 7, ret)
theorem d_La_law_0 : decode code 0 = .ok (.new 8, 3) := by decide +kernel
theorem d_La_law_3 : decode code 3 = .ok (.dup, 1) := by decide +kernel
theorem d_La_law_4 : decode code 4 = .ok (.aload_n 0, 1) := by decide +kernel
theorem d_La_law_5 : decode code 5 = .ok (.iconst 0, 1) := by decide +kernel
theorem d_La_law_6 : decode code 6 = .ok (.invokestatic 38, 3) := by decide +kernel
theorem d_La_law_9 : decode code 9 = .ok (.invokespecial 44, 3) := by decide +kernel
theorem d_La_law_12 : decode code 12 = .ok (.astore_n 1, 1) := by decide +kernel
theorem d_La_law_13 : decode code 13 = .ok (.new 47, 3) := by decide +kernel
theorem d_La_law_16 : decode code 16 = .ok (.dup, 1) := by decide +kernel
theorem d_La_law_17 : decode code 17 = .ok (.aload_n 0, 1) := by decide +kernel
theorem d_La_law_18 : decode code 18 = .ok (.iconst 0, 1) := by decide +kernel
theorem d_La_law_19 : decode code 19 = .ok (.invokestatic 38, 3) := by decide +kernel
theorem d_La_law_22 : decode code 22 = .ok (.invokespecial 49, 3) := by decide +kernel
theorem d_La_law_25 : decode code 25 = .ok (.astore_n 2, 1) := by decide +kernel
theorem d_La_law_26 : decode code 26 = .ok (.iconst 1, 1) := by decide +kernel
theorem d_La_law_27 : decode code 27 = .ok (.newarray .long, 2) := by decide +kernel
theorem d_La_law_29 : decode code 29 = .ok (.astore_n 3, 1) := by decide +kernel
theorem d_La_law_30 : decode code 30 = .ok (.iconst 1, 1) := by decide +kernel
theorem d_La_law_31 : decode code 31 = .ok (.istore 4, 2) := by decide +kernel
theorem d_La_law_33 : decode code 33 = .ok (.iload 4, 2) := by decide +kernel
theorem d_La_law_35 : decode code 35 = .ok (.aload_n 0, 1) := by decide +kernel
theorem d_La_law_36 : decode code 36 = .ok (.arraylength, 1) := by decide +kernel
theorem d_La_law_37 : decode code 37 = .ok (.iconst 3, 1) := by decide +kernel
theorem d_La_law_38 : decode code 38 = .ok (.isub, 1) := by decide +kernel
theorem d_La_law_39 : decode code 39 = .ok (.if_icmp .gt 562, 3) := by decide +kernel
theorem d_La_law_42 : decode code 42 = .ok (.aload_n 0, 1) := by decide +kernel
theorem d_La_law_43 : decode code 43 = .ok (.iload 4, 2) := by decide +kernel
theorem d_La_law_45 : decode code 45 = .ok (.iaload, 1) := by decide +kernel
theorem d_La_law_46 : decode code 46 = .ok (.bipush 15, 2) := by decide +kernel
theorem d_La_law_48 : decode code 48 = .ok (.iand, 1) := by decide +kernel
theorem d_La_law_49 : decode code 49 = .ok (.tableswitch 546 0 13 #[71, 98, 109, 153, 221, 272, 299, 310, 366, 450, 463, 476, 489, 502], 71) := by decide +kernel
theorem d_La_law_120 : decode code 120 = .ok (.aload_n 1, 1) := by decide +kernel
theorem d_La_law_121 : decode code 121 = .ok (.aload_n 0, 1) := by decide +kernel
theorem d_La_law_122 : decode code 122 = .ok (.iload 4, 2) := by decide +kernel
theorem d_La_law_124 : decode code 124 = .ok (.iconst 1, 1) := by decide +kernel
theorem d_La_law_125 : decode code 125 = .ok (.iadd, 1) := by decide +kernel
theorem d_La_law_126 : decode code 126 = .ok (.iaload, 1) := by decide +kernel
theorem d_La_law_127 : decode code 127 = .ok (.i2c, 1) := by decide +kernel
theorem d_La_law_128 : decode code 128 = .ok (.invokevirtual 50, 3) := by decide +kernel
theorem d_La_law_131 : decode code 131 = .ok (.aload_n 2, 1) := by decide +kernel
theorem d_La_law_132 : decode code 132 = .ok (.aload_n 0, 1) := by decide +kernel
theorem d_La_law_133 : decode code 133 = .ok (.iload 4, 2) := by decide +kernel
theorem d_La_law_135 : decode code 135 = .ok (.iconst 1, 1) := by decide +kernel
theorem d_La_law_136 : decode code 136 = .ok (.iadd, 1) := by decide +kernel
theorem d_La_law_137 : decode code 137 = .ok (.iaload, 1) := by decide +kernel
theorem d_La_law_138 : decode code 138 = .ok (.i2c, 1) := by decide +kernel
theorem d_La_law_139 : decode code 139 = .ok (.invokevirtual 54, 3) := by decide +kernel
theorem d_La_law_142 : decode code 142 = .ok (.if_icmp .eq 453, 3) := by decide +kernel
theorem d_La_law_145 : decode code 145 = .ok (.iconst 0, 1) := by decide +kernel
theorem d_La_law_146 : decode code 146 = .ok (.ireturn, 1) := by decide +kernel
theorem d_La_law_147 : decode code 147 = .ok (.aload_n 1, 1) := by decide +kernel
theorem d_La_law_148 : decode code 148 = .ok (.invokevirtual 55, 3) := by decide +kernel
theorem d_La_law_151 : decode code 151 = .ok (.aload_n 2, 1) := by decide +kernel
theorem d_La_law_152 : decode code 152 = .ok (.invokevirtual 58, 3) := by decide +kernel
theorem d_La_law_155 : decode code 155 = .ok (.goto 440, 3) := by decide +kernel
theorem d_La_law_158 : decode code 158 = .ok (.aload_n 1, 1) := by decide +kernel
theorem d_La_law_159 : decode code 159 = .ok (.aload_n 3, 1) := by decide +kernel
theorem d_La_law_160 : decode code 160 = .ok (.invokestatic 59, 3) := by decide +kernel
theorem d_La_law_163 : decode code 163 = .ok (.istore 5, 2) := by decide +kernel
theorem d_La_law_165 : decode code 165 = .ok (.aload_n 2, 1) := by decide +kernel
theorem d_La_law_166 : decode code 166 = .ok (.invokevirtual 62, 3) := by decide +kernel
theorem d_La_law_169 : decode code 169 = .ok (.istore 6, 2) := by decide +kernel
theorem d_La_law_171 : decode code 171 = .ok (.aload_n 2, 1) := by decide +kernel
theorem d_La_law_172 : decode code 172 = .ok (.invokevirtual 63, 3) := by decide +kernel
theorem d_La_law_175 : decode code 175 = .ok (.iload 5, 2) := by decide +kernel
theorem d_La_law_177 : decode code 177 = .ok (.if_icmp .eq 5, 3) := by decide +kernel
theorem d_La_law_180 : decode code 180 = .ok (.iconst 0, 1) := by decide +kernel
theorem d_La_law_181 : decode code 181 = .ok (.ireturn, 1) := by decide +kernel
theorem d_La_law_182 : decode code 182 = .ok (.iload 5, 2) := by decide +kernel
theorem d_La_law_184 : decode code 184 = .ok (.ifCond .ne 15, 3) := by decide +kernel
theorem d_La_law_187 : decode code 187 = .ok (.aload_n 3, 1) := by decide +kernel
theorem d_La_law_188 : decode code 188 = .ok (.iconst 0, 1) := by decide +kernel
theorem d_La_law_189 : decode code 189 = .ok (.laload, 1) := by decide +kernel
theorem d_La_law_190 : decode code 190 = .ok (.iload 6, 2) := by decide +kernel
theorem d_La_law_192 : decode code 192 = .ok (.i2l, 1) := by decide +kernel
theorem d_La_law_193 : decode code 193 = .ok (.lcmp, 1) := by decide +kernel
theorem d_La_law_194 : decode code 194 = .ok (.ifCond .eq 5, 3) := by decide +kernel
theorem d_La_law_197 : decode code 197 = .ok (.iconst 0, 1) := by decide +kernel
theorem d_La_law_198 : decode code 198 = .ok (.ireturn, 1) := by decide +kernel
theorem d_La_law_199 : decode code 199 = .ok (.goto 396, 3) := by decide +kernel
theorem d_La_law_202 : decode code 202 = .ok (.aload_n 1, 1) := by decide +kernel
theorem d_La_law_203 : decode code 203 = .ok (.aload_n 0, 1) := by decide +kernel
theorem d_La_law_204 : decode code 204 = .ok (.iload 4, 2) := by decide +kernel
theorem d_La_law_206 : decode code 206 = .ok (.iconst 1, 1) := by decide +kernel
theorem d_La_law_207 : decode code 207 = .ok (.iadd, 1) := by decide +kernel
theorem d_La_law_208 : decode code 208 = .ok (.iaload, 1) := by decide +kernel
theorem d_La_law_209 : decode code 209 = .ok (.aload_n 0, 1) := by decide +kernel
theorem d_La_law_210 : decode code 210 = .ok (.iload 4, 2) := by decide +kernel
theorem d_La_law_212 : decode code 212 = .ok (.iconst 2, 1) := by decide +kernel
theorem d_La_law_213 : decode code 213 = .ok (.iadd, 1) := by decide +kernel
theorem d_La_law_214 : decode code 214 = .ok (.iaload, 1) := by decide +kernel
theorem d_La_law_215 : decode code 215 = .ok (.aload_n 3, 1) := by decide +kernel
theorem d_La_law_216 : decode code 216 = .ok (.invokestatic 66, 3) := by decide +kernel
theorem d_La_law_219 : decode code 219 = .ok (.istore 5, 2) := by decide +kernel
theorem d_La_law_221 : decode code 221 = .ok (.aload_n 2, 1) := by decide +kernel
theorem d_La_law_222 : decode code 222 = .ok (.aload_n 0, 1) := by decide +kernel
theorem d_La_law_223 : decode code 223 = .ok (.iload 4, 2) := by decide +kernel
theorem d_La_law_225 : decode code 225 = .ok (.iconst 1, 1) := by decide +kernel
theorem d_La_law_226 : decode code 226 = .ok (.iadd, 1) := by decide +kernel
theorem d_La_law_227 : decode code 227 = .ok (.iaload, 1) := by decide +kernel
theorem d_La_law_228 : decode code 228 = .ok (.aload_n 0, 1) := by decide +kernel
theorem d_La_law_229 : decode code 229 = .ok (.iload 4, 2) := by decide +kernel
theorem d_La_law_231 : decode code 231 = .ok (.iconst 2, 1) := by decide +kernel
theorem d_La_law_232 : decode code 232 = .ok (.iadd, 1) := by decide +kernel
theorem d_La_law_233 : decode code 233 = .ok (.iaload, 1) := by decide +kernel
theorem d_La_law_234 : decode code 234 = .ok (.invokevirtual 69, 3) := by decide +kernel
theorem d_La_law_237 : decode code 237 = .ok (.istore 6, 2) := by decide +kernel
theorem d_La_law_239 : decode code 239 = .ok (.aload_n 2, 1) := by decide +kernel
theorem d_La_law_240 : decode code 240 = .ok (.invokevirtual 63, 3) := by decide +kernel
theorem d_La_law_243 : decode code 243 = .ok (.iload 5, 2) := by decide +kernel
theorem d_La_law_245 : decode code 245 = .ok (.if_icmp .eq 5, 3) := by decide +kernel
theorem d_La_law_248 : decode code 248 = .ok (.iconst 0, 1) := by decide +kernel
theorem d_La_law_249 : decode code 249 = .ok (.ireturn, 1) := by decide +kernel
theorem d_La_law_250 : decode code 250 = .ok (.iload 5, 2) := by decide +kernel
theorem d_La_law_252 : decode code 252 = .ok (.ifCond .ne 15, 3) := by decide +kernel
theorem d_La_law_255 : decode code 255 = .ok (.aload_n 3, 1) := by decide +kernel
theorem d_La_law_256 : decode code 256 = .ok (.iconst 0, 1) := by decide +kernel
theorem d_La_law_257 : decode code 257 = .ok (.laload, 1) := by decide +kernel
theorem d_La_law_258 : decode code 258 = .ok (.iload 6, 2) := by decide +kernel
theorem d_La_law_260 : decode code 260 = .ok (.i2l, 1) := by decide +kernel
theorem d_La_law_261 : decode code 261 = .ok (.lcmp, 1) := by decide +kernel
theorem d_La_law_262 : decode code 262 = .ok (.ifCond .eq 5, 3) := by decide +kernel
theorem d_La_law_265 : decode code 265 = .ok (.iconst 0, 1) := by decide +kernel
theorem d_La_law_266 : decode code 266 = .ok (.ireturn, 1) := by decide +kernel
theorem d_La_law_267 : decode code 267 = .ok (.goto 328, 3) := by decide +kernel
theorem d_La_law_270 : decode code 270 = .ok (.aload_n 1, 1) := by decide +kernel
theorem d_La_law_271 : decode code 271 = .ok (.aload_n 3, 1) := by decide +kernel
theorem d_La_law_272 : decode code 272 = .ok (.invokestatic 70, 3) := by decide +kernel
theorem d_La_law_275 : decode code 275 = .ok (.istore 5, 2) := by decide +kernel
theorem d_La_law_277 : decode code 277 = .ok (.aload_n 2, 1) := by decide +kernel
theorem d_La_law_278 : decode code 278 = .ok (.invokevirtual 72, 3) := by decide +kernel
theorem d_La_law_281 : decode code 281 = .ok (.istore 6, 2) := by decide +kernel
theorem d_La_law_283 : decode code 283 = .ok (.aload_n 2, 1) := by decide +kernel
theorem d_La_law_284 : decode code 284 = .ok (.invokevirtual 63, 3) := by decide +kernel
theorem d_La_law_287 : decode code 287 = .ok (.iload 5, 2) := by decide +kernel
theorem d_La_law_289 : decode code 289 = .ok (.if_icmp .eq 5, 3) := by decide +kernel
theorem d_La_law_292 : decode code 292 = .ok (.iconst 0, 1) := by decide +kernel
theorem d_La_law_293 : decode code 293 = .ok (.ireturn, 1) := by decide +kernel
theorem d_La_law_294 : decode code 294 = .ok (.iload 5, 2) := by decide +kernel
theorem d_La_law_296 : decode code 296 = .ok (.ifCond .ne 22, 3) := by decide +kernel
theorem d_La_law_299 : decode code 299 = .ok (.aload_n 3, 1) := by decide +kernel
theorem d_La_law_300 : decode code 300 = .ok (.iconst 0, 1) := by decide +kernel
theorem d_La_law_301 : decode code 301 = .ok (.laload, 1) := by decide +kernel
theorem d_La_law_302 : decode code 302 = .ok (.iload 6, 2) := by decide +kernel
theorem d_La_law_304 : decode code 304 = .ok (.ifCond .eq 7, 3) := by decide +kernel
theorem d_La_law_307 : decode code 307 = .ok (.lconst 1, 1) := by decide +kernel
theorem d_La_law_308 : decode code 308 = .ok (.goto 4, 3) := by decide +kernel
theorem d_La_law_311 : decode code 311 = .ok (.lconst 0, 1) := by decide +kernel
theorem d_La_law_312 : decode code 312 = .ok (.lcmp, 1) := by decide +kernel
theorem d_La_law_313 : decode code 313 = .ok (.ifCond .eq 5, 3) := by decide +kernel
theorem d_La_law_316 : decode code 316 = .ok (.iconst 0, 1) := by decide +kernel
theorem d_La_law_317 : decode code 317 = .ok (.ireturn, 1) := by decide +kernel
theorem d_La_law_318 : decode code 318 = .ok (.goto 277, 3) := by decide +kernel
theorem d_La_law_321 : decode code 321 = .ok (.aload_n 1, 1) := by decide +kernel
theorem d_La_law_322 : decode code 322 = .ok (.aload_n 0, 1) := by decide +kernel
theorem d_La_law_323 : decode code 323 = .ok (.iload 4, 2) := by decide +kernel
theorem d_La_law_325 : decode code 325 = .ok (.iconst 1, 1) := by decide +kernel
theorem d_La_law_326 : decode code 326 = .ok (.iadd, 1) := by decide +kernel
theorem d_La_law_327 : decode code 327 = .ok (.iaload, 1) := by decide +kernel
theorem d_La_law_328 : decode code 328 = .ok (.i2c, 1) := by decide +kernel
theorem d_La_law_329 : decode code 329 = .ok (.invokevirtual 73, 3) := by decide +kernel
theorem d_La_law_332 : decode code 332 = .ok (.aload_n 2, 1) := by decide +kernel
theorem d_La_law_333 : decode code 333 = .ok (.aload_n 0, 1) := by decide +kernel
theorem d_La_law_334 : decode code 334 = .ok (.iload 4, 2) := by decide +kernel
theorem d_La_law_336 : decode code 336 = .ok (.iconst 1, 1) := by decide +kernel
theorem d_La_law_337 : decode code 337 = .ok (.iadd, 1) := by decide +kernel
theorem d_La_law_338 : decode code 338 = .ok (.iaload, 1) := by decide +kernel
theorem d_La_law_339 : decode code 339 = .ok (.i2c, 1) := by decide +kernel
theorem d_La_law_340 : decode code 340 = .ok (.invokevirtual 76, 3) := by decide +kernel
theorem d_La_law_343 : decode code 343 = .ok (.if_icmp .eq 252, 3) := by decide +kernel
theorem d_La_law_346 : decode code 346 = .ok (.iconst 0, 1) := by decide +kernel
theorem d_La_law_347 : decode code 347 = .ok (.ireturn, 1) := by decide +kernel
theorem d_La_law_348 : decode code 348 = .ok (.aload_n 1, 1) := by decide +kernel
theorem d_La_law_349 : decode code 349 = .ok (.invokevirtual 77, 3) := by decide +kernel
theorem d_La_law_352 : decode code 352 = .ok (.aload_n 2, 1) := by decide +kernel
theorem d_La_law_353 : decode code 353 = .ok (.invokevirtual 80, 3) := by decide +kernel
theorem d_La_law_356 : decode code 356 = .ok (.goto 239, 3) := by decide +kernel
theorem d_La_law_359 : decode code 359 = .ok (.aload_n 1, 1) := by decide +kernel
theorem d_La_law_360 : decode code 360 = .ok (.aload_n 0, 1) := by decide +kernel
theorem d_La_law_361 : decode code 361 = .ok (.iload 4, 2) := by decide +kernel
theorem d_La_law_363 : decode code 363 = .ok (.iconst 1, 1) := by decide +kernel
theorem d_La_law_364 : decode code 364 = .ok (.iadd, 1) := by decide +kernel
theorem d_La_law_365 : decode code 365 = .ok (.iaload, 1) := by decide +kernel
theorem d_La_law_366 : decode code 366 = .ok (.aload_n 3, 1) := by decide +kernel
theorem d_La_law_367 : decode code 367 = .ok (.invokestatic 81, 3) := by decide +kernel
theorem d_La_law_370 : decode code 370 = .ok (.istore 5, 2) := by decide +kernel
theorem d_La_law_372 : decode code 372 = .ok (.aload_n 2, 1) := by decide +kernel
theorem d_La_law_373 : decode code 373 = .ok (.aload_n 0, 1) := by decide +kernel
theorem d_La_law_374 : decode code 374 = .ok (.iload 4, 2) := by decide +kernel
theorem d_La_law_376 : decode code 376 = .ok (.iconst 1, 1) := by decide +kernel
theorem d_La_law_377 : decode code 377 = .ok (.iadd, 1) := by decide +kernel
theorem d_La_law_378 : decode code 378 = .ok (.iaload, 1) := by decide +kernel
theorem d_La_law_379 : decode code 379 = .ok (.invokevirtual 84, 3) := by decide +kernel
theorem d_La_law_382 : decode code 382 = .ok (.istore 6, 2) := by decide +kernel
theorem d_La_law_384 : decode code 384 = .ok (.aload_n 2, 1) := by decide +kernel
theorem d_La_law_385 : decode code 385 = .ok (.invokevirtual 63, 3) := by decide +kernel
theorem d_La_law_388 : decode code 388 = .ok (.iload 5, 2) := by decide +kernel
theorem d_La_law_390 : decode code 390 = .ok (.if_icmp .eq 5, 3) := by decide +kernel
theorem d_La_law_393 : decode code 393 = .ok (.iconst 0, 1) := by decide +kernel
theorem d_La_law_394 : decode code 394 = .ok (.ireturn, 1) := by decide +kernel
theorem d_La_law_395 : decode code 395 = .ok (.iload 5, 2) := by decide +kernel
theorem d_La_law_397 : decode code 397 = .ok (.ifCond .ne 15, 3) := by decide +kernel
theorem d_La_law_400 : decode code 400 = .ok (.aload_n 3, 1) := by decide +kernel
theorem d_La_law_401 : decode code 401 = .ok (.iconst 0, 1) := by decide +kernel
theorem d_La_law_402 : decode code 402 = .ok (.laload, 1) := by decide +kernel
theorem d_La_law_403 : decode code 403 = .ok (.iload 6, 2) := by decide +kernel
theorem d_La_law_405 : decode code 405 = .ok (.i2l, 1) := by decide +kernel
theorem d_La_law_406 : decode code 406 = .ok (.lcmp, 1) := by decide +kernel
theorem d_La_law_407 : decode code 407 = .ok (.ifCond .eq 5, 3) := by decide +kernel
theorem d_La_law_410 : decode code 410 = .ok (.iconst 0, 1) := by decide +kernel
theorem d_La_law_411 : decode code 411 = .ok (.ireturn, 1) := by decide +kernel
theorem d_La_law_412 : decode code 412 = .ok (.goto 183, 3) := by decide +kernel
theorem d_La_law_415 : decode code 415 = .ok (.aload_n 1, 1) := by decide +kernel
theorem d_La_law_416 : decode code 416 = .ok (.aload_n 0, 1) := by decide +kernel
theorem d_La_law_417 : decode code 417 = .ok (.iload 4, 2) := by decide +kernel
theorem d_La_law_419 : decode code 419 = .ok (.iconst 1, 1) := by decide +kernel
theorem d_La_law_420 : decode code 420 = .ok (.iadd, 1) := by decide +kernel
theorem d_La_law_421 : decode code 421 = .ok (.iaload, 1) := by decide +kernel
theorem d_La_law_422 : decode code 422 = .ok (.aload_n 0, 1) := by decide +kernel
theorem d_La_law_423 : decode code 423 = .ok (.iload 4, 2) := by decide +kernel
theorem d_La_law_425 : decode code 425 = .ok (.iconst 2, 1) := by decide +kernel
theorem d_La_law_426 : decode code 426 = .ok (.iadd, 1) := by decide +kernel
theorem d_La_law_427 : decode code 427 = .ok (.iaload, 1) := by decide +kernel
theorem d_La_law_428 : decode code 428 = .ok (.ifCond .eq 7, 3) := by decide +kernel
theorem d_La_law_431 : decode code 431 = .ok (.iconst 1, 1) := by decide +kernel
theorem d_La_law_432 : decode code 432 = .ok (.goto 4, 3) := by decide +kernel
theorem d_La_law_435 : decode code 435 = .ok (.iconst 0, 1) := by decide +kernel
theorem d_La_law_436 : decode code 436 = .ok (.aload_n 3, 1) := by decide +kernel
theorem d_La_law_437 : decode code 437 = .ok (.invokestatic 85, 3) := by decide +kernel
theorem d_La_law_440 : decode code 440 = .ok (.istore 5, 2) := by decide +kernel
theorem d_La_law_442 : decode code 442 = .ok (.aload_n 2, 1) := by decide +kernel
theorem d_La_law_443 : decode code 443 = .ok (.aload_n 0, 1) := by decide +kernel
theorem d_La_law_444 : decode code 444 = .ok (.iload 4, 2) := by decide +kernel
theorem d_La_law_446 : decode code 446 = .ok (.iconst 1, 1) := by decide +kernel
theorem d_La_law_447 : decode code 447 = .ok (.iadd, 1) := by decide +kernel
theorem d_La_law_448 : decode code 448 = .ok (.iaload, 1) := by decide +kernel
theorem d_La_law_449 : decode code 449 = .ok (.aload_n 0, 1) := by decide +kernel
theorem d_La_law_450 : decode code 450 = .ok (.iload 4, 2) := by decide +kernel
theorem d_La_law_452 : decode code 452 = .ok (.iconst 2, 1) := by decide +kernel
theorem d_La_law_453 : decode code 453 = .ok (.iadd, 1) := by decide +kernel
theorem d_La_law_454 : decode code 454 = .ok (.iaload, 1) := by decide +kernel
theorem d_La_law_455 : decode code 455 = .ok (.ifCond .eq 7, 3) := by decide +kernel
theorem d_La_law_458 : decode code 458 = .ok (.iconst 1, 1) := by decide +kernel
theorem d_La_law_459 : decode code 459 = .ok (.goto 4, 3) := by decide +kernel
theorem d_La_law_462 : decode code 462 = .ok (.iconst 0, 1) := by decide +kernel
theorem d_La_law_463 : decode code 463 = .ok (.invokevirtual 88, 3) := by decide +kernel
theorem d_La_law_466 : decode code 466 = .ok (.istore 6, 2) := by decide +kernel
theorem d_La_law_468 : decode code 468 = .ok (.aload_n 2, 1) := by decide +kernel
theorem d_La_law_469 : decode code 469 = .ok (.invokevirtual 63, 3) := by decide +kernel
theorem d_La_law_472 : decode code 472 = .ok (.iload 5, 2) := by decide +kernel
theorem d_La_law_474 : decode code 474 = .ok (.if_icmp .eq 5, 3) := by decide +kernel
theorem d_La_law_477 : decode code 477 = .ok (.iconst 0, 1) := by decide +kernel
theorem d_La_law_478 : decode code 478 = .ok (.ireturn, 1) := by decide +kernel
theorem d_La_law_479 : decode code 479 = .ok (.iload 5, 2) := by decide +kernel
theorem d_La_law_481 : decode code 481 = .ok (.ifCond .ne 15, 3) := by decide +kernel
theorem d_La_law_484 : decode code 484 = .ok (.aload_n 3, 1) := by decide +kernel
theorem d_La_law_485 : decode code 485 = .ok (.iconst 0, 1) := by decide +kernel
theorem d_La_law_486 : decode code 486 = .ok (.laload, 1) := by decide +kernel
theorem d_La_law_487 : decode code 487 = .ok (.iload 6, 2) := by decide +kernel
theorem d_La_law_489 : decode code 489 = .ok (.i2l, 1) := by decide +kernel
theorem d_La_law_490 : decode code 490 = .ok (.lcmp, 1) := by decide +kernel
theorem d_La_law_491 : decode code 491 = .ok (.ifCond .eq 5, 3) := by decide +kernel
theorem d_La_law_494 : decode code 494 = .ok (.iconst 0, 1) := by decide +kernel
theorem d_La_law_495 : decode code 495 = .ok (.ireturn, 1) := by decide +kernel
theorem d_La_law_496 : decode code 496 = .ok (.goto 99, 3) := by decide +kernel
theorem d_La_law_499 : decode code 499 = .ok (.aload_n 1, 1) := by decide +kernel
theorem d_La_law_500 : decode code 500 = .ok (.invokevirtual 89, 3) := by decide +kernel
theorem d_La_law_503 : decode code 503 = .ok (.aload_n 2, 1) := by decide +kernel
theorem d_La_law_504 : decode code 504 = .ok (.invokevirtual 92, 3) := by decide +kernel
theorem d_La_law_507 : decode code 507 = .ok (.if_icmp .eq 88, 3) := by decide +kernel
theorem d_La_law_510 : decode code 510 = .ok (.iconst 0, 1) := by decide +kernel
theorem d_La_law_511 : decode code 511 = .ok (.ireturn, 1) := by decide +kernel
theorem d_La_law_512 : decode code 512 = .ok (.aload_n 1, 1) := by decide +kernel
theorem d_La_law_513 : decode code 513 = .ok (.invokevirtual 93, 3) := by decide +kernel
theorem d_La_law_516 : decode code 516 = .ok (.aload_n 2, 1) := by decide +kernel
theorem d_La_law_517 : decode code 517 = .ok (.invokevirtual 96, 3) := by decide +kernel
theorem d_La_law_520 : decode code 520 = .ok (.if_icmp .eq 75, 3) := by decide +kernel
theorem d_La_law_523 : decode code 523 = .ok (.iconst 0, 1) := by decide +kernel
theorem d_La_law_524 : decode code 524 = .ok (.ireturn, 1) := by decide +kernel
theorem d_La_law_525 : decode code 525 = .ok (.aload_n 1, 1) := by decide +kernel
theorem d_La_law_526 : decode code 526 = .ok (.invokevirtual 97, 3) := by decide +kernel
theorem d_La_law_529 : decode code 529 = .ok (.aload_n 2, 1) := by decide +kernel
theorem d_La_law_530 : decode code 530 = .ok (.invokevirtual 100, 3) := by decide +kernel
theorem d_La_law_533 : decode code 533 = .ok (.if_icmp .eq 62, 3) := by decide +kernel
theorem d_La_law_536 : decode code 536 = .ok (.iconst 0, 1) := by decide +kernel
theorem d_La_law_537 : decode code 537 = .ok (.ireturn, 1) := by decide +kernel
theorem d_La_law_538 : decode code 538 = .ok (.aload_n 1, 1) := by decide +kernel
theorem d_La_law_539 : decode code 539 = .ok (.invokevirtual 101, 3) := by decide +kernel
theorem d_La_law_542 : decode code 542 = .ok (.aload_n 2, 1) := by decide +kernel
theorem d_La_law_543 : decode code 543 = .ok (.invokevirtual 104, 3) := by decide +kernel
theorem d_La_law_546 : decode code 546 = .ok (.if_icmp .eq 49, 3) := by decide +kernel
theorem d_La_law_549 : decode code 549 = .ok (.iconst 0, 1) := by decide +kernel
theorem d_La_law_550 : decode code 550 = .ok (.ireturn, 1) := by decide +kernel
theorem d_La_law_551 : decode code 551 = .ok (.aload_n 1, 1) := by decide +kernel
theorem d_La_law_552 : decode code 552 = .ok (.aload_n 3, 1) := by decide +kernel
theorem d_La_law_553 : decode code 553 = .ok (.invokestatic 105, 3) := by decide +kernel
theorem d_La_law_556 : decode code 556 = .ok (.istore 5, 2) := by decide +kernel
theorem d_La_law_558 : decode code 558 = .ok (.aload_n 2, 1) := by decide +kernel
theorem d_La_law_559 : decode code 559 = .ok (.invokevirtual 107, 3) := by decide +kernel
theorem d_La_law_562 : decode code 562 = .ok (.istore 6, 2) := by decide +kernel
theorem d_La_law_564 : decode code 564 = .ok (.aload_n 2, 1) := by decide +kernel
theorem d_La_law_565 : decode code 565 = .ok (.invokevirtual 63, 3) := by decide +kernel
theorem d_La_law_568 : decode code 568 = .ok (.iload 5, 2) := by decide +kernel
theorem d_La_law_570 : decode code 570 = .ok (.if_icmp .eq 5, 3) := by decide +kernel
theorem d_La_law_573 : decode code 573 = .ok (.iconst 0, 1) := by decide +kernel
theorem d_La_law_574 : decode code 574 = .ok (.ireturn, 1) := by decide +kernel
theorem d_La_law_575 : decode code 575 = .ok (.iload 5, 2) := by decide +kernel
theorem d_La_law_577 : decode code 577 = .ok (.ifCond .ne 15, 3) := by decide +kernel
theorem d_La_law_580 : decode code 580 = .ok (.aload_n 3, 1) := by decide +kernel
theorem d_La_law_581 : decode code 581 = .ok (.iconst 0, 1) := by decide +kernel
theorem d_La_law_582 : decode code 582 = .ok (.laload, 1) := by decide +kernel
theorem d_La_law_583 : decode code 583 = .ok (.iload 6, 2) := by decide +kernel
theorem d_La_law_585 : decode code 585 = .ok (.i2l, 1) := by decide +kernel
theorem d_La_law_586 : decode code 586 = .ok (.lcmp, 1) := by decide +kernel
theorem d_La_law_587 : decode code 587 = .ok (.ifCond .eq 5, 3) := by decide +kernel
theorem d_La_law_590 : decode code 590 = .ok (.iconst 0, 1) := by decide +kernel
theorem d_La_law_591 : decode code 591 = .ok (.ireturn, 1) := by decide +kernel
theorem d_La_law_592 : decode code 592 = .ok (.goto 3, 3) := by decide +kernel
theorem d_La_law_595 : decode code 595 = .ok (.iinc 4 3, 3) := by decide +kernel
theorem d_La_law_598 : decode code 598 = .ok (.goto (-565), 3) := by decide +kernel
theorem d_La_law_601 : decode code 601 = .ok (.iconst 1, 1) := by decide +kernel
theorem d_La_law_602 : decode code 602 = .ok (.ireturn, 1) := by decide +kernel
theorem ll_La_44 : Cond.methodLink "LinearSearchLaw" 44 m_C_init.1 ∈ lt_T := lt_m1 23 rfl rfl
theorem lm_La_44 : lt_lkM "LinearSearchLaw" 44 m_C_init.1 := Or.inl ll_La_44
theorem ll_La_50 : Cond.methodLink "LinearSearchLaw" 50 m_C_type.1 ∈ lt_T := lt_m2 81 rfl rfl
theorem lm_La_50 : lt_lkM "LinearSearchLaw" 50 m_C_type.1 := Or.inl ll_La_50
theorem ll_La_55 : Cond.methodLink "LinearSearchLaw" 55 m_C_wipe.1 ∈ lt_T := lt_m2 85 rfl rfl
theorem lm_La_55 : lt_lkM "LinearSearchLaw" 55 m_C_wipe.1 := Or.inl ll_La_55
theorem ll_La_73 : Cond.methodLink "LinearSearchLaw" 73 m_C_feed.1 ∈ lt_T := lt_m2 89 rfl rfl
theorem lm_La_73 : lt_lkM "LinearSearchLaw" 73 m_C_feed.1 := Or.inl ll_La_73
theorem ll_La_77 : Cond.methodLink "LinearSearchLaw" 77 m_C_clear.1 ∈ lt_T := lt_m2 105 rfl rfl
theorem lm_La_77 : lt_lkM "LinearSearchLaw" 77 m_C_clear.1 := Or.inl ll_La_77
theorem ll_La_89 : Cond.methodLink "LinearSearchLaw" 89 m_C_work.1 ∈ lt_T := lt_m2 113 rfl rfl
theorem lm_La_89 : lt_lkM "LinearSearchLaw" 89 m_C_work.1 := Or.inl ll_La_89
theorem ll_La_93 : Cond.methodLink "LinearSearchLaw" 93 m_C_matcher.1 ∈ lt_T := lt_m2 117 rfl rfl
theorem lm_La_93 : lt_lkM "LinearSearchLaw" 93 m_C_matcher.1 := Or.inl ll_La_93
theorem ll_La_97 : Cond.methodLink "LinearSearchLaw" 97 m_C_states.1 ∈ lt_T := lt_m2 121 rfl rfl
theorem lm_La_97 : lt_lkM "LinearSearchLaw" 97 m_C_states.1 := Or.inl ll_La_97
theorem ll_La_101 : Cond.methodLink "LinearSearchLaw" 101 m_C_flushes.1 ∈ lt_T := lt_m2 129 rfl rfl
theorem lm_La_101 : lt_lkM "LinearSearchLaw" 101 m_C_flushes.1 := Or.inl ll_La_101
theorem ll_La_38 : Cond.methodLink "LinearSearchLaw" 38 m_La_cell.1 ∈ lt_T := lt_m2 137 rfl rfl
theorem lm_La_38 : lt_lkM "LinearSearchLaw" 38 m_La_cell.1 := Or.inl ll_La_38
theorem ll_La_59 : Cond.methodLink "LinearSearchLaw" 59 m_La_compile.1 ∈ lt_T := lt_m2 140 rfl rfl
theorem lm_La_59 : lt_lkM "LinearSearchLaw" 59 m_La_compile.1 := Or.inl ll_La_59
theorem ll_La_7 : Cond.methodLink "LinearSearchLaw" 7 m_C_compile.1 ∈ lt_T := lt_m2 144 rfl rfl
theorem lm_La_7 : lt_lkM "LinearSearchLaw" 7 m_C_compile.1 := Or.inl ll_La_7
theorem ll_La_66 : Cond.methodLink "LinearSearchLaw" 66 m_La_instruction.1 ∈ lt_T := lt_m3 112 rfl rfl
theorem lm_La_66 : lt_lkM "LinearSearchLaw" 66 m_La_instruction.1 := Or.inl ll_La_66
theorem ll_La_15 : Cond.methodLink "LinearSearchLaw" 15 m_C_instruction.1 ∈ lt_T := lt_m3 116 rfl rfl
theorem lm_La_15 : lt_lkM "LinearSearchLaw" 15 m_C_instruction.1 := Or.inl ll_La_15
theorem ll_La_70 : Cond.methodLink "LinearSearchLaw" 70 m_La_simple.1 ∈ lt_T := lt_m3 140 rfl rfl
theorem lm_La_70 : lt_lkM "LinearSearchLaw" 70 m_La_simple.1 := Or.inl ll_La_70
theorem ll_La_21 : Cond.methodLink "LinearSearchLaw" 21 m_C_simple.1 ∈ lt_T := lt_m3 144 rfl rfl
theorem lm_La_21 : lt_lkM "LinearSearchLaw" 21 m_C_simple.1 := Or.inl ll_La_21
theorem ll_La_81 : Cond.methodLink "LinearSearchLaw" 81 m_La_search.1 ∈ lt_T := lt_m3 164 rfl rfl
theorem lm_La_81 : lt_lkM "LinearSearchLaw" 81 m_La_search.1 := Or.inl ll_La_81
theorem ll_La_27 : Cond.methodLink "LinearSearchLaw" 27 m_C_search.1 ∈ lt_T := lt_m3 167 rfl rfl
theorem lm_La_27 : lt_lkM "LinearSearchLaw" 27 m_C_search.1 := Or.inl ll_La_27
theorem ll_La_85 : Cond.methodLink "LinearSearchLaw" 85 m_La_slot.1 ∈ lt_T := lt_m4 129 rfl rfl
theorem lm_La_85 : lt_lkM "LinearSearchLaw" 85 m_La_slot.1 := Or.inl ll_La_85
theorem ll_La_31 : Cond.methodLink "LinearSearchLaw" 31 m_C_slot.1 ∈ lt_T := lt_m4 132 rfl rfl
theorem lm_La_31 : lt_lkM "LinearSearchLaw" 31 m_C_slot.1 := Or.inl ll_La_31
theorem ll_La_105 : Cond.methodLink "LinearSearchLaw" 105 m_La_breaks.1 ∈ lt_T := lt_m4 137 rfl rfl
theorem lm_La_105 : lt_lkM "LinearSearchLaw" 105 m_La_breaks.1 := Or.inl ll_La_105
theorem ll_La_35 : Cond.methodLink "LinearSearchLaw" 35 m_C_breaks.1 ∈ lt_T := lt_m4 140 rfl rfl
theorem lm_La_35 : lt_lkM "LinearSearchLaw" 35 m_C_breaks.1 := Or.inl ll_La_35
theorem ll_La_49 : Cond.methodLink "LinearSearchLaw" 49 m_Mo_init.1 ∈ lt_T := lt_m4 146 rfl rfl
theorem lm_La_49 : lt_lkM "LinearSearchLaw" 49 m_Mo_init.1 := Or.inl ll_La_49
theorem ll_La_63 : Cond.methodLink "LinearSearchLaw" 63 m_Mo_thrown.1 ∈ lt_T := lt_m5 47 rfl rfl
theorem lm_La_63 : lt_lkM "LinearSearchLaw" 63 m_Mo_thrown.1 := Or.inl ll_La_63
theorem ll_La_54 : Cond.methodLink "LinearSearchLaw" 54 m_Mo_type.1 ∈ lt_T := lt_m5 51 rfl rfl
theorem lm_La_54 : lt_lkM "LinearSearchLaw" 54 m_Mo_type.1 := Or.inl ll_La_54
theorem ll_La_58 : Cond.methodLink "LinearSearchLaw" 58 m_Mo_wipe.1 ∈ lt_T := lt_m5 55 rfl rfl
theorem lm_La_58 : lt_lkM "LinearSearchLaw" 58 m_Mo_wipe.1 := Or.inl ll_La_58
theorem ll_La_62 : Cond.methodLink "LinearSearchLaw" 62 m_Mo_compile.1 ∈ lt_T := lt_m5 59 rfl rfl
theorem lm_La_62 : lt_lkM "LinearSearchLaw" 62 m_Mo_compile.1 := Or.inl ll_La_62
theorem ll_La_69 : Cond.methodLink "LinearSearchLaw" 69 m_Mo_instruction.1 ∈ lt_T := lt_m5 102 rfl rfl
theorem lm_La_69 : lt_lkM "LinearSearchLaw" 69 m_Mo_instruction.1 := Or.inl ll_La_69
theorem ll_La_72 : Cond.methodLink "LinearSearchLaw" 72 m_Mo_simple.1 ∈ lt_T := lt_m5 106 rfl rfl
theorem lm_La_72 : lt_lkM "LinearSearchLaw" 72 m_Mo_simple.1 := Or.inl ll_La_72
theorem ll_La_76 : Cond.methodLink "LinearSearchLaw" 76 m_Mo_feed.1 ∈ lt_T := lt_m5 110 rfl rfl
theorem lm_La_76 : lt_lkM "LinearSearchLaw" 76 m_Mo_feed.1 := Or.inl ll_La_76
theorem ll_La_80 : Cond.methodLink "LinearSearchLaw" 80 m_Mo_clear.1 ∈ lt_T := lt_m5 114 rfl rfl
theorem lm_La_80 : lt_lkM "LinearSearchLaw" 80 m_Mo_clear.1 := Or.inl ll_La_80
theorem ll_La_84 : Cond.methodLink "LinearSearchLaw" 84 m_Mo_search.1 ∈ lt_T := lt_m5 118 rfl rfl
theorem lm_La_84 : lt_lkM "LinearSearchLaw" 84 m_Mo_search.1 := Or.inl ll_La_84
theorem ll_La_88 : Cond.methodLink "LinearSearchLaw" 88 m_Mo_slot.1 ∈ lt_T := lt_m5 218 rfl rfl
theorem lm_La_88 : lt_lkM "LinearSearchLaw" 88 m_Mo_slot.1 := Or.inl ll_La_88
theorem ll_La_92 : Cond.methodLink "LinearSearchLaw" 92 m_Mo_work.1 ∈ lt_T := lt_m5 222 rfl rfl
theorem lm_La_92 : lt_lkM "LinearSearchLaw" 92 m_Mo_work.1 := Or.inl ll_La_92
theorem ll_La_96 : Cond.methodLink "LinearSearchLaw" 96 m_Mo_matcher.1 ∈ lt_T := lt_m5 226 rfl rfl
theorem lm_La_96 : lt_lkM "LinearSearchLaw" 96 m_Mo_matcher.1 := Or.inl ll_La_96
theorem ll_La_100 : Cond.methodLink "LinearSearchLaw" 100 m_Mo_states.1 ∈ lt_T := lt_m5 230 rfl rfl
theorem lm_La_100 : lt_lkM "LinearSearchLaw" 100 m_Mo_states.1 := Or.inl ll_La_100
theorem ll_La_104 : Cond.methodLink "LinearSearchLaw" 104 m_Mo_flushes.1 ∈ lt_T := lt_m5 234 rfl rfl
theorem lm_La_104 : lt_lkM "LinearSearchLaw" 104 m_Mo_flushes.1 := Or.inl ll_La_104
theorem ll_La_107 : Cond.methodLink "LinearSearchLaw" 107 m_Mo_breaks.1 ∈ lt_T := lt_m5 238 rfl rfl
theorem lm_La_107 : lt_lkM "LinearSearchLaw" 107 m_Mo_breaks.1 := Or.inl ll_La_107
