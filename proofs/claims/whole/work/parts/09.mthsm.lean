/-! METHODS: names, code, decode rows, words; printed by wip/whole/gen_methods.py -/
abbrev m_Mo_init : lt_M := (⟨"LinearSearchModel", "<init>", "(I)V"⟩, prog_13_method_1_code, 2, none)
theorem d_Mo_init_0 : decode prog_13_method_1_code 0 = .ok (.aload_n 0, 1) := by decide +kernel
theorem d_Mo_init_1 : decode prog_13_method_1_code 1 = .ok (.invokespecial 1, 3) := by decide +kernel
theorem d_Mo_init_4 : decode prog_13_method_1_code 4 = .ok (.aload_n 0, 1) := by decide +kernel
theorem d_Mo_init_5 : decode prog_13_method_1_code 5 = .ok (.bipush 24, 2) := by decide +kernel
theorem d_Mo_init_7 : decode prog_13_method_1_code 7 = .ok (.newarray .int, 2) := by decide +kernel
theorem d_Mo_init_9 : decode prog_13_method_1_code 9 = .ok (.putfield 7, 3) := by decide +kernel
theorem d_Mo_init_12 : decode prog_13_method_1_code 12 = .ok (.aload_n 0, 1) := by decide +kernel
theorem d_Mo_init_13 : decode prog_13_method_1_code 13 = .ok (.bipush 20, 2) := by decide +kernel
theorem d_Mo_init_15 : decode prog_13_method_1_code 15 = .ok (.newarray .int, 2) := by decide +kernel
theorem d_Mo_init_17 : decode prog_13_method_1_code 17 = .ok (.putfield 13, 3) := by decide +kernel
theorem d_Mo_init_20 : decode prog_13_method_1_code 20 = .ok (.aload_n 0, 1) := by decide +kernel
theorem d_Mo_init_21 : decode prog_13_method_1_code 21 = .ok (.bipush 64, 2) := by decide +kernel
theorem d_Mo_init_23 : decode prog_13_method_1_code 23 = .ok (.newarray .int, 2) := by decide +kernel
theorem d_Mo_init_25 : decode prog_13_method_1_code 25 = .ok (.putfield 16, 3) := by decide +kernel
theorem d_Mo_init_28 : decode prog_13_method_1_code 28 = .ok (.aload_n 0, 1) := by decide +kernel
theorem d_Mo_init_29 : decode prog_13_method_1_code 29 = .ok (.bipush 64, 2) := by decide +kernel
theorem d_Mo_init_31 : decode prog_13_method_1_code 31 = .ok (.newarray .int, 2) := by decide +kernel
theorem d_Mo_init_33 : decode prog_13_method_1_code 33 = .ok (.putfield 19, 3) := by decide +kernel
theorem d_Mo_init_36 : decode prog_13_method_1_code 36 = .ok (.aload_n 0, 1) := by decide +kernel
theorem d_Mo_init_37 : decode prog_13_method_1_code 37 = .ok (.bipush 64, 2) := by decide +kernel
theorem d_Mo_init_39 : decode prog_13_method_1_code 39 = .ok (.newarray .int, 2) := by decide +kernel
theorem d_Mo_init_41 : decode prog_13_method_1_code 41 = .ok (.putfield 22, 3) := by decide +kernel
theorem d_Mo_init_44 : decode prog_13_method_1_code 44 = .ok (.aload_n 0, 1) := by decide +kernel
theorem d_Mo_init_45 : decode prog_13_method_1_code 45 = .ok (.bipush 64, 2) := by decide +kernel
theorem d_Mo_init_47 : decode prog_13_method_1_code 47 = .ok (.newarray .int, 2) := by decide +kernel
theorem d_Mo_init_49 : decode prog_13_method_1_code 49 = .ok (.putfield 25, 3) := by decide +kernel
theorem d_Mo_init_52 : decode prog_13_method_1_code 52 = .ok (.aload_n 0, 1) := by decide +kernel
theorem d_Mo_init_53 : decode prog_13_method_1_code 53 = .ok (.bipush 64, 2) := by decide +kernel
theorem d_Mo_init_55 : decode prog_13_method_1_code 55 = .ok (.newarray .int, 2) := by decide +kernel
theorem d_Mo_init_57 : decode prog_13_method_1_code 57 = .ok (.putfield 28, 3) := by decide +kernel
theorem d_Mo_init_60 : decode prog_13_method_1_code 60 = .ok (.aload_n 0, 1) := by decide +kernel
theorem d_Mo_init_61 : decode prog_13_method_1_code 61 = .ok (.bipush 64, 2) := by decide +kernel
theorem d_Mo_init_63 : decode prog_13_method_1_code 63 = .ok (.newarray .int, 2) := by decide +kernel
theorem d_Mo_init_65 : decode prog_13_method_1_code 65 = .ok (.putfield 31, 3) := by decide +kernel
theorem d_Mo_init_68 : decode prog_13_method_1_code 68 = .ok (.aload_n 0, 1) := by decide +kernel
theorem d_Mo_init_69 : decode prog_13_method_1_code 69 = .ok (.bipush 64, 2) := by decide +kernel
theorem d_Mo_init_71 : decode prog_13_method_1_code 71 = .ok (.newarray .int, 2) := by decide +kernel
theorem d_Mo_init_73 : decode prog_13_method_1_code 73 = .ok (.putfield 34, 3) := by decide +kernel
theorem d_Mo_init_76 : decode prog_13_method_1_code 76 = .ok (.aload_n 0, 1) := by decide +kernel
theorem d_Mo_init_77 : decode prog_13_method_1_code 77 = .ok (.sipush 600, 3) := by decide +kernel
theorem d_Mo_init_80 : decode prog_13_method_1_code 80 = .ok (.newarray .int, 2) := by decide +kernel
theorem d_Mo_init_82 : decode prog_13_method_1_code 82 = .ok (.putfield 37, 3) := by decide +kernel
theorem d_Mo_init_85 : decode prog_13_method_1_code 85 = .ok (.aload_n 0, 1) := by decide +kernel
theorem d_Mo_init_86 : decode prog_13_method_1_code 86 = .ok (.sipush 600, 3) := by decide +kernel
theorem d_Mo_init_89 : decode prog_13_method_1_code 89 = .ok (.newarray .int, 2) := by decide +kernel
theorem d_Mo_init_91 : decode prog_13_method_1_code 91 = .ok (.putfield 40, 3) := by decide +kernel
theorem d_Mo_init_94 : decode prog_13_method_1_code 94 = .ok (.aload_n 0, 1) := by decide +kernel
theorem d_Mo_init_95 : decode prog_13_method_1_code 95 = .ok (.sipush 4800, 3) := by decide +kernel
theorem d_Mo_init_98 : decode prog_13_method_1_code 98 = .ok (.newarray .int, 2) := by decide +kernel
theorem d_Mo_init_100 : decode prog_13_method_1_code 100 = .ok (.putfield 43, 3) := by decide +kernel
theorem d_Mo_init_103 : decode prog_13_method_1_code 103 = .ok (.aload_n 0, 1) := by decide +kernel
theorem d_Mo_init_104 : decode prog_13_method_1_code 104 = .ok (.bipush 8, 2) := by decide +kernel
theorem d_Mo_init_106 : decode prog_13_method_1_code 106 = .ok (.newarray .int, 2) := by decide +kernel
theorem d_Mo_init_108 : decode prog_13_method_1_code 108 = .ok (.putfield 46, 3) := by decide +kernel
theorem d_Mo_init_111 : decode prog_13_method_1_code 111 = .ok (.aload_n 0, 1) := by decide +kernel
theorem d_Mo_init_112 : decode prog_13_method_1_code 112 = .ok (.iconst 2, 1) := by decide +kernel
theorem d_Mo_init_113 : decode prog_13_method_1_code 113 = .ok (.newarray .int, 2) := by decide +kernel
theorem d_Mo_init_115 : decode prog_13_method_1_code 115 = .ok (.putfield 49, 3) := by decide +kernel
theorem d_Mo_init_118 : decode prog_13_method_1_code 118 = .ok (.aload_n 0, 1) := by decide +kernel
theorem d_Mo_init_119 : decode prog_13_method_1_code 119 = .ok (.sipush 128, 3) := by decide +kernel
theorem d_Mo_init_122 : decode prog_13_method_1_code 122 = .ok (.newarray .int, 2) := by decide +kernel
theorem d_Mo_init_124 : decode prog_13_method_1_code 124 = .ok (.putfield 52, 3) := by decide +kernel
theorem d_Mo_init_127 : decode prog_13_method_1_code 127 = .ok (.aload_n 0, 1) := by decide +kernel
theorem d_Mo_init_128 : decode prog_13_method_1_code 128 = .ok (.sipush 1024, 3) := by decide +kernel
theorem d_Mo_init_131 : decode prog_13_method_1_code 131 = .ok (.newarray .int, 2) := by decide +kernel
theorem d_Mo_init_133 : decode prog_13_method_1_code 133 = .ok (.putfield 55, 3) := by decide +kernel
theorem d_Mo_init_136 : decode prog_13_method_1_code 136 = .ok (.aload_n 0, 1) := by decide +kernel
theorem d_Mo_init_137 : decode prog_13_method_1_code 137 = .ok (.sipush 1344, 3) := by decide +kernel
theorem d_Mo_init_140 : decode prog_13_method_1_code 140 = .ok (.newarray .boolean, 2) := by decide +kernel
theorem d_Mo_init_142 : decode prog_13_method_1_code 142 = .ok (.putfield 58, 3) := by decide +kernel
theorem d_Mo_init_145 : decode prog_13_method_1_code 145 = .ok (.aload_n 0, 1) := by decide +kernel
theorem d_Mo_init_146 : decode prog_13_method_1_code 146 = .ok (.bipush 19, 2) := by decide +kernel
theorem d_Mo_init_148 : decode prog_13_method_1_code 148 = .ok (.newarray .int, 2) := by decide +kernel
theorem d_Mo_init_150 : decode prog_13_method_1_code 150 = .ok (.putfield 62, 3) := by decide +kernel
theorem d_Mo_init_153 : decode prog_13_method_1_code 153 = .ok (.aload_n 0, 1) := by decide +kernel
theorem d_Mo_init_154 : decode prog_13_method_1_code 154 = .ok (.sipush 1216, 3) := by decide +kernel
theorem d_Mo_init_157 : decode prog_13_method_1_code 157 = .ok (.newarray .int, 2) := by decide +kernel
theorem d_Mo_init_159 : decode prog_13_method_1_code 159 = .ok (.putfield 65, 3) := by decide +kernel
theorem d_Mo_init_162 : decode prog_13_method_1_code 162 = .ok (.aload_n 0, 1) := by decide +kernel
theorem d_Mo_init_163 : decode prog_13_method_1_code 163 = .ok (.bipush 19, 2) := by decide +kernel
theorem d_Mo_init_165 : decode prog_13_method_1_code 165 = .ok (.newarray .boolean, 2) := by decide +kernel
theorem d_Mo_init_167 : decode prog_13_method_1_code 167 = .ok (.putfield 68, 3) := by decide +kernel
theorem d_Mo_init_170 : decode prog_13_method_1_code 170 = .ok (.aload_n 0, 1) := by decide +kernel
theorem d_Mo_init_171 : decode prog_13_method_1_code 171 = .ok (.sipush 152, 3) := by decide +kernel
theorem d_Mo_init_174 : decode prog_13_method_1_code 174 = .ok (.newarray .int, 2) := by decide +kernel
theorem d_Mo_init_176 : decode prog_13_method_1_code 176 = .ok (.putfield 71, 3) := by decide +kernel
theorem d_Mo_init_179 : decode prog_13_method_1_code 179 = .ok (.aload_n 0, 1) := by decide +kernel
theorem d_Mo_init_180 : decode prog_13_method_1_code 180 = .ok (.bipush 64, 2) := by decide +kernel
theorem d_Mo_init_182 : decode prog_13_method_1_code 182 = .ok (.newarray .int, 2) := by decide +kernel
theorem d_Mo_init_184 : decode prog_13_method_1_code 184 = .ok (.putfield 74, 3) := by decide +kernel
theorem d_Mo_init_187 : decode prog_13_method_1_code 187 = .ok (.aload_n 0, 1) := by decide +kernel
theorem d_Mo_init_188 : decode prog_13_method_1_code 188 = .ok (.iconst (-1), 1) := by decide +kernel
theorem d_Mo_init_189 : decode prog_13_method_1_code 189 = .ok (.putfield 77, 3) := by decide +kernel
theorem d_Mo_init_192 : decode prog_13_method_1_code 192 = .ok (.aload_n 0, 1) := by decide +kernel
theorem d_Mo_init_193 : decode prog_13_method_1_code 193 = .ok (.iconst (-1), 1) := by decide +kernel
theorem d_Mo_init_194 : decode prog_13_method_1_code 194 = .ok (.putfield 81, 3) := by decide +kernel
theorem d_Mo_init_197 : decode prog_13_method_1_code 197 = .ok (.aload_n 0, 1) := by decide +kernel
theorem d_Mo_init_198 : decode prog_13_method_1_code 198 = .ok (.bipush 8, 2) := by decide +kernel
theorem d_Mo_init_200 : decode prog_13_method_1_code 200 = .ok (.newarray .int, 2) := by decide +kernel
theorem d_Mo_init_202 : decode prog_13_method_1_code 202 = .ok (.putfield 84, 3) := by decide +kernel
theorem d_Mo_init_205 : decode prog_13_method_1_code 205 = .ok (.aload_n 0, 1) := by decide +kernel
theorem d_Mo_init_206 : decode prog_13_method_1_code 206 = .ok (.iconst 4, 1) := by decide +kernel
theorem d_Mo_init_207 : decode prog_13_method_1_code 207 = .ok (.newarray .int, 2) := by decide +kernel
theorem d_Mo_init_209 : decode prog_13_method_1_code 209 = .ok (.putfield 87, 3) := by decide +kernel
theorem d_Mo_init_212 : decode prog_13_method_1_code 212 = .ok (.aload_n 0, 1) := by decide +kernel
theorem d_Mo_init_213 : decode prog_13_method_1_code 213 = .ok (.iconst 4, 1) := by decide +kernel
theorem d_Mo_init_214 : decode prog_13_method_1_code 214 = .ok (.newarray .int, 2) := by decide +kernel
theorem d_Mo_init_216 : decode prog_13_method_1_code 216 = .ok (.putfield 90, 3) := by decide +kernel
theorem d_Mo_init_219 : decode prog_13_method_1_code 219 = .ok (.aload_n 0, 1) := by decide +kernel
theorem d_Mo_init_220 : decode prog_13_method_1_code 220 = .ok (.iconst 4, 1) := by decide +kernel
theorem d_Mo_init_221 : decode prog_13_method_1_code 221 = .ok (.newarray .int, 2) := by decide +kernel
theorem d_Mo_init_223 : decode prog_13_method_1_code 223 = .ok (.putfield 93, 3) := by decide +kernel
theorem d_Mo_init_226 : decode prog_13_method_1_code 226 = .ok (.aload_n 0, 1) := by decide +kernel
theorem d_Mo_init_227 : decode prog_13_method_1_code 227 = .ok (.bipush 8, 2) := by decide +kernel
theorem d_Mo_init_229 : decode prog_13_method_1_code 229 = .ok (.newarray .int, 2) := by decide +kernel
theorem d_Mo_init_231 : decode prog_13_method_1_code 231 = .ok (.putfield 96, 3) := by decide +kernel
theorem d_Mo_init_234 : decode prog_13_method_1_code 234 = .ok (.aload_n 0, 1) := by decide +kernel
theorem d_Mo_init_235 : decode prog_13_method_1_code 235 = .ok (.iconst 3, 1) := by decide +kernel
theorem d_Mo_init_236 : decode prog_13_method_1_code 236 = .ok (.iload_n 1, 1) := by decide +kernel
theorem d_Mo_init_237 : decode prog_13_method_1_code 237 = .ok (.bipush 15, 2) := by decide +kernel
theorem d_Mo_init_239 : decode prog_13_method_1_code 239 = .ok (.iand, 1) := by decide +kernel
theorem d_Mo_init_240 : decode prog_13_method_1_code 240 = .ok (.iadd, 1) := by decide +kernel
theorem d_Mo_init_241 : decode prog_13_method_1_code 241 = .ok (.putfield 99, 3) := by decide +kernel
theorem d_Mo_init_244 : decode prog_13_method_1_code 244 = .ok (.return_, 1) := by decide +kernel
theorem M_Mo_init : lt_M0 m_Mo_init 1 := ⟨lt_m4 148 rfl rfl, lt_m1 13 rfl rfl, ⟨by decide +kernel, by decide +kernel, by decide +kernel⟩, by decide⟩
theorem in_Mo_init : Cond.instanceMethod m_Mo_init.1 ∈ lt_T := lt_m4 147 rfl rfl
abbrev m_Mo_thrown : lt_M := (⟨"LinearSearchModel", "thrown", "()I"⟩, prog_13_method_2_code, 1, (some .int))
theorem d_Mo_thrown_0 : decode prog_13_method_2_code 0 = .ok (.aload_n 0, 1) := by decide +kernel
theorem d_Mo_thrown_1 : decode prog_13_method_2_code 1 = .ok (.getfield 102, 3) := by decide +kernel
theorem d_Mo_thrown_4 : decode prog_13_method_2_code 4 = .ok (.ireturn, 1) := by decide +kernel
theorem M_Mo_thrown : lt_M0 m_Mo_thrown 0 := ⟨lt_m5 50 rfl rfl, lt_m1 13 rfl rfl, ⟨by decide +kernel, by decide +kernel, by decide +kernel⟩, by decide⟩
theorem in_Mo_thrown : Cond.instanceMethod m_Mo_thrown.1 ∈ lt_T := lt_m5 48 rfl rfl
theorem se_Mo_thrown : Cond.selects "LinearSearchModel" m_Mo_thrown.1 m_Mo_thrown.1 ∈ lt_T := lt_m5 49 rfl rfl
abbrev m_Mo_type : lt_M := (⟨"LinearSearchModel", "type", "(C)Z"⟩, prog_13_method_5_code, 2, (some .boolean))
theorem d_Mo_type_0 : decode prog_13_method_5_code 0 = .ok (.aload_n 0, 1) := by decide +kernel
theorem d_Mo_type_1 : decode prog_13_method_5_code 1 = .ok (.iconst 0, 1) := by decide +kernel
theorem d_Mo_type_2 : decode prog_13_method_5_code 2 = .ok (.putfield 102, 3) := by decide +kernel
theorem d_Mo_type_5 : decode prog_13_method_5_code 5 = .ok (.aload_n 0, 1) := by decide +kernel
theorem d_Mo_type_6 : decode prog_13_method_5_code 6 = .ok (.getfield 109, 3) := by decide +kernel
theorem d_Mo_type_9 : decode prog_13_method_5_code 9 = .ok (.bipush 24, 2) := by decide +kernel
theorem d_Mo_type_11 : decode prog_13_method_5_code 11 = .ok (.if_icmp .ne 5, 3) := by decide +kernel
theorem d_Mo_type_14 : decode prog_13_method_5_code 14 = .ok (.iconst 0, 1) := by decide +kernel
theorem d_Mo_type_15 : decode prog_13_method_5_code 15 = .ok (.ireturn, 1) := by decide +kernel
theorem d_Mo_type_16 : decode prog_13_method_5_code 16 = .ok (.aload_n 0, 1) := by decide +kernel
theorem d_Mo_type_17 : decode prog_13_method_5_code 17 = .ok (.getfield 7, 3) := by decide +kernel
theorem d_Mo_type_20 : decode prog_13_method_5_code 20 = .ok (.aload_n 0, 1) := by decide +kernel
theorem d_Mo_type_21 : decode prog_13_method_5_code 21 = .ok (.getfield 109, 3) := by decide +kernel
theorem d_Mo_type_24 : decode prog_13_method_5_code 24 = .ok (.iload_n 1, 1) := by decide +kernel
theorem d_Mo_type_25 : decode prog_13_method_5_code 25 = .ok (.iastore, 1) := by decide +kernel
theorem d_Mo_type_26 : decode prog_13_method_5_code 26 = .ok (.aload_n 0, 1) := by decide +kernel
theorem d_Mo_type_27 : decode prog_13_method_5_code 27 = .ok (.dup, 1) := by decide +kernel
theorem d_Mo_type_28 : decode prog_13_method_5_code 28 = .ok (.getfield 109, 3) := by decide +kernel
theorem d_Mo_type_31 : decode prog_13_method_5_code 31 = .ok (.iconst 1, 1) := by decide +kernel
theorem d_Mo_type_32 : decode prog_13_method_5_code 32 = .ok (.iadd, 1) := by decide +kernel
theorem d_Mo_type_33 : decode prog_13_method_5_code 33 = .ok (.putfield 109, 3) := by decide +kernel
theorem d_Mo_type_36 : decode prog_13_method_5_code 36 = .ok (.iconst 1, 1) := by decide +kernel
theorem d_Mo_type_37 : decode prog_13_method_5_code 37 = .ok (.ireturn, 1) := by decide +kernel
theorem M_Mo_type : lt_M0 m_Mo_type 1 := ⟨lt_m5 54 rfl rfl, lt_m1 13 rfl rfl, ⟨by decide +kernel, by decide +kernel, by decide +kernel⟩, by decide⟩
theorem in_Mo_type : Cond.instanceMethod m_Mo_type.1 ∈ lt_T := lt_m5 52 rfl rfl
theorem se_Mo_type : Cond.selects "LinearSearchModel" m_Mo_type.1 m_Mo_type.1 ∈ lt_T := lt_m5 53 rfl rfl
abbrev m_Mo_wipe : lt_M := (⟨"LinearSearchModel", "wipe", "()V"⟩, prog_13_method_6_code, 1, none)
theorem d_Mo_wipe_0 : decode prog_13_method_6_code 0 = .ok (.aload_n 0, 1) := by decide +kernel
theorem d_Mo_wipe_1 : decode prog_13_method_6_code 1 = .ok (.iconst 0, 1) := by decide +kernel
theorem d_Mo_wipe_2 : decode prog_13_method_6_code 2 = .ok (.putfield 102, 3) := by decide +kernel
theorem d_Mo_wipe_5 : decode prog_13_method_6_code 5 = .ok (.aload_n 0, 1) := by decide +kernel
theorem d_Mo_wipe_6 : decode prog_13_method_6_code 6 = .ok (.iconst 0, 1) := by decide +kernel
theorem d_Mo_wipe_7 : decode prog_13_method_6_code 7 = .ok (.putfield 109, 3) := by decide +kernel
theorem d_Mo_wipe_10 : decode prog_13_method_6_code 10 = .ok (.return_, 1) := by decide +kernel
theorem M_Mo_wipe : lt_M0 m_Mo_wipe 0 := ⟨lt_m5 58 rfl rfl, lt_m1 13 rfl rfl, ⟨by decide +kernel, by decide +kernel, by decide +kernel⟩, by decide⟩
theorem in_Mo_wipe : Cond.instanceMethod m_Mo_wipe.1 ∈ lt_T := lt_m5 56 rfl rfl
theorem se_Mo_wipe : Cond.selects "LinearSearchModel" m_Mo_wipe.1 m_Mo_wipe.1 ∈ lt_T := lt_m5 57 rfl rfl
abbrev m_Mo_compile : lt_M := (⟨"LinearSearchModel", "compile", "()I"⟩, prog_13_method_14_code, 2, (some .int))
theorem d_Mo_compile_0 : decode prog_13_method_14_code 0 = .ok (.aload_n 0, 1) := by decide +kernel
theorem d_Mo_compile_1 : decode prog_13_method_14_code 1 = .ok (.iconst 0, 1) := by decide +kernel
theorem d_Mo_compile_2 : decode prog_13_method_14_code 2 = .ok (.putfield 102, 3) := by decide +kernel
theorem d_Mo_compile_5 : decode prog_13_method_14_code 5 = .ok (.aload_n 0, 1) := by decide +kernel
theorem d_Mo_compile_6 : decode prog_13_method_14_code 6 = .ok (.invokevirtual 140, 3) := by decide +kernel
theorem d_Mo_compile_9 : decode prog_13_method_14_code 9 = .ok (.ifCond .ne 9, 3) := by decide +kernel
theorem d_Mo_compile_12 : decode prog_13_method_14_code 12 = .ok (.aload_n 0, 1) := by decide +kernel
theorem d_Mo_compile_13 : decode prog_13_method_14_code 13 = .ok (.iconst 1, 1) := by decide +kernel
theorem d_Mo_compile_14 : decode prog_13_method_14_code 14 = .ok (.invokevirtual 144, 3) := by decide +kernel
theorem d_Mo_compile_17 : decode prog_13_method_14_code 17 = .ok (.ireturn, 1) := by decide +kernel
theorem d_Mo_compile_18 : decode prog_13_method_14_code 18 = .ok (.aload_n 0, 1) := by decide +kernel
theorem d_Mo_compile_19 : decode prog_13_method_14_code 19 = .ok (.aload_n 0, 1) := by decide +kernel
theorem d_Mo_compile_20 : decode prog_13_method_14_code 20 = .ok (.getfield 115, 3) := by decide +kernel
theorem d_Mo_compile_23 : decode prog_13_method_14_code 23 = .ok (.putfield 148, 3) := by decide +kernel
theorem d_Mo_compile_26 : decode prog_13_method_14_code 26 = .ok (.iconst 0, 1) := by decide +kernel
theorem d_Mo_compile_27 : decode prog_13_method_14_code 27 = .ok (.istore_n 1, 1) := by decide +kernel
theorem d_Mo_compile_28 : decode prog_13_method_14_code 28 = .ok (.iload_n 1, 1) := by decide +kernel
theorem d_Mo_compile_29 : decode prog_13_method_14_code 29 = .ok (.aload_n 0, 1) := by decide +kernel
theorem d_Mo_compile_30 : decode prog_13_method_14_code 30 = .ok (.getfield 148, 3) := by decide +kernel
theorem d_Mo_compile_33 : decode prog_13_method_14_code 33 = .ok (.if_icmp .ge 45, 3) := by decide +kernel
theorem d_Mo_compile_36 : decode prog_13_method_14_code 36 = .ok (.aload_n 0, 1) := by decide +kernel
theorem d_Mo_compile_37 : decode prog_13_method_14_code 37 = .ok (.getfield 16, 3) := by decide +kernel
theorem d_Mo_compile_40 : decode prog_13_method_14_code 40 = .ok (.iload_n 1, 1) := by decide +kernel
theorem d_Mo_compile_41 : decode prog_13_method_14_code 41 = .ok (.aload_n 0, 1) := by decide +kernel
theorem d_Mo_compile_42 : decode prog_13_method_14_code 42 = .ok (.getfield 25, 3) := by decide +kernel
theorem d_Mo_compile_45 : decode prog_13_method_14_code 45 = .ok (.iload_n 1, 1) := by decide +kernel
theorem d_Mo_compile_46 : decode prog_13_method_14_code 46 = .ok (.iaload, 1) := by decide +kernel
theorem d_Mo_compile_47 : decode prog_13_method_14_code 47 = .ok (.iastore, 1) := by decide +kernel
theorem d_Mo_compile_48 : decode prog_13_method_14_code 48 = .ok (.aload_n 0, 1) := by decide +kernel
theorem d_Mo_compile_49 : decode prog_13_method_14_code 49 = .ok (.getfield 19, 3) := by decide +kernel
theorem d_Mo_compile_52 : decode prog_13_method_14_code 52 = .ok (.iload_n 1, 1) := by decide +kernel
theorem d_Mo_compile_53 : decode prog_13_method_14_code 53 = .ok (.aload_n 0, 1) := by decide +kernel
theorem d_Mo_compile_54 : decode prog_13_method_14_code 54 = .ok (.getfield 28, 3) := by decide +kernel
theorem d_Mo_compile_57 : decode prog_13_method_14_code 57 = .ok (.iload_n 1, 1) := by decide +kernel
theorem d_Mo_compile_58 : decode prog_13_method_14_code 58 = .ok (.iaload, 1) := by decide +kernel
theorem d_Mo_compile_59 : decode prog_13_method_14_code 59 = .ok (.iastore, 1) := by decide +kernel
theorem d_Mo_compile_60 : decode prog_13_method_14_code 60 = .ok (.aload_n 0, 1) := by decide +kernel
theorem d_Mo_compile_61 : decode prog_13_method_14_code 61 = .ok (.getfield 22, 3) := by decide +kernel
theorem d_Mo_compile_64 : decode prog_13_method_14_code 64 = .ok (.iload_n 1, 1) := by decide +kernel
theorem d_Mo_compile_65 : decode prog_13_method_14_code 65 = .ok (.aload_n 0, 1) := by decide +kernel
theorem d_Mo_compile_66 : decode prog_13_method_14_code 66 = .ok (.getfield 31, 3) := by decide +kernel
theorem d_Mo_compile_69 : decode prog_13_method_14_code 69 = .ok (.iload_n 1, 1) := by decide +kernel
theorem d_Mo_compile_70 : decode prog_13_method_14_code 70 = .ok (.iaload, 1) := by decide +kernel
theorem d_Mo_compile_71 : decode prog_13_method_14_code 71 = .ok (.iastore, 1) := by decide +kernel
theorem d_Mo_compile_72 : decode prog_13_method_14_code 72 = .ok (.iinc 1 1, 3) := by decide +kernel
theorem d_Mo_compile_75 : decode prog_13_method_14_code 75 = .ok (.goto (-47), 3) := by decide +kernel
theorem d_Mo_compile_78 : decode prog_13_method_14_code 78 = .ok (.aload_n 0, 1) := by decide +kernel
theorem d_Mo_compile_79 : decode prog_13_method_14_code 79 = .ok (.iconst 0, 1) := by decide +kernel
theorem d_Mo_compile_80 : decode prog_13_method_14_code 80 = .ok (.putfield 151, 3) := by decide +kernel
theorem d_Mo_compile_83 : decode prog_13_method_14_code 83 = .ok (.aload_n 0, 1) := by decide +kernel
theorem d_Mo_compile_84 : decode prog_13_method_14_code 84 = .ok (.iconst 0, 1) := by decide +kernel
theorem d_Mo_compile_85 : decode prog_13_method_14_code 85 = .ok (.putfield 154, 3) := by decide +kernel
theorem d_Mo_compile_88 : decode prog_13_method_14_code 88 = .ok (.aload_n 0, 1) := by decide +kernel
theorem d_Mo_compile_89 : decode prog_13_method_14_code 89 = .ok (.invokevirtual 157, 3) := by decide +kernel
theorem d_Mo_compile_92 : decode prog_13_method_14_code 92 = .ok (.aload_n 0, 1) := by decide +kernel
theorem d_Mo_compile_93 : decode prog_13_method_14_code 93 = .ok (.aload_n 0, 1) := by decide +kernel
theorem d_Mo_compile_94 : decode prog_13_method_14_code 94 = .ok (.getfield 16, 3) := by decide +kernel
theorem d_Mo_compile_97 : decode prog_13_method_14_code 97 = .ok (.iconst 0, 1) := by decide +kernel
theorem d_Mo_compile_98 : decode prog_13_method_14_code 98 = .ok (.iaload, 1) := by decide +kernel
theorem d_Mo_compile_99 : decode prog_13_method_14_code 99 = .ok (.iconst 5, 1) := by decide +kernel
theorem d_Mo_compile_100 : decode prog_13_method_14_code 100 = .ok (.if_icmp .ne 15, 3) := by decide +kernel
theorem d_Mo_compile_103 : decode prog_13_method_14_code 103 = .ok (.aload_n 0, 1) := by decide +kernel
theorem d_Mo_compile_104 : decode prog_13_method_14_code 104 = .ok (.iconst 0, 1) := by decide +kernel
theorem d_Mo_compile_105 : decode prog_13_method_14_code 105 = .ok (.invokevirtual 160, 3) := by decide +kernel
theorem d_Mo_compile_108 : decode prog_13_method_14_code 108 = .ok (.ifCond .eq 7, 3) := by decide +kernel
theorem d_Mo_compile_111 : decode prog_13_method_14_code 111 = .ok (.iconst 1, 1) := by decide +kernel
theorem d_Mo_compile_112 : decode prog_13_method_14_code 112 = .ok (.goto 4, 3) := by decide +kernel
theorem d_Mo_compile_115 : decode prog_13_method_14_code 115 = .ok (.iconst 0, 1) := by decide +kernel
theorem d_Mo_compile_116 : decode prog_13_method_14_code 116 = .ok (.putfield 163, 3) := by decide +kernel
theorem d_Mo_compile_119 : decode prog_13_method_14_code 119 = .ok (.iconst 0, 1) := by decide +kernel
theorem d_Mo_compile_120 : decode prog_13_method_14_code 120 = .ok (.istore_n 1, 1) := by decide +kernel
theorem d_Mo_compile_121 : decode prog_13_method_14_code 121 = .ok (.iload_n 1, 1) := by decide +kernel
theorem d_Mo_compile_122 : decode prog_13_method_14_code 122 = .ok (.aload_n 0, 1) := by decide +kernel
theorem d_Mo_compile_123 : decode prog_13_method_14_code 123 = .ok (.getfield 148, 3) := by decide +kernel
theorem d_Mo_compile_126 : decode prog_13_method_14_code 126 = .ok (.if_icmp .ge 45, 3) := by decide +kernel
theorem d_Mo_compile_129 : decode prog_13_method_14_code 129 = .ok (.aload_n 0, 1) := by decide +kernel
theorem d_Mo_compile_130 : decode prog_13_method_14_code 130 = .ok (.getfield 16, 3) := by decide +kernel
theorem d_Mo_compile_133 : decode prog_13_method_14_code 133 = .ok (.iload_n 1, 1) := by decide +kernel
theorem d_Mo_compile_134 : decode prog_13_method_14_code 134 = .ok (.iaload, 1) := by decide +kernel
theorem d_Mo_compile_135 : decode prog_13_method_14_code 135 = .ok (.iconst 1, 1) := by decide +kernel
theorem d_Mo_compile_136 : decode prog_13_method_14_code 136 = .ok (.if_icmp .gt 29, 3) := by decide +kernel
theorem d_Mo_compile_139 : decode prog_13_method_14_code 139 = .ok (.aload_n 0, 1) := by decide +kernel
theorem d_Mo_compile_140 : decode prog_13_method_14_code 140 = .ok (.aload_n 0, 1) := by decide +kernel
theorem d_Mo_compile_141 : decode prog_13_method_14_code 141 = .ok (.getfield 163, 3) := by decide +kernel
theorem d_Mo_compile_144 : decode prog_13_method_14_code 144 = .ok (.ifCond .eq 17, 3) := by decide +kernel
theorem d_Mo_compile_147 : decode prog_13_method_14_code 147 = .ok (.aload_n 0, 1) := by decide +kernel
theorem d_Mo_compile_148 : decode prog_13_method_14_code 148 = .ok (.iload_n 1, 1) := by decide +kernel
theorem d_Mo_compile_149 : decode prog_13_method_14_code 149 = .ok (.iconst 1, 1) := by decide +kernel
theorem d_Mo_compile_150 : decode prog_13_method_14_code 150 = .ok (.iadd, 1) := by decide +kernel
theorem d_Mo_compile_151 : decode prog_13_method_14_code 151 = .ok (.invokevirtual 160, 3) := by decide +kernel
theorem d_Mo_compile_154 : decode prog_13_method_14_code 154 = .ok (.ifCond .eq 7, 3) := by decide +kernel
theorem d_Mo_compile_157 : decode prog_13_method_14_code 157 = .ok (.iconst 1, 1) := by decide +kernel
theorem d_Mo_compile_158 : decode prog_13_method_14_code 158 = .ok (.goto 4, 3) := by decide +kernel
theorem d_Mo_compile_161 : decode prog_13_method_14_code 161 = .ok (.iconst 0, 1) := by decide +kernel
theorem d_Mo_compile_162 : decode prog_13_method_14_code 162 = .ok (.putfield 163, 3) := by decide +kernel
theorem d_Mo_compile_165 : decode prog_13_method_14_code 165 = .ok (.iinc 1 1, 3) := by decide +kernel
theorem d_Mo_compile_168 : decode prog_13_method_14_code 168 = .ok (.goto (-47), 3) := by decide +kernel
theorem d_Mo_compile_171 : decode prog_13_method_14_code 171 = .ok (.aload_n 0, 1) := by decide +kernel
theorem d_Mo_compile_172 : decode prog_13_method_14_code 172 = .ok (.getfield 148, 3) := by decide +kernel
theorem d_Mo_compile_175 : decode prog_13_method_14_code 175 = .ok (.ireturn, 1) := by decide +kernel
theorem M_Mo_compile : lt_M0 m_Mo_compile 0 := ⟨lt_m5 62 rfl rfl, lt_m1 13 rfl rfl, ⟨by decide +kernel, by decide +kernel, by decide +kernel⟩, by decide⟩
theorem in_Mo_compile : Cond.instanceMethod m_Mo_compile.1 ∈ lt_T := lt_m5 60 rfl rfl
theorem se_Mo_compile : Cond.selects "LinearSearchModel" m_Mo_compile.1 m_Mo_compile.1 ∈ lt_T := lt_m5 61 rfl rfl
abbrev m_Mo_read : lt_M := (⟨"LinearSearchModel", "read", "()Z"⟩, prog_13_method_13_code, 5, (some .boolean))
theorem d_Mo_read_0 : decode prog_13_method_13_code 0 = .ok (.aload_n 0, 1) := by decide +kernel
theorem d_Mo_read_1 : decode prog_13_method_13_code 1 = .ok (.iconst 0, 1) := by decide +kernel
theorem d_Mo_read_2 : decode prog_13_method_13_code 2 = .ok (.putfield 115, 3) := by decide +kernel
theorem d_Mo_read_5 : decode prog_13_method_13_code 5 = .ok (.aload_n 0, 1) := by decide +kernel
theorem d_Mo_read_6 : decode prog_13_method_13_code 6 = .ok (.iconst 0, 1) := by decide +kernel
theorem d_Mo_read_7 : decode prog_13_method_13_code 7 = .ok (.putfield 112, 3) := by decide +kernel
theorem d_Mo_read_10 : decode prog_13_method_13_code 10 = .ok (.iconst 0, 1) := by decide +kernel
theorem d_Mo_read_11 : decode prog_13_method_13_code 11 = .ok (.istore_n 1, 1) := by decide +kernel
theorem d_Mo_read_12 : decode prog_13_method_13_code 12 = .ok (.iconst 0, 1) := by decide +kernel
theorem d_Mo_read_13 : decode prog_13_method_13_code 13 = .ok (.istore_n 2, 1) := by decide +kernel
theorem d_Mo_read_14 : decode prog_13_method_13_code 14 = .ok (.aload_n 0, 1) := by decide +kernel
theorem d_Mo_read_15 : decode prog_13_method_13_code 15 = .ok (.getfield 87, 3) := by decide +kernel
theorem d_Mo_read_18 : decode prog_13_method_13_code 18 = .ok (.iconst 0, 1) := by decide +kernel
theorem d_Mo_read_19 : decode prog_13_method_13_code 19 = .ok (.iconst 0, 1) := by decide +kernel
theorem d_Mo_read_20 : decode prog_13_method_13_code 20 = .ok (.iastore, 1) := by decide +kernel
theorem d_Mo_read_21 : decode prog_13_method_13_code 21 = .ok (.aload_n 0, 1) := by decide +kernel
theorem d_Mo_read_22 : decode prog_13_method_13_code 22 = .ok (.getfield 112, 3) := by decide +kernel
theorem d_Mo_read_25 : decode prog_13_method_13_code 25 = .ok (.aload_n 0, 1) := by decide +kernel
theorem d_Mo_read_26 : decode prog_13_method_13_code 26 = .ok (.getfield 109, 3) := by decide +kernel
theorem d_Mo_read_29 : decode prog_13_method_13_code 29 = .ok (.if_icmp .ge 279, 3) := by decide +kernel
theorem d_Mo_read_32 : decode prog_13_method_13_code 32 = .ok (.aload_n 0, 1) := by decide +kernel
theorem d_Mo_read_33 : decode prog_13_method_13_code 33 = .ok (.getfield 7, 3) := by decide +kernel
theorem d_Mo_read_36 : decode prog_13_method_13_code 36 = .ok (.aload_n 0, 1) := by decide +kernel
theorem d_Mo_read_37 : decode prog_13_method_13_code 37 = .ok (.getfield 112, 3) := by decide +kernel
theorem d_Mo_read_40 : decode prog_13_method_13_code 40 = .ok (.iaload, 1) := by decide +kernel
theorem d_Mo_read_41 : decode prog_13_method_13_code 41 = .ok (.istore_n 3, 1) := by decide +kernel
theorem d_Mo_read_42 : decode prog_13_method_13_code 42 = .ok (.aload_n 0, 1) := by decide +kernel
theorem d_Mo_read_43 : decode prog_13_method_13_code 43 = .ok (.dup, 1) := by decide +kernel
theorem d_Mo_read_44 : decode prog_13_method_13_code 44 = .ok (.getfield 112, 3) := by decide +kernel
theorem d_Mo_read_47 : decode prog_13_method_13_code 47 = .ok (.iconst 1, 1) := by decide +kernel
theorem d_Mo_read_48 : decode prog_13_method_13_code 48 = .ok (.iadd, 1) := by decide +kernel
theorem d_Mo_read_49 : decode prog_13_method_13_code 49 = .ok (.putfield 112, 3) := by decide +kernel
theorem d_Mo_read_52 : decode prog_13_method_13_code 52 = .ok (.aload_n 0, 1) := by decide +kernel
theorem d_Mo_read_53 : decode prog_13_method_13_code 53 = .ok (.getfield 115, 3) := by decide +kernel
theorem d_Mo_read_56 : decode prog_13_method_13_code 56 = .ok (.istore 4, 2) := by decide +kernel
theorem d_Mo_read_58 : decode prog_13_method_13_code 58 = .ok (.iload_n 3, 1) := by decide +kernel
theorem d_Mo_read_59 : decode prog_13_method_13_code 59 = .ok (.bipush 124, 2) := by decide +kernel
theorem d_Mo_read_61 : decode prog_13_method_13_code 61 = .ok (.if_icmp .ne 50, 3) := by decide +kernel
theorem d_Mo_read_64 : decode prog_13_method_13_code 64 = .ok (.aload_n 0, 1) := by decide +kernel
theorem d_Mo_read_65 : decode prog_13_method_13_code 65 = .ok (.aload_n 0, 1) := by decide +kernel
theorem d_Mo_read_66 : decode prog_13_method_13_code 66 = .ok (.getfield 87, 3) := by decide +kernel
theorem d_Mo_read_69 : decode prog_13_method_13_code 69 = .ok (.iload_n 1, 1) := by decide +kernel
theorem d_Mo_read_70 : decode prog_13_method_13_code 70 = .ok (.iaload, 1) := by decide +kernel
theorem d_Mo_read_71 : decode prog_13_method_13_code 71 = .ok (.invokevirtual 126, 3) := by decide +kernel
theorem d_Mo_read_74 : decode prog_13_method_13_code 74 = .ok (.aload_n 0, 1) := by decide +kernel
theorem d_Mo_read_75 : decode prog_13_method_13_code 75 = .ok (.iconst 3, 1) := by decide +kernel
theorem d_Mo_read_76 : decode prog_13_method_13_code 76 = .ok (.iconst (-1), 1) := by decide +kernel
theorem d_Mo_read_77 : decode prog_13_method_13_code 77 = .ok (.iload_n 1, 1) := by decide +kernel
theorem d_Mo_read_78 : decode prog_13_method_13_code 78 = .ok (.isub, 1) := by decide +kernel
theorem d_Mo_read_79 : decode prog_13_method_13_code 79 = .ok (.iconst 0, 1) := by decide +kernel
theorem d_Mo_read_80 : decode prog_13_method_13_code 80 = .ok (.invokevirtual 122, 3) := by decide +kernel
theorem d_Mo_read_83 : decode prog_13_method_13_code 83 = .ok (.aload_n 0, 1) := by decide +kernel
theorem d_Mo_read_84 : decode prog_13_method_13_code 84 = .ok (.getfield 31, 3) := by decide +kernel
theorem d_Mo_read_87 : decode prog_13_method_13_code 87 = .ok (.aload_n 0, 1) := by decide +kernel
theorem d_Mo_read_88 : decode prog_13_method_13_code 88 = .ok (.getfield 87, 3) := by decide +kernel
theorem d_Mo_read_91 : decode prog_13_method_13_code 91 = .ok (.iload_n 1, 1) := by decide +kernel
theorem d_Mo_read_92 : decode prog_13_method_13_code 92 = .ok (.iaload, 1) := by decide +kernel
theorem d_Mo_read_93 : decode prog_13_method_13_code 93 = .ok (.aload_n 0, 1) := by decide +kernel
theorem d_Mo_read_94 : decode prog_13_method_13_code 94 = .ok (.getfield 115, 3) := by decide +kernel
theorem d_Mo_read_97 : decode prog_13_method_13_code 97 = .ok (.iastore, 1) := by decide +kernel
theorem d_Mo_read_98 : decode prog_13_method_13_code 98 = .ok (.aload_n 0, 1) := by decide +kernel
theorem d_Mo_read_99 : decode prog_13_method_13_code 99 = .ok (.getfield 87, 3) := by decide +kernel
theorem d_Mo_read_102 : decode prog_13_method_13_code 102 = .ok (.iload_n 1, 1) := by decide +kernel
theorem d_Mo_read_103 : decode prog_13_method_13_code 103 = .ok (.aload_n 0, 1) := by decide +kernel
theorem d_Mo_read_104 : decode prog_13_method_13_code 104 = .ok (.getfield 115, 3) := by decide +kernel
theorem d_Mo_read_107 : decode prog_13_method_13_code 107 = .ok (.iastore, 1) := by decide +kernel
theorem d_Mo_read_108 : decode prog_13_method_13_code 108 = .ok (.goto 197, 3) := by decide +kernel
theorem d_Mo_read_111 : decode prog_13_method_13_code 111 = .ok (.iload_n 3, 1) := by decide +kernel
theorem d_Mo_read_112 : decode prog_13_method_13_code 112 = .ok (.bipush 40, 2) := by decide +kernel
theorem d_Mo_read_114 : decode prog_13_method_13_code 114 = .ok (.if_icmp .ne 51, 3) := by decide +kernel
theorem d_Mo_read_117 : decode prog_13_method_13_code 117 = .ok (.iload_n 2, 1) := by decide +kernel
theorem d_Mo_read_118 : decode prog_13_method_13_code 118 = .ok (.iconst 3, 1) := by decide +kernel
theorem d_Mo_read_119 : decode prog_13_method_13_code 119 = .ok (.if_icmp .ge 46, 3) := by decide +kernel
theorem d_Mo_read_122 : decode prog_13_method_13_code 122 = .ok (.iinc 2 1, 3) := by decide +kernel
theorem d_Mo_read_125 : decode prog_13_method_13_code 125 = .ok (.aload_n 0, 1) := by decide +kernel
theorem d_Mo_read_126 : decode prog_13_method_13_code 126 = .ok (.iconst 4, 1) := by decide +kernel
theorem d_Mo_read_127 : decode prog_13_method_13_code 127 = .ok (.iconst 2, 1) := by decide +kernel
theorem d_Mo_read_128 : decode prog_13_method_13_code 128 = .ok (.iload_n 2, 1) := by decide +kernel
theorem d_Mo_read_129 : decode prog_13_method_13_code 129 = .ok (.imul, 1) := by decide +kernel
theorem d_Mo_read_130 : decode prog_13_method_13_code 130 = .ok (.iconst 0, 1) := by decide +kernel
theorem d_Mo_read_131 : decode prog_13_method_13_code 131 = .ok (.invokevirtual 122, 3) := by decide +kernel
theorem d_Mo_read_134 : decode prog_13_method_13_code 134 = .ok (.iinc 1 1, 3) := by decide +kernel
theorem d_Mo_read_137 : decode prog_13_method_13_code 137 = .ok (.aload_n 0, 1) := by decide +kernel
theorem d_Mo_read_138 : decode prog_13_method_13_code 138 = .ok (.getfield 90, 3) := by decide +kernel
theorem d_Mo_read_141 : decode prog_13_method_13_code 141 = .ok (.iload_n 1, 1) := by decide +kernel
theorem d_Mo_read_142 : decode prog_13_method_13_code 142 = .ok (.iload 4, 2) := by decide +kernel
theorem d_Mo_read_144 : decode prog_13_method_13_code 144 = .ok (.iastore, 1) := by decide +kernel
theorem d_Mo_read_145 : decode prog_13_method_13_code 145 = .ok (.aload_n 0, 1) := by decide +kernel
theorem d_Mo_read_146 : decode prog_13_method_13_code 146 = .ok (.getfield 93, 3) := by decide +kernel
theorem d_Mo_read_149 : decode prog_13_method_13_code 149 = .ok (.iload_n 1, 1) := by decide +kernel
theorem d_Mo_read_150 : decode prog_13_method_13_code 150 = .ok (.iload_n 2, 1) := by decide +kernel
theorem d_Mo_read_151 : decode prog_13_method_13_code 151 = .ok (.iastore, 1) := by decide +kernel
theorem d_Mo_read_152 : decode prog_13_method_13_code 152 = .ok (.aload_n 0, 1) := by decide +kernel
theorem d_Mo_read_153 : decode prog_13_method_13_code 153 = .ok (.getfield 87, 3) := by decide +kernel
theorem d_Mo_read_156 : decode prog_13_method_13_code 156 = .ok (.iload_n 1, 1) := by decide +kernel
theorem d_Mo_read_157 : decode prog_13_method_13_code 157 = .ok (.aload_n 0, 1) := by decide +kernel
theorem d_Mo_read_158 : decode prog_13_method_13_code 158 = .ok (.getfield 115, 3) := by decide +kernel
theorem d_Mo_read_161 : decode prog_13_method_13_code 161 = .ok (.iastore, 1) := by decide +kernel
theorem d_Mo_read_162 : decode prog_13_method_13_code 162 = .ok (.goto 143, 3) := by decide +kernel
theorem d_Mo_read_165 : decode prog_13_method_13_code 165 = .ok (.iload_n 3, 1) := by decide +kernel
theorem d_Mo_read_166 : decode prog_13_method_13_code 166 = .ok (.bipush 41, 2) := by decide +kernel
theorem d_Mo_read_168 : decode prog_13_method_13_code 168 = .ok (.if_icmp .ne 48, 3) := by decide +kernel
theorem d_Mo_read_171 : decode prog_13_method_13_code 171 = .ok (.iload_n 1, 1) := by decide +kernel
theorem d_Mo_read_172 : decode prog_13_method_13_code 172 = .ok (.ifCond .le 44, 3) := by decide +kernel
theorem d_Mo_read_175 : decode prog_13_method_13_code 175 = .ok (.aload_n 0, 1) := by decide +kernel
theorem d_Mo_read_176 : decode prog_13_method_13_code 176 = .ok (.iload_n 1, 1) := by decide +kernel
theorem d_Mo_read_177 : decode prog_13_method_13_code 177 = .ok (.invokevirtual 130, 3) := by decide +kernel
theorem d_Mo_read_180 : decode prog_13_method_13_code 180 = .ok (.aload_n 0, 1) := by decide +kernel
theorem d_Mo_read_181 : decode prog_13_method_13_code 181 = .ok (.iconst 4, 1) := by decide +kernel
theorem d_Mo_read_182 : decode prog_13_method_13_code 182 = .ok (.iconst 2, 1) := by decide +kernel
theorem d_Mo_read_183 : decode prog_13_method_13_code 183 = .ok (.aload_n 0, 1) := by decide +kernel
theorem d_Mo_read_184 : decode prog_13_method_13_code 184 = .ok (.getfield 93, 3) := by decide +kernel
theorem d_Mo_read_187 : decode prog_13_method_13_code 187 = .ok (.iload_n 1, 1) := by decide +kernel
theorem d_Mo_read_188 : decode prog_13_method_13_code 188 = .ok (.iaload, 1) := by decide +kernel
theorem d_Mo_read_189 : decode prog_13_method_13_code 189 = .ok (.imul, 1) := by decide +kernel
theorem d_Mo_read_190 : decode prog_13_method_13_code 190 = .ok (.iconst 1, 1) := by decide +kernel
theorem d_Mo_read_191 : decode prog_13_method_13_code 191 = .ok (.iadd, 1) := by decide +kernel
theorem d_Mo_read_192 : decode prog_13_method_13_code 192 = .ok (.iconst 0, 1) := by decide +kernel
theorem d_Mo_read_193 : decode prog_13_method_13_code 193 = .ok (.invokevirtual 122, 3) := by decide +kernel
theorem d_Mo_read_196 : decode prog_13_method_13_code 196 = .ok (.aload_n 0, 1) := by decide +kernel
theorem d_Mo_read_197 : decode prog_13_method_13_code 197 = .ok (.getfield 90, 3) := by decide +kernel
theorem d_Mo_read_200 : decode prog_13_method_13_code 200 = .ok (.iload_n 1, 1) := by decide +kernel
theorem d_Mo_read_201 : decode prog_13_method_13_code 201 = .ok (.iaload, 1) := by decide +kernel
theorem d_Mo_read_202 : decode prog_13_method_13_code 202 = .ok (.istore 4, 2) := by decide +kernel
theorem d_Mo_read_204 : decode prog_13_method_13_code 204 = .ok (.iinc 1 (-1), 3) := by decide +kernel
theorem d_Mo_read_207 : decode prog_13_method_13_code 207 = .ok (.aload_n 0, 1) := by decide +kernel
theorem d_Mo_read_208 : decode prog_13_method_13_code 208 = .ok (.iload 4, 2) := by decide +kernel
theorem d_Mo_read_210 : decode prog_13_method_13_code 210 = .ok (.invokevirtual 133, 3) := by decide +kernel
theorem d_Mo_read_213 : decode prog_13_method_13_code 213 = .ok (.goto 92, 3) := by decide +kernel
theorem d_Mo_read_216 : decode prog_13_method_13_code 216 = .ok (.iload_n 3, 1) := by decide +kernel
theorem d_Mo_read_217 : decode prog_13_method_13_code 217 = .ok (.invokestatic 136, 3) := by decide +kernel
theorem d_Mo_read_220 : decode prog_13_method_13_code 220 = .ok (.ifCond .ne 21, 3) := by decide +kernel
theorem d_Mo_read_223 : decode prog_13_method_13_code 223 = .ok (.iload_n 3, 1) := by decide +kernel
theorem d_Mo_read_224 : decode prog_13_method_13_code 224 = .ok (.bipush 46, 2) := by decide +kernel
theorem d_Mo_read_226 : decode prog_13_method_13_code 226 = .ok (.if_icmp .eq 15, 3) := by decide +kernel
theorem d_Mo_read_229 : decode prog_13_method_13_code 229 = .ok (.iload_n 3, 1) := by decide +kernel
theorem d_Mo_read_230 : decode prog_13_method_13_code 230 = .ok (.bipush 94, 2) := by decide +kernel
theorem d_Mo_read_232 : decode prog_13_method_13_code 232 = .ok (.if_icmp .eq 9, 3) := by decide +kernel
theorem d_Mo_read_235 : decode prog_13_method_13_code 235 = .ok (.iload_n 3, 1) := by decide +kernel
theorem d_Mo_read_236 : decode prog_13_method_13_code 236 = .ok (.bipush 36, 2) := by decide +kernel
theorem d_Mo_read_238 : decode prog_13_method_13_code 238 = .ok (.if_icmp .ne 65, 3) := by decide +kernel
theorem d_Mo_read_241 : decode prog_13_method_13_code 241 = .ok (.aload_n 0, 1) := by decide +kernel
theorem d_Mo_read_242 : decode prog_13_method_13_code 242 = .ok (.iload_n 3, 1) := by decide +kernel
theorem d_Mo_read_243 : decode prog_13_method_13_code 243 = .ok (.invokestatic 136, 3) := by decide +kernel
theorem d_Mo_read_246 : decode prog_13_method_13_code 246 = .ok (.ifCond .eq 7, 3) := by decide +kernel
theorem d_Mo_read_249 : decode prog_13_method_13_code 249 = .ok (.iconst 0, 1) := by decide +kernel
theorem d_Mo_read_250 : decode prog_13_method_13_code 250 = .ok (.goto 25, 3) := by decide +kernel
theorem d_Mo_read_253 : decode prog_13_method_13_code 253 = .ok (.iload_n 3, 1) := by decide +kernel
theorem d_Mo_read_254 : decode prog_13_method_13_code 254 = .ok (.bipush 46, 2) := by decide +kernel
theorem d_Mo_read_256 : decode prog_13_method_13_code 256 = .ok (.if_icmp .ne 7, 3) := by decide +kernel
theorem d_Mo_read_259 : decode prog_13_method_13_code 259 = .ok (.iconst 1, 1) := by decide +kernel
theorem d_Mo_read_260 : decode prog_13_method_13_code 260 = .ok (.goto 15, 3) := by decide +kernel
theorem d_Mo_read_263 : decode prog_13_method_13_code 263 = .ok (.iload_n 3, 1) := by decide +kernel
theorem d_Mo_read_264 : decode prog_13_method_13_code 264 = .ok (.bipush 94, 2) := by decide +kernel
theorem d_Mo_read_266 : decode prog_13_method_13_code 266 = .ok (.if_icmp .ne 7, 3) := by decide +kernel
theorem d_Mo_read_269 : decode prog_13_method_13_code 269 = .ok (.iconst 5, 1) := by decide +kernel
theorem d_Mo_read_270 : decode prog_13_method_13_code 270 = .ok (.goto 5, 3) := by decide +kernel
theorem d_Mo_read_273 : decode prog_13_method_13_code 273 = .ok (.bipush 6, 2) := by decide +kernel
theorem d_Mo_read_275 : decode prog_13_method_13_code 275 = .ok (.iload_n 3, 1) := by decide +kernel
theorem d_Mo_read_276 : decode prog_13_method_13_code 276 = .ok (.invokestatic 136, 3) := by decide +kernel
theorem d_Mo_read_279 : decode prog_13_method_13_code 279 = .ok (.ifCond .eq 10, 3) := by decide +kernel
theorem d_Mo_read_282 : decode prog_13_method_13_code 282 = .ok (.iload_n 3, 1) := by decide +kernel
theorem d_Mo_read_283 : decode prog_13_method_13_code 283 = .ok (.bipush 97, 2) := by decide +kernel
theorem d_Mo_read_285 : decode prog_13_method_13_code 285 = .ok (.isub, 1) := by decide +kernel
theorem d_Mo_read_286 : decode prog_13_method_13_code 286 = .ok (.goto 4, 3) := by decide +kernel
theorem d_Mo_read_289 : decode prog_13_method_13_code 289 = .ok (.iconst 0, 1) := by decide +kernel
theorem d_Mo_read_290 : decode prog_13_method_13_code 290 = .ok (.iconst 0, 1) := by decide +kernel
theorem d_Mo_read_291 : decode prog_13_method_13_code 291 = .ok (.invokevirtual 122, 3) := by decide +kernel
theorem d_Mo_read_294 : decode prog_13_method_13_code 294 = .ok (.aload_n 0, 1) := by decide +kernel
theorem d_Mo_read_295 : decode prog_13_method_13_code 295 = .ok (.iload 4, 2) := by decide +kernel
theorem d_Mo_read_297 : decode prog_13_method_13_code 297 = .ok (.invokevirtual 133, 3) := by decide +kernel
theorem d_Mo_read_300 : decode prog_13_method_13_code 300 = .ok (.goto 5, 3) := by decide +kernel
theorem d_Mo_read_303 : decode prog_13_method_13_code 303 = .ok (.iconst 0, 1) := by decide +kernel
theorem d_Mo_read_304 : decode prog_13_method_13_code 304 = .ok (.ireturn, 1) := by decide +kernel
theorem d_Mo_read_305 : decode prog_13_method_13_code 305 = .ok (.goto (-284), 3) := by decide +kernel
theorem d_Mo_read_308 : decode prog_13_method_13_code 308 = .ok (.aload_n 0, 1) := by decide +kernel
theorem d_Mo_read_309 : decode prog_13_method_13_code 309 = .ok (.iconst 0, 1) := by decide +kernel
theorem d_Mo_read_310 : decode prog_13_method_13_code 310 = .ok (.invokevirtual 130, 3) := by decide +kernel
theorem d_Mo_read_313 : decode prog_13_method_13_code 313 = .ok (.aload_n 0, 1) := by decide +kernel
theorem d_Mo_read_314 : decode prog_13_method_13_code 314 = .ok (.bipush 7, 2) := by decide +kernel
theorem d_Mo_read_316 : decode prog_13_method_13_code 316 = .ok (.iconst 0, 1) := by decide +kernel
theorem d_Mo_read_317 : decode prog_13_method_13_code 317 = .ok (.iconst 0, 1) := by decide +kernel
theorem d_Mo_read_318 : decode prog_13_method_13_code 318 = .ok (.invokevirtual 122, 3) := by decide +kernel
theorem d_Mo_read_321 : decode prog_13_method_13_code 321 = .ok (.iload_n 1, 1) := by decide +kernel
theorem d_Mo_read_322 : decode prog_13_method_13_code 322 = .ok (.ifCond .ne 7, 3) := by decide +kernel
theorem d_Mo_read_325 : decode prog_13_method_13_code 325 = .ok (.iconst 1, 1) := by decide +kernel
theorem d_Mo_read_326 : decode prog_13_method_13_code 326 = .ok (.goto 4, 3) := by decide +kernel
theorem d_Mo_read_329 : decode prog_13_method_13_code 329 = .ok (.iconst 0, 1) := by decide +kernel
theorem d_Mo_read_330 : decode prog_13_method_13_code 330 = .ok (.ireturn, 1) := by decide +kernel
theorem M_Mo_read : lt_M0 m_Mo_read 0 := ⟨lt_m5 66 rfl rfl, lt_m1 13 rfl rfl, ⟨by decide +kernel, by decide +kernel, by decide +kernel⟩, by decide⟩
theorem in_Mo_read : Cond.instanceMethod m_Mo_read.1 ∈ lt_T := lt_m5 65 rfl rfl
theorem se_Mo_read : Cond.selects "LinearSearchModel" m_Mo_read.1 m_Mo_read.1 ∈ lt_T := lt_memS 29 rfl rfl
abbrev m_Mo_push : lt_M := (⟨"LinearSearchModel", "push", "(I)V"⟩, prog_13_method_9_code, 4, none)
theorem d_Mo_push_0 : decode prog_13_method_9_code 0 = .ok (.aload_n 0, 1) := by decide +kernel
theorem d_Mo_push_1 : decode prog_13_method_9_code 1 = .ok (.getfield 115, 3) := by decide +kernel
theorem d_Mo_push_4 : decode prog_13_method_9_code 4 = .ok (.istore_n 2, 1) := by decide +kernel
theorem d_Mo_push_5 : decode prog_13_method_9_code 5 = .ok (.iload_n 2, 1) := by decide +kernel
theorem d_Mo_push_6 : decode prog_13_method_9_code 6 = .ok (.iload_n 1, 1) := by decide +kernel
theorem d_Mo_push_7 : decode prog_13_method_9_code 7 = .ok (.if_icmp .le 131, 3) := by decide +kernel
theorem d_Mo_push_10 : decode prog_13_method_9_code 10 = .ok (.aload_n 0, 1) := by decide +kernel
theorem d_Mo_push_11 : decode prog_13_method_9_code 11 = .ok (.getfield 25, 3) := by decide +kernel
theorem d_Mo_push_14 : decode prog_13_method_9_code 14 = .ok (.iload_n 2, 1) := by decide +kernel
theorem d_Mo_push_15 : decode prog_13_method_9_code 15 = .ok (.aload_n 0, 1) := by decide +kernel
theorem d_Mo_push_16 : decode prog_13_method_9_code 16 = .ok (.getfield 25, 3) := by decide +kernel
theorem d_Mo_push_19 : decode prog_13_method_9_code 19 = .ok (.iload_n 2, 1) := by decide +kernel
theorem d_Mo_push_20 : decode prog_13_method_9_code 20 = .ok (.iconst 1, 1) := by decide +kernel
theorem d_Mo_push_21 : decode prog_13_method_9_code 21 = .ok (.isub, 1) := by decide +kernel
theorem d_Mo_push_22 : decode prog_13_method_9_code 22 = .ok (.iaload, 1) := by decide +kernel
theorem d_Mo_push_23 : decode prog_13_method_9_code 23 = .ok (.iastore, 1) := by decide +kernel
theorem d_Mo_push_24 : decode prog_13_method_9_code 24 = .ok (.aload_n 0, 1) := by decide +kernel
theorem d_Mo_push_25 : decode prog_13_method_9_code 25 = .ok (.getfield 28, 3) := by decide +kernel
theorem d_Mo_push_28 : decode prog_13_method_9_code 28 = .ok (.iload_n 2, 1) := by decide +kernel
theorem d_Mo_push_29 : decode prog_13_method_9_code 29 = .ok (.aload_n 0, 1) := by decide +kernel
theorem d_Mo_push_30 : decode prog_13_method_9_code 30 = .ok (.getfield 28, 3) := by decide +kernel
theorem d_Mo_push_33 : decode prog_13_method_9_code 33 = .ok (.iload_n 2, 1) := by decide +kernel
theorem d_Mo_push_34 : decode prog_13_method_9_code 34 = .ok (.iconst 1, 1) := by decide +kernel
theorem d_Mo_push_35 : decode prog_13_method_9_code 35 = .ok (.isub, 1) := by decide +kernel
theorem d_Mo_push_36 : decode prog_13_method_9_code 36 = .ok (.iaload, 1) := by decide +kernel
theorem d_Mo_push_37 : decode prog_13_method_9_code 37 = .ok (.iastore, 1) := by decide +kernel
theorem d_Mo_push_38 : decode prog_13_method_9_code 38 = .ok (.aload_n 0, 1) := by decide +kernel
theorem d_Mo_push_39 : decode prog_13_method_9_code 39 = .ok (.getfield 31, 3) := by decide +kernel
theorem d_Mo_push_42 : decode prog_13_method_9_code 42 = .ok (.iload_n 2, 1) := by decide +kernel
theorem d_Mo_push_43 : decode prog_13_method_9_code 43 = .ok (.aload_n 0, 1) := by decide +kernel
theorem d_Mo_push_44 : decode prog_13_method_9_code 44 = .ok (.getfield 31, 3) := by decide +kernel
theorem d_Mo_push_47 : decode prog_13_method_9_code 47 = .ok (.iload_n 2, 1) := by decide +kernel
theorem d_Mo_push_48 : decode prog_13_method_9_code 48 = .ok (.iconst 1, 1) := by decide +kernel
theorem d_Mo_push_49 : decode prog_13_method_9_code 49 = .ok (.isub, 1) := by decide +kernel
theorem d_Mo_push_50 : decode prog_13_method_9_code 50 = .ok (.iaload, 1) := by decide +kernel
theorem d_Mo_push_51 : decode prog_13_method_9_code 51 = .ok (.iastore, 1) := by decide +kernel
theorem d_Mo_push_52 : decode prog_13_method_9_code 52 = .ok (.aload_n 0, 1) := by decide +kernel
theorem d_Mo_push_53 : decode prog_13_method_9_code 53 = .ok (.getfield 25, 3) := by decide +kernel
theorem d_Mo_push_56 : decode prog_13_method_9_code 56 = .ok (.iload_n 2, 1) := by decide +kernel
theorem d_Mo_push_57 : decode prog_13_method_9_code 57 = .ok (.iaload, 1) := by decide +kernel
theorem d_Mo_push_58 : decode prog_13_method_9_code 58 = .ok (.iconst 2, 1) := by decide +kernel
theorem d_Mo_push_59 : decode prog_13_method_9_code 59 = .ok (.if_icmp .eq 13, 3) := by decide +kernel
theorem d_Mo_push_62 : decode prog_13_method_9_code 62 = .ok (.aload_n 0, 1) := by decide +kernel
theorem d_Mo_push_63 : decode prog_13_method_9_code 63 = .ok (.getfield 25, 3) := by decide +kernel
theorem d_Mo_push_66 : decode prog_13_method_9_code 66 = .ok (.iload_n 2, 1) := by decide +kernel
theorem d_Mo_push_67 : decode prog_13_method_9_code 67 = .ok (.iaload, 1) := by decide +kernel
theorem d_Mo_push_68 : decode prog_13_method_9_code 68 = .ok (.iconst 3, 1) := by decide +kernel
theorem d_Mo_push_69 : decode prog_13_method_9_code 69 = .ok (.if_icmp .ne 7, 3) := by decide +kernel
theorem d_Mo_push_72 : decode prog_13_method_9_code 72 = .ok (.iconst 1, 1) := by decide +kernel
theorem d_Mo_push_73 : decode prog_13_method_9_code 73 = .ok (.goto 4, 3) := by decide +kernel
theorem d_Mo_push_76 : decode prog_13_method_9_code 76 = .ok (.iconst 0, 1) := by decide +kernel
theorem d_Mo_push_77 : decode prog_13_method_9_code 77 = .ok (.istore_n 3, 1) := by decide +kernel
theorem d_Mo_push_78 : decode prog_13_method_9_code 78 = .ok (.iload_n 3, 1) := by decide +kernel
theorem d_Mo_push_79 : decode prog_13_method_9_code 79 = .ok (.ifCond .eq 23, 3) := by decide +kernel
theorem d_Mo_push_82 : decode prog_13_method_9_code 82 = .ok (.aload_n 0, 1) := by decide +kernel
theorem d_Mo_push_83 : decode prog_13_method_9_code 83 = .ok (.getfield 28, 3) := by decide +kernel
theorem d_Mo_push_86 : decode prog_13_method_9_code 86 = .ok (.iload_n 2, 1) := by decide +kernel
theorem d_Mo_push_87 : decode prog_13_method_9_code 87 = .ok (.iaload, 1) := by decide +kernel
theorem d_Mo_push_88 : decode prog_13_method_9_code 88 = .ok (.iload_n 1, 1) := by decide +kernel
theorem d_Mo_push_89 : decode prog_13_method_9_code 89 = .ok (.if_icmp .lt 13, 3) := by decide +kernel
theorem d_Mo_push_92 : decode prog_13_method_9_code 92 = .ok (.aload_n 0, 1) := by decide +kernel
theorem d_Mo_push_93 : decode prog_13_method_9_code 93 = .ok (.getfield 28, 3) := by decide +kernel
theorem d_Mo_push_96 : decode prog_13_method_9_code 96 = .ok (.iload_n 2, 1) := by decide +kernel
theorem d_Mo_push_97 : decode prog_13_method_9_code 97 = .ok (.dup2, 1) := by decide +kernel
theorem d_Mo_push_98 : decode prog_13_method_9_code 98 = .ok (.iaload, 1) := by decide +kernel
theorem d_Mo_push_99 : decode prog_13_method_9_code 99 = .ok (.iconst 1, 1) := by decide +kernel
theorem d_Mo_push_100 : decode prog_13_method_9_code 100 = .ok (.iadd, 1) := by decide +kernel
theorem d_Mo_push_101 : decode prog_13_method_9_code 101 = .ok (.iastore, 1) := by decide +kernel
theorem d_Mo_push_102 : decode prog_13_method_9_code 102 = .ok (.aload_n 0, 1) := by decide +kernel
theorem d_Mo_push_103 : decode prog_13_method_9_code 103 = .ok (.getfield 25, 3) := by decide +kernel
theorem d_Mo_push_106 : decode prog_13_method_9_code 106 = .ok (.iload_n 2, 1) := by decide +kernel
theorem d_Mo_push_107 : decode prog_13_method_9_code 107 = .ok (.iaload, 1) := by decide +kernel
theorem d_Mo_push_108 : decode prog_13_method_9_code 108 = .ok (.iconst 2, 1) := by decide +kernel
theorem d_Mo_push_109 : decode prog_13_method_9_code 109 = .ok (.if_icmp .ne 23, 3) := by decide +kernel
theorem d_Mo_push_112 : decode prog_13_method_9_code 112 = .ok (.aload_n 0, 1) := by decide +kernel
theorem d_Mo_push_113 : decode prog_13_method_9_code 113 = .ok (.getfield 31, 3) := by decide +kernel
theorem d_Mo_push_116 : decode prog_13_method_9_code 116 = .ok (.iload_n 2, 1) := by decide +kernel
theorem d_Mo_push_117 : decode prog_13_method_9_code 117 = .ok (.iaload, 1) := by decide +kernel
theorem d_Mo_push_118 : decode prog_13_method_9_code 118 = .ok (.iload_n 1, 1) := by decide +kernel
theorem d_Mo_push_119 : decode prog_13_method_9_code 119 = .ok (.if_icmp .lt 13, 3) := by decide +kernel
theorem d_Mo_push_122 : decode prog_13_method_9_code 122 = .ok (.aload_n 0, 1) := by decide +kernel
theorem d_Mo_push_123 : decode prog_13_method_9_code 123 = .ok (.getfield 31, 3) := by decide +kernel
theorem d_Mo_push_126 : decode prog_13_method_9_code 126 = .ok (.iload_n 2, 1) := by decide +kernel
theorem d_Mo_push_127 : decode prog_13_method_9_code 127 = .ok (.dup2, 1) := by decide +kernel
theorem d_Mo_push_128 : decode prog_13_method_9_code 128 = .ok (.iaload, 1) := by decide +kernel
theorem d_Mo_push_129 : decode prog_13_method_9_code 129 = .ok (.iconst 1, 1) := by decide +kernel
theorem d_Mo_push_130 : decode prog_13_method_9_code 130 = .ok (.iadd, 1) := by decide +kernel
theorem d_Mo_push_131 : decode prog_13_method_9_code 131 = .ok (.iastore, 1) := by decide +kernel
theorem d_Mo_push_132 : decode prog_13_method_9_code 132 = .ok (.iinc 2 (-1), 3) := by decide +kernel
theorem d_Mo_push_135 : decode prog_13_method_9_code 135 = .ok (.goto (-130), 3) := by decide +kernel
theorem d_Mo_push_138 : decode prog_13_method_9_code 138 = .ok (.aload_n 0, 1) := by decide +kernel
theorem d_Mo_push_139 : decode prog_13_method_9_code 139 = .ok (.dup, 1) := by decide +kernel
theorem d_Mo_push_140 : decode prog_13_method_9_code 140 = .ok (.getfield 115, 3) := by decide +kernel
theorem d_Mo_push_143 : decode prog_13_method_9_code 143 = .ok (.iconst 1, 1) := by decide +kernel
theorem d_Mo_push_144 : decode prog_13_method_9_code 144 = .ok (.iadd, 1) := by decide +kernel
theorem d_Mo_push_145 : decode prog_13_method_9_code 145 = .ok (.putfield 115, 3) := by decide +kernel
theorem d_Mo_push_148 : decode prog_13_method_9_code 148 = .ok (.aload_n 0, 1) := by decide +kernel
theorem d_Mo_push_149 : decode prog_13_method_9_code 149 = .ok (.getfield 25, 3) := by decide +kernel
theorem d_Mo_push_152 : decode prog_13_method_9_code 152 = .ok (.iload_n 1, 1) := by decide +kernel
theorem d_Mo_push_153 : decode prog_13_method_9_code 153 = .ok (.iconst 2, 1) := by decide +kernel
theorem d_Mo_push_154 : decode prog_13_method_9_code 154 = .ok (.iastore, 1) := by decide +kernel
theorem d_Mo_push_155 : decode prog_13_method_9_code 155 = .ok (.aload_n 0, 1) := by decide +kernel
theorem d_Mo_push_156 : decode prog_13_method_9_code 156 = .ok (.getfield 28, 3) := by decide +kernel
theorem d_Mo_push_159 : decode prog_13_method_9_code 159 = .ok (.iload_n 1, 1) := by decide +kernel
theorem d_Mo_push_160 : decode prog_13_method_9_code 160 = .ok (.iload_n 1, 1) := by decide +kernel
theorem d_Mo_push_161 : decode prog_13_method_9_code 161 = .ok (.iconst 1, 1) := by decide +kernel
theorem d_Mo_push_162 : decode prog_13_method_9_code 162 = .ok (.iadd, 1) := by decide +kernel
theorem d_Mo_push_163 : decode prog_13_method_9_code 163 = .ok (.iastore, 1) := by decide +kernel
theorem d_Mo_push_164 : decode prog_13_method_9_code 164 = .ok (.aload_n 0, 1) := by decide +kernel
theorem d_Mo_push_165 : decode prog_13_method_9_code 165 = .ok (.getfield 31, 3) := by decide +kernel
theorem d_Mo_push_168 : decode prog_13_method_9_code 168 = .ok (.iload_n 1, 1) := by decide +kernel
theorem d_Mo_push_169 : decode prog_13_method_9_code 169 = .ok (.iconst 0, 1) := by decide +kernel
theorem d_Mo_push_170 : decode prog_13_method_9_code 170 = .ok (.iastore, 1) := by decide +kernel
theorem d_Mo_push_171 : decode prog_13_method_9_code 171 = .ok (.return_, 1) := by decide +kernel
theorem M_Mo_push : lt_M0 m_Mo_push 1 := ⟨lt_m5 70 rfl rfl, lt_m1 13 rfl rfl, ⟨by decide +kernel, by decide +kernel, by decide +kernel⟩, by decide⟩
theorem in_Mo_push : Cond.instanceMethod m_Mo_push.1 ∈ lt_T := lt_m5 69 rfl rfl
theorem se_Mo_push : Cond.selects "LinearSearchModel" m_Mo_push.1 m_Mo_push.1 ∈ lt_T := lt_memS 30 rfl rfl
abbrev m_Mo_emit : lt_M := (⟨"LinearSearchModel", "emit", "(III)V"⟩, prog_13_method_8_code, 4, none)
theorem d_Mo_emit_0 : decode prog_13_method_8_code 0 = .ok (.aload_n 0, 1) := by decide +kernel
theorem d_Mo_emit_1 : decode prog_13_method_8_code 1 = .ok (.getfield 25, 3) := by decide +kernel
theorem d_Mo_emit_4 : decode prog_13_method_8_code 4 = .ok (.aload_n 0, 1) := by decide +kernel
theorem d_Mo_emit_5 : decode prog_13_method_8_code 5 = .ok (.getfield 115, 3) := by decide +kernel
theorem d_Mo_emit_8 : decode prog_13_method_8_code 8 = .ok (.iload_n 1, 1) := by decide +kernel
theorem d_Mo_emit_9 : decode prog_13_method_8_code 9 = .ok (.iastore, 1) := by decide +kernel
theorem d_Mo_emit_10 : decode prog_13_method_8_code 10 = .ok (.aload_n 0, 1) := by decide +kernel
theorem d_Mo_emit_11 : decode prog_13_method_8_code 11 = .ok (.getfield 28, 3) := by decide +kernel
theorem d_Mo_emit_14 : decode prog_13_method_8_code 14 = .ok (.aload_n 0, 1) := by decide +kernel
theorem d_Mo_emit_15 : decode prog_13_method_8_code 15 = .ok (.getfield 115, 3) := by decide +kernel
theorem d_Mo_emit_18 : decode prog_13_method_8_code 18 = .ok (.iload_n 2, 1) := by decide +kernel
theorem d_Mo_emit_19 : decode prog_13_method_8_code 19 = .ok (.iastore, 1) := by decide +kernel
theorem d_Mo_emit_20 : decode prog_13_method_8_code 20 = .ok (.aload_n 0, 1) := by decide +kernel
theorem d_Mo_emit_21 : decode prog_13_method_8_code 21 = .ok (.getfield 31, 3) := by decide +kernel
theorem d_Mo_emit_24 : decode prog_13_method_8_code 24 = .ok (.aload_n 0, 1) := by decide +kernel
theorem d_Mo_emit_25 : decode prog_13_method_8_code 25 = .ok (.getfield 115, 3) := by decide +kernel
theorem d_Mo_emit_28 : decode prog_13_method_8_code 28 = .ok (.iload_n 3, 1) := by decide +kernel
theorem d_Mo_emit_29 : decode prog_13_method_8_code 29 = .ok (.iastore, 1) := by decide +kernel
theorem d_Mo_emit_30 : decode prog_13_method_8_code 30 = .ok (.aload_n 0, 1) := by decide +kernel
theorem d_Mo_emit_31 : decode prog_13_method_8_code 31 = .ok (.dup, 1) := by decide +kernel
theorem d_Mo_emit_32 : decode prog_13_method_8_code 32 = .ok (.getfield 115, 3) := by decide +kernel
theorem d_Mo_emit_35 : decode prog_13_method_8_code 35 = .ok (.iconst 1, 1) := by decide +kernel
theorem d_Mo_emit_36 : decode prog_13_method_8_code 36 = .ok (.iadd, 1) := by decide +kernel
theorem d_Mo_emit_37 : decode prog_13_method_8_code 37 = .ok (.putfield 115, 3) := by decide +kernel
theorem d_Mo_emit_40 : decode prog_13_method_8_code 40 = .ok (.return_, 1) := by decide +kernel
theorem M_Mo_emit : lt_M0 m_Mo_emit 3 := ⟨lt_m5 74 rfl rfl, lt_m1 13 rfl rfl, ⟨by decide +kernel, by decide +kernel, by decide +kernel⟩, by decide⟩
theorem in_Mo_emit : Cond.instanceMethod m_Mo_emit.1 ∈ lt_T := lt_m5 73 rfl rfl
theorem se_Mo_emit : Cond.selects "LinearSearchModel" m_Mo_emit.1 m_Mo_emit.1 ∈ lt_T := lt_memS 31 rfl rfl
abbrev m_Mo_land : lt_M := (⟨"LinearSearchModel", "land", "(I)V"⟩, prog_13_method_10_code, 3, none)
theorem d_Mo_land_0 : decode prog_13_method_10_code 0 = .ok (.iconst 0, 1) := by decide +kernel
theorem d_Mo_land_1 : decode prog_13_method_10_code 1 = .ok (.istore_n 2, 1) := by decide +kernel
theorem d_Mo_land_2 : decode prog_13_method_10_code 2 = .ok (.iload_n 2, 1) := by decide +kernel
theorem d_Mo_land_3 : decode prog_13_method_10_code 3 = .ok (.aload_n 0, 1) := by decide +kernel
theorem d_Mo_land_4 : decode prog_13_method_10_code 4 = .ok (.getfield 115, 3) := by decide +kernel
theorem d_Mo_land_7 : decode prog_13_method_10_code 7 = .ok (.if_icmp .ge 41, 3) := by decide +kernel
theorem d_Mo_land_10 : decode prog_13_method_10_code 10 = .ok (.aload_n 0, 1) := by decide +kernel
theorem d_Mo_land_11 : decode prog_13_method_10_code 11 = .ok (.getfield 25, 3) := by decide +kernel
theorem d_Mo_land_14 : decode prog_13_method_10_code 14 = .ok (.iload_n 2, 1) := by decide +kernel
theorem d_Mo_land_15 : decode prog_13_method_10_code 15 = .ok (.iaload, 1) := by decide +kernel
theorem d_Mo_land_16 : decode prog_13_method_10_code 16 = .ok (.iconst 3, 1) := by decide +kernel
theorem d_Mo_land_17 : decode prog_13_method_10_code 17 = .ok (.if_icmp .ne 25, 3) := by decide +kernel
theorem d_Mo_land_20 : decode prog_13_method_10_code 20 = .ok (.aload_n 0, 1) := by decide +kernel
theorem d_Mo_land_21 : decode prog_13_method_10_code 21 = .ok (.getfield 28, 3) := by decide +kernel
theorem d_Mo_land_24 : decode prog_13_method_10_code 24 = .ok (.iload_n 2, 1) := by decide +kernel
theorem d_Mo_land_25 : decode prog_13_method_10_code 25 = .ok (.iaload, 1) := by decide +kernel
theorem d_Mo_land_26 : decode prog_13_method_10_code 26 = .ok (.iconst (-1), 1) := by decide +kernel
theorem d_Mo_land_27 : decode prog_13_method_10_code 27 = .ok (.iload_n 1, 1) := by decide +kernel
theorem d_Mo_land_28 : decode prog_13_method_10_code 28 = .ok (.isub, 1) := by decide +kernel
theorem d_Mo_land_29 : decode prog_13_method_10_code 29 = .ok (.if_icmp .ne 13, 3) := by decide +kernel
theorem d_Mo_land_32 : decode prog_13_method_10_code 32 = .ok (.aload_n 0, 1) := by decide +kernel
theorem d_Mo_land_33 : decode prog_13_method_10_code 33 = .ok (.getfield 28, 3) := by decide +kernel
theorem d_Mo_land_36 : decode prog_13_method_10_code 36 = .ok (.iload_n 2, 1) := by decide +kernel
theorem d_Mo_land_37 : decode prog_13_method_10_code 37 = .ok (.aload_n 0, 1) := by decide +kernel
theorem d_Mo_land_38 : decode prog_13_method_10_code 38 = .ok (.getfield 115, 3) := by decide +kernel
theorem d_Mo_land_41 : decode prog_13_method_10_code 41 = .ok (.iastore, 1) := by decide +kernel
theorem d_Mo_land_42 : decode prog_13_method_10_code 42 = .ok (.iinc 2 1, 3) := by decide +kernel
theorem d_Mo_land_45 : decode prog_13_method_10_code 45 = .ok (.goto (-43), 3) := by decide +kernel
theorem d_Mo_land_48 : decode prog_13_method_10_code 48 = .ok (.return_, 1) := by decide +kernel
theorem M_Mo_land : lt_M0 m_Mo_land 1 := ⟨lt_m5 78 rfl rfl, lt_m1 13 rfl rfl, ⟨by decide +kernel, by decide +kernel, by decide +kernel⟩, by decide⟩
theorem in_Mo_land : Cond.instanceMethod m_Mo_land.1 ∈ lt_T := lt_m5 77 rfl rfl
theorem se_Mo_land : Cond.selects "LinearSearchModel" m_Mo_land.1 m_Mo_land.1 ∈ lt_T := lt_memS 32 rfl rfl
abbrev m_Mo_sign : lt_M := (⟨"LinearSearchModel", "sign", "(I)V"⟩, prog_13_method_11_code, 5, none)
theorem d_Mo_sign_0 : decode prog_13_method_11_code 0 = .ok (.aload_n 0, 1) := by decide +kernel
theorem d_Mo_sign_1 : decode prog_13_method_11_code 1 = .ok (.invokevirtual 118, 3) := by decide +kernel
theorem d_Mo_sign_4 : decode prog_13_method_11_code 4 = .ok (.istore_n 2, 1) := by decide +kernel
theorem d_Mo_sign_5 : decode prog_13_method_11_code 5 = .ok (.iload_n 2, 1) := by decide +kernel
theorem d_Mo_sign_6 : decode prog_13_method_11_code 6 = .ok (.bipush 63, 2) := by decide +kernel
theorem d_Mo_sign_8 : decode prog_13_method_11_code 8 = .ok (.if_icmp .eq 16, 3) := by decide +kernel
theorem d_Mo_sign_11 : decode prog_13_method_11_code 11 = .ok (.iload_n 2, 1) := by decide +kernel
theorem d_Mo_sign_12 : decode prog_13_method_11_code 12 = .ok (.bipush 42, 2) := by decide +kernel
theorem d_Mo_sign_14 : decode prog_13_method_11_code 14 = .ok (.if_icmp .eq 10, 3) := by decide +kernel
theorem d_Mo_sign_17 : decode prog_13_method_11_code 17 = .ok (.iload_n 2, 1) := by decide +kernel
theorem d_Mo_sign_18 : decode prog_13_method_11_code 18 = .ok (.bipush 43, 2) := by decide +kernel
theorem d_Mo_sign_20 : decode prog_13_method_11_code 20 = .ok (.if_icmp .eq 4, 3) := by decide +kernel
theorem d_Mo_sign_23 : decode prog_13_method_11_code 23 = .ok (.return_, 1) := by decide +kernel
theorem d_Mo_sign_24 : decode prog_13_method_11_code 24 = .ok (.aload_n 0, 1) := by decide +kernel
theorem d_Mo_sign_25 : decode prog_13_method_11_code 25 = .ok (.dup, 1) := by decide +kernel
theorem d_Mo_sign_26 : decode prog_13_method_11_code 26 = .ok (.getfield 112, 3) := by decide +kernel
theorem d_Mo_sign_29 : decode prog_13_method_11_code 29 = .ok (.iconst 1, 1) := by decide +kernel
theorem d_Mo_sign_30 : decode prog_13_method_11_code 30 = .ok (.iadd, 1) := by decide +kernel
theorem d_Mo_sign_31 : decode prog_13_method_11_code 31 = .ok (.putfield 112, 3) := by decide +kernel
theorem d_Mo_sign_34 : decode prog_13_method_11_code 34 = .ok (.iload_n 1, 1) := by decide +kernel
theorem d_Mo_sign_35 : decode prog_13_method_11_code 35 = .ok (.istore_n 3, 1) := by decide +kernel
theorem d_Mo_sign_36 : decode prog_13_method_11_code 36 = .ok (.iload_n 2, 1) := by decide +kernel
theorem d_Mo_sign_37 : decode prog_13_method_11_code 37 = .ok (.bipush 43, 2) := by decide +kernel
theorem d_Mo_sign_39 : decode prog_13_method_11_code 39 = .ok (.if_icmp .ne 23, 3) := by decide +kernel
theorem d_Mo_sign_42 : decode prog_13_method_11_code 42 = .ok (.aload_n 0, 1) := by decide +kernel
theorem d_Mo_sign_43 : decode prog_13_method_11_code 43 = .ok (.getfield 115, 3) := by decide +kernel
theorem d_Mo_sign_46 : decode prog_13_method_11_code 46 = .ok (.istore_n 3, 1) := by decide +kernel
theorem d_Mo_sign_47 : decode prog_13_method_11_code 47 = .ok (.aload_n 0, 1) := by decide +kernel
theorem d_Mo_sign_48 : decode prog_13_method_11_code 48 = .ok (.iconst 2, 1) := by decide +kernel
theorem d_Mo_sign_49 : decode prog_13_method_11_code 49 = .ok (.iload_n 1, 1) := by decide +kernel
theorem d_Mo_sign_50 : decode prog_13_method_11_code 50 = .ok (.aload_n 0, 1) := by decide +kernel
theorem d_Mo_sign_51 : decode prog_13_method_11_code 51 = .ok (.getfield 115, 3) := by decide +kernel
theorem d_Mo_sign_54 : decode prog_13_method_11_code 54 = .ok (.iconst 1, 1) := by decide +kernel
theorem d_Mo_sign_55 : decode prog_13_method_11_code 55 = .ok (.iadd, 1) := by decide +kernel
theorem d_Mo_sign_56 : decode prog_13_method_11_code 56 = .ok (.invokevirtual 122, 3) := by decide +kernel
theorem d_Mo_sign_59 : decode prog_13_method_11_code 59 = .ok (.goto 31, 3) := by decide +kernel
theorem d_Mo_sign_62 : decode prog_13_method_11_code 62 = .ok (.aload_n 0, 1) := by decide +kernel
theorem d_Mo_sign_63 : decode prog_13_method_11_code 63 = .ok (.iload_n 1, 1) := by decide +kernel
theorem d_Mo_sign_64 : decode prog_13_method_11_code 64 = .ok (.invokevirtual 126, 3) := by decide +kernel
theorem d_Mo_sign_67 : decode prog_13_method_11_code 67 = .ok (.iload_n 2, 1) := by decide +kernel
theorem d_Mo_sign_68 : decode prog_13_method_11_code 68 = .ok (.bipush 42, 2) := by decide +kernel
theorem d_Mo_sign_70 : decode prog_13_method_11_code 70 = .ok (.if_icmp .ne 10, 3) := by decide +kernel
theorem d_Mo_sign_73 : decode prog_13_method_11_code 73 = .ok (.aload_n 0, 1) := by decide +kernel
theorem d_Mo_sign_74 : decode prog_13_method_11_code 74 = .ok (.iconst 3, 1) := by decide +kernel
theorem d_Mo_sign_75 : decode prog_13_method_11_code 75 = .ok (.iload_n 1, 1) := by decide +kernel
theorem d_Mo_sign_76 : decode prog_13_method_11_code 76 = .ok (.iconst 0, 1) := by decide +kernel
theorem d_Mo_sign_77 : decode prog_13_method_11_code 77 = .ok (.invokevirtual 122, 3) := by decide +kernel
theorem d_Mo_sign_80 : decode prog_13_method_11_code 80 = .ok (.aload_n 0, 1) := by decide +kernel
theorem d_Mo_sign_81 : decode prog_13_method_11_code 81 = .ok (.getfield 31, 3) := by decide +kernel
theorem d_Mo_sign_84 : decode prog_13_method_11_code 84 = .ok (.iload_n 1, 1) := by decide +kernel
theorem d_Mo_sign_85 : decode prog_13_method_11_code 85 = .ok (.aload_n 0, 1) := by decide +kernel
theorem d_Mo_sign_86 : decode prog_13_method_11_code 86 = .ok (.getfield 115, 3) := by decide +kernel
theorem d_Mo_sign_89 : decode prog_13_method_11_code 89 = .ok (.iastore, 1) := by decide +kernel
theorem d_Mo_sign_90 : decode prog_13_method_11_code 90 = .ok (.aload_n 0, 1) := by decide +kernel
theorem d_Mo_sign_91 : decode prog_13_method_11_code 91 = .ok (.invokevirtual 118, 3) := by decide +kernel
theorem d_Mo_sign_94 : decode prog_13_method_11_code 94 = .ok (.bipush 63, 2) := by decide +kernel
theorem d_Mo_sign_96 : decode prog_13_method_11_code 96 = .ok (.if_icmp .eq 4, 3) := by decide +kernel
theorem d_Mo_sign_99 : decode prog_13_method_11_code 99 = .ok (.return_, 1) := by decide +kernel
theorem d_Mo_sign_100 : decode prog_13_method_11_code 100 = .ok (.aload_n 0, 1) := by decide +kernel
theorem d_Mo_sign_101 : decode prog_13_method_11_code 101 = .ok (.dup, 1) := by decide +kernel
theorem d_Mo_sign_102 : decode prog_13_method_11_code 102 = .ok (.getfield 112, 3) := by decide +kernel
theorem d_Mo_sign_105 : decode prog_13_method_11_code 105 = .ok (.iconst 1, 1) := by decide +kernel
theorem d_Mo_sign_106 : decode prog_13_method_11_code 106 = .ok (.iadd, 1) := by decide +kernel
theorem d_Mo_sign_107 : decode prog_13_method_11_code 107 = .ok (.putfield 112, 3) := by decide +kernel
theorem d_Mo_sign_110 : decode prog_13_method_11_code 110 = .ok (.aload_n 0, 1) := by decide +kernel
theorem d_Mo_sign_111 : decode prog_13_method_11_code 111 = .ok (.getfield 28, 3) := by decide +kernel
theorem d_Mo_sign_114 : decode prog_13_method_11_code 114 = .ok (.iload_n 3, 1) := by decide +kernel
theorem d_Mo_sign_115 : decode prog_13_method_11_code 115 = .ok (.iaload, 1) := by decide +kernel
theorem d_Mo_sign_116 : decode prog_13_method_11_code 116 = .ok (.istore 4, 2) := by decide +kernel
theorem d_Mo_sign_118 : decode prog_13_method_11_code 118 = .ok (.aload_n 0, 1) := by decide +kernel
theorem d_Mo_sign_119 : decode prog_13_method_11_code 119 = .ok (.getfield 28, 3) := by decide +kernel
theorem d_Mo_sign_122 : decode prog_13_method_11_code 122 = .ok (.iload_n 3, 1) := by decide +kernel
theorem d_Mo_sign_123 : decode prog_13_method_11_code 123 = .ok (.aload_n 0, 1) := by decide +kernel
theorem d_Mo_sign_124 : decode prog_13_method_11_code 124 = .ok (.getfield 31, 3) := by decide +kernel
theorem d_Mo_sign_127 : decode prog_13_method_11_code 127 = .ok (.iload_n 3, 1) := by decide +kernel
theorem d_Mo_sign_128 : decode prog_13_method_11_code 128 = .ok (.iaload, 1) := by decide +kernel
theorem d_Mo_sign_129 : decode prog_13_method_11_code 129 = .ok (.iastore, 1) := by decide +kernel
theorem d_Mo_sign_130 : decode prog_13_method_11_code 130 = .ok (.aload_n 0, 1) := by decide +kernel
theorem d_Mo_sign_131 : decode prog_13_method_11_code 131 = .ok (.getfield 31, 3) := by decide +kernel
theorem d_Mo_sign_134 : decode prog_13_method_11_code 134 = .ok (.iload_n 3, 1) := by decide +kernel
theorem d_Mo_sign_135 : decode prog_13_method_11_code 135 = .ok (.iload 4, 2) := by decide +kernel
theorem d_Mo_sign_137 : decode prog_13_method_11_code 137 = .ok (.iastore, 1) := by decide +kernel
theorem d_Mo_sign_138 : decode prog_13_method_11_code 138 = .ok (.return_, 1) := by decide +kernel
theorem M_Mo_sign : lt_M0 m_Mo_sign 1 := ⟨lt_m5 82 rfl rfl, lt_m1 13 rfl rfl, ⟨by decide +kernel, by decide +kernel, by decide +kernel⟩, by decide⟩
theorem in_Mo_sign : Cond.instanceMethod m_Mo_sign.1 ∈ lt_T := lt_m5 81 rfl rfl
theorem se_Mo_sign : Cond.selects "LinearSearchModel" m_Mo_sign.1 m_Mo_sign.1 ∈ lt_T := lt_memS 33 rfl rfl
abbrev m_Mo_peek : lt_M := (⟨"LinearSearchModel", "peek", "()I"⟩, prog_13_method_7_code, 1, (some .int))
theorem d_Mo_peek_0 : decode prog_13_method_7_code 0 = .ok (.aload_n 0, 1) := by decide +kernel
theorem d_Mo_peek_1 : decode prog_13_method_7_code 1 = .ok (.getfield 112, 3) := by decide +kernel
theorem d_Mo_peek_4 : decode prog_13_method_7_code 4 = .ok (.aload_n 0, 1) := by decide +kernel
theorem d_Mo_peek_5 : decode prog_13_method_7_code 5 = .ok (.getfield 109, 3) := by decide +kernel
theorem d_Mo_peek_8 : decode prog_13_method_7_code 8 = .ok (.if_icmp .ge 15, 3) := by decide +kernel
theorem d_Mo_peek_11 : decode prog_13_method_7_code 11 = .ok (.aload_n 0, 1) := by decide +kernel
theorem d_Mo_peek_12 : decode prog_13_method_7_code 12 = .ok (.getfield 7, 3) := by decide +kernel
theorem d_Mo_peek_15 : decode prog_13_method_7_code 15 = .ok (.aload_n 0, 1) := by decide +kernel
theorem d_Mo_peek_16 : decode prog_13_method_7_code 16 = .ok (.getfield 112, 3) := by decide +kernel
theorem d_Mo_peek_19 : decode prog_13_method_7_code 19 = .ok (.iaload, 1) := by decide +kernel
theorem d_Mo_peek_20 : decode prog_13_method_7_code 20 = .ok (.goto 4, 3) := by decide +kernel
theorem d_Mo_peek_23 : decode prog_13_method_7_code 23 = .ok (.iconst 0, 1) := by decide +kernel
theorem d_Mo_peek_24 : decode prog_13_method_7_code 24 = .ok (.ireturn, 1) := by decide +kernel
theorem M_Mo_peek : lt_M0 m_Mo_peek 0 := ⟨lt_m5 86 rfl rfl, lt_m1 13 rfl rfl, ⟨by decide +kernel, by decide +kernel, by decide +kernel⟩, by decide⟩
theorem in_Mo_peek : Cond.instanceMethod m_Mo_peek.1 ∈ lt_T := lt_m5 85 rfl rfl
theorem se_Mo_peek : Cond.selects "LinearSearchModel" m_Mo_peek.1 m_Mo_peek.1 ∈ lt_T := lt_memS 34 rfl rfl
abbrev m_Mo_isLetter : lt_M := (⟨"LinearSearchModel", "isLetter", "(I)Z"⟩, prog_13_method_12_code, 1, (some .boolean))
theorem d_Mo_isLetter_0 : decode prog_13_method_12_code 0 = .ok (.iload_n 0, 1) := by decide +kernel
theorem d_Mo_isLetter_1 : decode prog_13_method_12_code 1 = .ok (.bipush 97, 2) := by decide +kernel
theorem d_Mo_isLetter_3 : decode prog_13_method_12_code 3 = .ok (.if_icmp .lt 13, 3) := by decide +kernel
theorem d_Mo_isLetter_6 : decode prog_13_method_12_code 6 = .ok (.iload_n 0, 1) := by decide +kernel
theorem d_Mo_isLetter_7 : decode prog_13_method_12_code 7 = .ok (.bipush 104, 2) := by decide +kernel
theorem d_Mo_isLetter_9 : decode prog_13_method_12_code 9 = .ok (.if_icmp .gt 7, 3) := by decide +kernel
theorem d_Mo_isLetter_12 : decode prog_13_method_12_code 12 = .ok (.iconst 1, 1) := by decide +kernel
theorem d_Mo_isLetter_13 : decode prog_13_method_12_code 13 = .ok (.goto 4, 3) := by decide +kernel
theorem d_Mo_isLetter_16 : decode prog_13_method_12_code 16 = .ok (.iconst 0, 1) := by decide +kernel
theorem d_Mo_isLetter_17 : decode prog_13_method_12_code 17 = .ok (.ireturn, 1) := by decide +kernel
theorem M_Mo_isLetter : lt_M0 m_Mo_isLetter 1 := ⟨lt_m5 89 rfl rfl, lt_m1 13 rfl rfl, ⟨by decide +kernel, by decide +kernel, by decide +kernel⟩, by decide⟩
theorem st_Mo_isLetter : Cond.static m_Mo_isLetter.1 ∈ lt_T := lt_m5 88 rfl rfl
abbrev m_Mo_fail : lt_M := (⟨"LinearSearchModel", "fail", "(I)I"⟩, prog_13_method_3_code, 2, (some .int))
theorem d_Mo_fail_0 : decode prog_13_method_3_code 0 = .ok (.aload_n 0, 1) := by decide +kernel
theorem d_Mo_fail_1 : decode prog_13_method_3_code 1 = .ok (.iload_n 1, 1) := by decide +kernel
theorem d_Mo_fail_2 : decode prog_13_method_3_code 2 = .ok (.putfield 102, 3) := by decide +kernel
theorem d_Mo_fail_5 : decode prog_13_method_3_code 5 = .ok (.iconst 0, 1) := by decide +kernel
theorem d_Mo_fail_6 : decode prog_13_method_3_code 6 = .ok (.ireturn, 1) := by decide +kernel
theorem M_Mo_fail : lt_M0 m_Mo_fail 1 := ⟨lt_m5 93 rfl rfl, lt_m1 13 rfl rfl, ⟨by decide +kernel, by decide +kernel, by decide +kernel⟩, by decide⟩
theorem in_Mo_fail : Cond.instanceMethod m_Mo_fail.1 ∈ lt_T := lt_m5 92 rfl rfl
theorem se_Mo_fail : Cond.selects "LinearSearchModel" m_Mo_fail.1 m_Mo_fail.1 ∈ lt_T := lt_memS 35 rfl rfl
abbrev m_Mo_noSearch : lt_M := (⟨"LinearSearchModel", "noSearch", "()V"⟩, prog_13_method_4_code, 1, none)
theorem d_Mo_noSearch_0 : decode prog_13_method_4_code 0 = .ok (.aload_n 0, 1) := by decide +kernel
theorem d_Mo_noSearch_1 : decode prog_13_method_4_code 1 = .ok (.iconst (-1), 1) := by decide +kernel
theorem d_Mo_noSearch_2 : decode prog_13_method_4_code 2 = .ok (.putfield 77, 3) := by decide +kernel
theorem d_Mo_noSearch_5 : decode prog_13_method_4_code 5 = .ok (.aload_n 0, 1) := by decide +kernel
theorem d_Mo_noSearch_6 : decode prog_13_method_4_code 6 = .ok (.iconst (-1), 1) := by decide +kernel
theorem d_Mo_noSearch_7 : decode prog_13_method_4_code 7 = .ok (.putfield 81, 3) := by decide +kernel
theorem d_Mo_noSearch_10 : decode prog_13_method_4_code 10 = .ok (.aload_n 0, 1) := by decide +kernel
theorem d_Mo_noSearch_11 : decode prog_13_method_4_code 11 = .ok (.iconst 0, 1) := by decide +kernel
theorem d_Mo_noSearch_12 : decode prog_13_method_4_code 12 = .ok (.putfield 105, 3) := by decide +kernel
theorem d_Mo_noSearch_15 : decode prog_13_method_4_code 15 = .ok (.return_, 1) := by decide +kernel
theorem M_Mo_noSearch : lt_M0 m_Mo_noSearch 0 := ⟨lt_m5 97 rfl rfl, lt_m1 13 rfl rfl, ⟨by decide +kernel, by decide +kernel, by decide +kernel⟩, by decide⟩
theorem in_Mo_noSearch : Cond.instanceMethod m_Mo_noSearch.1 ∈ lt_T := lt_m5 96 rfl rfl
theorem se_Mo_noSearch : Cond.selects "LinearSearchModel" m_Mo_noSearch.1 m_Mo_noSearch.1 ∈ lt_T := lt_memS 36 rfl rfl
abbrev m_Mo_isSingle : lt_M := (⟨"LinearSearchModel", "isSingle", "(I)Z"⟩, prog_13_method_16_code, 6, (some .boolean))
theorem d_Mo_isSingle_0 : decode prog_13_method_16_code 0 = .ok (.aload_n 0, 1) := by decide +kernel
theorem d_Mo_isSingle_1 : decode prog_13_method_16_code 1 = .ok (.dup, 1) := by decide +kernel
theorem d_Mo_isSingle_2 : decode prog_13_method_16_code 2 = .ok (.getfield 166, 3) := by decide +kernel
theorem d_Mo_isSingle_5 : decode prog_13_method_16_code 5 = .ok (.iconst 1, 1) := by decide +kernel
theorem d_Mo_isSingle_6 : decode prog_13_method_16_code 6 = .ok (.iadd, 1) := by decide +kernel
theorem d_Mo_isSingle_7 : decode prog_13_method_16_code 7 = .ok (.putfield 166, 3) := by decide +kernel
theorem d_Mo_isSingle_10 : decode prog_13_method_16_code 10 = .ok (.aload_n 0, 1) := by decide +kernel
theorem d_Mo_isSingle_11 : decode prog_13_method_16_code 11 = .ok (.iconst 0, 1) := by decide +kernel
theorem d_Mo_isSingle_12 : decode prog_13_method_16_code 12 = .ok (.putfield 169, 3) := by decide +kernel
theorem d_Mo_isSingle_15 : decode prog_13_method_16_code 15 = .ok (.iconst 0, 1) := by decide +kernel
theorem d_Mo_isSingle_16 : decode prog_13_method_16_code 16 = .ok (.istore_n 2, 1) := by decide +kernel
theorem d_Mo_isSingle_17 : decode prog_13_method_16_code 17 = .ok (.iload_n 1, 1) := by decide +kernel
theorem d_Mo_isSingle_18 : decode prog_13_method_16_code 18 = .ok (.istore_n 3, 1) := by decide +kernel
theorem d_Mo_isSingle_19 : decode prog_13_method_16_code 19 = .ok (.iload_n 3, 1) := by decide +kernel
theorem d_Mo_isSingle_20 : decode prog_13_method_16_code 20 = .ok (.iconst (-1), 1) := by decide +kernel
theorem d_Mo_isSingle_21 : decode prog_13_method_16_code 21 = .ok (.if_icmp .eq 196, 3) := by decide +kernel
theorem d_Mo_isSingle_24 : decode prog_13_method_16_code 24 = .ok (.aload_n 0, 1) := by decide +kernel
theorem d_Mo_isSingle_25 : decode prog_13_method_16_code 25 = .ok (.getfield 34, 3) := by decide +kernel
theorem d_Mo_isSingle_28 : decode prog_13_method_16_code 28 = .ok (.iload_n 3, 1) := by decide +kernel
theorem d_Mo_isSingle_29 : decode prog_13_method_16_code 29 = .ok (.iaload, 1) := by decide +kernel
theorem d_Mo_isSingle_30 : decode prog_13_method_16_code 30 = .ok (.aload_n 0, 1) := by decide +kernel
theorem d_Mo_isSingle_31 : decode prog_13_method_16_code 31 = .ok (.getfield 166, 3) := by decide +kernel
theorem d_Mo_isSingle_34 : decode prog_13_method_16_code 34 = .ok (.if_icmp .ne 5, 3) := by decide +kernel
theorem d_Mo_isSingle_37 : decode prog_13_method_16_code 37 = .ok (.iconst 0, 1) := by decide +kernel
theorem d_Mo_isSingle_38 : decode prog_13_method_16_code 38 = .ok (.ireturn, 1) := by decide +kernel
theorem d_Mo_isSingle_39 : decode prog_13_method_16_code 39 = .ok (.aload_n 0, 1) := by decide +kernel
theorem d_Mo_isSingle_40 : decode prog_13_method_16_code 40 = .ok (.getfield 34, 3) := by decide +kernel
theorem d_Mo_isSingle_43 : decode prog_13_method_16_code 43 = .ok (.iload_n 3, 1) := by decide +kernel
theorem d_Mo_isSingle_44 : decode prog_13_method_16_code 44 = .ok (.aload_n 0, 1) := by decide +kernel
theorem d_Mo_isSingle_45 : decode prog_13_method_16_code 45 = .ok (.getfield 166, 3) := by decide +kernel
theorem d_Mo_isSingle_48 : decode prog_13_method_16_code 48 = .ok (.iastore, 1) := by decide +kernel
theorem d_Mo_isSingle_49 : decode prog_13_method_16_code 49 = .ok (.aload_n 0, 1) := by decide +kernel
theorem d_Mo_isSingle_50 : decode prog_13_method_16_code 50 = .ok (.getfield 16, 3) := by decide +kernel
theorem d_Mo_isSingle_53 : decode prog_13_method_16_code 53 = .ok (.iload_n 3, 1) := by decide +kernel
theorem d_Mo_isSingle_54 : decode prog_13_method_16_code 54 = .ok (.iaload, 1) := by decide +kernel
theorem d_Mo_isSingle_55 : decode prog_13_method_16_code 55 = .ok (.istore 4, 2) := by decide +kernel
theorem d_Mo_isSingle_57 : decode prog_13_method_16_code 57 = .ok (.iload 4, 2) := by decide +kernel
theorem d_Mo_isSingle_59 : decode prog_13_method_16_code 59 = .ok (.iconst 1, 1) := by decide +kernel
theorem d_Mo_isSingle_60 : decode prog_13_method_16_code 60 = .ok (.if_icmp .gt 39, 3) := by decide +kernel
theorem d_Mo_isSingle_63 : decode prog_13_method_16_code 63 = .ok (.iload 4, 2) := by decide +kernel
theorem d_Mo_isSingle_65 : decode prog_13_method_16_code 65 = .ok (.iconst 1, 1) := by decide +kernel
theorem d_Mo_isSingle_66 : decode prog_13_method_16_code 66 = .ok (.if_icmp .ne 9, 3) := by decide +kernel
theorem d_Mo_isSingle_69 : decode prog_13_method_16_code 69 = .ok (.sipush 255, 3) := by decide +kernel
theorem d_Mo_isSingle_72 : decode prog_13_method_16_code 72 = .ok (.goto 11, 3) := by decide +kernel
theorem d_Mo_isSingle_75 : decode prog_13_method_16_code 75 = .ok (.iconst 1, 1) := by decide +kernel
theorem d_Mo_isSingle_76 : decode prog_13_method_16_code 76 = .ok (.aload_n 0, 1) := by decide +kernel
theorem d_Mo_isSingle_77 : decode prog_13_method_16_code 77 = .ok (.getfield 19, 3) := by decide +kernel
theorem d_Mo_isSingle_80 : decode prog_13_method_16_code 80 = .ok (.iload_n 3, 1) := by decide +kernel
theorem d_Mo_isSingle_81 : decode prog_13_method_16_code 81 = .ok (.iaload, 1) := by decide +kernel
theorem d_Mo_isSingle_82 : decode prog_13_method_16_code 82 = .ok (.ishl, 1) := by decide +kernel
theorem d_Mo_isSingle_83 : decode prog_13_method_16_code 83 = .ok (.istore 5, 2) := by decide +kernel
theorem d_Mo_isSingle_85 : decode prog_13_method_16_code 85 = .ok (.iload_n 2, 1) := by decide +kernel
theorem d_Mo_isSingle_86 : decode prog_13_method_16_code 86 = .ok (.iload 5, 2) := by decide +kernel
theorem d_Mo_isSingle_88 : decode prog_13_method_16_code 88 = .ok (.iand, 1) := by decide +kernel
theorem d_Mo_isSingle_89 : decode prog_13_method_16_code 89 = .ok (.ifCond .eq 5, 3) := by decide +kernel
theorem d_Mo_isSingle_92 : decode prog_13_method_16_code 92 = .ok (.iconst 0, 1) := by decide +kernel
theorem d_Mo_isSingle_93 : decode prog_13_method_16_code 93 = .ok (.ireturn, 1) := by decide +kernel
theorem d_Mo_isSingle_94 : decode prog_13_method_16_code 94 = .ok (.iload_n 2, 1) := by decide +kernel
theorem d_Mo_isSingle_95 : decode prog_13_method_16_code 95 = .ok (.iload 5, 2) := by decide +kernel
theorem d_Mo_isSingle_97 : decode prog_13_method_16_code 97 = .ok (.ior, 1) := by decide +kernel
theorem d_Mo_isSingle_98 : decode prog_13_method_16_code 98 = .ok (.istore_n 2, 1) := by decide +kernel
theorem d_Mo_isSingle_99 : decode prog_13_method_16_code 99 = .ok (.iload 4, 2) := by decide +kernel
theorem d_Mo_isSingle_101 : decode prog_13_method_16_code 101 = .ok (.iconst 2, 1) := by decide +kernel
theorem d_Mo_isSingle_102 : decode prog_13_method_16_code 102 = .ok (.if_icmp .ne 28, 3) := by decide +kernel
theorem d_Mo_isSingle_105 : decode prog_13_method_16_code 105 = .ok (.aload_n 0, 1) := by decide +kernel
theorem d_Mo_isSingle_106 : decode prog_13_method_16_code 106 = .ok (.getfield 37, 3) := by decide +kernel
theorem d_Mo_isSingle_109 : decode prog_13_method_16_code 109 = .ok (.aload_n 0, 1) := by decide +kernel
theorem d_Mo_isSingle_110 : decode prog_13_method_16_code 110 = .ok (.getfield 169, 3) := by decide +kernel
theorem d_Mo_isSingle_113 : decode prog_13_method_16_code 113 = .ok (.aload_n 0, 1) := by decide +kernel
theorem d_Mo_isSingle_114 : decode prog_13_method_16_code 114 = .ok (.getfield 22, 3) := by decide +kernel
theorem d_Mo_isSingle_117 : decode prog_13_method_16_code 117 = .ok (.iload_n 3, 1) := by decide +kernel
theorem d_Mo_isSingle_118 : decode prog_13_method_16_code 118 = .ok (.iaload, 1) := by decide +kernel
theorem d_Mo_isSingle_119 : decode prog_13_method_16_code 119 = .ok (.iastore, 1) := by decide +kernel
theorem d_Mo_isSingle_120 : decode prog_13_method_16_code 120 = .ok (.aload_n 0, 1) := by decide +kernel
theorem d_Mo_isSingle_121 : decode prog_13_method_16_code 121 = .ok (.dup, 1) := by decide +kernel
theorem d_Mo_isSingle_122 : decode prog_13_method_16_code 122 = .ok (.getfield 169, 3) := by decide +kernel
theorem d_Mo_isSingle_125 : decode prog_13_method_16_code 125 = .ok (.iconst 1, 1) := by decide +kernel
theorem d_Mo_isSingle_126 : decode prog_13_method_16_code 126 = .ok (.iadd, 1) := by decide +kernel
theorem d_Mo_isSingle_127 : decode prog_13_method_16_code 127 = .ok (.putfield 169, 3) := by decide +kernel
theorem d_Mo_isSingle_130 : decode prog_13_method_16_code 130 = .ok (.iload 4, 2) := by decide +kernel
theorem d_Mo_isSingle_132 : decode prog_13_method_16_code 132 = .ok (.iconst 2, 1) := by decide +kernel
theorem d_Mo_isSingle_133 : decode prog_13_method_16_code 133 = .ok (.if_icmp .eq 9, 3) := by decide +kernel
theorem d_Mo_isSingle_136 : decode prog_13_method_16_code 136 = .ok (.iload 4, 2) := by decide +kernel
theorem d_Mo_isSingle_138 : decode prog_13_method_16_code 138 = .ok (.iconst 3, 1) := by decide +kernel
theorem d_Mo_isSingle_139 : decode prog_13_method_16_code 139 = .ok (.if_icmp .ne 13, 3) := by decide +kernel
theorem d_Mo_isSingle_142 : decode prog_13_method_16_code 142 = .ok (.aload_n 0, 1) := by decide +kernel
theorem d_Mo_isSingle_143 : decode prog_13_method_16_code 143 = .ok (.getfield 19, 3) := by decide +kernel
theorem d_Mo_isSingle_146 : decode prog_13_method_16_code 146 = .ok (.iload_n 3, 1) := by decide +kernel
theorem d_Mo_isSingle_147 : decode prog_13_method_16_code 147 = .ok (.iaload, 1) := by decide +kernel
theorem d_Mo_isSingle_148 : decode prog_13_method_16_code 148 = .ok (.istore_n 3, 1) := by decide +kernel
theorem d_Mo_isSingle_149 : decode prog_13_method_16_code 149 = .ok (.goto 30, 3) := by decide +kernel
theorem d_Mo_isSingle_152 : decode prog_13_method_16_code 152 = .ok (.iload 4, 2) := by decide +kernel
theorem d_Mo_isSingle_154 : decode prog_13_method_16_code 154 = .ok (.iconst 4, 1) := by decide +kernel
theorem d_Mo_isSingle_155 : decode prog_13_method_16_code 155 = .ok (.if_icmp .eq 16, 3) := by decide +kernel
theorem d_Mo_isSingle_158 : decode prog_13_method_16_code 158 = .ok (.iload 4, 2) := by decide +kernel
theorem d_Mo_isSingle_160 : decode prog_13_method_16_code 160 = .ok (.iconst 5, 1) := by decide +kernel
theorem d_Mo_isSingle_161 : decode prog_13_method_16_code 161 = .ok (.if_icmp .eq 10, 3) := by decide +kernel
theorem d_Mo_isSingle_164 : decode prog_13_method_16_code 164 = .ok (.iload 4, 2) := by decide +kernel
theorem d_Mo_isSingle_166 : decode prog_13_method_16_code 166 = .ok (.bipush 6, 2) := by decide +kernel
theorem d_Mo_isSingle_168 : decode prog_13_method_16_code 168 = .ok (.if_icmp .ne 9, 3) := by decide +kernel
theorem d_Mo_isSingle_171 : decode prog_13_method_16_code 171 = .ok (.iinc 3 1, 3) := by decide +kernel
theorem d_Mo_isSingle_174 : decode prog_13_method_16_code 174 = .ok (.goto 5, 3) := by decide +kernel
theorem d_Mo_isSingle_177 : decode prog_13_method_16_code 177 = .ok (.iconst (-1), 1) := by decide +kernel
theorem d_Mo_isSingle_178 : decode prog_13_method_16_code 178 = .ok (.istore_n 3, 1) := by decide +kernel
theorem d_Mo_isSingle_179 : decode prog_13_method_16_code 179 = .ok (.iload_n 3, 1) := by decide +kernel
theorem d_Mo_isSingle_180 : decode prog_13_method_16_code 180 = .ok (.iconst (-1), 1) := by decide +kernel
theorem d_Mo_isSingle_181 : decode prog_13_method_16_code 181 = .ok (.if_icmp .ne (-162), 3) := by decide +kernel
theorem d_Mo_isSingle_184 : decode prog_13_method_16_code 184 = .ok (.aload_n 0, 1) := by decide +kernel
theorem d_Mo_isSingle_185 : decode prog_13_method_16_code 185 = .ok (.getfield 169, 3) := by decide +kernel
theorem d_Mo_isSingle_188 : decode prog_13_method_16_code 188 = .ok (.ifCond .ne 6, 3) := by decide +kernel
theorem d_Mo_isSingle_191 : decode prog_13_method_16_code 191 = .ok (.goto (-172), 3) := by decide +kernel
theorem d_Mo_isSingle_194 : decode prog_13_method_16_code 194 = .ok (.aload_n 0, 1) := by decide +kernel
theorem d_Mo_isSingle_195 : decode prog_13_method_16_code 195 = .ok (.dup, 1) := by decide +kernel
theorem d_Mo_isSingle_196 : decode prog_13_method_16_code 196 = .ok (.getfield 169, 3) := by decide +kernel
theorem d_Mo_isSingle_199 : decode prog_13_method_16_code 199 = .ok (.iconst 1, 1) := by decide +kernel
theorem d_Mo_isSingle_200 : decode prog_13_method_16_code 200 = .ok (.isub, 1) := by decide +kernel
theorem d_Mo_isSingle_201 : decode prog_13_method_16_code 201 = .ok (.putfield 169, 3) := by decide +kernel
theorem d_Mo_isSingle_204 : decode prog_13_method_16_code 204 = .ok (.aload_n 0, 1) := by decide +kernel
theorem d_Mo_isSingle_205 : decode prog_13_method_16_code 205 = .ok (.getfield 37, 3) := by decide +kernel
theorem d_Mo_isSingle_208 : decode prog_13_method_16_code 208 = .ok (.aload_n 0, 1) := by decide +kernel
theorem d_Mo_isSingle_209 : decode prog_13_method_16_code 209 = .ok (.getfield 169, 3) := by decide +kernel
theorem d_Mo_isSingle_212 : decode prog_13_method_16_code 212 = .ok (.iaload, 1) := by decide +kernel
theorem d_Mo_isSingle_213 : decode prog_13_method_16_code 213 = .ok (.istore_n 3, 1) := by decide +kernel
theorem d_Mo_isSingle_214 : decode prog_13_method_16_code 214 = .ok (.goto (-195), 3) := by decide +kernel
theorem d_Mo_isSingle_217 : decode prog_13_method_16_code 217 = .ok (.iconst 1, 1) := by decide +kernel
theorem d_Mo_isSingle_218 : decode prog_13_method_16_code 218 = .ok (.ireturn, 1) := by decide +kernel
theorem M_Mo_isSingle : lt_M0 m_Mo_isSingle 1 := ⟨lt_m5 101 rfl rfl, lt_m1 13 rfl rfl, ⟨by decide +kernel, by decide +kernel, by decide +kernel⟩, by decide⟩
theorem in_Mo_isSingle : Cond.instanceMethod m_Mo_isSingle.1 ∈ lt_T := lt_m5 100 rfl rfl
theorem se_Mo_isSingle : Cond.selects "LinearSearchModel" m_Mo_isSingle.1 m_Mo_isSingle.1 ∈ lt_T := lt_memS 37 rfl rfl
abbrev m_Mo_instruction : lt_M := (⟨"LinearSearchModel", "instruction", "(II)I"⟩, prog_13_method_15_code, 3, (some .int))
theorem d_Mo_instruction_0 : decode prog_13_method_15_code 0 = .ok (.aload_n 0, 1) := by decide +kernel
theorem d_Mo_instruction_1 : decode prog_13_method_15_code 1 = .ok (.iload_n 1, 1) := by decide +kernel
theorem d_Mo_instruction_2 : decode prog_13_method_15_code 2 = .ok (.ifCond .lt 11, 3) := by decide +kernel
theorem d_Mo_instruction_5 : decode prog_13_method_15_code 5 = .ok (.iload_n 1, 1) := by decide +kernel
theorem d_Mo_instruction_6 : decode prog_13_method_15_code 6 = .ok (.aload_n 0, 1) := by decide +kernel
theorem d_Mo_instruction_7 : decode prog_13_method_15_code 7 = .ok (.getfield 148, 3) := by decide +kernel
theorem d_Mo_instruction_10 : decode prog_13_method_15_code 10 = .ok (.if_icmp .lt 7, 3) := by decide +kernel
theorem d_Mo_instruction_13 : decode prog_13_method_15_code 13 = .ok (.iconst 1, 1) := by decide +kernel
theorem d_Mo_instruction_14 : decode prog_13_method_15_code 14 = .ok (.goto 17, 3) := by decide +kernel
theorem d_Mo_instruction_17 : decode prog_13_method_15_code 17 = .ok (.iload_n 2, 1) := by decide +kernel
theorem d_Mo_instruction_18 : decode prog_13_method_15_code 18 = .ok (.ifCond .lt 8, 3) := by decide +kernel
theorem d_Mo_instruction_21 : decode prog_13_method_15_code 21 = .ok (.iload_n 2, 1) := by decide +kernel
theorem d_Mo_instruction_22 : decode prog_13_method_15_code 22 = .ok (.iconst 2, 1) := by decide +kernel
theorem d_Mo_instruction_23 : decode prog_13_method_15_code 23 = .ok (.if_icmp .le 7, 3) := by decide +kernel
theorem d_Mo_instruction_26 : decode prog_13_method_15_code 26 = .ok (.iconst 2, 1) := by decide +kernel
theorem d_Mo_instruction_27 : decode prog_13_method_15_code 27 = .ok (.goto 4, 3) := by decide +kernel
theorem d_Mo_instruction_30 : decode prog_13_method_15_code 30 = .ok (.iconst 0, 1) := by decide +kernel
theorem d_Mo_instruction_31 : decode prog_13_method_15_code 31 = .ok (.putfield 102, 3) := by decide +kernel
theorem d_Mo_instruction_34 : decode prog_13_method_15_code 34 = .ok (.aload_n 0, 1) := by decide +kernel
theorem d_Mo_instruction_35 : decode prog_13_method_15_code 35 = .ok (.getfield 102, 3) := by decide +kernel
theorem d_Mo_instruction_38 : decode prog_13_method_15_code 38 = .ok (.ifCond .le 5, 3) := by decide +kernel
theorem d_Mo_instruction_41 : decode prog_13_method_15_code 41 = .ok (.iconst 0, 1) := by decide +kernel
theorem d_Mo_instruction_42 : decode prog_13_method_15_code 42 = .ok (.ireturn, 1) := by decide +kernel
theorem d_Mo_instruction_43 : decode prog_13_method_15_code 43 = .ok (.iload_n 2, 1) := by decide +kernel
theorem d_Mo_instruction_44 : decode prog_13_method_15_code 44 = .ok (.ifCond .ne 12, 3) := by decide +kernel
theorem d_Mo_instruction_47 : decode prog_13_method_15_code 47 = .ok (.aload_n 0, 1) := by decide +kernel
theorem d_Mo_instruction_48 : decode prog_13_method_15_code 48 = .ok (.getfield 16, 3) := by decide +kernel
theorem d_Mo_instruction_51 : decode prog_13_method_15_code 51 = .ok (.iload_n 1, 1) := by decide +kernel
theorem d_Mo_instruction_52 : decode prog_13_method_15_code 52 = .ok (.iaload, 1) := by decide +kernel
theorem d_Mo_instruction_53 : decode prog_13_method_15_code 53 = .ok (.goto 23, 3) := by decide +kernel
theorem d_Mo_instruction_56 : decode prog_13_method_15_code 56 = .ok (.iload_n 2, 1) := by decide +kernel
theorem d_Mo_instruction_57 : decode prog_13_method_15_code 57 = .ok (.iconst 1, 1) := by decide +kernel
theorem d_Mo_instruction_58 : decode prog_13_method_15_code 58 = .ok (.if_icmp .ne 12, 3) := by decide +kernel
theorem d_Mo_instruction_61 : decode prog_13_method_15_code 61 = .ok (.aload_n 0, 1) := by decide +kernel
theorem d_Mo_instruction_62 : decode prog_13_method_15_code 62 = .ok (.getfield 19, 3) := by decide +kernel
theorem d_Mo_instruction_65 : decode prog_13_method_15_code 65 = .ok (.iload_n 1, 1) := by decide +kernel
theorem d_Mo_instruction_66 : decode prog_13_method_15_code 66 = .ok (.iaload, 1) := by decide +kernel
theorem d_Mo_instruction_67 : decode prog_13_method_15_code 67 = .ok (.goto 9, 3) := by decide +kernel
theorem d_Mo_instruction_70 : decode prog_13_method_15_code 70 = .ok (.aload_n 0, 1) := by decide +kernel
theorem d_Mo_instruction_71 : decode prog_13_method_15_code 71 = .ok (.getfield 22, 3) := by decide +kernel
theorem d_Mo_instruction_74 : decode prog_13_method_15_code 74 = .ok (.iload_n 1, 1) := by decide +kernel
theorem d_Mo_instruction_75 : decode prog_13_method_15_code 75 = .ok (.iaload, 1) := by decide +kernel
theorem d_Mo_instruction_76 : decode prog_13_method_15_code 76 = .ok (.ireturn, 1) := by decide +kernel
theorem M_Mo_instruction : lt_M0 m_Mo_instruction 2 := ⟨lt_m5 105 rfl rfl, lt_m1 13 rfl rfl, ⟨by decide +kernel, by decide +kernel, by decide +kernel⟩, by decide⟩
theorem in_Mo_instruction : Cond.instanceMethod m_Mo_instruction.1 ∈ lt_T := lt_m5 103 rfl rfl
theorem se_Mo_instruction : Cond.selects "LinearSearchModel" m_Mo_instruction.1 m_Mo_instruction.1 ∈ lt_T := lt_m5 104 rfl rfl
abbrev m_Mo_simple : lt_M := (⟨"LinearSearchModel", "simple", "()Z"⟩, prog_13_method_17_code, 1, (some .boolean))
theorem d_Mo_simple_0 : decode prog_13_method_17_code 0 = .ok (.aload_n 0, 1) := by decide +kernel
theorem d_Mo_simple_1 : decode prog_13_method_17_code 1 = .ok (.aload_n 0, 1) := by decide +kernel
theorem d_Mo_simple_2 : decode prog_13_method_17_code 2 = .ok (.getfield 148, 3) := by decide +kernel
theorem d_Mo_simple_5 : decode prog_13_method_17_code 5 = .ok (.ifCond .ne 7, 3) := by decide +kernel
theorem d_Mo_simple_8 : decode prog_13_method_17_code 8 = .ok (.iconst 1, 1) := by decide +kernel
theorem d_Mo_simple_9 : decode prog_13_method_17_code 9 = .ok (.goto 4, 3) := by decide +kernel
theorem d_Mo_simple_12 : decode prog_13_method_17_code 12 = .ok (.iconst 0, 1) := by decide +kernel
theorem d_Mo_simple_13 : decode prog_13_method_17_code 13 = .ok (.putfield 102, 3) := by decide +kernel
theorem d_Mo_simple_16 : decode prog_13_method_17_code 16 = .ok (.aload_n 0, 1) := by decide +kernel
theorem d_Mo_simple_17 : decode prog_13_method_17_code 17 = .ok (.getfield 102, 3) := by decide +kernel
theorem d_Mo_simple_20 : decode prog_13_method_17_code 20 = .ok (.ifCond .ne 14, 3) := by decide +kernel
theorem d_Mo_simple_23 : decode prog_13_method_17_code 23 = .ok (.aload_n 0, 1) := by decide +kernel
theorem d_Mo_simple_24 : decode prog_13_method_17_code 24 = .ok (.getfield 163, 3) := by decide +kernel
theorem d_Mo_simple_27 : decode prog_13_method_17_code 27 = .ok (.ifCond .eq 7, 3) := by decide +kernel
theorem d_Mo_simple_30 : decode prog_13_method_17_code 30 = .ok (.iconst 1, 1) := by decide +kernel
theorem d_Mo_simple_31 : decode prog_13_method_17_code 31 = .ok (.goto 4, 3) := by decide +kernel
theorem d_Mo_simple_34 : decode prog_13_method_17_code 34 = .ok (.iconst 0, 1) := by decide +kernel
theorem d_Mo_simple_35 : decode prog_13_method_17_code 35 = .ok (.ireturn, 1) := by decide +kernel
theorem M_Mo_simple : lt_M0 m_Mo_simple 0 := ⟨lt_m5 109 rfl rfl, lt_m1 13 rfl rfl, ⟨by decide +kernel, by decide +kernel, by decide +kernel⟩, by decide⟩
theorem in_Mo_simple : Cond.instanceMethod m_Mo_simple.1 ∈ lt_T := lt_m5 107 rfl rfl
theorem se_Mo_simple : Cond.selects "LinearSearchModel" m_Mo_simple.1 m_Mo_simple.1 ∈ lt_T := lt_m5 108 rfl rfl
abbrev m_Mo_feed : lt_M := (⟨"LinearSearchModel", "feed", "(C)Z"⟩, prog_13_method_18_code, 2, (some .boolean))
theorem d_Mo_feed_0 : decode prog_13_method_18_code 0 = .ok (.aload_n 0, 1) := by decide +kernel
theorem d_Mo_feed_1 : decode prog_13_method_18_code 1 = .ok (.iconst 0, 1) := by decide +kernel
theorem d_Mo_feed_2 : decode prog_13_method_18_code 2 = .ok (.putfield 102, 3) := by decide +kernel
theorem d_Mo_feed_5 : decode prog_13_method_18_code 5 = .ok (.iload_n 1, 1) := by decide +kernel
theorem d_Mo_feed_6 : decode prog_13_method_18_code 6 = .ok (.invokestatic 136, 3) := by decide +kernel
theorem d_Mo_feed_9 : decode prog_13_method_18_code 9 = .ok (.ifCond .eq 12, 3) := by decide +kernel
theorem d_Mo_feed_12 : decode prog_13_method_18_code 12 = .ok (.aload_n 0, 1) := by decide +kernel
theorem d_Mo_feed_13 : decode prog_13_method_18_code 13 = .ok (.getfield 172, 3) := by decide +kernel
theorem d_Mo_feed_16 : decode prog_13_method_18_code 16 = .ok (.bipush 20, 2) := by decide +kernel
theorem d_Mo_feed_18 : decode prog_13_method_18_code 18 = .ok (.if_icmp .ne 5, 3) := by decide +kernel
theorem d_Mo_feed_21 : decode prog_13_method_18_code 21 = .ok (.iconst 0, 1) := by decide +kernel
theorem d_Mo_feed_22 : decode prog_13_method_18_code 22 = .ok (.ireturn, 1) := by decide +kernel
theorem d_Mo_feed_23 : decode prog_13_method_18_code 23 = .ok (.aload_n 0, 1) := by decide +kernel
theorem d_Mo_feed_24 : decode prog_13_method_18_code 24 = .ok (.getfield 13, 3) := by decide +kernel
theorem d_Mo_feed_27 : decode prog_13_method_18_code 27 = .ok (.aload_n 0, 1) := by decide +kernel
theorem d_Mo_feed_28 : decode prog_13_method_18_code 28 = .ok (.getfield 172, 3) := by decide +kernel
theorem d_Mo_feed_31 : decode prog_13_method_18_code 31 = .ok (.iload_n 1, 1) := by decide +kernel
theorem d_Mo_feed_32 : decode prog_13_method_18_code 32 = .ok (.bipush 97, 2) := by decide +kernel
theorem d_Mo_feed_34 : decode prog_13_method_18_code 34 = .ok (.isub, 1) := by decide +kernel
theorem d_Mo_feed_35 : decode prog_13_method_18_code 35 = .ok (.iastore, 1) := by decide +kernel
theorem d_Mo_feed_36 : decode prog_13_method_18_code 36 = .ok (.aload_n 0, 1) := by decide +kernel
theorem d_Mo_feed_37 : decode prog_13_method_18_code 37 = .ok (.dup, 1) := by decide +kernel
theorem d_Mo_feed_38 : decode prog_13_method_18_code 38 = .ok (.getfield 172, 3) := by decide +kernel
theorem d_Mo_feed_41 : decode prog_13_method_18_code 41 = .ok (.iconst 1, 1) := by decide +kernel
theorem d_Mo_feed_42 : decode prog_13_method_18_code 42 = .ok (.iadd, 1) := by decide +kernel
theorem d_Mo_feed_43 : decode prog_13_method_18_code 43 = .ok (.putfield 172, 3) := by decide +kernel
theorem d_Mo_feed_46 : decode prog_13_method_18_code 46 = .ok (.aload_n 0, 1) := by decide +kernel
theorem d_Mo_feed_47 : decode prog_13_method_18_code 47 = .ok (.invokevirtual 157, 3) := by decide +kernel
theorem d_Mo_feed_50 : decode prog_13_method_18_code 50 = .ok (.iconst 1, 1) := by decide +kernel
theorem d_Mo_feed_51 : decode prog_13_method_18_code 51 = .ok (.ireturn, 1) := by decide +kernel
theorem M_Mo_feed : lt_M0 m_Mo_feed 1 := ⟨lt_m5 113 rfl rfl, lt_m1 13 rfl rfl, ⟨by decide +kernel, by decide +kernel, by decide +kernel⟩, by decide⟩
theorem in_Mo_feed : Cond.instanceMethod m_Mo_feed.1 ∈ lt_T := lt_m5 111 rfl rfl
theorem se_Mo_feed : Cond.selects "LinearSearchModel" m_Mo_feed.1 m_Mo_feed.1 ∈ lt_T := lt_m5 112 rfl rfl
abbrev m_Mo_clear : lt_M := (⟨"LinearSearchModel", "clear", "()V"⟩, prog_13_method_19_code, 1, none)
theorem d_Mo_clear_0 : decode prog_13_method_19_code 0 = .ok (.aload_n 0, 1) := by decide +kernel
theorem d_Mo_clear_1 : decode prog_13_method_19_code 1 = .ok (.iconst 0, 1) := by decide +kernel
theorem d_Mo_clear_2 : decode prog_13_method_19_code 2 = .ok (.putfield 102, 3) := by decide +kernel
theorem d_Mo_clear_5 : decode prog_13_method_19_code 5 = .ok (.aload_n 0, 1) := by decide +kernel
theorem d_Mo_clear_6 : decode prog_13_method_19_code 6 = .ok (.iconst 0, 1) := by decide +kernel
theorem d_Mo_clear_7 : decode prog_13_method_19_code 7 = .ok (.putfield 172, 3) := by decide +kernel
theorem d_Mo_clear_10 : decode prog_13_method_19_code 10 = .ok (.aload_n 0, 1) := by decide +kernel
theorem d_Mo_clear_11 : decode prog_13_method_19_code 11 = .ok (.invokevirtual 157, 3) := by decide +kernel
theorem d_Mo_clear_14 : decode prog_13_method_19_code 14 = .ok (.return_, 1) := by decide +kernel
theorem M_Mo_clear : lt_M0 m_Mo_clear 0 := ⟨lt_m5 117 rfl rfl, lt_m1 13 rfl rfl, ⟨by decide +kernel, by decide +kernel, by decide +kernel⟩, by decide⟩
theorem in_Mo_clear : Cond.instanceMethod m_Mo_clear.1 ∈ lt_T := lt_m5 115 rfl rfl
theorem se_Mo_clear : Cond.selects "LinearSearchModel" m_Mo_clear.1 m_Mo_clear.1 ∈ lt_T := lt_m5 116 rfl rfl
abbrev m_Mo_search : lt_M := (⟨"LinearSearchModel", "search", "(I)I"⟩, prog_13_method_44_code, 2, (some .int))
theorem d_Mo_search_0 : decode prog_13_method_44_code 0 = .ok (.aload_n 0, 1) := by decide +kernel
theorem d_Mo_search_1 : decode prog_13_method_44_code 1 = .ok (.iload_n 1, 1) := by decide +kernel
theorem d_Mo_search_2 : decode prog_13_method_44_code 2 = .ok (.ifCond .lt 8, 3) := by decide +kernel
theorem d_Mo_search_5 : decode prog_13_method_44_code 5 = .ok (.iload_n 1, 1) := by decide +kernel
theorem d_Mo_search_6 : decode prog_13_method_44_code 6 = .ok (.iconst 4, 1) := by decide +kernel
theorem d_Mo_search_7 : decode prog_13_method_44_code 7 = .ok (.if_icmp .le 7, 3) := by decide +kernel
theorem d_Mo_search_10 : decode prog_13_method_44_code 10 = .ok (.iconst 1, 1) := by decide +kernel
theorem d_Mo_search_11 : decode prog_13_method_44_code 11 = .ok (.goto 27, 3) := by decide +kernel
theorem d_Mo_search_14 : decode prog_13_method_44_code 14 = .ok (.aload_n 0, 1) := by decide +kernel
theorem d_Mo_search_15 : decode prog_13_method_44_code 15 = .ok (.getfield 148, 3) := by decide +kernel
theorem d_Mo_search_18 : decode prog_13_method_44_code 18 = .ok (.ifCond .eq 15, 3) := by decide +kernel
theorem d_Mo_search_21 : decode prog_13_method_44_code 21 = .ok (.iload_n 1, 1) := by decide +kernel
theorem d_Mo_search_22 : decode prog_13_method_44_code 22 = .ok (.iconst 3, 1) := by decide +kernel
theorem d_Mo_search_23 : decode prog_13_method_44_code 23 = .ok (.if_icmp .ne 14, 3) := by decide +kernel
theorem d_Mo_search_26 : decode prog_13_method_44_code 26 = .ok (.aload_n 0, 1) := by decide +kernel
theorem d_Mo_search_27 : decode prog_13_method_44_code 27 = .ok (.getfield 163, 3) := by decide +kernel
theorem d_Mo_search_30 : decode prog_13_method_44_code 30 = .ok (.ifCond .ne 7, 3) := by decide +kernel
theorem d_Mo_search_33 : decode prog_13_method_44_code 33 = .ok (.iconst 2, 1) := by decide +kernel
theorem d_Mo_search_34 : decode prog_13_method_44_code 34 = .ok (.goto 4, 3) := by decide +kernel
theorem d_Mo_search_37 : decode prog_13_method_44_code 37 = .ok (.iconst 0, 1) := by decide +kernel
theorem d_Mo_search_38 : decode prog_13_method_44_code 38 = .ok (.putfield 102, 3) := by decide +kernel
theorem d_Mo_search_41 : decode prog_13_method_44_code 41 = .ok (.aload_n 0, 1) := by decide +kernel
theorem d_Mo_search_42 : decode prog_13_method_44_code 42 = .ok (.getfield 102, 3) := by decide +kernel
theorem d_Mo_search_45 : decode prog_13_method_44_code 45 = .ok (.ifCond .le 5, 3) := by decide +kernel
theorem d_Mo_search_48 : decode prog_13_method_44_code 48 = .ok (.iconst 0, 1) := by decide +kernel
theorem d_Mo_search_49 : decode prog_13_method_44_code 49 = .ok (.ireturn, 1) := by decide +kernel
theorem d_Mo_search_50 : decode prog_13_method_44_code 50 = .ok (.aload_n 0, 1) := by decide +kernel
theorem d_Mo_search_51 : decode prog_13_method_44_code 51 = .ok (.iload_n 1, 1) := by decide +kernel
theorem d_Mo_search_52 : decode prog_13_method_44_code 52 = .ok (.iconst 4, 1) := by decide +kernel
theorem d_Mo_search_53 : decode prog_13_method_44_code 53 = .ok (.if_icmp .ge 7, 3) := by decide +kernel
theorem d_Mo_search_56 : decode prog_13_method_44_code 56 = .ok (.iload_n 1, 1) := by decide +kernel
theorem d_Mo_search_57 : decode prog_13_method_44_code 57 = .ok (.goto 36, 3) := by decide +kernel
theorem d_Mo_search_60 : decode prog_13_method_44_code 60 = .ok (.aload_n 0, 1) := by decide +kernel
theorem d_Mo_search_61 : decode prog_13_method_44_code 61 = .ok (.getfield 163, 3) := by decide +kernel
theorem d_Mo_search_64 : decode prog_13_method_44_code 64 = .ok (.ifCond .eq 7, 3) := by decide +kernel
theorem d_Mo_search_67 : decode prog_13_method_44_code 67 = .ok (.iconst 3, 1) := by decide +kernel
theorem d_Mo_search_68 : decode prog_13_method_44_code 68 = .ok (.goto 25, 3) := by decide +kernel
theorem d_Mo_search_71 : decode prog_13_method_44_code 71 = .ok (.aload_n 0, 1) := by decide +kernel
theorem d_Mo_search_72 : decode prog_13_method_44_code 72 = .ok (.getfield 148, 3) := by decide +kernel
theorem d_Mo_search_75 : decode prog_13_method_44_code 75 = .ok (.aload_n 0, 1) := by decide +kernel
theorem d_Mo_search_76 : decode prog_13_method_44_code 76 = .ok (.getfield 172, 3) := by decide +kernel
theorem d_Mo_search_79 : decode prog_13_method_44_code 79 = .ok (.iconst 1, 1) := by decide +kernel
theorem d_Mo_search_80 : decode prog_13_method_44_code 80 = .ok (.iadd, 1) := by decide +kernel
theorem d_Mo_search_81 : decode prog_13_method_44_code 81 = .ok (.imul, 1) := by decide +kernel
theorem d_Mo_search_82 : decode prog_13_method_44_code 82 = .ok (.sipush 128, 3) := by decide +kernel
theorem d_Mo_search_85 : decode prog_13_method_44_code 85 = .ok (.if_icmp .gt 7, 3) := by decide +kernel
theorem d_Mo_search_88 : decode prog_13_method_44_code 88 = .ok (.iconst 1, 1) := by decide +kernel
theorem d_Mo_search_89 : decode prog_13_method_44_code 89 = .ok (.goto 4, 3) := by decide +kernel
theorem d_Mo_search_92 : decode prog_13_method_44_code 92 = .ok (.iconst 2, 1) := by decide +kernel
theorem d_Mo_search_93 : decode prog_13_method_44_code 93 = .ok (.putfield 77, 3) := by decide +kernel
theorem d_Mo_search_96 : decode prog_13_method_44_code 96 = .ok (.aload_n 0, 1) := by decide +kernel
theorem d_Mo_search_97 : decode prog_13_method_44_code 97 = .ok (.iconst 0, 1) := by decide +kernel
theorem d_Mo_search_98 : decode prog_13_method_44_code 98 = .ok (.putfield 189, 3) := by decide +kernel
theorem d_Mo_search_101 : decode prog_13_method_44_code 101 = .ok (.aload_n 0, 1) := by decide +kernel
theorem d_Mo_search_102 : decode prog_13_method_44_code 102 = .ok (.getfield 77, 3) := by decide +kernel
theorem d_Mo_search_105 : decode prog_13_method_44_code 105 = .ok (.tableswitch 50 0 2 #[27, 36, 43], 27) := by decide +kernel
theorem d_Mo_search_132 : decode prog_13_method_44_code 132 = .ok (.aload_n 0, 1) := by decide +kernel
theorem d_Mo_search_133 : decode prog_13_method_44_code 133 = .ok (.iconst 0, 1) := by decide +kernel
theorem d_Mo_search_134 : decode prog_13_method_44_code 134 = .ok (.iconst 0, 1) := by decide +kernel
theorem d_Mo_search_135 : decode prog_13_method_44_code 135 = .ok (.invokevirtual 251, 3) := by decide +kernel
theorem d_Mo_search_138 : decode prog_13_method_44_code 138 = .ok (.goto 21, 3) := by decide +kernel
theorem d_Mo_search_141 : decode prog_13_method_44_code 141 = .ok (.aload_n 0, 1) := by decide +kernel
theorem d_Mo_search_142 : decode prog_13_method_44_code 142 = .ok (.invokevirtual 254, 3) := by decide +kernel
theorem d_Mo_search_145 : decode prog_13_method_44_code 145 = .ok (.goto 14, 3) := by decide +kernel
theorem d_Mo_search_148 : decode prog_13_method_44_code 148 = .ok (.aload_n 0, 1) := by decide +kernel
theorem d_Mo_search_149 : decode prog_13_method_44_code 149 = .ok (.invokevirtual 257, 3) := by decide +kernel
theorem d_Mo_search_152 : decode prog_13_method_44_code 152 = .ok (.goto 7, 3) := by decide +kernel
theorem d_Mo_search_155 : decode prog_13_method_44_code 155 = .ok (.aload_n 0, 1) := by decide +kernel
theorem d_Mo_search_156 : decode prog_13_method_44_code 156 = .ok (.invokevirtual 260, 3) := by decide +kernel
theorem d_Mo_search_159 : decode prog_13_method_44_code 159 = .ok (.aload_n 0, 1) := by decide +kernel
theorem d_Mo_search_160 : decode prog_13_method_44_code 160 = .ok (.aload_n 0, 1) := by decide +kernel
theorem d_Mo_search_161 : decode prog_13_method_44_code 161 = .ok (.getfield 189, 3) := by decide +kernel
theorem d_Mo_search_164 : decode prog_13_method_44_code 164 = .ok (.putfield 81, 3) := by decide +kernel
theorem d_Mo_search_167 : decode prog_13_method_44_code 167 = .ok (.aload_n 0, 1) := by decide +kernel
theorem d_Mo_search_168 : decode prog_13_method_44_code 168 = .ok (.getfield 105, 3) := by decide +kernel
theorem d_Mo_search_171 : decode prog_13_method_44_code 171 = .ok (.ifCond .eq 12, 3) := by decide +kernel
theorem d_Mo_search_174 : decode prog_13_method_44_code 174 = .ok (.aload_n 0, 1) := by decide +kernel
theorem d_Mo_search_175 : decode prog_13_method_44_code 175 = .ok (.getfield 84, 3) := by decide +kernel
theorem d_Mo_search_178 : decode prog_13_method_44_code 178 = .ok (.iconst 0, 1) := by decide +kernel
theorem d_Mo_search_179 : decode prog_13_method_44_code 179 = .ok (.iaload, 1) := by decide +kernel
theorem d_Mo_search_180 : decode prog_13_method_44_code 180 = .ok (.goto 4, 3) := by decide +kernel
theorem d_Mo_search_183 : decode prog_13_method_44_code 183 = .ok (.iconst (-1), 1) := by decide +kernel
theorem d_Mo_search_184 : decode prog_13_method_44_code 184 = .ok (.ireturn, 1) := by decide +kernel
theorem M_Mo_search : lt_M0 m_Mo_search 1 := ⟨lt_m5 121 rfl rfl, lt_m1 13 rfl rfl, ⟨by decide +kernel, by decide +kernel, by decide +kernel⟩, by decide⟩
theorem in_Mo_search : Cond.instanceMethod m_Mo_search.1 ∈ lt_T := lt_m5 119 rfl rfl
theorem se_Mo_search : Cond.selects "LinearSearchModel" m_Mo_search.1 m_Mo_search.1 ∈ lt_T := lt_m5 120 rfl rfl
abbrev m_Mo_runLists : lt_M := (⟨"LinearSearchModel", "runLists", "(IZ)V"⟩, prog_13_method_30_code, 5, none)
theorem d_Mo_runLists_0 : decode prog_13_method_30_code 0 = .ok (.aload_n 0, 1) := by decide +kernel
theorem d_Mo_runLists_1 : decode prog_13_method_30_code 1 = .ok (.iconst 0, 1) := by decide +kernel
theorem d_Mo_runLists_2 : decode prog_13_method_30_code 2 = .ok (.putfield 105, 3) := by decide +kernel
theorem d_Mo_runLists_5 : decode prog_13_method_30_code 5 = .ok (.iconst 0, 1) := by decide +kernel
theorem d_Mo_runLists_6 : decode prog_13_method_30_code 6 = .ok (.istore_n 3, 1) := by decide +kernel
theorem d_Mo_runLists_7 : decode prog_13_method_30_code 7 = .ok (.aload_n 0, 1) := by decide +kernel
theorem d_Mo_runLists_8 : decode prog_13_method_30_code 8 = .ok (.getfield 49, 3) := by decide +kernel
theorem d_Mo_runLists_11 : decode prog_13_method_30_code 11 = .ok (.iconst 0, 1) := by decide +kernel
theorem d_Mo_runLists_12 : decode prog_13_method_30_code 12 = .ok (.iconst 0, 1) := by decide +kernel
theorem d_Mo_runLists_13 : decode prog_13_method_30_code 13 = .ok (.iastore, 1) := by decide +kernel
theorem d_Mo_runLists_14 : decode prog_13_method_30_code 14 = .ok (.aload_n 0, 1) := by decide +kernel
theorem d_Mo_runLists_15 : decode prog_13_method_30_code 15 = .ok (.dup, 1) := by decide +kernel
theorem d_Mo_runLists_16 : decode prog_13_method_30_code 16 = .ok (.getfield 166, 3) := by decide +kernel
theorem d_Mo_runLists_19 : decode prog_13_method_30_code 19 = .ok (.iconst 1, 1) := by decide +kernel
theorem d_Mo_runLists_20 : decode prog_13_method_30_code 20 = .ok (.iadd, 1) := by decide +kernel
theorem d_Mo_runLists_21 : decode prog_13_method_30_code 21 = .ok (.putfield 166, 3) := by decide +kernel
theorem d_Mo_runLists_24 : decode prog_13_method_30_code 24 = .ok (.aload_n 0, 1) := by decide +kernel
theorem d_Mo_runLists_25 : decode prog_13_method_30_code 25 = .ok (.iload_n 1, 1) := by decide +kernel
theorem d_Mo_runLists_26 : decode prog_13_method_30_code 26 = .ok (.invokevirtual 205, 3) := by decide +kernel
theorem d_Mo_runLists_29 : decode prog_13_method_30_code 29 = .ok (.aload_n 0, 1) := by decide +kernel
theorem d_Mo_runLists_30 : decode prog_13_method_30_code 30 = .ok (.iconst 0, 1) := by decide +kernel
theorem d_Mo_runLists_31 : decode prog_13_method_30_code 31 = .ok (.iload_n 1, 1) := by decide +kernel
theorem d_Mo_runLists_32 : decode prog_13_method_30_code 32 = .ok (.iconst 0, 1) := by decide +kernel
theorem d_Mo_runLists_33 : decode prog_13_method_30_code 33 = .ok (.invokevirtual 202, 3) := by decide +kernel
theorem d_Mo_runLists_36 : decode prog_13_method_30_code 36 = .ok (.iload_n 1, 1) := by decide +kernel
theorem d_Mo_runLists_37 : decode prog_13_method_30_code 37 = .ok (.istore 4, 2) := by decide +kernel
theorem d_Mo_runLists_39 : decode prog_13_method_30_code 39 = .ok (.iload 4, 2) := by decide +kernel
theorem d_Mo_runLists_41 : decode prog_13_method_30_code 41 = .ok (.aload_n 0, 1) := by decide +kernel
theorem d_Mo_runLists_42 : decode prog_13_method_30_code 42 = .ok (.getfield 172, 3) := by decide +kernel
theorem d_Mo_runLists_45 : decode prog_13_method_30_code 45 = .ok (.if_icmp .gt 95, 3) := by decide +kernel
theorem d_Mo_runLists_48 : decode prog_13_method_30_code 48 = .ok (.aload_n 0, 1) := by decide +kernel
theorem d_Mo_runLists_49 : decode prog_13_method_30_code 49 = .ok (.getfield 49, 3) := by decide +kernel
theorem d_Mo_runLists_52 : decode prog_13_method_30_code 52 = .ok (.iload_n 3, 1) := by decide +kernel
theorem d_Mo_runLists_53 : decode prog_13_method_30_code 53 = .ok (.iaload, 1) := by decide +kernel
theorem d_Mo_runLists_54 : decode prog_13_method_30_code 54 = .ok (.ifCond .gt 10, 3) := by decide +kernel
theorem d_Mo_runLists_57 : decode prog_13_method_30_code 57 = .ok (.aload_n 0, 1) := by decide +kernel
theorem d_Mo_runLists_58 : decode prog_13_method_30_code 58 = .ok (.getfield 105, 3) := by decide +kernel
theorem d_Mo_runLists_61 : decode prog_13_method_30_code 61 = .ok (.ifCond .ne 79, 3) := by decide +kernel
theorem d_Mo_runLists_64 : decode prog_13_method_30_code 64 = .ok (.aload_n 0, 1) := by decide +kernel
theorem d_Mo_runLists_65 : decode prog_13_method_30_code 65 = .ok (.getfield 49, 3) := by decide +kernel
theorem d_Mo_runLists_68 : decode prog_13_method_30_code 68 = .ok (.iconst 1, 1) := by decide +kernel
theorem d_Mo_runLists_69 : decode prog_13_method_30_code 69 = .ok (.iload_n 3, 1) := by decide +kernel
theorem d_Mo_runLists_70 : decode prog_13_method_30_code 70 = .ok (.isub, 1) := by decide +kernel
theorem d_Mo_runLists_71 : decode prog_13_method_30_code 71 = .ok (.iconst 0, 1) := by decide +kernel
theorem d_Mo_runLists_72 : decode prog_13_method_30_code 72 = .ok (.iastore, 1) := by decide +kernel
theorem d_Mo_runLists_73 : decode prog_13_method_30_code 73 = .ok (.aload_n 0, 1) := by decide +kernel
theorem d_Mo_runLists_74 : decode prog_13_method_30_code 74 = .ok (.dup, 1) := by decide +kernel
theorem d_Mo_runLists_75 : decode prog_13_method_30_code 75 = .ok (.getfield 166, 3) := by decide +kernel
theorem d_Mo_runLists_78 : decode prog_13_method_30_code 78 = .ok (.iconst 1, 1) := by decide +kernel
theorem d_Mo_runLists_79 : decode prog_13_method_30_code 79 = .ok (.iadd, 1) := by decide +kernel
theorem d_Mo_runLists_80 : decode prog_13_method_30_code 80 = .ok (.putfield 166, 3) := by decide +kernel
theorem d_Mo_runLists_83 : decode prog_13_method_30_code 83 = .ok (.aload_n 0, 1) := by decide +kernel
theorem d_Mo_runLists_84 : decode prog_13_method_30_code 84 = .ok (.iload_n 3, 1) := by decide +kernel
theorem d_Mo_runLists_85 : decode prog_13_method_30_code 85 = .ok (.iload 4, 2) := by decide +kernel
theorem d_Mo_runLists_87 : decode prog_13_method_30_code 87 = .ok (.invokevirtual 208, 3) := by decide +kernel
theorem d_Mo_runLists_90 : decode prog_13_method_30_code 90 = .ok (.iload 4, 2) := by decide +kernel
theorem d_Mo_runLists_92 : decode prog_13_method_30_code 92 = .ok (.aload_n 0, 1) := by decide +kernel
theorem d_Mo_runLists_93 : decode prog_13_method_30_code 93 = .ok (.getfield 172, 3) := by decide +kernel
theorem d_Mo_runLists_96 : decode prog_13_method_30_code 96 = .ok (.if_icmp .ge 34, 3) := by decide +kernel
theorem d_Mo_runLists_99 : decode prog_13_method_30_code 99 = .ok (.aload_n 0, 1) := by decide +kernel
theorem d_Mo_runLists_100 : decode prog_13_method_30_code 100 = .ok (.getfield 105, 3) := by decide +kernel
theorem d_Mo_runLists_103 : decode prog_13_method_30_code 103 = .ok (.ifCond .ne 27, 3) := by decide +kernel
theorem d_Mo_runLists_106 : decode prog_13_method_30_code 106 = .ok (.iload_n 2, 1) := by decide +kernel
theorem d_Mo_runLists_107 : decode prog_13_method_30_code 107 = .ok (.ifCond .ne 23, 3) := by decide +kernel
theorem d_Mo_runLists_110 : decode prog_13_method_30_code 110 = .ok (.aload_n 0, 1) := by decide +kernel
theorem d_Mo_runLists_111 : decode prog_13_method_30_code 111 = .ok (.iload 4, 2) := by decide +kernel
theorem d_Mo_runLists_113 : decode prog_13_method_30_code 113 = .ok (.iconst 1, 1) := by decide +kernel
theorem d_Mo_runLists_114 : decode prog_13_method_30_code 114 = .ok (.iadd, 1) := by decide +kernel
theorem d_Mo_runLists_115 : decode prog_13_method_30_code 115 = .ok (.invokevirtual 205, 3) := by decide +kernel
theorem d_Mo_runLists_118 : decode prog_13_method_30_code 118 = .ok (.aload_n 0, 1) := by decide +kernel
theorem d_Mo_runLists_119 : decode prog_13_method_30_code 119 = .ok (.iconst 0, 1) := by decide +kernel
theorem d_Mo_runLists_120 : decode prog_13_method_30_code 120 = .ok (.iload 4, 2) := by decide +kernel
theorem d_Mo_runLists_122 : decode prog_13_method_30_code 122 = .ok (.iconst 1, 1) := by decide +kernel
theorem d_Mo_runLists_123 : decode prog_13_method_30_code 123 = .ok (.iadd, 1) := by decide +kernel
theorem d_Mo_runLists_124 : decode prog_13_method_30_code 124 = .ok (.iconst 1, 1) := by decide +kernel
theorem d_Mo_runLists_125 : decode prog_13_method_30_code 125 = .ok (.iload_n 3, 1) := by decide +kernel
theorem d_Mo_runLists_126 : decode prog_13_method_30_code 126 = .ok (.isub, 1) := by decide +kernel
theorem d_Mo_runLists_127 : decode prog_13_method_30_code 127 = .ok (.invokevirtual 202, 3) := by decide +kernel
theorem d_Mo_runLists_130 : decode prog_13_method_30_code 130 = .ok (.iconst 1, 1) := by decide +kernel
theorem d_Mo_runLists_131 : decode prog_13_method_30_code 131 = .ok (.iload_n 3, 1) := by decide +kernel
theorem d_Mo_runLists_132 : decode prog_13_method_30_code 132 = .ok (.isub, 1) := by decide +kernel
theorem d_Mo_runLists_133 : decode prog_13_method_30_code 133 = .ok (.istore_n 3, 1) := by decide +kernel
theorem d_Mo_runLists_134 : decode prog_13_method_30_code 134 = .ok (.iinc 4 1, 3) := by decide +kernel
theorem d_Mo_runLists_137 : decode prog_13_method_30_code 137 = .ok (.goto (-98), 3) := by decide +kernel
theorem d_Mo_runLists_140 : decode prog_13_method_30_code 140 = .ok (.return_, 1) := by decide +kernel
theorem M_Mo_runLists : lt_M0 m_Mo_runLists 2 := ⟨lt_m5 125 rfl rfl, lt_m1 13 rfl rfl, ⟨by decide +kernel, by decide +kernel, by decide +kernel⟩, by decide⟩
theorem in_Mo_runLists : Cond.instanceMethod m_Mo_runLists.1 ∈ lt_T := lt_m5 124 rfl rfl
theorem se_Mo_runLists : Cond.selects "LinearSearchModel" m_Mo_runLists.1 m_Mo_runLists.1 ∈ lt_T := lt_memS 38 rfl rfl
abbrev m_Mo_begin : lt_M := (⟨"LinearSearchModel", "begin", "(I)V"⟩, prog_13_method_21_code, 3, none)
theorem d_Mo_begin_0 : decode prog_13_method_21_code 0 = .ok (.iconst 0, 1) := by decide +kernel
theorem d_Mo_begin_1 : decode prog_13_method_21_code 1 = .ok (.istore_n 2, 1) := by decide +kernel
theorem d_Mo_begin_2 : decode prog_13_method_21_code 2 = .ok (.iload_n 2, 1) := by decide +kernel
theorem d_Mo_begin_3 : decode prog_13_method_21_code 3 = .ok (.bipush 8, 2) := by decide +kernel
theorem d_Mo_begin_5 : decode prog_13_method_21_code 5 = .ok (.if_icmp .ge 16, 3) := by decide +kernel
theorem d_Mo_begin_8 : decode prog_13_method_21_code 8 = .ok (.aload_n 0, 1) := by decide +kernel
theorem d_Mo_begin_9 : decode prog_13_method_21_code 9 = .ok (.getfield 46, 3) := by decide +kernel
theorem d_Mo_begin_12 : decode prog_13_method_21_code 12 = .ok (.iload_n 2, 1) := by decide +kernel
theorem d_Mo_begin_13 : decode prog_13_method_21_code 13 = .ok (.iconst (-1), 1) := by decide +kernel
theorem d_Mo_begin_14 : decode prog_13_method_21_code 14 = .ok (.iastore, 1) := by decide +kernel
theorem d_Mo_begin_15 : decode prog_13_method_21_code 15 = .ok (.iinc 2 1, 3) := by decide +kernel
theorem d_Mo_begin_18 : decode prog_13_method_21_code 18 = .ok (.goto (-16), 3) := by decide +kernel
theorem d_Mo_begin_21 : decode prog_13_method_21_code 21 = .ok (.aload_n 0, 1) := by decide +kernel
theorem d_Mo_begin_22 : decode prog_13_method_21_code 22 = .ok (.getfield 46, 3) := by decide +kernel
theorem d_Mo_begin_25 : decode prog_13_method_21_code 25 = .ok (.iconst 0, 1) := by decide +kernel
theorem d_Mo_begin_26 : decode prog_13_method_21_code 26 = .ok (.iload_n 1, 1) := by decide +kernel
theorem d_Mo_begin_27 : decode prog_13_method_21_code 27 = .ok (.iastore, 1) := by decide +kernel
theorem d_Mo_begin_28 : decode prog_13_method_21_code 28 = .ok (.return_, 1) := by decide +kernel
theorem M_Mo_begin : lt_M0 m_Mo_begin 1 := ⟨lt_m5 129 rfl rfl, lt_m1 13 rfl rfl, ⟨by decide +kernel, by decide +kernel, by decide +kernel⟩, by decide⟩
theorem in_Mo_begin : Cond.instanceMethod m_Mo_begin.1 ∈ lt_T := lt_m5 128 rfl rfl
theorem se_Mo_begin : Cond.selects "LinearSearchModel" m_Mo_begin.1 m_Mo_begin.1 ∈ lt_T := lt_memS 39 rfl rfl
abbrev m_Mo_follow : lt_M := (⟨"LinearSearchModel", "follow", "(III)V"⟩, prog_13_method_25_code, 6, none)
theorem d_Mo_follow_0 : decode prog_13_method_25_code 0 = .ok (.aload_n 0, 1) := by decide +kernel
theorem d_Mo_follow_1 : decode prog_13_method_25_code 1 = .ok (.iconst 0, 1) := by decide +kernel
theorem d_Mo_follow_2 : decode prog_13_method_25_code 2 = .ok (.putfield 169, 3) := by decide +kernel
theorem d_Mo_follow_5 : decode prog_13_method_25_code 5 = .ok (.iload_n 1, 1) := by decide +kernel
theorem d_Mo_follow_6 : decode prog_13_method_25_code 6 = .ok (.istore 4, 2) := by decide +kernel
theorem d_Mo_follow_8 : decode prog_13_method_25_code 8 = .ok (.iload 4, 2) := by decide +kernel
theorem d_Mo_follow_10 : decode prog_13_method_25_code 10 = .ok (.iconst (-1), 1) := by decide +kernel
theorem d_Mo_follow_11 : decode prog_13_method_25_code 11 = .ok (.if_icmp .eq 90, 3) := by decide +kernel
theorem d_Mo_follow_14 : decode prog_13_method_25_code 14 = .ok (.iconst (-1), 1) := by decide +kernel
theorem d_Mo_follow_15 : decode prog_13_method_25_code 15 = .ok (.istore 5, 2) := by decide +kernel
theorem d_Mo_follow_17 : decode prog_13_method_25_code 17 = .ok (.aload_n 0, 1) := by decide +kernel
theorem d_Mo_follow_18 : decode prog_13_method_25_code 18 = .ok (.getfield 34, 3) := by decide +kernel
theorem d_Mo_follow_21 : decode prog_13_method_25_code 21 = .ok (.iload 4, 2) := by decide +kernel
theorem d_Mo_follow_23 : decode prog_13_method_25_code 23 = .ok (.iaload, 1) := by decide +kernel
theorem d_Mo_follow_24 : decode prog_13_method_25_code 24 = .ok (.aload_n 0, 1) := by decide +kernel
theorem d_Mo_follow_25 : decode prog_13_method_25_code 25 = .ok (.getfield 166, 3) := by decide +kernel
theorem d_Mo_follow_28 : decode prog_13_method_25_code 28 = .ok (.if_icmp .eq 53, 3) := by decide +kernel
theorem d_Mo_follow_31 : decode prog_13_method_25_code 31 = .ok (.aload_n 0, 1) := by decide +kernel
theorem d_Mo_follow_32 : decode prog_13_method_25_code 32 = .ok (.getfield 34, 3) := by decide +kernel
theorem d_Mo_follow_35 : decode prog_13_method_25_code 35 = .ok (.iload 4, 2) := by decide +kernel
theorem d_Mo_follow_37 : decode prog_13_method_25_code 37 = .ok (.aload_n 0, 1) := by decide +kernel
theorem d_Mo_follow_38 : decode prog_13_method_25_code 38 = .ok (.getfield 166, 3) := by decide +kernel
theorem d_Mo_follow_41 : decode prog_13_method_25_code 41 = .ok (.iastore, 1) := by decide +kernel
theorem d_Mo_follow_42 : decode prog_13_method_25_code 42 = .ok (.aload_n 0, 1) := by decide +kernel
theorem d_Mo_follow_43 : decode prog_13_method_25_code 43 = .ok (.iload 4, 2) := by decide +kernel
theorem d_Mo_follow_45 : decode prog_13_method_25_code 45 = .ok (.iload_n 2, 1) := by decide +kernel
theorem d_Mo_follow_46 : decode prog_13_method_25_code 46 = .ok (.invokevirtual 179, 3) := by decide +kernel
theorem d_Mo_follow_49 : decode prog_13_method_25_code 49 = .ok (.istore 5, 2) := by decide +kernel
theorem d_Mo_follow_51 : decode prog_13_method_25_code 51 = .ok (.aload_n 0, 1) := by decide +kernel
theorem d_Mo_follow_52 : decode prog_13_method_25_code 52 = .ok (.getfield 16, 3) := by decide +kernel
theorem d_Mo_follow_55 : decode prog_13_method_25_code 55 = .ok (.iload 4, 2) := by decide +kernel
theorem d_Mo_follow_57 : decode prog_13_method_25_code 57 = .ok (.iaload, 1) := by decide +kernel
theorem d_Mo_follow_58 : decode prog_13_method_25_code 58 = .ok (.iconst 1, 1) := by decide +kernel
theorem d_Mo_follow_59 : decode prog_13_method_25_code 59 = .ok (.if_icmp .le 15, 3) := by decide +kernel
theorem d_Mo_follow_62 : decode prog_13_method_25_code 62 = .ok (.aload_n 0, 1) := by decide +kernel
theorem d_Mo_follow_63 : decode prog_13_method_25_code 63 = .ok (.getfield 16, 3) := by decide +kernel
theorem d_Mo_follow_66 : decode prog_13_method_25_code 66 = .ok (.iload 4, 2) := by decide +kernel
theorem d_Mo_follow_68 : decode prog_13_method_25_code 68 = .ok (.iaload, 1) := by decide +kernel
theorem d_Mo_follow_69 : decode prog_13_method_25_code 69 = .ok (.bipush 7, 2) := by decide +kernel
theorem d_Mo_follow_71 : decode prog_13_method_25_code 71 = .ok (.if_icmp .ne 10, 3) := by decide +kernel
theorem d_Mo_follow_74 : decode prog_13_method_25_code 74 = .ok (.aload_n 0, 1) := by decide +kernel
theorem d_Mo_follow_75 : decode prog_13_method_25_code 75 = .ok (.iload 4, 2) := by decide +kernel
theorem d_Mo_follow_77 : decode prog_13_method_25_code 77 = .ok (.iload_n 3, 1) := by decide +kernel
theorem d_Mo_follow_78 : decode prog_13_method_25_code 78 = .ok (.invokevirtual 183, 3) := by decide +kernel
theorem d_Mo_follow_81 : decode prog_13_method_25_code 81 = .ok (.iload 5, 2) := by decide +kernel
theorem d_Mo_follow_83 : decode prog_13_method_25_code 83 = .ok (.iconst (-1), 1) := by decide +kernel
theorem d_Mo_follow_84 : decode prog_13_method_25_code 84 = .ok (.if_icmp .ne 10, 3) := by decide +kernel
theorem d_Mo_follow_87 : decode prog_13_method_25_code 87 = .ok (.aload_n 0, 1) := by decide +kernel
theorem d_Mo_follow_88 : decode prog_13_method_25_code 88 = .ok (.invokevirtual 186, 3) := by decide +kernel
theorem d_Mo_follow_91 : decode prog_13_method_25_code 91 = .ok (.goto 5, 3) := by decide +kernel
theorem d_Mo_follow_94 : decode prog_13_method_25_code 94 = .ok (.iload 5, 2) := by decide +kernel
theorem d_Mo_follow_96 : decode prog_13_method_25_code 96 = .ok (.istore 4, 2) := by decide +kernel
theorem d_Mo_follow_98 : decode prog_13_method_25_code 98 = .ok (.goto (-90), 3) := by decide +kernel
theorem d_Mo_follow_101 : decode prog_13_method_25_code 101 = .ok (.return_, 1) := by decide +kernel
theorem M_Mo_follow : lt_M0 m_Mo_follow 3 := ⟨lt_m5 133 rfl rfl, lt_m1 13 rfl rfl, ⟨by decide +kernel, by decide +kernel, by decide +kernel⟩, by decide⟩
theorem in_Mo_follow : Cond.instanceMethod m_Mo_follow.1 ∈ lt_T := lt_m5 132 rfl rfl
theorem se_Mo_follow : Cond.selects "LinearSearchModel" m_Mo_follow.1 m_Mo_follow.1 ∈ lt_T := lt_memS 40 rfl rfl
abbrev m_Mo_behind : lt_M := (⟨"LinearSearchModel", "behind", "(II)I"⟩, prog_13_method_24_code, 3, (some .int))
theorem d_Mo_behind_0 : decode prog_13_method_24_code 0 = .ok (.aload_n 0, 1) := by decide +kernel
theorem d_Mo_behind_1 : decode prog_13_method_24_code 1 = .ok (.getfield 16, 3) := by decide +kernel
theorem d_Mo_behind_4 : decode prog_13_method_24_code 4 = .ok (.iload_n 1, 1) := by decide +kernel
theorem d_Mo_behind_5 : decode prog_13_method_24_code 5 = .ok (.iaload, 1) := by decide +kernel
theorem d_Mo_behind_6 : decode prog_13_method_24_code 6 = .ok (.tableswitch 103 2 6 #[34, 52, 59, 75, 87], 34) := by decide +kernel
theorem d_Mo_behind_40 : decode prog_13_method_24_code 40 = .ok (.aload_n 0, 1) := by decide +kernel
theorem d_Mo_behind_41 : decode prog_13_method_24_code 41 = .ok (.aload_n 0, 1) := by decide +kernel
theorem d_Mo_behind_42 : decode prog_13_method_24_code 42 = .ok (.getfield 22, 3) := by decide +kernel
theorem d_Mo_behind_45 : decode prog_13_method_24_code 45 = .ok (.iload_n 1, 1) := by decide +kernel
theorem d_Mo_behind_46 : decode prog_13_method_24_code 46 = .ok (.iaload, 1) := by decide +kernel
theorem d_Mo_behind_47 : decode prog_13_method_24_code 47 = .ok (.iload_n 2, 1) := by decide +kernel
theorem d_Mo_behind_48 : decode prog_13_method_24_code 48 = .ok (.invokevirtual 175, 3) := by decide +kernel
theorem d_Mo_behind_51 : decode prog_13_method_24_code 51 = .ok (.aload_n 0, 1) := by decide +kernel
theorem d_Mo_behind_52 : decode prog_13_method_24_code 52 = .ok (.getfield 19, 3) := by decide +kernel
theorem d_Mo_behind_55 : decode prog_13_method_24_code 55 = .ok (.iload_n 1, 1) := by decide +kernel
theorem d_Mo_behind_56 : decode prog_13_method_24_code 56 = .ok (.iaload, 1) := by decide +kernel
theorem d_Mo_behind_57 : decode prog_13_method_24_code 57 = .ok (.ireturn, 1) := by decide +kernel
theorem d_Mo_behind_58 : decode prog_13_method_24_code 58 = .ok (.aload_n 0, 1) := by decide +kernel
theorem d_Mo_behind_59 : decode prog_13_method_24_code 59 = .ok (.getfield 19, 3) := by decide +kernel
theorem d_Mo_behind_62 : decode prog_13_method_24_code 62 = .ok (.iload_n 1, 1) := by decide +kernel
theorem d_Mo_behind_63 : decode prog_13_method_24_code 63 = .ok (.iaload, 1) := by decide +kernel
theorem d_Mo_behind_64 : decode prog_13_method_24_code 64 = .ok (.ireturn, 1) := by decide +kernel
theorem d_Mo_behind_65 : decode prog_13_method_24_code 65 = .ok (.aload_n 0, 1) := by decide +kernel
theorem d_Mo_behind_66 : decode prog_13_method_24_code 66 = .ok (.getfield 46, 3) := by decide +kernel
theorem d_Mo_behind_69 : decode prog_13_method_24_code 69 = .ok (.aload_n 0, 1) := by decide +kernel
theorem d_Mo_behind_70 : decode prog_13_method_24_code 70 = .ok (.getfield 19, 3) := by decide +kernel
theorem d_Mo_behind_73 : decode prog_13_method_24_code 73 = .ok (.iload_n 1, 1) := by decide +kernel
theorem d_Mo_behind_74 : decode prog_13_method_24_code 74 = .ok (.iaload, 1) := by decide +kernel
theorem d_Mo_behind_75 : decode prog_13_method_24_code 75 = .ok (.iload_n 2, 1) := by decide +kernel
theorem d_Mo_behind_76 : decode prog_13_method_24_code 76 = .ok (.iastore, 1) := by decide +kernel
theorem d_Mo_behind_77 : decode prog_13_method_24_code 77 = .ok (.iload_n 1, 1) := by decide +kernel
theorem d_Mo_behind_78 : decode prog_13_method_24_code 78 = .ok (.iconst 1, 1) := by decide +kernel
theorem d_Mo_behind_79 : decode prog_13_method_24_code 79 = .ok (.iadd, 1) := by decide +kernel
theorem d_Mo_behind_80 : decode prog_13_method_24_code 80 = .ok (.ireturn, 1) := by decide +kernel
theorem d_Mo_behind_81 : decode prog_13_method_24_code 81 = .ok (.iload_n 2, 1) := by decide +kernel
theorem d_Mo_behind_82 : decode prog_13_method_24_code 82 = .ok (.ifCond .ne 9, 3) := by decide +kernel
theorem d_Mo_behind_85 : decode prog_13_method_24_code 85 = .ok (.iload_n 1, 1) := by decide +kernel
theorem d_Mo_behind_86 : decode prog_13_method_24_code 86 = .ok (.iconst 1, 1) := by decide +kernel
theorem d_Mo_behind_87 : decode prog_13_method_24_code 87 = .ok (.iadd, 1) := by decide +kernel
theorem d_Mo_behind_88 : decode prog_13_method_24_code 88 = .ok (.goto 4, 3) := by decide +kernel
theorem d_Mo_behind_91 : decode prog_13_method_24_code 91 = .ok (.iconst (-1), 1) := by decide +kernel
theorem d_Mo_behind_92 : decode prog_13_method_24_code 92 = .ok (.ireturn, 1) := by decide +kernel
theorem d_Mo_behind_93 : decode prog_13_method_24_code 93 = .ok (.iload_n 2, 1) := by decide +kernel
theorem d_Mo_behind_94 : decode prog_13_method_24_code 94 = .ok (.aload_n 0, 1) := by decide +kernel
theorem d_Mo_behind_95 : decode prog_13_method_24_code 95 = .ok (.getfield 172, 3) := by decide +kernel
theorem d_Mo_behind_98 : decode prog_13_method_24_code 98 = .ok (.if_icmp .ne 9, 3) := by decide +kernel
theorem d_Mo_behind_101 : decode prog_13_method_24_code 101 = .ok (.iload_n 1, 1) := by decide +kernel
theorem d_Mo_behind_102 : decode prog_13_method_24_code 102 = .ok (.iconst 1, 1) := by decide +kernel
theorem d_Mo_behind_103 : decode prog_13_method_24_code 103 = .ok (.iadd, 1) := by decide +kernel
theorem d_Mo_behind_104 : decode prog_13_method_24_code 104 = .ok (.goto 4, 3) := by decide +kernel
theorem d_Mo_behind_107 : decode prog_13_method_24_code 107 = .ok (.iconst (-1), 1) := by decide +kernel
theorem d_Mo_behind_108 : decode prog_13_method_24_code 108 = .ok (.ireturn, 1) := by decide +kernel
theorem d_Mo_behind_109 : decode prog_13_method_24_code 109 = .ok (.iconst (-1), 1) := by decide +kernel
theorem d_Mo_behind_110 : decode prog_13_method_24_code 110 = .ok (.ireturn, 1) := by decide +kernel
theorem M_Mo_behind : lt_M0 m_Mo_behind 2 := ⟨lt_m5 137 rfl rfl, lt_m1 13 rfl rfl, ⟨by decide +kernel, by decide +kernel, by decide +kernel⟩, by decide⟩
theorem in_Mo_behind : Cond.instanceMethod m_Mo_behind.1 ∈ lt_T := lt_m5 136 rfl rfl
theorem se_Mo_behind : Cond.selects "LinearSearchModel" m_Mo_behind.1 m_Mo_behind.1 ∈ lt_T := lt_memS 41 rfl rfl
abbrev m_Mo_otherWay : lt_M := (⟨"LinearSearchModel", "otherWay", "(II)V"⟩, prog_13_method_22_code, 4, none)
theorem d_Mo_otherWay_0 : decode prog_13_method_22_code 0 = .ok (.aload_n 0, 1) := by decide +kernel
theorem d_Mo_otherWay_1 : decode prog_13_method_22_code 1 = .ok (.getfield 37, 3) := by decide +kernel
theorem d_Mo_otherWay_4 : decode prog_13_method_22_code 4 = .ok (.aload_n 0, 1) := by decide +kernel
theorem d_Mo_otherWay_5 : decode prog_13_method_22_code 5 = .ok (.getfield 169, 3) := by decide +kernel
theorem d_Mo_otherWay_8 : decode prog_13_method_22_code 8 = .ok (.iload_n 1, 1) := by decide +kernel
theorem d_Mo_otherWay_9 : decode prog_13_method_22_code 9 = .ok (.iastore, 1) := by decide +kernel
theorem d_Mo_otherWay_10 : decode prog_13_method_22_code 10 = .ok (.aload_n 0, 1) := by decide +kernel
theorem d_Mo_otherWay_11 : decode prog_13_method_22_code 11 = .ok (.getfield 40, 3) := by decide +kernel
theorem d_Mo_otherWay_14 : decode prog_13_method_22_code 14 = .ok (.aload_n 0, 1) := by decide +kernel
theorem d_Mo_otherWay_15 : decode prog_13_method_22_code 15 = .ok (.getfield 169, 3) := by decide +kernel
theorem d_Mo_otherWay_18 : decode prog_13_method_22_code 18 = .ok (.iload_n 2, 1) := by decide +kernel
theorem d_Mo_otherWay_19 : decode prog_13_method_22_code 19 = .ok (.iastore, 1) := by decide +kernel
theorem d_Mo_otherWay_20 : decode prog_13_method_22_code 20 = .ok (.iconst 0, 1) := by decide +kernel
theorem d_Mo_otherWay_21 : decode prog_13_method_22_code 21 = .ok (.istore_n 3, 1) := by decide +kernel
theorem d_Mo_otherWay_22 : decode prog_13_method_22_code 22 = .ok (.iload_n 3, 1) := by decide +kernel
theorem d_Mo_otherWay_23 : decode prog_13_method_22_code 23 = .ok (.bipush 8, 2) := by decide +kernel
theorem d_Mo_otherWay_25 : decode prog_13_method_22_code 25 = .ok (.if_icmp .ge 29, 3) := by decide +kernel
theorem d_Mo_otherWay_28 : decode prog_13_method_22_code 28 = .ok (.aload_n 0, 1) := by decide +kernel
theorem d_Mo_otherWay_29 : decode prog_13_method_22_code 29 = .ok (.getfield 43, 3) := by decide +kernel
theorem d_Mo_otherWay_32 : decode prog_13_method_22_code 32 = .ok (.bipush 8, 2) := by decide +kernel
theorem d_Mo_otherWay_34 : decode prog_13_method_22_code 34 = .ok (.aload_n 0, 1) := by decide +kernel
theorem d_Mo_otherWay_35 : decode prog_13_method_22_code 35 = .ok (.getfield 169, 3) := by decide +kernel
theorem d_Mo_otherWay_38 : decode prog_13_method_22_code 38 = .ok (.imul, 1) := by decide +kernel
theorem d_Mo_otherWay_39 : decode prog_13_method_22_code 39 = .ok (.iload_n 3, 1) := by decide +kernel
theorem d_Mo_otherWay_40 : decode prog_13_method_22_code 40 = .ok (.iadd, 1) := by decide +kernel
theorem d_Mo_otherWay_41 : decode prog_13_method_22_code 41 = .ok (.aload_n 0, 1) := by decide +kernel
theorem d_Mo_otherWay_42 : decode prog_13_method_22_code 42 = .ok (.getfield 46, 3) := by decide +kernel
theorem d_Mo_otherWay_45 : decode prog_13_method_22_code 45 = .ok (.iload_n 3, 1) := by decide +kernel
theorem d_Mo_otherWay_46 : decode prog_13_method_22_code 46 = .ok (.iaload, 1) := by decide +kernel
theorem d_Mo_otherWay_47 : decode prog_13_method_22_code 47 = .ok (.iastore, 1) := by decide +kernel
theorem d_Mo_otherWay_48 : decode prog_13_method_22_code 48 = .ok (.iinc 3 1, 3) := by decide +kernel
theorem d_Mo_otherWay_51 : decode prog_13_method_22_code 51 = .ok (.goto (-29), 3) := by decide +kernel
theorem d_Mo_otherWay_54 : decode prog_13_method_22_code 54 = .ok (.aload_n 0, 1) := by decide +kernel
theorem d_Mo_otherWay_55 : decode prog_13_method_22_code 55 = .ok (.dup, 1) := by decide +kernel
theorem d_Mo_otherWay_56 : decode prog_13_method_22_code 56 = .ok (.getfield 169, 3) := by decide +kernel
theorem d_Mo_otherWay_59 : decode prog_13_method_22_code 59 = .ok (.iconst 1, 1) := by decide +kernel
theorem d_Mo_otherWay_60 : decode prog_13_method_22_code 60 = .ok (.iadd, 1) := by decide +kernel
theorem d_Mo_otherWay_61 : decode prog_13_method_22_code 61 = .ok (.putfield 169, 3) := by decide +kernel
theorem d_Mo_otherWay_64 : decode prog_13_method_22_code 64 = .ok (.return_, 1) := by decide +kernel
theorem M_Mo_otherWay : lt_M0 m_Mo_otherWay 2 := ⟨lt_m5 141 rfl rfl, lt_m1 13 rfl rfl, ⟨by decide +kernel, by decide +kernel, by decide +kernel⟩, by decide⟩
theorem in_Mo_otherWay : Cond.instanceMethod m_Mo_otherWay.1 ∈ lt_T := lt_m5 140 rfl rfl
theorem se_Mo_otherWay : Cond.selects "LinearSearchModel" m_Mo_otherWay.1 m_Mo_otherWay.1 ∈ lt_T := lt_memS 42 rfl rfl
abbrev m_Mo_enter : lt_M := (⟨"LinearSearchModel", "enter", "(II)V"⟩, prog_13_method_26_code, 5, none)
theorem d_Mo_enter_0 : decode prog_13_method_26_code 0 = .ok (.bipush 64, 2) := by decide +kernel
theorem d_Mo_enter_2 : decode prog_13_method_26_code 2 = .ok (.iload_n 2, 1) := by decide +kernel
theorem d_Mo_enter_3 : decode prog_13_method_26_code 3 = .ok (.imul, 1) := by decide +kernel
theorem d_Mo_enter_4 : decode prog_13_method_26_code 4 = .ok (.aload_n 0, 1) := by decide +kernel
theorem d_Mo_enter_5 : decode prog_13_method_26_code 5 = .ok (.getfield 49, 3) := by decide +kernel
theorem d_Mo_enter_8 : decode prog_13_method_26_code 8 = .ok (.iload_n 2, 1) := by decide +kernel
theorem d_Mo_enter_9 : decode prog_13_method_26_code 9 = .ok (.iaload, 1) := by decide +kernel
theorem d_Mo_enter_10 : decode prog_13_method_26_code 10 = .ok (.iadd, 1) := by decide +kernel
theorem d_Mo_enter_11 : decode prog_13_method_26_code 11 = .ok (.istore_n 3, 1) := by decide +kernel
theorem d_Mo_enter_12 : decode prog_13_method_26_code 12 = .ok (.aload_n 0, 1) := by decide +kernel
theorem d_Mo_enter_13 : decode prog_13_method_26_code 13 = .ok (.getfield 52, 3) := by decide +kernel
theorem d_Mo_enter_16 : decode prog_13_method_26_code 16 = .ok (.iload_n 3, 1) := by decide +kernel
theorem d_Mo_enter_17 : decode prog_13_method_26_code 17 = .ok (.iload_n 1, 1) := by decide +kernel
theorem d_Mo_enter_18 : decode prog_13_method_26_code 18 = .ok (.iastore, 1) := by decide +kernel
theorem d_Mo_enter_19 : decode prog_13_method_26_code 19 = .ok (.iconst 0, 1) := by decide +kernel
theorem d_Mo_enter_20 : decode prog_13_method_26_code 20 = .ok (.istore 4, 2) := by decide +kernel
theorem d_Mo_enter_22 : decode prog_13_method_26_code 22 = .ok (.iload 4, 2) := by decide +kernel
theorem d_Mo_enter_24 : decode prog_13_method_26_code 24 = .ok (.bipush 8, 2) := by decide +kernel
theorem d_Mo_enter_26 : decode prog_13_method_26_code 26 = .ok (.if_icmp .ge 28, 3) := by decide +kernel
theorem d_Mo_enter_29 : decode prog_13_method_26_code 29 = .ok (.aload_n 0, 1) := by decide +kernel
theorem d_Mo_enter_30 : decode prog_13_method_26_code 30 = .ok (.getfield 55, 3) := by decide +kernel
theorem d_Mo_enter_33 : decode prog_13_method_26_code 33 = .ok (.bipush 8, 2) := by decide +kernel
theorem d_Mo_enter_35 : decode prog_13_method_26_code 35 = .ok (.iload_n 3, 1) := by decide +kernel
theorem d_Mo_enter_36 : decode prog_13_method_26_code 36 = .ok (.imul, 1) := by decide +kernel
theorem d_Mo_enter_37 : decode prog_13_method_26_code 37 = .ok (.iload 4, 2) := by decide +kernel
theorem d_Mo_enter_39 : decode prog_13_method_26_code 39 = .ok (.iadd, 1) := by decide +kernel
theorem d_Mo_enter_40 : decode prog_13_method_26_code 40 = .ok (.aload_n 0, 1) := by decide +kernel
theorem d_Mo_enter_41 : decode prog_13_method_26_code 41 = .ok (.getfield 46, 3) := by decide +kernel
theorem d_Mo_enter_44 : decode prog_13_method_26_code 44 = .ok (.iload 4, 2) := by decide +kernel
theorem d_Mo_enter_46 : decode prog_13_method_26_code 46 = .ok (.iaload, 1) := by decide +kernel
theorem d_Mo_enter_47 : decode prog_13_method_26_code 47 = .ok (.iastore, 1) := by decide +kernel
theorem d_Mo_enter_48 : decode prog_13_method_26_code 48 = .ok (.iinc 4 1, 3) := by decide +kernel
theorem d_Mo_enter_51 : decode prog_13_method_26_code 51 = .ok (.goto (-29), 3) := by decide +kernel
theorem d_Mo_enter_54 : decode prog_13_method_26_code 54 = .ok (.aload_n 0, 1) := by decide +kernel
theorem d_Mo_enter_55 : decode prog_13_method_26_code 55 = .ok (.getfield 49, 3) := by decide +kernel
theorem d_Mo_enter_58 : decode prog_13_method_26_code 58 = .ok (.iload_n 2, 1) := by decide +kernel
theorem d_Mo_enter_59 : decode prog_13_method_26_code 59 = .ok (.dup2, 1) := by decide +kernel
theorem d_Mo_enter_60 : decode prog_13_method_26_code 60 = .ok (.iaload, 1) := by decide +kernel
theorem d_Mo_enter_61 : decode prog_13_method_26_code 61 = .ok (.iconst 1, 1) := by decide +kernel
theorem d_Mo_enter_62 : decode prog_13_method_26_code 62 = .ok (.iadd, 1) := by decide +kernel
theorem d_Mo_enter_63 : decode prog_13_method_26_code 63 = .ok (.iastore, 1) := by decide +kernel
theorem d_Mo_enter_64 : decode prog_13_method_26_code 64 = .ok (.return_, 1) := by decide +kernel
theorem M_Mo_enter : lt_M0 m_Mo_enter 2 := ⟨lt_m5 145 rfl rfl, lt_m1 13 rfl rfl, ⟨by decide +kernel, by decide +kernel, by decide +kernel⟩, by decide⟩
theorem in_Mo_enter : Cond.instanceMethod m_Mo_enter.1 ∈ lt_T := lt_m5 144 rfl rfl
theorem se_Mo_enter : Cond.selects "LinearSearchModel" m_Mo_enter.1 m_Mo_enter.1 ∈ lt_T := lt_memS 43 rfl rfl
abbrev m_Mo_back : lt_M := (⟨"LinearSearchModel", "back", "()I"⟩, prog_13_method_23_code, 2, (some .int))
theorem d_Mo_back_0 : decode prog_13_method_23_code 0 = .ok (.aload_n 0, 1) := by decide +kernel
theorem d_Mo_back_1 : decode prog_13_method_23_code 1 = .ok (.getfield 169, 3) := by decide +kernel
theorem d_Mo_back_4 : decode prog_13_method_23_code 4 = .ok (.ifCond .ne 5, 3) := by decide +kernel
theorem d_Mo_back_7 : decode prog_13_method_23_code 7 = .ok (.iconst (-1), 1) := by decide +kernel
theorem d_Mo_back_8 : decode prog_13_method_23_code 8 = .ok (.ireturn, 1) := by decide +kernel
theorem d_Mo_back_9 : decode prog_13_method_23_code 9 = .ok (.aload_n 0, 1) := by decide +kernel
theorem d_Mo_back_10 : decode prog_13_method_23_code 10 = .ok (.dup, 1) := by decide +kernel
theorem d_Mo_back_11 : decode prog_13_method_23_code 11 = .ok (.getfield 169, 3) := by decide +kernel
theorem d_Mo_back_14 : decode prog_13_method_23_code 14 = .ok (.iconst 1, 1) := by decide +kernel
theorem d_Mo_back_15 : decode prog_13_method_23_code 15 = .ok (.isub, 1) := by decide +kernel
theorem d_Mo_back_16 : decode prog_13_method_23_code 16 = .ok (.putfield 169, 3) := by decide +kernel
theorem d_Mo_back_19 : decode prog_13_method_23_code 19 = .ok (.iconst 0, 1) := by decide +kernel
theorem d_Mo_back_20 : decode prog_13_method_23_code 20 = .ok (.istore_n 1, 1) := by decide +kernel
theorem d_Mo_back_21 : decode prog_13_method_23_code 21 = .ok (.iload_n 1, 1) := by decide +kernel
theorem d_Mo_back_22 : decode prog_13_method_23_code 22 = .ok (.bipush 8, 2) := by decide +kernel
theorem d_Mo_back_24 : decode prog_13_method_23_code 24 = .ok (.if_icmp .ge 29, 3) := by decide +kernel
theorem d_Mo_back_27 : decode prog_13_method_23_code 27 = .ok (.aload_n 0, 1) := by decide +kernel
theorem d_Mo_back_28 : decode prog_13_method_23_code 28 = .ok (.getfield 46, 3) := by decide +kernel
theorem d_Mo_back_31 : decode prog_13_method_23_code 31 = .ok (.iload_n 1, 1) := by decide +kernel
theorem d_Mo_back_32 : decode prog_13_method_23_code 32 = .ok (.aload_n 0, 1) := by decide +kernel
theorem d_Mo_back_33 : decode prog_13_method_23_code 33 = .ok (.getfield 43, 3) := by decide +kernel
theorem d_Mo_back_36 : decode prog_13_method_23_code 36 = .ok (.bipush 8, 2) := by decide +kernel
theorem d_Mo_back_38 : decode prog_13_method_23_code 38 = .ok (.aload_n 0, 1) := by decide +kernel
theorem d_Mo_back_39 : decode prog_13_method_23_code 39 = .ok (.getfield 169, 3) := by decide +kernel
theorem d_Mo_back_42 : decode prog_13_method_23_code 42 = .ok (.imul, 1) := by decide +kernel
theorem d_Mo_back_43 : decode prog_13_method_23_code 43 = .ok (.iload_n 1, 1) := by decide +kernel
theorem d_Mo_back_44 : decode prog_13_method_23_code 44 = .ok (.iadd, 1) := by decide +kernel
theorem d_Mo_back_45 : decode prog_13_method_23_code 45 = .ok (.iaload, 1) := by decide +kernel
theorem d_Mo_back_46 : decode prog_13_method_23_code 46 = .ok (.iastore, 1) := by decide +kernel
theorem d_Mo_back_47 : decode prog_13_method_23_code 47 = .ok (.iinc 1 1, 3) := by decide +kernel
theorem d_Mo_back_50 : decode prog_13_method_23_code 50 = .ok (.goto (-29), 3) := by decide +kernel
theorem d_Mo_back_53 : decode prog_13_method_23_code 53 = .ok (.aload_n 0, 1) := by decide +kernel
theorem d_Mo_back_54 : decode prog_13_method_23_code 54 = .ok (.getfield 37, 3) := by decide +kernel
theorem d_Mo_back_57 : decode prog_13_method_23_code 57 = .ok (.aload_n 0, 1) := by decide +kernel
theorem d_Mo_back_58 : decode prog_13_method_23_code 58 = .ok (.getfield 169, 3) := by decide +kernel
theorem d_Mo_back_61 : decode prog_13_method_23_code 61 = .ok (.iaload, 1) := by decide +kernel
theorem d_Mo_back_62 : decode prog_13_method_23_code 62 = .ok (.ireturn, 1) := by decide +kernel
theorem M_Mo_back : lt_M0 m_Mo_back 0 := ⟨lt_m5 149 rfl rfl, lt_m1 13 rfl rfl, ⟨by decide +kernel, by decide +kernel, by decide +kernel⟩, by decide⟩
theorem in_Mo_back : Cond.instanceMethod m_Mo_back.1 ∈ lt_T := lt_m5 148 rfl rfl
theorem se_Mo_back : Cond.selects "LinearSearchModel" m_Mo_back.1 m_Mo_back.1 ∈ lt_T := lt_memS 44 rfl rfl
abbrev m_Mo_go : lt_M := (⟨"LinearSearchModel", "go", "(II)V"⟩, prog_13_method_29_code, 6, none)
theorem d_Mo_go_0 : decode prog_13_method_29_code 0 = .ok (.iconst 0, 1) := by decide +kernel
theorem d_Mo_go_1 : decode prog_13_method_29_code 1 = .ok (.istore_n 3, 1) := by decide +kernel
theorem d_Mo_go_2 : decode prog_13_method_29_code 2 = .ok (.iconst 0, 1) := by decide +kernel
theorem d_Mo_go_3 : decode prog_13_method_29_code 3 = .ok (.istore 4, 2) := by decide +kernel
theorem d_Mo_go_5 : decode prog_13_method_29_code 5 = .ok (.iload 4, 2) := by decide +kernel
theorem d_Mo_go_7 : decode prog_13_method_29_code 7 = .ok (.aload_n 0, 1) := by decide +kernel
theorem d_Mo_go_8 : decode prog_13_method_29_code 8 = .ok (.getfield 49, 3) := by decide +kernel
theorem d_Mo_go_11 : decode prog_13_method_29_code 11 = .ok (.iload_n 1, 1) := by decide +kernel
theorem d_Mo_go_12 : decode prog_13_method_29_code 12 = .ok (.iaload, 1) := by decide +kernel
theorem d_Mo_go_13 : decode prog_13_method_29_code 13 = .ok (.if_icmp .ge 107, 3) := by decide +kernel
theorem d_Mo_go_16 : decode prog_13_method_29_code 16 = .ok (.iload_n 3, 1) := by decide +kernel
theorem d_Mo_go_17 : decode prog_13_method_29_code 17 = .ok (.ifCond .ne 103, 3) := by decide +kernel
theorem d_Mo_go_20 : decode prog_13_method_29_code 20 = .ok (.bipush 64, 2) := by decide +kernel
theorem d_Mo_go_22 : decode prog_13_method_29_code 22 = .ok (.iload_n 1, 1) := by decide +kernel
theorem d_Mo_go_23 : decode prog_13_method_29_code 23 = .ok (.imul, 1) := by decide +kernel
theorem d_Mo_go_24 : decode prog_13_method_29_code 24 = .ok (.iload 4, 2) := by decide +kernel
theorem d_Mo_go_26 : decode prog_13_method_29_code 26 = .ok (.iadd, 1) := by decide +kernel
theorem d_Mo_go_27 : decode prog_13_method_29_code 27 = .ok (.istore 5, 2) := by decide +kernel
theorem d_Mo_go_29 : decode prog_13_method_29_code 29 = .ok (.aload_n 0, 1) := by decide +kernel
theorem d_Mo_go_30 : decode prog_13_method_29_code 30 = .ok (.dup, 1) := by decide +kernel
theorem d_Mo_go_31 : decode prog_13_method_29_code 31 = .ok (.getfield 189, 3) := by decide +kernel
theorem d_Mo_go_34 : decode prog_13_method_29_code 34 = .ok (.iconst 1, 1) := by decide +kernel
theorem d_Mo_go_35 : decode prog_13_method_29_code 35 = .ok (.iadd, 1) := by decide +kernel
theorem d_Mo_go_36 : decode prog_13_method_29_code 36 = .ok (.putfield 189, 3) := by decide +kernel
theorem d_Mo_go_39 : decode prog_13_method_29_code 39 = .ok (.aload_n 0, 1) := by decide +kernel
theorem d_Mo_go_40 : decode prog_13_method_29_code 40 = .ok (.iload 5, 2) := by decide +kernel
theorem d_Mo_go_42 : decode prog_13_method_29_code 42 = .ok (.invokevirtual 192, 3) := by decide +kernel
theorem d_Mo_go_45 : decode prog_13_method_29_code 45 = .ok (.aload_n 0, 1) := by decide +kernel
theorem d_Mo_go_46 : decode prog_13_method_29_code 46 = .ok (.getfield 16, 3) := by decide +kernel
theorem d_Mo_go_49 : decode prog_13_method_29_code 49 = .ok (.aload_n 0, 1) := by decide +kernel
theorem d_Mo_go_50 : decode prog_13_method_29_code 50 = .ok (.getfield 52, 3) := by decide +kernel
theorem d_Mo_go_53 : decode prog_13_method_29_code 53 = .ok (.iload 5, 2) := by decide +kernel
theorem d_Mo_go_55 : decode prog_13_method_29_code 55 = .ok (.iaload, 1) := by decide +kernel
theorem d_Mo_go_56 : decode prog_13_method_29_code 56 = .ok (.iaload, 1) := by decide +kernel
theorem d_Mo_go_57 : decode prog_13_method_29_code 57 = .ok (.bipush 7, 2) := by decide +kernel
theorem d_Mo_go_59 : decode prog_13_method_29_code 59 = .ok (.if_icmp .ne 7, 3) := by decide +kernel
theorem d_Mo_go_62 : decode prog_13_method_29_code 62 = .ok (.iconst 1, 1) := by decide +kernel
theorem d_Mo_go_63 : decode prog_13_method_29_code 63 = .ok (.goto 4, 3) := by decide +kernel
theorem d_Mo_go_66 : decode prog_13_method_29_code 66 = .ok (.iconst 0, 1) := by decide +kernel
theorem d_Mo_go_67 : decode prog_13_method_29_code 67 = .ok (.istore_n 3, 1) := by decide +kernel
theorem d_Mo_go_68 : decode prog_13_method_29_code 68 = .ok (.iload_n 3, 1) := by decide +kernel
theorem d_Mo_go_69 : decode prog_13_method_29_code 69 = .ok (.ifCond .eq 11, 3) := by decide +kernel
theorem d_Mo_go_72 : decode prog_13_method_29_code 72 = .ok (.aload_n 0, 1) := by decide +kernel
theorem d_Mo_go_73 : decode prog_13_method_29_code 73 = .ok (.iload_n 2, 1) := by decide +kernel
theorem d_Mo_go_74 : decode prog_13_method_29_code 74 = .ok (.invokevirtual 195, 3) := by decide +kernel
theorem d_Mo_go_77 : decode prog_13_method_29_code 77 = .ok (.goto 37, 3) := by decide +kernel
theorem d_Mo_go_80 : decode prog_13_method_29_code 80 = .ok (.aload_n 0, 1) := by decide +kernel
theorem d_Mo_go_81 : decode prog_13_method_29_code 81 = .ok (.aload_n 0, 1) := by decide +kernel
theorem d_Mo_go_82 : decode prog_13_method_29_code 82 = .ok (.getfield 52, 3) := by decide +kernel
theorem d_Mo_go_85 : decode prog_13_method_29_code 85 = .ok (.iload 5, 2) := by decide +kernel
theorem d_Mo_go_87 : decode prog_13_method_29_code 87 = .ok (.iaload, 1) := by decide +kernel
theorem d_Mo_go_88 : decode prog_13_method_29_code 88 = .ok (.iload_n 2, 1) := by decide +kernel
theorem d_Mo_go_89 : decode prog_13_method_29_code 89 = .ok (.invokevirtual 198, 3) := by decide +kernel
theorem d_Mo_go_92 : decode prog_13_method_29_code 92 = .ok (.ifCond .eq 22, 3) := by decide +kernel
theorem d_Mo_go_95 : decode prog_13_method_29_code 95 = .ok (.aload_n 0, 1) := by decide +kernel
theorem d_Mo_go_96 : decode prog_13_method_29_code 96 = .ok (.aload_n 0, 1) := by decide +kernel
theorem d_Mo_go_97 : decode prog_13_method_29_code 97 = .ok (.getfield 52, 3) := by decide +kernel
theorem d_Mo_go_100 : decode prog_13_method_29_code 100 = .ok (.iload 5, 2) := by decide +kernel
theorem d_Mo_go_102 : decode prog_13_method_29_code 102 = .ok (.iaload, 1) := by decide +kernel
theorem d_Mo_go_103 : decode prog_13_method_29_code 103 = .ok (.iconst 1, 1) := by decide +kernel
theorem d_Mo_go_104 : decode prog_13_method_29_code 104 = .ok (.iadd, 1) := by decide +kernel
theorem d_Mo_go_105 : decode prog_13_method_29_code 105 = .ok (.iload_n 2, 1) := by decide +kernel
theorem d_Mo_go_106 : decode prog_13_method_29_code 106 = .ok (.iconst 1, 1) := by decide +kernel
theorem d_Mo_go_107 : decode prog_13_method_29_code 107 = .ok (.iadd, 1) := by decide +kernel
theorem d_Mo_go_108 : decode prog_13_method_29_code 108 = .ok (.iconst 1, 1) := by decide +kernel
theorem d_Mo_go_109 : decode prog_13_method_29_code 109 = .ok (.iload_n 1, 1) := by decide +kernel
theorem d_Mo_go_110 : decode prog_13_method_29_code 110 = .ok (.isub, 1) := by decide +kernel
theorem d_Mo_go_111 : decode prog_13_method_29_code 111 = .ok (.invokevirtual 202, 3) := by decide +kernel
theorem d_Mo_go_114 : decode prog_13_method_29_code 114 = .ok (.iinc 4 1, 3) := by decide +kernel
theorem d_Mo_go_117 : decode prog_13_method_29_code 117 = .ok (.goto (-112), 3) := by decide +kernel
theorem d_Mo_go_120 : decode prog_13_method_29_code 120 = .ok (.return_, 1) := by decide +kernel
theorem M_Mo_go : lt_M0 m_Mo_go 2 := ⟨lt_m5 153 rfl rfl, lt_m1 13 rfl rfl, ⟨by decide +kernel, by decide +kernel, by decide +kernel⟩, by decide⟩
theorem in_Mo_go : Cond.instanceMethod m_Mo_go.1 ∈ lt_T := lt_m5 152 rfl rfl
theorem se_Mo_go : Cond.selects "LinearSearchModel" m_Mo_go.1 m_Mo_go.1 ∈ lt_T := lt_memS 45 rfl rfl
abbrev m_Mo_take : lt_M := (⟨"LinearSearchModel", "take", "(I)V"⟩, prog_13_method_27_code, 3, none)
theorem d_Mo_take_0 : decode prog_13_method_27_code 0 = .ok (.iconst 0, 1) := by decide +kernel
theorem d_Mo_take_1 : decode prog_13_method_27_code 1 = .ok (.istore_n 2, 1) := by decide +kernel
theorem d_Mo_take_2 : decode prog_13_method_27_code 2 = .ok (.iload_n 2, 1) := by decide +kernel
theorem d_Mo_take_3 : decode prog_13_method_27_code 3 = .ok (.bipush 8, 2) := by decide +kernel
theorem d_Mo_take_5 : decode prog_13_method_27_code 5 = .ok (.if_icmp .ge 26, 3) := by decide +kernel
theorem d_Mo_take_8 : decode prog_13_method_27_code 8 = .ok (.aload_n 0, 1) := by decide +kernel
theorem d_Mo_take_9 : decode prog_13_method_27_code 9 = .ok (.getfield 46, 3) := by decide +kernel
theorem d_Mo_take_12 : decode prog_13_method_27_code 12 = .ok (.iload_n 2, 1) := by decide +kernel
theorem d_Mo_take_13 : decode prog_13_method_27_code 13 = .ok (.aload_n 0, 1) := by decide +kernel
theorem d_Mo_take_14 : decode prog_13_method_27_code 14 = .ok (.getfield 55, 3) := by decide +kernel
theorem d_Mo_take_17 : decode prog_13_method_27_code 17 = .ok (.bipush 8, 2) := by decide +kernel
theorem d_Mo_take_19 : decode prog_13_method_27_code 19 = .ok (.iload_n 1, 1) := by decide +kernel
theorem d_Mo_take_20 : decode prog_13_method_27_code 20 = .ok (.imul, 1) := by decide +kernel
theorem d_Mo_take_21 : decode prog_13_method_27_code 21 = .ok (.iload_n 2, 1) := by decide +kernel
theorem d_Mo_take_22 : decode prog_13_method_27_code 22 = .ok (.iadd, 1) := by decide +kernel
theorem d_Mo_take_23 : decode prog_13_method_27_code 23 = .ok (.iaload, 1) := by decide +kernel
theorem d_Mo_take_24 : decode prog_13_method_27_code 24 = .ok (.iastore, 1) := by decide +kernel
theorem d_Mo_take_25 : decode prog_13_method_27_code 25 = .ok (.iinc 2 1, 3) := by decide +kernel
theorem d_Mo_take_28 : decode prog_13_method_27_code 28 = .ok (.goto (-26), 3) := by decide +kernel
theorem d_Mo_take_31 : decode prog_13_method_27_code 31 = .ok (.return_, 1) := by decide +kernel
theorem M_Mo_take : lt_M0 m_Mo_take 1 := ⟨lt_m5 157 rfl rfl, lt_m1 13 rfl rfl, ⟨by decide +kernel, by decide +kernel, by decide +kernel⟩, by decide⟩
theorem in_Mo_take : Cond.instanceMethod m_Mo_take.1 ∈ lt_T := lt_m5 156 rfl rfl
theorem se_Mo_take : Cond.selects "LinearSearchModel" m_Mo_take.1 m_Mo_take.1 ∈ lt_T := lt_memS 46 rfl rfl
abbrev m_Mo_note : lt_M := (⟨"LinearSearchModel", "note", "(I)V"⟩, prog_13_method_28_code, 3, none)
theorem d_Mo_note_0 : decode prog_13_method_28_code 0 = .ok (.aload_n 0, 1) := by decide +kernel
theorem d_Mo_note_1 : decode prog_13_method_28_code 1 = .ok (.iconst 1, 1) := by decide +kernel
theorem d_Mo_note_2 : decode prog_13_method_28_code 2 = .ok (.putfield 105, 3) := by decide +kernel
theorem d_Mo_note_5 : decode prog_13_method_28_code 5 = .ok (.iconst 0, 1) := by decide +kernel
theorem d_Mo_note_6 : decode prog_13_method_28_code 6 = .ok (.istore_n 2, 1) := by decide +kernel
theorem d_Mo_note_7 : decode prog_13_method_28_code 7 = .ok (.iload_n 2, 1) := by decide +kernel
theorem d_Mo_note_8 : decode prog_13_method_28_code 8 = .ok (.bipush 8, 2) := by decide +kernel
theorem d_Mo_note_10 : decode prog_13_method_28_code 10 = .ok (.if_icmp .ge 21, 3) := by decide +kernel
theorem d_Mo_note_13 : decode prog_13_method_28_code 13 = .ok (.aload_n 0, 1) := by decide +kernel
theorem d_Mo_note_14 : decode prog_13_method_28_code 14 = .ok (.getfield 84, 3) := by decide +kernel
theorem d_Mo_note_17 : decode prog_13_method_28_code 17 = .ok (.iload_n 2, 1) := by decide +kernel
theorem d_Mo_note_18 : decode prog_13_method_28_code 18 = .ok (.aload_n 0, 1) := by decide +kernel
theorem d_Mo_note_19 : decode prog_13_method_28_code 19 = .ok (.getfield 46, 3) := by decide +kernel
theorem d_Mo_note_22 : decode prog_13_method_28_code 22 = .ok (.iload_n 2, 1) := by decide +kernel
theorem d_Mo_note_23 : decode prog_13_method_28_code 23 = .ok (.iaload, 1) := by decide +kernel
theorem d_Mo_note_24 : decode prog_13_method_28_code 24 = .ok (.iastore, 1) := by decide +kernel
theorem d_Mo_note_25 : decode prog_13_method_28_code 25 = .ok (.iinc 2 1, 3) := by decide +kernel
theorem d_Mo_note_28 : decode prog_13_method_28_code 28 = .ok (.goto (-21), 3) := by decide +kernel
theorem d_Mo_note_31 : decode prog_13_method_28_code 31 = .ok (.aload_n 0, 1) := by decide +kernel
theorem d_Mo_note_32 : decode prog_13_method_28_code 32 = .ok (.getfield 84, 3) := by decide +kernel
theorem d_Mo_note_35 : decode prog_13_method_28_code 35 = .ok (.iconst 1, 1) := by decide +kernel
theorem d_Mo_note_36 : decode prog_13_method_28_code 36 = .ok (.iload_n 1, 1) := by decide +kernel
theorem d_Mo_note_37 : decode prog_13_method_28_code 37 = .ok (.iastore, 1) := by decide +kernel
theorem d_Mo_note_38 : decode prog_13_method_28_code 38 = .ok (.return_, 1) := by decide +kernel
theorem M_Mo_note : lt_M0 m_Mo_note 1 := ⟨lt_m5 161 rfl rfl, lt_m1 13 rfl rfl, ⟨by decide +kernel, by decide +kernel, by decide +kernel⟩, by decide⟩
theorem in_Mo_note : Cond.instanceMethod m_Mo_note.1 ∈ lt_T := lt_m5 160 rfl rfl
theorem se_Mo_note : Cond.selects "LinearSearchModel" m_Mo_note.1 m_Mo_note.1 ∈ lt_T := lt_memS 47 rfl rfl
abbrev m_Mo_isRight : lt_M := (⟨"LinearSearchModel", "isRight", "(II)Z"⟩, prog_13_method_20_code, 3, (some .boolean))
theorem d_Mo_isRight_0 : decode prog_13_method_20_code 0 = .ok (.iload_n 2, 1) := by decide +kernel
theorem d_Mo_isRight_1 : decode prog_13_method_20_code 1 = .ok (.aload_n 0, 1) := by decide +kernel
theorem d_Mo_isRight_2 : decode prog_13_method_20_code 2 = .ok (.getfield 172, 3) := by decide +kernel
theorem d_Mo_isRight_5 : decode prog_13_method_20_code 5 = .ok (.if_icmp .ge 41, 3) := by decide +kernel
theorem d_Mo_isRight_8 : decode prog_13_method_20_code 8 = .ok (.aload_n 0, 1) := by decide +kernel
theorem d_Mo_isRight_9 : decode prog_13_method_20_code 9 = .ok (.getfield 16, 3) := by decide +kernel
theorem d_Mo_isRight_12 : decode prog_13_method_20_code 12 = .ok (.iload_n 1, 1) := by decide +kernel
theorem d_Mo_isRight_13 : decode prog_13_method_20_code 13 = .ok (.iaload, 1) := by decide +kernel
theorem d_Mo_isRight_14 : decode prog_13_method_20_code 14 = .ok (.iconst 1, 1) := by decide +kernel
theorem d_Mo_isRight_15 : decode prog_13_method_20_code 15 = .ok (.if_icmp .eq 27, 3) := by decide +kernel
theorem d_Mo_isRight_18 : decode prog_13_method_20_code 18 = .ok (.aload_n 0, 1) := by decide +kernel
theorem d_Mo_isRight_19 : decode prog_13_method_20_code 19 = .ok (.getfield 16, 3) := by decide +kernel
theorem d_Mo_isRight_22 : decode prog_13_method_20_code 22 = .ok (.iload_n 1, 1) := by decide +kernel
theorem d_Mo_isRight_23 : decode prog_13_method_20_code 23 = .ok (.iaload, 1) := by decide +kernel
theorem d_Mo_isRight_24 : decode prog_13_method_20_code 24 = .ok (.ifCond .ne 22, 3) := by decide +kernel
theorem d_Mo_isRight_27 : decode prog_13_method_20_code 27 = .ok (.aload_n 0, 1) := by decide +kernel
theorem d_Mo_isRight_28 : decode prog_13_method_20_code 28 = .ok (.getfield 19, 3) := by decide +kernel
theorem d_Mo_isRight_31 : decode prog_13_method_20_code 31 = .ok (.iload_n 1, 1) := by decide +kernel
theorem d_Mo_isRight_32 : decode prog_13_method_20_code 32 = .ok (.iaload, 1) := by decide +kernel
theorem d_Mo_isRight_33 : decode prog_13_method_20_code 33 = .ok (.aload_n 0, 1) := by decide +kernel
theorem d_Mo_isRight_34 : decode prog_13_method_20_code 34 = .ok (.getfield 13, 3) := by decide +kernel
theorem d_Mo_isRight_37 : decode prog_13_method_20_code 37 = .ok (.iload_n 2, 1) := by decide +kernel
theorem d_Mo_isRight_38 : decode prog_13_method_20_code 38 = .ok (.iaload, 1) := by decide +kernel
theorem d_Mo_isRight_39 : decode prog_13_method_20_code 39 = .ok (.if_icmp .ne 7, 3) := by decide +kernel
theorem d_Mo_isRight_42 : decode prog_13_method_20_code 42 = .ok (.iconst 1, 1) := by decide +kernel
theorem d_Mo_isRight_43 : decode prog_13_method_20_code 43 = .ok (.goto 4, 3) := by decide +kernel
theorem d_Mo_isRight_46 : decode prog_13_method_20_code 46 = .ok (.iconst 0, 1) := by decide +kernel
theorem d_Mo_isRight_47 : decode prog_13_method_20_code 47 = .ok (.ireturn, 1) := by decide +kernel
theorem M_Mo_isRight : lt_M0 m_Mo_isRight 2 := ⟨lt_m5 165 rfl rfl, lt_m1 13 rfl rfl, ⟨by decide +kernel, by decide +kernel, by decide +kernel⟩, by decide⟩
theorem in_Mo_isRight : Cond.instanceMethod m_Mo_isRight.1 ∈ lt_T := lt_m5 164 rfl rfl
theorem se_Mo_isRight : Cond.selects "LinearSearchModel" m_Mo_isRight.1 m_Mo_isRight.1 ∈ lt_T := lt_memS 48 rfl rfl
abbrev m_Mo_runMarks : lt_M := (⟨"LinearSearchModel", "runMarks", "()V"⟩, prog_13_method_31_code, 2, none)
theorem d_Mo_runMarks_0 : decode prog_13_method_31_code 0 = .ok (.aload_n 0, 1) := by decide +kernel
theorem d_Mo_runMarks_1 : decode prog_13_method_31_code 1 = .ok (.iconst 0, 1) := by decide +kernel
theorem d_Mo_runMarks_2 : decode prog_13_method_31_code 2 = .ok (.putfield 105, 3) := by decide +kernel
theorem d_Mo_runMarks_5 : decode prog_13_method_31_code 5 = .ok (.iconst 0, 1) := by decide +kernel
theorem d_Mo_runMarks_6 : decode prog_13_method_31_code 6 = .ok (.istore_n 1, 1) := by decide +kernel
theorem d_Mo_runMarks_7 : decode prog_13_method_31_code 7 = .ok (.iload_n 1, 1) := by decide +kernel
theorem d_Mo_runMarks_8 : decode prog_13_method_31_code 8 = .ok (.sipush 1344, 3) := by decide +kernel
theorem d_Mo_runMarks_11 : decode prog_13_method_31_code 11 = .ok (.if_icmp .ge 16, 3) := by decide +kernel
theorem d_Mo_runMarks_14 : decode prog_13_method_31_code 14 = .ok (.aload_n 0, 1) := by decide +kernel
theorem d_Mo_runMarks_15 : decode prog_13_method_31_code 15 = .ok (.getfield 58, 3) := by decide +kernel
theorem d_Mo_runMarks_18 : decode prog_13_method_31_code 18 = .ok (.iload_n 1, 1) := by decide +kernel
theorem d_Mo_runMarks_19 : decode prog_13_method_31_code 19 = .ok (.iconst 0, 1) := by decide +kernel
theorem d_Mo_runMarks_20 : decode prog_13_method_31_code 20 = .ok (.bastore, 1) := by decide +kernel
theorem d_Mo_runMarks_21 : decode prog_13_method_31_code 21 = .ok (.iinc 1 1, 3) := by decide +kernel
theorem d_Mo_runMarks_24 : decode prog_13_method_31_code 24 = .ok (.goto (-17), 3) := by decide +kernel
theorem d_Mo_runMarks_27 : decode prog_13_method_31_code 27 = .ok (.iconst 0, 1) := by decide +kernel
theorem d_Mo_runMarks_28 : decode prog_13_method_31_code 28 = .ok (.istore_n 1, 1) := by decide +kernel
theorem d_Mo_runMarks_29 : decode prog_13_method_31_code 29 = .ok (.iload_n 1, 1) := by decide +kernel
theorem d_Mo_runMarks_30 : decode prog_13_method_31_code 30 = .ok (.aload_n 0, 1) := by decide +kernel
theorem d_Mo_runMarks_31 : decode prog_13_method_31_code 31 = .ok (.getfield 172, 3) := by decide +kernel
theorem d_Mo_runMarks_34 : decode prog_13_method_31_code 34 = .ok (.if_icmp .gt 21, 3) := by decide +kernel
theorem d_Mo_runMarks_37 : decode prog_13_method_31_code 37 = .ok (.aload_n 0, 1) := by decide +kernel
theorem d_Mo_runMarks_38 : decode prog_13_method_31_code 38 = .ok (.getfield 105, 3) := by decide +kernel
theorem d_Mo_runMarks_41 : decode prog_13_method_31_code 41 = .ok (.ifCond .ne 14, 3) := by decide +kernel
theorem d_Mo_runMarks_44 : decode prog_13_method_31_code 44 = .ok (.aload_n 0, 1) := by decide +kernel
theorem d_Mo_runMarks_45 : decode prog_13_method_31_code 45 = .ok (.iload_n 1, 1) := by decide +kernel
theorem d_Mo_runMarks_46 : decode prog_13_method_31_code 46 = .ok (.invokevirtual 211, 3) := by decide +kernel
theorem d_Mo_runMarks_49 : decode prog_13_method_31_code 49 = .ok (.iinc 1 1, 3) := by decide +kernel
theorem d_Mo_runMarks_52 : decode prog_13_method_31_code 52 = .ok (.goto (-23), 3) := by decide +kernel
theorem d_Mo_runMarks_55 : decode prog_13_method_31_code 55 = .ok (.return_, 1) := by decide +kernel
theorem M_Mo_runMarks : lt_M0 m_Mo_runMarks 0 := ⟨lt_m5 169 rfl rfl, lt_m1 13 rfl rfl, ⟨by decide +kernel, by decide +kernel, by decide +kernel⟩, by decide⟩
theorem in_Mo_runMarks : Cond.instanceMethod m_Mo_runMarks.1 ∈ lt_T := lt_m5 168 rfl rfl
theorem se_Mo_runMarks : Cond.selects "LinearSearchModel" m_Mo_runMarks.1 m_Mo_runMarks.1 ∈ lt_T := lt_memS 49 rfl rfl
abbrev m_Mo_runThread : lt_M := (⟨"LinearSearchModel", "runThread", "(I)V"⟩, prog_13_method_32_code, 6, none)
theorem d_Mo_runThread_0 : decode prog_13_method_32_code 0 = .ok (.aload_n 0, 1) := by decide +kernel
theorem d_Mo_runThread_1 : decode prog_13_method_32_code 1 = .ok (.iconst 0, 1) := by decide +kernel
theorem d_Mo_runThread_2 : decode prog_13_method_32_code 2 = .ok (.putfield 169, 3) := by decide +kernel
theorem d_Mo_runThread_5 : decode prog_13_method_32_code 5 = .ok (.aload_n 0, 1) := by decide +kernel
theorem d_Mo_runThread_6 : decode prog_13_method_32_code 6 = .ok (.iload_n 1, 1) := by decide +kernel
theorem d_Mo_runThread_7 : decode prog_13_method_32_code 7 = .ok (.invokevirtual 205, 3) := by decide +kernel
theorem d_Mo_runThread_10 : decode prog_13_method_32_code 10 = .ok (.iconst 0, 1) := by decide +kernel
theorem d_Mo_runThread_11 : decode prog_13_method_32_code 11 = .ok (.istore_n 2, 1) := by decide +kernel
theorem d_Mo_runThread_12 : decode prog_13_method_32_code 12 = .ok (.iload_n 1, 1) := by decide +kernel
theorem d_Mo_runThread_13 : decode prog_13_method_32_code 13 = .ok (.istore_n 3, 1) := by decide +kernel
theorem d_Mo_runThread_14 : decode prog_13_method_32_code 14 = .ok (.iload_n 2, 1) := by decide +kernel
theorem d_Mo_runThread_15 : decode prog_13_method_32_code 15 = .ok (.iconst (-1), 1) := by decide +kernel
theorem d_Mo_runThread_16 : decode prog_13_method_32_code 16 = .ok (.if_icmp .eq 138, 3) := by decide +kernel
theorem d_Mo_runThread_19 : decode prog_13_method_32_code 19 = .ok (.aload_n 0, 1) := by decide +kernel
theorem d_Mo_runThread_20 : decode prog_13_method_32_code 20 = .ok (.getfield 105, 3) := by decide +kernel
theorem d_Mo_runThread_23 : decode prog_13_method_32_code 23 = .ok (.ifCond .ne 131, 3) := by decide +kernel
theorem d_Mo_runThread_26 : decode prog_13_method_32_code 26 = .ok (.bipush 21, 2) := by decide +kernel
theorem d_Mo_runThread_28 : decode prog_13_method_32_code 28 = .ok (.iload_n 2, 1) := by decide +kernel
theorem d_Mo_runThread_29 : decode prog_13_method_32_code 29 = .ok (.imul, 1) := by decide +kernel
theorem d_Mo_runThread_30 : decode prog_13_method_32_code 30 = .ok (.iload_n 3, 1) := by decide +kernel
theorem d_Mo_runThread_31 : decode prog_13_method_32_code 31 = .ok (.iadd, 1) := by decide +kernel
theorem d_Mo_runThread_32 : decode prog_13_method_32_code 32 = .ok (.istore 4, 2) := by decide +kernel
theorem d_Mo_runThread_34 : decode prog_13_method_32_code 34 = .ok (.iconst (-1), 1) := by decide +kernel
theorem d_Mo_runThread_35 : decode prog_13_method_32_code 35 = .ok (.istore 5, 2) := by decide +kernel
theorem d_Mo_runThread_37 : decode prog_13_method_32_code 37 = .ok (.aload_n 0, 1) := by decide +kernel
theorem d_Mo_runThread_38 : decode prog_13_method_32_code 38 = .ok (.getfield 58, 3) := by decide +kernel
theorem d_Mo_runThread_41 : decode prog_13_method_32_code 41 = .ok (.iload 4, 2) := by decide +kernel
theorem d_Mo_runThread_43 : decode prog_13_method_32_code 43 = .ok (.baload, 1) := by decide +kernel
theorem d_Mo_runThread_44 : decode prog_13_method_32_code 44 = .ok (.ifCond .ne 72, 3) := by decide +kernel
theorem d_Mo_runThread_47 : decode prog_13_method_32_code 47 = .ok (.aload_n 0, 1) := by decide +kernel
theorem d_Mo_runThread_48 : decode prog_13_method_32_code 48 = .ok (.getfield 58, 3) := by decide +kernel
theorem d_Mo_runThread_51 : decode prog_13_method_32_code 51 = .ok (.iload 4, 2) := by decide +kernel
theorem d_Mo_runThread_53 : decode prog_13_method_32_code 53 = .ok (.iconst 1, 1) := by decide +kernel
theorem d_Mo_runThread_54 : decode prog_13_method_32_code 54 = .ok (.bastore, 1) := by decide +kernel
theorem d_Mo_runThread_55 : decode prog_13_method_32_code 55 = .ok (.aload_n 0, 1) := by decide +kernel
theorem d_Mo_runThread_56 : decode prog_13_method_32_code 56 = .ok (.dup, 1) := by decide +kernel
theorem d_Mo_runThread_57 : decode prog_13_method_32_code 57 = .ok (.getfield 189, 3) := by decide +kernel
theorem d_Mo_runThread_60 : decode prog_13_method_32_code 60 = .ok (.iconst 1, 1) := by decide +kernel
theorem d_Mo_runThread_61 : decode prog_13_method_32_code 61 = .ok (.iadd, 1) := by decide +kernel
theorem d_Mo_runThread_62 : decode prog_13_method_32_code 62 = .ok (.putfield 189, 3) := by decide +kernel
theorem d_Mo_runThread_65 : decode prog_13_method_32_code 65 = .ok (.aload_n 0, 1) := by decide +kernel
theorem d_Mo_runThread_66 : decode prog_13_method_32_code 66 = .ok (.getfield 16, 3) := by decide +kernel
theorem d_Mo_runThread_69 : decode prog_13_method_32_code 69 = .ok (.iload_n 2, 1) := by decide +kernel
theorem d_Mo_runThread_70 : decode prog_13_method_32_code 70 = .ok (.iaload, 1) := by decide +kernel
theorem d_Mo_runThread_71 : decode prog_13_method_32_code 71 = .ok (.bipush 7, 2) := by decide +kernel
theorem d_Mo_runThread_73 : decode prog_13_method_32_code 73 = .ok (.if_icmp .ne 8, 3) := by decide +kernel
theorem d_Mo_runThread_76 : decode prog_13_method_32_code 76 = .ok (.aload_n 0, 1) := by decide +kernel
theorem d_Mo_runThread_77 : decode prog_13_method_32_code 77 = .ok (.iload_n 3, 1) := by decide +kernel
theorem d_Mo_runThread_78 : decode prog_13_method_32_code 78 = .ok (.invokevirtual 195, 3) := by decide +kernel
theorem d_Mo_runThread_81 : decode prog_13_method_32_code 81 = .ok (.aload_n 0, 1) := by decide +kernel
theorem d_Mo_runThread_82 : decode prog_13_method_32_code 82 = .ok (.iload_n 2, 1) := by decide +kernel
theorem d_Mo_runThread_83 : decode prog_13_method_32_code 83 = .ok (.iload_n 3, 1) := by decide +kernel
theorem d_Mo_runThread_84 : decode prog_13_method_32_code 84 = .ok (.invokevirtual 198, 3) := by decide +kernel
theorem d_Mo_runThread_87 : decode prog_13_method_32_code 87 = .ok (.ifCond .eq 9, 3) := by decide +kernel
theorem d_Mo_runThread_90 : decode prog_13_method_32_code 90 = .ok (.iload_n 2, 1) := by decide +kernel
theorem d_Mo_runThread_91 : decode prog_13_method_32_code 91 = .ok (.iconst 1, 1) := by decide +kernel
theorem d_Mo_runThread_92 : decode prog_13_method_32_code 92 = .ok (.iadd, 1) := by decide +kernel
theorem d_Mo_runThread_93 : decode prog_13_method_32_code 93 = .ok (.goto 9, 3) := by decide +kernel
theorem d_Mo_runThread_96 : decode prog_13_method_32_code 96 = .ok (.aload_n 0, 1) := by decide +kernel
theorem d_Mo_runThread_97 : decode prog_13_method_32_code 97 = .ok (.iload_n 2, 1) := by decide +kernel
theorem d_Mo_runThread_98 : decode prog_13_method_32_code 98 = .ok (.iload_n 3, 1) := by decide +kernel
theorem d_Mo_runThread_99 : decode prog_13_method_32_code 99 = .ok (.invokevirtual 179, 3) := by decide +kernel
theorem d_Mo_runThread_102 : decode prog_13_method_32_code 102 = .ok (.istore 5, 2) := by decide +kernel
theorem d_Mo_runThread_104 : decode prog_13_method_32_code 104 = .ok (.aload_n 0, 1) := by decide +kernel
theorem d_Mo_runThread_105 : decode prog_13_method_32_code 105 = .ok (.iload_n 2, 1) := by decide +kernel
theorem d_Mo_runThread_106 : decode prog_13_method_32_code 106 = .ok (.iload_n 3, 1) := by decide +kernel
theorem d_Mo_runThread_107 : decode prog_13_method_32_code 107 = .ok (.invokevirtual 198, 3) := by decide +kernel
theorem d_Mo_runThread_110 : decode prog_13_method_32_code 110 = .ok (.ifCond .eq 6, 3) := by decide +kernel
theorem d_Mo_runThread_113 : decode prog_13_method_32_code 113 = .ok (.iinc 3 1, 3) := by decide +kernel
theorem d_Mo_runThread_116 : decode prog_13_method_32_code 116 = .ok (.iload 5, 2) := by decide +kernel
theorem d_Mo_runThread_118 : decode prog_13_method_32_code 118 = .ok (.iconst (-1), 1) := by decide +kernel
theorem d_Mo_runThread_119 : decode prog_13_method_32_code 119 = .ok (.if_icmp .ne 29, 3) := by decide +kernel
theorem d_Mo_runThread_122 : decode prog_13_method_32_code 122 = .ok (.aload_n 0, 1) := by decide +kernel
theorem d_Mo_runThread_123 : decode prog_13_method_32_code 123 = .ok (.invokevirtual 186, 3) := by decide +kernel
theorem d_Mo_runThread_126 : decode prog_13_method_32_code 126 = .ok (.istore 5, 2) := by decide +kernel
theorem d_Mo_runThread_128 : decode prog_13_method_32_code 128 = .ok (.iload 5, 2) := by decide +kernel
theorem d_Mo_runThread_130 : decode prog_13_method_32_code 130 = .ok (.iconst (-1), 1) := by decide +kernel
theorem d_Mo_runThread_131 : decode prog_13_method_32_code 131 = .ok (.if_icmp .ne 7, 3) := by decide +kernel
theorem d_Mo_runThread_134 : decode prog_13_method_32_code 134 = .ok (.iload_n 3, 1) := by decide +kernel
theorem d_Mo_runThread_135 : decode prog_13_method_32_code 135 = .ok (.goto 12, 3) := by decide +kernel
theorem d_Mo_runThread_138 : decode prog_13_method_32_code 138 = .ok (.aload_n 0, 1) := by decide +kernel
theorem d_Mo_runThread_139 : decode prog_13_method_32_code 139 = .ok (.getfield 40, 3) := by decide +kernel
theorem d_Mo_runThread_142 : decode prog_13_method_32_code 142 = .ok (.aload_n 0, 1) := by decide +kernel
theorem d_Mo_runThread_143 : decode prog_13_method_32_code 143 = .ok (.getfield 169, 3) := by decide +kernel
theorem d_Mo_runThread_146 : decode prog_13_method_32_code 146 = .ok (.iaload, 1) := by decide +kernel
theorem d_Mo_runThread_147 : decode prog_13_method_32_code 147 = .ok (.istore_n 3, 1) := by decide +kernel
theorem d_Mo_runThread_148 : decode prog_13_method_32_code 148 = .ok (.iload 5, 2) := by decide +kernel
theorem d_Mo_runThread_150 : decode prog_13_method_32_code 150 = .ok (.istore_n 2, 1) := by decide +kernel
theorem d_Mo_runThread_151 : decode prog_13_method_32_code 151 = .ok (.goto (-137), 3) := by decide +kernel
theorem d_Mo_runThread_154 : decode prog_13_method_32_code 154 = .ok (.return_, 1) := by decide +kernel
theorem M_Mo_runThread : lt_M0 m_Mo_runThread 1 := ⟨lt_m5 173 rfl rfl, lt_m1 13 rfl rfl, ⟨by decide +kernel, by decide +kernel, by decide +kernel⟩, by decide⟩
theorem in_Mo_runThread : Cond.instanceMethod m_Mo_runThread.1 ∈ lt_T := lt_m5 172 rfl rfl
theorem se_Mo_runThread : Cond.selects "LinearSearchModel" m_Mo_runThread.1 m_Mo_runThread.1 ∈ lt_T := lt_memS 50 rfl rfl
abbrev m_Mo_runStates : lt_M := (⟨"LinearSearchModel", "runStates", "()V"⟩, prog_13_method_42_code, 4, none)
theorem d_Mo_runStates_0 : decode prog_13_method_42_code 0 = .ok (.aload_n 0, 1) := by decide +kernel
theorem d_Mo_runStates_1 : decode prog_13_method_42_code 1 = .ok (.invokevirtual 248, 3) := by decide +kernel
theorem d_Mo_runStates_4 : decode prog_13_method_42_code 4 = .ok (.istore_n 1, 1) := by decide +kernel
theorem d_Mo_runStates_5 : decode prog_13_method_42_code 5 = .ok (.aload_n 0, 1) := by decide +kernel
theorem d_Mo_runStates_6 : decode prog_13_method_42_code 6 = .ok (.iconst 0, 1) := by decide +kernel
theorem d_Mo_runStates_7 : decode prog_13_method_42_code 7 = .ok (.putfield 105, 3) := by decide +kernel
theorem d_Mo_runStates_10 : decode prog_13_method_42_code 10 = .ok (.iload_n 1, 1) := by decide +kernel
theorem d_Mo_runStates_11 : decode prog_13_method_42_code 11 = .ok (.bipush (-2), 2) := by decide +kernel
theorem d_Mo_runStates_13 : decode prog_13_method_42_code 13 = .ok (.if_icmp .ne 20, 3) := by decide +kernel
theorem d_Mo_runStates_16 : decode prog_13_method_42_code 16 = .ok (.aload_n 0, 1) := by decide +kernel
theorem d_Mo_runStates_17 : decode prog_13_method_42_code 17 = .ok (.iconst 0, 1) := by decide +kernel
theorem d_Mo_runStates_18 : decode prog_13_method_42_code 18 = .ok (.putfield 189, 3) := by decide +kernel
theorem d_Mo_runStates_21 : decode prog_13_method_42_code 21 = .ok (.aload_n 0, 1) := by decide +kernel
theorem d_Mo_runStates_22 : decode prog_13_method_42_code 22 = .ok (.iconst 0, 1) := by decide +kernel
theorem d_Mo_runStates_23 : decode prog_13_method_42_code 23 = .ok (.putfield 77, 3) := by decide +kernel
theorem d_Mo_runStates_26 : decode prog_13_method_42_code 26 = .ok (.aload_n 0, 1) := by decide +kernel
theorem d_Mo_runStates_27 : decode prog_13_method_42_code 27 = .ok (.iconst 0, 1) := by decide +kernel
theorem d_Mo_runStates_28 : decode prog_13_method_42_code 28 = .ok (.iconst 0, 1) := by decide +kernel
theorem d_Mo_runStates_29 : decode prog_13_method_42_code 29 = .ok (.invokevirtual 251, 3) := by decide +kernel
theorem d_Mo_runStates_32 : decode prog_13_method_42_code 32 = .ok (.return_, 1) := by decide +kernel
theorem d_Mo_runStates_33 : decode prog_13_method_42_code 33 = .ok (.aload_n 0, 1) := by decide +kernel
theorem d_Mo_runStates_34 : decode prog_13_method_42_code 34 = .ok (.getfield 189, 3) := by decide +kernel
theorem d_Mo_runStates_37 : decode prog_13_method_42_code 37 = .ok (.istore_n 2, 1) := by decide +kernel
theorem d_Mo_runStates_38 : decode prog_13_method_42_code 38 = .ok (.iconst 0, 1) := by decide +kernel
theorem d_Mo_runStates_39 : decode prog_13_method_42_code 39 = .ok (.istore_n 3, 1) := by decide +kernel
theorem d_Mo_runStates_40 : decode prog_13_method_42_code 40 = .ok (.iload_n 3, 1) := by decide +kernel
theorem d_Mo_runStates_41 : decode prog_13_method_42_code 41 = .ok (.iload_n 1, 1) := by decide +kernel
theorem d_Mo_runStates_42 : decode prog_13_method_42_code 42 = .ok (.if_icmp .gt 32, 3) := by decide +kernel
theorem d_Mo_runStates_45 : decode prog_13_method_42_code 45 = .ok (.aload_n 0, 1) := by decide +kernel
theorem d_Mo_runStates_46 : decode prog_13_method_42_code 46 = .ok (.getfield 105, 3) := by decide +kernel
theorem d_Mo_runStates_49 : decode prog_13_method_42_code 49 = .ok (.ifCond .eq 13, 3) := by decide +kernel
theorem d_Mo_runStates_52 : decode prog_13_method_42_code 52 = .ok (.aload_n 0, 1) := by decide +kernel
theorem d_Mo_runStates_53 : decode prog_13_method_42_code 53 = .ok (.getfield 84, 3) := by decide +kernel
theorem d_Mo_runStates_56 : decode prog_13_method_42_code 56 = .ok (.iconst 1, 1) := by decide +kernel
theorem d_Mo_runStates_57 : decode prog_13_method_42_code 57 = .ok (.iaload, 1) := by decide +kernel
theorem d_Mo_runStates_58 : decode prog_13_method_42_code 58 = .ok (.iload_n 1, 1) := by decide +kernel
theorem d_Mo_runStates_59 : decode prog_13_method_42_code 59 = .ok (.if_icmp .eq 15, 3) := by decide +kernel
theorem d_Mo_runStates_62 : decode prog_13_method_42_code 62 = .ok (.aload_n 0, 1) := by decide +kernel
theorem d_Mo_runStates_63 : decode prog_13_method_42_code 63 = .ok (.iload_n 3, 1) := by decide +kernel
theorem d_Mo_runStates_64 : decode prog_13_method_42_code 64 = .ok (.iconst 1, 1) := by decide +kernel
theorem d_Mo_runStates_65 : decode prog_13_method_42_code 65 = .ok (.invokevirtual 251, 3) := by decide +kernel
theorem d_Mo_runStates_68 : decode prog_13_method_42_code 68 = .ok (.iinc 3 1, 3) := by decide +kernel
theorem d_Mo_runStates_71 : decode prog_13_method_42_code 71 = .ok (.goto (-31), 3) := by decide +kernel
theorem d_Mo_runStates_74 : decode prog_13_method_42_code 74 = .ok (.aload_n 0, 1) := by decide +kernel
theorem d_Mo_runStates_75 : decode prog_13_method_42_code 75 = .ok (.iload_n 2, 1) := by decide +kernel
theorem d_Mo_runStates_76 : decode prog_13_method_42_code 76 = .ok (.putfield 189, 3) := by decide +kernel
theorem d_Mo_runStates_79 : decode prog_13_method_42_code 79 = .ok (.return_, 1) := by decide +kernel
theorem M_Mo_runStates : lt_M0 m_Mo_runStates 0 := ⟨lt_m5 177 rfl rfl, lt_m1 13 rfl rfl, ⟨by decide +kernel, by decide +kernel, by decide +kernel⟩, by decide⟩
theorem in_Mo_runStates : Cond.instanceMethod m_Mo_runStates.1 ∈ lt_T := lt_m5 176 rfl rfl
theorem se_Mo_runStates : Cond.selects "LinearSearchModel" m_Mo_runStates.1 m_Mo_runStates.1 ∈ lt_T := lt_memS 51 rfl rfl
abbrev m_Mo_endByStates : lt_M := (⟨"LinearSearchModel", "endByStates", "()I"⟩, prog_13_method_41_code, 4, (some .int))
theorem d_Mo_endByStates_0 : decode prog_13_method_41_code 0 = .ok (.aload_n 0, 1) := by decide +kernel
theorem d_Mo_endByStates_1 : decode prog_13_method_41_code 1 = .ok (.iconst 0, 1) := by decide +kernel
theorem d_Mo_endByStates_2 : decode prog_13_method_41_code 2 = .ok (.putfield 225, 3) := by decide +kernel
theorem d_Mo_endByStates_5 : decode prog_13_method_41_code 5 = .ok (.iconst (-1), 1) := by decide +kernel
theorem d_Mo_endByStates_6 : decode prog_13_method_41_code 6 = .ok (.istore_n 1, 1) := by decide +kernel
theorem d_Mo_endByStates_7 : decode prog_13_method_41_code 7 = .ok (.aload_n 0, 1) := by decide +kernel
theorem d_Mo_endByStates_8 : decode prog_13_method_41_code 8 = .ok (.invokevirtual 239, 3) := by decide +kernel
theorem d_Mo_endByStates_11 : decode prog_13_method_41_code 11 = .ok (.istore_n 2, 1) := by decide +kernel
theorem d_Mo_endByStates_12 : decode prog_13_method_41_code 12 = .ok (.iconst 0, 1) := by decide +kernel
theorem d_Mo_endByStates_13 : decode prog_13_method_41_code 13 = .ok (.istore_n 3, 1) := by decide +kernel
theorem d_Mo_endByStates_14 : decode prog_13_method_41_code 14 = .ok (.iload_n 3, 1) := by decide +kernel
theorem d_Mo_endByStates_15 : decode prog_13_method_41_code 15 = .ok (.aload_n 0, 1) := by decide +kernel
theorem d_Mo_endByStates_16 : decode prog_13_method_41_code 16 = .ok (.getfield 172, 3) := by decide +kernel
theorem d_Mo_endByStates_19 : decode prog_13_method_41_code 19 = .ok (.if_icmp .gt 80, 3) := by decide +kernel
theorem d_Mo_endByStates_22 : decode prog_13_method_41_code 22 = .ok (.iload_n 2, 1) := by decide +kernel
theorem d_Mo_endByStates_23 : decode prog_13_method_41_code 23 = .ok (.iconst (-1), 1) := by decide +kernel
theorem d_Mo_endByStates_24 : decode prog_13_method_41_code 24 = .ok (.if_icmp .eq 75, 3) := by decide +kernel
theorem d_Mo_endByStates_27 : decode prog_13_method_41_code 27 = .ok (.aload_n 0, 1) := by decide +kernel
theorem d_Mo_endByStates_28 : decode prog_13_method_41_code 28 = .ok (.iload_n 2, 1) := by decide +kernel
theorem d_Mo_endByStates_29 : decode prog_13_method_41_code 29 = .ok (.invokevirtual 236, 3) := by decide +kernel
theorem d_Mo_endByStates_32 : decode prog_13_method_41_code 32 = .ok (.ifCond .ne 19, 3) := by decide +kernel
theorem d_Mo_endByStates_35 : decode prog_13_method_41_code 35 = .ok (.iload_n 3, 1) := by decide +kernel
theorem d_Mo_endByStates_36 : decode prog_13_method_41_code 36 = .ok (.aload_n 0, 1) := by decide +kernel
theorem d_Mo_endByStates_37 : decode prog_13_method_41_code 37 = .ok (.getfield 172, 3) := by decide +kernel
theorem d_Mo_endByStates_40 : decode prog_13_method_41_code 40 = .ok (.if_icmp .ne 13, 3) := by decide +kernel
theorem d_Mo_endByStates_43 : decode prog_13_method_41_code 43 = .ok (.aload_n 0, 1) := by decide +kernel
theorem d_Mo_endByStates_44 : decode prog_13_method_41_code 44 = .ok (.iload_n 2, 1) := by decide +kernel
theorem d_Mo_endByStates_45 : decode prog_13_method_41_code 45 = .ok (.invokevirtual 242, 3) := by decide +kernel
theorem d_Mo_endByStates_48 : decode prog_13_method_41_code 48 = .ok (.ifCond .eq 5, 3) := by decide +kernel
theorem d_Mo_endByStates_51 : decode prog_13_method_41_code 51 = .ok (.iload_n 3, 1) := by decide +kernel
theorem d_Mo_endByStates_52 : decode prog_13_method_41_code 52 = .ok (.istore_n 1, 1) := by decide +kernel
theorem d_Mo_endByStates_53 : decode prog_13_method_41_code 53 = .ok (.iload_n 3, 1) := by decide +kernel
theorem d_Mo_endByStates_54 : decode prog_13_method_41_code 54 = .ok (.aload_n 0, 1) := by decide +kernel
theorem d_Mo_endByStates_55 : decode prog_13_method_41_code 55 = .ok (.getfield 172, 3) := by decide +kernel
theorem d_Mo_endByStates_58 : decode prog_13_method_41_code 58 = .ok (.if_icmp .eq 21, 3) := by decide +kernel
theorem d_Mo_endByStates_61 : decode prog_13_method_41_code 61 = .ok (.aload_n 0, 1) := by decide +kernel
theorem d_Mo_endByStates_62 : decode prog_13_method_41_code 62 = .ok (.getfield 68, 3) := by decide +kernel
theorem d_Mo_endByStates_65 : decode prog_13_method_41_code 65 = .ok (.iload_n 2, 1) := by decide +kernel
theorem d_Mo_endByStates_66 : decode prog_13_method_41_code 66 = .ok (.baload, 1) := by decide +kernel
theorem d_Mo_endByStates_67 : decode prog_13_method_41_code 67 = .ok (.ifCond .ne 14, 3) := by decide +kernel
theorem d_Mo_endByStates_70 : decode prog_13_method_41_code 70 = .ok (.aload_n 0, 1) := by decide +kernel
theorem d_Mo_endByStates_71 : decode prog_13_method_41_code 71 = .ok (.getfield 62, 3) := by decide +kernel
theorem d_Mo_endByStates_74 : decode prog_13_method_41_code 74 = .ok (.iload_n 2, 1) := by decide +kernel
theorem d_Mo_endByStates_75 : decode prog_13_method_41_code 75 = .ok (.iaload, 1) := by decide +kernel
theorem d_Mo_endByStates_76 : decode prog_13_method_41_code 76 = .ok (.ifCond .ne 5, 3) := by decide +kernel
theorem d_Mo_endByStates_79 : decode prog_13_method_41_code 79 = .ok (.iload_n 1, 1) := by decide +kernel
theorem d_Mo_endByStates_80 : decode prog_13_method_41_code 80 = .ok (.ireturn, 1) := by decide +kernel
theorem d_Mo_endByStates_81 : decode prog_13_method_41_code 81 = .ok (.aload_n 0, 1) := by decide +kernel
theorem d_Mo_endByStates_82 : decode prog_13_method_41_code 82 = .ok (.iload_n 2, 1) := by decide +kernel
theorem d_Mo_endByStates_83 : decode prog_13_method_41_code 83 = .ok (.aload_n 0, 1) := by decide +kernel
theorem d_Mo_endByStates_84 : decode prog_13_method_41_code 84 = .ok (.getfield 13, 3) := by decide +kernel
theorem d_Mo_endByStates_87 : decode prog_13_method_41_code 87 = .ok (.iload_n 3, 1) := by decide +kernel
theorem d_Mo_endByStates_88 : decode prog_13_method_41_code 88 = .ok (.iaload, 1) := by decide +kernel
theorem d_Mo_endByStates_89 : decode prog_13_method_41_code 89 = .ok (.invokevirtual 245, 3) := by decide +kernel
theorem d_Mo_endByStates_92 : decode prog_13_method_41_code 92 = .ok (.istore_n 2, 1) := by decide +kernel
theorem d_Mo_endByStates_93 : decode prog_13_method_41_code 93 = .ok (.iinc 3 1, 3) := by decide +kernel
theorem d_Mo_endByStates_96 : decode prog_13_method_41_code 96 = .ok (.goto (-82), 3) := by decide +kernel
theorem d_Mo_endByStates_99 : decode prog_13_method_41_code 99 = .ok (.bipush (-2), 2) := by decide +kernel
theorem d_Mo_endByStates_101 : decode prog_13_method_41_code 101 = .ok (.ireturn, 1) := by decide +kernel
theorem M_Mo_endByStates : lt_M0 m_Mo_endByStates 0 := ⟨lt_m5 181 rfl rfl, lt_m1 13 rfl rfl, ⟨by decide +kernel, by decide +kernel, by decide +kernel⟩, by decide⟩
theorem in_Mo_endByStates : Cond.instanceMethod m_Mo_endByStates.1 ∈ lt_T := lt_m5 180 rfl rfl
theorem se_Mo_endByStates : Cond.selects "LinearSearchModel" m_Mo_endByStates.1 m_Mo_endByStates.1 ∈ lt_T := lt_memS 52 rfl rfl
abbrev m_Mo_firstState : lt_M := (⟨"LinearSearchModel", "firstState", "()I"⟩, prog_13_method_38_code, 1, (some .int))
theorem d_Mo_firstState_0 : decode prog_13_method_38_code 0 = .ok (.aload_n 0, 1) := by decide +kernel
theorem d_Mo_firstState_1 : decode prog_13_method_38_code 1 = .ok (.dup, 1) := by decide +kernel
theorem d_Mo_firstState_2 : decode prog_13_method_38_code 2 = .ok (.getfield 166, 3) := by decide +kernel
theorem d_Mo_firstState_5 : decode prog_13_method_38_code 5 = .ok (.iconst 1, 1) := by decide +kernel
theorem d_Mo_firstState_6 : decode prog_13_method_38_code 6 = .ok (.iadd, 1) := by decide +kernel
theorem d_Mo_firstState_7 : decode prog_13_method_38_code 7 = .ok (.putfield 166, 3) := by decide +kernel
theorem d_Mo_firstState_10 : decode prog_13_method_38_code 10 = .ok (.aload_n 0, 1) := by decide +kernel
theorem d_Mo_firstState_11 : decode prog_13_method_38_code 11 = .ok (.iconst 0, 1) := by decide +kernel
theorem d_Mo_firstState_12 : decode prog_13_method_38_code 12 = .ok (.putfield 214, 3) := by decide +kernel
theorem d_Mo_firstState_15 : decode prog_13_method_38_code 15 = .ok (.aload_n 0, 1) := by decide +kernel
theorem d_Mo_firstState_16 : decode prog_13_method_38_code 16 = .ok (.iconst 0, 1) := by decide +kernel
theorem d_Mo_firstState_17 : decode prog_13_method_38_code 17 = .ok (.iconst 1, 1) := by decide +kernel
theorem d_Mo_firstState_18 : decode prog_13_method_38_code 18 = .ok (.invokevirtual 228, 3) := by decide +kernel
theorem d_Mo_firstState_21 : decode prog_13_method_38_code 21 = .ok (.aload_n 0, 1) := by decide +kernel
theorem d_Mo_firstState_22 : decode prog_13_method_38_code 22 = .ok (.iconst 1, 1) := by decide +kernel
theorem d_Mo_firstState_23 : decode prog_13_method_38_code 23 = .ok (.invokevirtual 232, 3) := by decide +kernel
theorem d_Mo_firstState_26 : decode prog_13_method_38_code 26 = .ok (.ireturn, 1) := by decide +kernel
theorem M_Mo_firstState : lt_M0 m_Mo_firstState 0 := ⟨lt_m5 185 rfl rfl, lt_m1 13 rfl rfl, ⟨by decide +kernel, by decide +kernel, by decide +kernel⟩, by decide⟩
theorem in_Mo_firstState : Cond.instanceMethod m_Mo_firstState.1 ∈ lt_T := lt_m5 184 rfl rfl
theorem se_Mo_firstState : Cond.selects "LinearSearchModel" m_Mo_firstState.1 m_Mo_firstState.1 ∈ lt_T := lt_memS 53 rfl rfl
abbrev m_Mo_followRow : lt_M := (⟨"LinearSearchModel", "followRow", "(IZ)V"⟩, prog_13_method_33_code, 6, none)
theorem d_Mo_followRow_0 : decode prog_13_method_33_code 0 = .ok (.aload_n 0, 1) := by decide +kernel
theorem d_Mo_followRow_1 : decode prog_13_method_33_code 1 = .ok (.iconst 0, 1) := by decide +kernel
theorem d_Mo_followRow_2 : decode prog_13_method_33_code 2 = .ok (.putfield 169, 3) := by decide +kernel
theorem d_Mo_followRow_5 : decode prog_13_method_33_code 5 = .ok (.iload_n 1, 1) := by decide +kernel
theorem d_Mo_followRow_6 : decode prog_13_method_33_code 6 = .ok (.istore_n 3, 1) := by decide +kernel
theorem d_Mo_followRow_7 : decode prog_13_method_33_code 7 = .ok (.iload_n 3, 1) := by decide +kernel
theorem d_Mo_followRow_8 : decode prog_13_method_33_code 8 = .ok (.iconst (-1), 1) := by decide +kernel
theorem d_Mo_followRow_9 : decode prog_13_method_33_code 9 = .ok (.if_icmp .eq 126, 3) := by decide +kernel
theorem d_Mo_followRow_12 : decode prog_13_method_33_code 12 = .ok (.aload_n 0, 1) := by decide +kernel
theorem d_Mo_followRow_13 : decode prog_13_method_33_code 13 = .ok (.aload_n 0, 1) := by decide +kernel
theorem d_Mo_followRow_14 : decode prog_13_method_33_code 14 = .ok (.getfield 74, 3) := by decide +kernel
theorem d_Mo_followRow_17 : decode prog_13_method_33_code 17 = .ok (.iconst 0, 1) := by decide +kernel
theorem d_Mo_followRow_18 : decode prog_13_method_33_code 18 = .ok (.aload_n 0, 1) := by decide +kernel
theorem d_Mo_followRow_19 : decode prog_13_method_33_code 19 = .ok (.getfield 214, 3) := by decide +kernel
theorem d_Mo_followRow_22 : decode prog_13_method_33_code 22 = .ok (.invokevirtual 217, 3) := by decide +kernel
theorem d_Mo_followRow_25 : decode prog_13_method_33_code 25 = .ok (.ifCond .ne 110, 3) := by decide +kernel
theorem d_Mo_followRow_28 : decode prog_13_method_33_code 28 = .ok (.iconst (-1), 1) := by decide +kernel
theorem d_Mo_followRow_29 : decode prog_13_method_33_code 29 = .ok (.istore 4, 2) := by decide +kernel
theorem d_Mo_followRow_31 : decode prog_13_method_33_code 31 = .ok (.aload_n 0, 1) := by decide +kernel
theorem d_Mo_followRow_32 : decode prog_13_method_33_code 32 = .ok (.getfield 34, 3) := by decide +kernel
theorem d_Mo_followRow_35 : decode prog_13_method_33_code 35 = .ok (.iload_n 3, 1) := by decide +kernel
theorem d_Mo_followRow_36 : decode prog_13_method_33_code 36 = .ok (.iaload, 1) := by decide +kernel
theorem d_Mo_followRow_37 : decode prog_13_method_33_code 37 = .ok (.aload_n 0, 1) := by decide +kernel
theorem d_Mo_followRow_38 : decode prog_13_method_33_code 38 = .ok (.getfield 166, 3) := by decide +kernel
theorem d_Mo_followRow_41 : decode prog_13_method_33_code 41 = .ok (.if_icmp .eq 75, 3) := by decide +kernel
theorem d_Mo_followRow_44 : decode prog_13_method_33_code 44 = .ok (.aload_n 0, 1) := by decide +kernel
theorem d_Mo_followRow_45 : decode prog_13_method_33_code 45 = .ok (.getfield 34, 3) := by decide +kernel
theorem d_Mo_followRow_48 : decode prog_13_method_33_code 48 = .ok (.iload_n 3, 1) := by decide +kernel
theorem d_Mo_followRow_49 : decode prog_13_method_33_code 49 = .ok (.aload_n 0, 1) := by decide +kernel
theorem d_Mo_followRow_50 : decode prog_13_method_33_code 50 = .ok (.getfield 166, 3) := by decide +kernel
theorem d_Mo_followRow_53 : decode prog_13_method_33_code 53 = .ok (.iastore, 1) := by decide +kernel
theorem d_Mo_followRow_54 : decode prog_13_method_33_code 54 = .ok (.aload_n 0, 1) := by decide +kernel
theorem d_Mo_followRow_55 : decode prog_13_method_33_code 55 = .ok (.getfield 16, 3) := by decide +kernel
theorem d_Mo_followRow_58 : decode prog_13_method_33_code 58 = .ok (.iload_n 3, 1) := by decide +kernel
theorem d_Mo_followRow_59 : decode prog_13_method_33_code 59 = .ok (.iaload, 1) := by decide +kernel
theorem d_Mo_followRow_60 : decode prog_13_method_33_code 60 = .ok (.istore 5, 2) := by decide +kernel
theorem d_Mo_followRow_62 : decode prog_13_method_33_code 62 = .ok (.iload 5, 2) := by decide +kernel
theorem d_Mo_followRow_64 : decode prog_13_method_33_code 64 = .ok (.iconst 1, 1) := by decide +kernel
theorem d_Mo_followRow_65 : decode prog_13_method_33_code 65 = .ok (.if_icmp .le 10, 3) := by decide +kernel
theorem d_Mo_followRow_68 : decode prog_13_method_33_code 68 = .ok (.iload 5, 2) := by decide +kernel
theorem d_Mo_followRow_70 : decode prog_13_method_33_code 70 = .ok (.bipush 6, 2) := by decide +kernel
theorem d_Mo_followRow_72 : decode prog_13_method_33_code 72 = .ok (.if_icmp .lt 26, 3) := by decide +kernel
theorem d_Mo_followRow_75 : decode prog_13_method_33_code 75 = .ok (.aload_n 0, 1) := by decide +kernel
theorem d_Mo_followRow_76 : decode prog_13_method_33_code 76 = .ok (.getfield 74, 3) := by decide +kernel
theorem d_Mo_followRow_79 : decode prog_13_method_33_code 79 = .ok (.aload_n 0, 1) := by decide +kernel
theorem d_Mo_followRow_80 : decode prog_13_method_33_code 80 = .ok (.getfield 214, 3) := by decide +kernel
theorem d_Mo_followRow_83 : decode prog_13_method_33_code 83 = .ok (.iload_n 3, 1) := by decide +kernel
theorem d_Mo_followRow_84 : decode prog_13_method_33_code 84 = .ok (.iastore, 1) := by decide +kernel
theorem d_Mo_followRow_85 : decode prog_13_method_33_code 85 = .ok (.aload_n 0, 1) := by decide +kernel
theorem d_Mo_followRow_86 : decode prog_13_method_33_code 86 = .ok (.dup, 1) := by decide +kernel
theorem d_Mo_followRow_87 : decode prog_13_method_33_code 87 = .ok (.getfield 214, 3) := by decide +kernel
theorem d_Mo_followRow_90 : decode prog_13_method_33_code 90 = .ok (.iconst 1, 1) := by decide +kernel
theorem d_Mo_followRow_91 : decode prog_13_method_33_code 91 = .ok (.iadd, 1) := by decide +kernel
theorem d_Mo_followRow_92 : decode prog_13_method_33_code 92 = .ok (.putfield 214, 3) := by decide +kernel
theorem d_Mo_followRow_95 : decode prog_13_method_33_code 95 = .ok (.goto 21, 3) := by decide +kernel
theorem d_Mo_followRow_98 : decode prog_13_method_33_code 98 = .ok (.iload 5, 2) := by decide +kernel
theorem d_Mo_followRow_100 : decode prog_13_method_33_code 100 = .ok (.iconst 5, 1) := by decide +kernel
theorem d_Mo_followRow_101 : decode prog_13_method_33_code 101 = .ok (.if_icmp .ne 7, 3) := by decide +kernel
theorem d_Mo_followRow_104 : decode prog_13_method_33_code 104 = .ok (.iload_n 2, 1) := by decide +kernel
theorem d_Mo_followRow_105 : decode prog_13_method_33_code 105 = .ok (.ifCond .eq 11, 3) := by decide +kernel
theorem d_Mo_followRow_108 : decode prog_13_method_33_code 108 = .ok (.aload_n 0, 1) := by decide +kernel
theorem d_Mo_followRow_109 : decode prog_13_method_33_code 109 = .ok (.iload_n 3, 1) := by decide +kernel
theorem d_Mo_followRow_110 : decode prog_13_method_33_code 110 = .ok (.iconst 0, 1) := by decide +kernel
theorem d_Mo_followRow_111 : decode prog_13_method_33_code 111 = .ok (.invokevirtual 179, 3) := by decide +kernel
theorem d_Mo_followRow_114 : decode prog_13_method_33_code 114 = .ok (.istore 4, 2) := by decide +kernel
theorem d_Mo_followRow_116 : decode prog_13_method_33_code 116 = .ok (.iload 4, 2) := by decide +kernel
theorem d_Mo_followRow_118 : decode prog_13_method_33_code 118 = .ok (.iconst (-1), 1) := by decide +kernel
theorem d_Mo_followRow_119 : decode prog_13_method_33_code 119 = .ok (.if_icmp .ne 10, 3) := by decide +kernel
theorem d_Mo_followRow_122 : decode prog_13_method_33_code 122 = .ok (.aload_n 0, 1) := by decide +kernel
theorem d_Mo_followRow_123 : decode prog_13_method_33_code 123 = .ok (.invokevirtual 186, 3) := by decide +kernel
theorem d_Mo_followRow_126 : decode prog_13_method_33_code 126 = .ok (.goto 5, 3) := by decide +kernel
theorem d_Mo_followRow_129 : decode prog_13_method_33_code 129 = .ok (.iload 4, 2) := by decide +kernel
theorem d_Mo_followRow_131 : decode prog_13_method_33_code 131 = .ok (.istore_n 3, 1) := by decide +kernel
theorem d_Mo_followRow_132 : decode prog_13_method_33_code 132 = .ok (.goto (-125), 3) := by decide +kernel
theorem d_Mo_followRow_135 : decode prog_13_method_33_code 135 = .ok (.return_, 1) := by decide +kernel
theorem M_Mo_followRow : lt_M0 m_Mo_followRow 2 := ⟨lt_m5 189 rfl rfl, lt_m1 13 rfl rfl, ⟨by decide +kernel, by decide +kernel, by decide +kernel⟩, by decide⟩
theorem in_Mo_followRow : Cond.instanceMethod m_Mo_followRow.1 ∈ lt_T := lt_m5 188 rfl rfl
theorem se_Mo_followRow : Cond.selects "LinearSearchModel" m_Mo_followRow.1 m_Mo_followRow.1 ∈ lt_T := lt_memS 54 rfl rfl
abbrev m_Mo_hasFound : lt_M := (⟨"LinearSearchModel", "hasFound", "([III)Z"⟩, prog_13_method_34_code, 4, (some .boolean))
theorem d_Mo_hasFound_0 : decode prog_13_method_34_code 0 = .ok (.iload_n 3, 1) := by decide +kernel
theorem d_Mo_hasFound_1 : decode prog_13_method_34_code 1 = .ok (.ifCond .le 24, 3) := by decide +kernel
theorem d_Mo_hasFound_4 : decode prog_13_method_34_code 4 = .ok (.aload_n 0, 1) := by decide +kernel
theorem d_Mo_hasFound_5 : decode prog_13_method_34_code 5 = .ok (.getfield 16, 3) := by decide +kernel
theorem d_Mo_hasFound_8 : decode prog_13_method_34_code 8 = .ok (.aload_n 1, 1) := by decide +kernel
theorem d_Mo_hasFound_9 : decode prog_13_method_34_code 9 = .ok (.iload_n 2, 1) := by decide +kernel
theorem d_Mo_hasFound_10 : decode prog_13_method_34_code 10 = .ok (.iload_n 3, 1) := by decide +kernel
theorem d_Mo_hasFound_11 : decode prog_13_method_34_code 11 = .ok (.iadd, 1) := by decide +kernel
theorem d_Mo_hasFound_12 : decode prog_13_method_34_code 12 = .ok (.iconst 1, 1) := by decide +kernel
theorem d_Mo_hasFound_13 : decode prog_13_method_34_code 13 = .ok (.isub, 1) := by decide +kernel
theorem d_Mo_hasFound_14 : decode prog_13_method_34_code 14 = .ok (.iaload, 1) := by decide +kernel
theorem d_Mo_hasFound_15 : decode prog_13_method_34_code 15 = .ok (.iaload, 1) := by decide +kernel
theorem d_Mo_hasFound_16 : decode prog_13_method_34_code 16 = .ok (.bipush 7, 2) := by decide +kernel
theorem d_Mo_hasFound_18 : decode prog_13_method_34_code 18 = .ok (.if_icmp .ne 7, 3) := by decide +kernel
theorem d_Mo_hasFound_21 : decode prog_13_method_34_code 21 = .ok (.iconst 1, 1) := by decide +kernel
theorem d_Mo_hasFound_22 : decode prog_13_method_34_code 22 = .ok (.goto 4, 3) := by decide +kernel
theorem d_Mo_hasFound_25 : decode prog_13_method_34_code 25 = .ok (.iconst 0, 1) := by decide +kernel
theorem d_Mo_hasFound_26 : decode prog_13_method_34_code 26 = .ok (.ireturn, 1) := by decide +kernel
theorem M_Mo_hasFound : lt_M0 m_Mo_hasFound 3 := ⟨lt_m5 193 rfl rfl, lt_m1 13 rfl rfl, ⟨by decide +kernel, by decide +kernel, by decide +kernel⟩, by decide⟩
theorem in_Mo_hasFound : Cond.instanceMethod m_Mo_hasFound.1 ∈ lt_T := lt_m5 192 rfl rfl
theorem se_Mo_hasFound : Cond.selects "LinearSearchModel" m_Mo_hasFound.1 m_Mo_hasFound.1 ∈ lt_T := lt_memS 55 rfl rfl
abbrev m_Mo_stateOf : lt_M := (⟨"LinearSearchModel", "stateOf", "(Z)I"⟩, prog_13_method_37_code, 4, (some .int))
theorem d_Mo_stateOf_0 : decode prog_13_method_37_code 0 = .ok (.iconst 0, 1) := by decide +kernel
theorem d_Mo_stateOf_1 : decode prog_13_method_37_code 1 = .ok (.istore_n 2, 1) := by decide +kernel
theorem d_Mo_stateOf_2 : decode prog_13_method_37_code 2 = .ok (.iload_n 2, 1) := by decide +kernel
theorem d_Mo_stateOf_3 : decode prog_13_method_37_code 3 = .ok (.aload_n 0, 1) := by decide +kernel
theorem d_Mo_stateOf_4 : decode prog_13_method_37_code 4 = .ok (.getfield 151, 3) := by decide +kernel
theorem d_Mo_stateOf_7 : decode prog_13_method_37_code 7 = .ok (.if_icmp .ge 20, 3) := by decide +kernel
theorem d_Mo_stateOf_10 : decode prog_13_method_37_code 10 = .ok (.aload_n 0, 1) := by decide +kernel
theorem d_Mo_stateOf_11 : decode prog_13_method_37_code 11 = .ok (.iload_n 2, 1) := by decide +kernel
theorem d_Mo_stateOf_12 : decode prog_13_method_37_code 12 = .ok (.iload_n 1, 1) := by decide +kernel
theorem d_Mo_stateOf_13 : decode prog_13_method_37_code 13 = .ok (.invokevirtual 221, 3) := by decide +kernel
theorem d_Mo_stateOf_16 : decode prog_13_method_37_code 16 = .ok (.ifCond .eq 5, 3) := by decide +kernel
theorem d_Mo_stateOf_19 : decode prog_13_method_37_code 19 = .ok (.iload_n 2, 1) := by decide +kernel
theorem d_Mo_stateOf_20 : decode prog_13_method_37_code 20 = .ok (.ireturn, 1) := by decide +kernel
theorem d_Mo_stateOf_21 : decode prog_13_method_37_code 21 = .ok (.iinc 2 1, 3) := by decide +kernel
theorem d_Mo_stateOf_24 : decode prog_13_method_37_code 24 = .ok (.goto (-22), 3) := by decide +kernel
theorem d_Mo_stateOf_27 : decode prog_13_method_37_code 27 = .ok (.aload_n 0, 1) := by decide +kernel
theorem d_Mo_stateOf_28 : decode prog_13_method_37_code 28 = .ok (.getfield 151, 3) := by decide +kernel
theorem d_Mo_stateOf_31 : decode prog_13_method_37_code 31 = .ok (.aload_n 0, 1) := by decide +kernel
theorem d_Mo_stateOf_32 : decode prog_13_method_37_code 32 = .ok (.getfield 99, 3) := by decide +kernel
theorem d_Mo_stateOf_35 : decode prog_13_method_37_code 35 = .ok (.if_icmp .ne 38, 3) := by decide +kernel
theorem d_Mo_stateOf_38 : decode prog_13_method_37_code 38 = .ok (.aload_n 0, 1) := by decide +kernel
theorem d_Mo_stateOf_39 : decode prog_13_method_37_code 39 = .ok (.iconst 0, 1) := by decide +kernel
theorem d_Mo_stateOf_40 : decode prog_13_method_37_code 40 = .ok (.putfield 151, 3) := by decide +kernel
theorem d_Mo_stateOf_43 : decode prog_13_method_37_code 43 = .ok (.aload_n 0, 1) := by decide +kernel
theorem d_Mo_stateOf_44 : decode prog_13_method_37_code 44 = .ok (.dup, 1) := by decide +kernel
theorem d_Mo_stateOf_45 : decode prog_13_method_37_code 45 = .ok (.getfield 154, 3) := by decide +kernel
theorem d_Mo_stateOf_48 : decode prog_13_method_37_code 48 = .ok (.iconst 1, 1) := by decide +kernel
theorem d_Mo_stateOf_49 : decode prog_13_method_37_code 49 = .ok (.iadd, 1) := by decide +kernel
theorem d_Mo_stateOf_50 : decode prog_13_method_37_code 50 = .ok (.putfield 154, 3) := by decide +kernel
theorem d_Mo_stateOf_53 : decode prog_13_method_37_code 53 = .ok (.aload_n 0, 1) := by decide +kernel
theorem d_Mo_stateOf_54 : decode prog_13_method_37_code 54 = .ok (.dup, 1) := by decide +kernel
theorem d_Mo_stateOf_55 : decode prog_13_method_37_code 55 = .ok (.getfield 225, 3) := by decide +kernel
theorem d_Mo_stateOf_58 : decode prog_13_method_37_code 58 = .ok (.iconst 1, 1) := by decide +kernel
theorem d_Mo_stateOf_59 : decode prog_13_method_37_code 59 = .ok (.iadd, 1) := by decide +kernel
theorem d_Mo_stateOf_60 : decode prog_13_method_37_code 60 = .ok (.putfield 225, 3) := by decide +kernel
theorem d_Mo_stateOf_63 : decode prog_13_method_37_code 63 = .ok (.aload_n 0, 1) := by decide +kernel
theorem d_Mo_stateOf_64 : decode prog_13_method_37_code 64 = .ok (.getfield 225, 3) := by decide +kernel
theorem d_Mo_stateOf_67 : decode prog_13_method_37_code 67 = .ok (.iconst 3, 1) := by decide +kernel
theorem d_Mo_stateOf_68 : decode prog_13_method_37_code 68 = .ok (.if_icmp .ne 5, 3) := by decide +kernel
theorem d_Mo_stateOf_71 : decode prog_13_method_37_code 71 = .ok (.iconst (-1), 1) := by decide +kernel
theorem d_Mo_stateOf_72 : decode prog_13_method_37_code 72 = .ok (.ireturn, 1) := by decide +kernel
theorem d_Mo_stateOf_73 : decode prog_13_method_37_code 73 = .ok (.aload_n 0, 1) := by decide +kernel
theorem d_Mo_stateOf_74 : decode prog_13_method_37_code 74 = .ok (.getfield 151, 3) := by decide +kernel
theorem d_Mo_stateOf_77 : decode prog_13_method_37_code 77 = .ok (.istore_n 2, 1) := by decide +kernel
theorem d_Mo_stateOf_78 : decode prog_13_method_37_code 78 = .ok (.aload_n 0, 1) := by decide +kernel
theorem d_Mo_stateOf_79 : decode prog_13_method_37_code 79 = .ok (.dup, 1) := by decide +kernel
theorem d_Mo_stateOf_80 : decode prog_13_method_37_code 80 = .ok (.getfield 151, 3) := by decide +kernel
theorem d_Mo_stateOf_83 : decode prog_13_method_37_code 83 = .ok (.iconst 1, 1) := by decide +kernel
theorem d_Mo_stateOf_84 : decode prog_13_method_37_code 84 = .ok (.iadd, 1) := by decide +kernel
theorem d_Mo_stateOf_85 : decode prog_13_method_37_code 85 = .ok (.putfield 151, 3) := by decide +kernel
theorem d_Mo_stateOf_88 : decode prog_13_method_37_code 88 = .ok (.aload_n 0, 1) := by decide +kernel
theorem d_Mo_stateOf_89 : decode prog_13_method_37_code 89 = .ok (.dup, 1) := by decide +kernel
theorem d_Mo_stateOf_90 : decode prog_13_method_37_code 90 = .ok (.getfield 189, 3) := by decide +kernel
theorem d_Mo_stateOf_93 : decode prog_13_method_37_code 93 = .ok (.iconst 1, 1) := by decide +kernel
theorem d_Mo_stateOf_94 : decode prog_13_method_37_code 94 = .ok (.iadd, 1) := by decide +kernel
theorem d_Mo_stateOf_95 : decode prog_13_method_37_code 95 = .ok (.putfield 189, 3) := by decide +kernel
theorem d_Mo_stateOf_98 : decode prog_13_method_37_code 98 = .ok (.aload_n 0, 1) := by decide +kernel
theorem d_Mo_stateOf_99 : decode prog_13_method_37_code 99 = .ok (.getfield 62, 3) := by decide +kernel
theorem d_Mo_stateOf_102 : decode prog_13_method_37_code 102 = .ok (.iload_n 2, 1) := by decide +kernel
theorem d_Mo_stateOf_103 : decode prog_13_method_37_code 103 = .ok (.aload_n 0, 1) := by decide +kernel
theorem d_Mo_stateOf_104 : decode prog_13_method_37_code 104 = .ok (.getfield 214, 3) := by decide +kernel
theorem d_Mo_stateOf_107 : decode prog_13_method_37_code 107 = .ok (.iastore, 1) := by decide +kernel
theorem d_Mo_stateOf_108 : decode prog_13_method_37_code 108 = .ok (.aload_n 0, 1) := by decide +kernel
theorem d_Mo_stateOf_109 : decode prog_13_method_37_code 109 = .ok (.getfield 68, 3) := by decide +kernel
theorem d_Mo_stateOf_112 : decode prog_13_method_37_code 112 = .ok (.iload_n 2, 1) := by decide +kernel
theorem d_Mo_stateOf_113 : decode prog_13_method_37_code 113 = .ok (.iload_n 1, 1) := by decide +kernel
theorem d_Mo_stateOf_114 : decode prog_13_method_37_code 114 = .ok (.bastore, 1) := by decide +kernel
theorem d_Mo_stateOf_115 : decode prog_13_method_37_code 115 = .ok (.iconst 0, 1) := by decide +kernel
theorem d_Mo_stateOf_116 : decode prog_13_method_37_code 116 = .ok (.istore_n 3, 1) := by decide +kernel
theorem d_Mo_stateOf_117 : decode prog_13_method_37_code 117 = .ok (.iload_n 3, 1) := by decide +kernel
theorem d_Mo_stateOf_118 : decode prog_13_method_37_code 118 = .ok (.aload_n 0, 1) := by decide +kernel
theorem d_Mo_stateOf_119 : decode prog_13_method_37_code 119 = .ok (.getfield 214, 3) := by decide +kernel
theorem d_Mo_stateOf_122 : decode prog_13_method_37_code 122 = .ok (.if_icmp .ge 26, 3) := by decide +kernel
theorem d_Mo_stateOf_125 : decode prog_13_method_37_code 125 = .ok (.aload_n 0, 1) := by decide +kernel
theorem d_Mo_stateOf_126 : decode prog_13_method_37_code 126 = .ok (.getfield 65, 3) := by decide +kernel
theorem d_Mo_stateOf_129 : decode prog_13_method_37_code 129 = .ok (.bipush 64, 2) := by decide +kernel
theorem d_Mo_stateOf_131 : decode prog_13_method_37_code 131 = .ok (.iload_n 2, 1) := by decide +kernel
theorem d_Mo_stateOf_132 : decode prog_13_method_37_code 132 = .ok (.imul, 1) := by decide +kernel
theorem d_Mo_stateOf_133 : decode prog_13_method_37_code 133 = .ok (.iload_n 3, 1) := by decide +kernel
theorem d_Mo_stateOf_134 : decode prog_13_method_37_code 134 = .ok (.iadd, 1) := by decide +kernel
theorem d_Mo_stateOf_135 : decode prog_13_method_37_code 135 = .ok (.aload_n 0, 1) := by decide +kernel
theorem d_Mo_stateOf_136 : decode prog_13_method_37_code 136 = .ok (.getfield 74, 3) := by decide +kernel
theorem d_Mo_stateOf_139 : decode prog_13_method_37_code 139 = .ok (.iload_n 3, 1) := by decide +kernel
theorem d_Mo_stateOf_140 : decode prog_13_method_37_code 140 = .ok (.iaload, 1) := by decide +kernel
theorem d_Mo_stateOf_141 : decode prog_13_method_37_code 141 = .ok (.iastore, 1) := by decide +kernel
theorem d_Mo_stateOf_142 : decode prog_13_method_37_code 142 = .ok (.iinc 3 1, 3) := by decide +kernel
theorem d_Mo_stateOf_145 : decode prog_13_method_37_code 145 = .ok (.goto (-28), 3) := by decide +kernel
theorem d_Mo_stateOf_148 : decode prog_13_method_37_code 148 = .ok (.iconst 0, 1) := by decide +kernel
theorem d_Mo_stateOf_149 : decode prog_13_method_37_code 149 = .ok (.istore_n 3, 1) := by decide +kernel
theorem d_Mo_stateOf_150 : decode prog_13_method_37_code 150 = .ok (.iload_n 3, 1) := by decide +kernel
theorem d_Mo_stateOf_151 : decode prog_13_method_37_code 151 = .ok (.bipush 8, 2) := by decide +kernel
theorem d_Mo_stateOf_153 : decode prog_13_method_37_code 153 = .ok (.if_icmp .ge 21, 3) := by decide +kernel
theorem d_Mo_stateOf_156 : decode prog_13_method_37_code 156 = .ok (.aload_n 0, 1) := by decide +kernel
theorem d_Mo_stateOf_157 : decode prog_13_method_37_code 157 = .ok (.getfield 71, 3) := by decide +kernel
theorem d_Mo_stateOf_160 : decode prog_13_method_37_code 160 = .ok (.bipush 8, 2) := by decide +kernel
theorem d_Mo_stateOf_162 : decode prog_13_method_37_code 162 = .ok (.iload_n 2, 1) := by decide +kernel
theorem d_Mo_stateOf_163 : decode prog_13_method_37_code 163 = .ok (.imul, 1) := by decide +kernel
theorem d_Mo_stateOf_164 : decode prog_13_method_37_code 164 = .ok (.iload_n 3, 1) := by decide +kernel
theorem d_Mo_stateOf_165 : decode prog_13_method_37_code 165 = .ok (.iadd, 1) := by decide +kernel
theorem d_Mo_stateOf_166 : decode prog_13_method_37_code 166 = .ok (.iconst (-1), 1) := by decide +kernel
theorem d_Mo_stateOf_167 : decode prog_13_method_37_code 167 = .ok (.iastore, 1) := by decide +kernel
theorem d_Mo_stateOf_168 : decode prog_13_method_37_code 168 = .ok (.iinc 3 1, 3) := by decide +kernel
theorem d_Mo_stateOf_171 : decode prog_13_method_37_code 171 = .ok (.goto (-21), 3) := by decide +kernel
theorem d_Mo_stateOf_174 : decode prog_13_method_37_code 174 = .ok (.iload_n 2, 1) := by decide +kernel
theorem d_Mo_stateOf_175 : decode prog_13_method_37_code 175 = .ok (.ireturn, 1) := by decide +kernel
theorem M_Mo_stateOf : lt_M0 m_Mo_stateOf 1 := ⟨lt_m5 197 rfl rfl, lt_m1 13 rfl rfl, ⟨by decide +kernel, by decide +kernel, by decide +kernel⟩, by decide⟩
theorem in_Mo_stateOf : Cond.instanceMethod m_Mo_stateOf.1 ∈ lt_T := lt_m5 196 rfl rfl
theorem se_Mo_stateOf : Cond.selects "LinearSearchModel" m_Mo_stateOf.1 m_Mo_stateOf.1 ∈ lt_T := lt_memS 56 rfl rfl
abbrev m_Mo_isRow : lt_M := (⟨"LinearSearchModel", "isRow", "(IZ)Z"⟩, prog_13_method_36_code, 5, (some .boolean))
theorem d_Mo_isRow_0 : decode prog_13_method_36_code 0 = .ok (.aload_n 0, 1) := by decide +kernel
theorem d_Mo_isRow_1 : decode prog_13_method_36_code 1 = .ok (.getfield 62, 3) := by decide +kernel
theorem d_Mo_isRow_4 : decode prog_13_method_36_code 4 = .ok (.iload_n 1, 1) := by decide +kernel
theorem d_Mo_isRow_5 : decode prog_13_method_36_code 5 = .ok (.iaload, 1) := by decide +kernel
theorem d_Mo_isRow_6 : decode prog_13_method_36_code 6 = .ok (.aload_n 0, 1) := by decide +kernel
theorem d_Mo_isRow_7 : decode prog_13_method_36_code 7 = .ok (.getfield 214, 3) := by decide +kernel
theorem d_Mo_isRow_10 : decode prog_13_method_36_code 10 = .ok (.if_icmp .ne 17, 3) := by decide +kernel
theorem d_Mo_isRow_13 : decode prog_13_method_36_code 13 = .ok (.aload_n 0, 1) := by decide +kernel
theorem d_Mo_isRow_14 : decode prog_13_method_36_code 14 = .ok (.getfield 68, 3) := by decide +kernel
theorem d_Mo_isRow_17 : decode prog_13_method_36_code 17 = .ok (.iload_n 1, 1) := by decide +kernel
theorem d_Mo_isRow_18 : decode prog_13_method_36_code 18 = .ok (.baload, 1) := by decide +kernel
theorem d_Mo_isRow_19 : decode prog_13_method_36_code 19 = .ok (.iload_n 2, 1) := by decide +kernel
theorem d_Mo_isRow_20 : decode prog_13_method_36_code 20 = .ok (.if_icmp .ne 7, 3) := by decide +kernel
theorem d_Mo_isRow_23 : decode prog_13_method_36_code 23 = .ok (.iconst 1, 1) := by decide +kernel
theorem d_Mo_isRow_24 : decode prog_13_method_36_code 24 = .ok (.goto 4, 3) := by decide +kernel
theorem d_Mo_isRow_27 : decode prog_13_method_36_code 27 = .ok (.iconst 0, 1) := by decide +kernel
theorem d_Mo_isRow_28 : decode prog_13_method_36_code 28 = .ok (.istore_n 3, 1) := by decide +kernel
theorem d_Mo_isRow_29 : decode prog_13_method_36_code 29 = .ok (.iconst 0, 1) := by decide +kernel
theorem d_Mo_isRow_30 : decode prog_13_method_36_code 30 = .ok (.istore 4, 2) := by decide +kernel
theorem d_Mo_isRow_32 : decode prog_13_method_36_code 32 = .ok (.iload 4, 2) := by decide +kernel
theorem d_Mo_isRow_34 : decode prog_13_method_36_code 34 = .ok (.aload_n 0, 1) := by decide +kernel
theorem d_Mo_isRow_35 : decode prog_13_method_36_code 35 = .ok (.getfield 214, 3) := by decide +kernel
theorem d_Mo_isRow_38 : decode prog_13_method_36_code 38 = .ok (.if_icmp .ge 41, 3) := by decide +kernel
theorem d_Mo_isRow_41 : decode prog_13_method_36_code 41 = .ok (.iload_n 3, 1) := by decide +kernel
theorem d_Mo_isRow_42 : decode prog_13_method_36_code 42 = .ok (.ifCond .eq 37, 3) := by decide +kernel
theorem d_Mo_isRow_45 : decode prog_13_method_36_code 45 = .ok (.aload_n 0, 1) := by decide +kernel
theorem d_Mo_isRow_46 : decode prog_13_method_36_code 46 = .ok (.getfield 65, 3) := by decide +kernel
theorem d_Mo_isRow_49 : decode prog_13_method_36_code 49 = .ok (.bipush 64, 2) := by decide +kernel
theorem d_Mo_isRow_51 : decode prog_13_method_36_code 51 = .ok (.iload_n 1, 1) := by decide +kernel
theorem d_Mo_isRow_52 : decode prog_13_method_36_code 52 = .ok (.imul, 1) := by decide +kernel
theorem d_Mo_isRow_53 : decode prog_13_method_36_code 53 = .ok (.iload 4, 2) := by decide +kernel
theorem d_Mo_isRow_55 : decode prog_13_method_36_code 55 = .ok (.iadd, 1) := by decide +kernel
theorem d_Mo_isRow_56 : decode prog_13_method_36_code 56 = .ok (.iaload, 1) := by decide +kernel
theorem d_Mo_isRow_57 : decode prog_13_method_36_code 57 = .ok (.aload_n 0, 1) := by decide +kernel
theorem d_Mo_isRow_58 : decode prog_13_method_36_code 58 = .ok (.getfield 74, 3) := by decide +kernel
theorem d_Mo_isRow_61 : decode prog_13_method_36_code 61 = .ok (.iload 4, 2) := by decide +kernel
theorem d_Mo_isRow_63 : decode prog_13_method_36_code 63 = .ok (.iaload, 1) := by decide +kernel
theorem d_Mo_isRow_64 : decode prog_13_method_36_code 64 = .ok (.if_icmp .ne 7, 3) := by decide +kernel
theorem d_Mo_isRow_67 : decode prog_13_method_36_code 67 = .ok (.iconst 1, 1) := by decide +kernel
theorem d_Mo_isRow_68 : decode prog_13_method_36_code 68 = .ok (.goto 4, 3) := by decide +kernel
theorem d_Mo_isRow_71 : decode prog_13_method_36_code 71 = .ok (.iconst 0, 1) := by decide +kernel
theorem d_Mo_isRow_72 : decode prog_13_method_36_code 72 = .ok (.istore_n 3, 1) := by decide +kernel
theorem d_Mo_isRow_73 : decode prog_13_method_36_code 73 = .ok (.iinc 4 1, 3) := by decide +kernel
theorem d_Mo_isRow_76 : decode prog_13_method_36_code 76 = .ok (.goto (-44), 3) := by decide +kernel
theorem d_Mo_isRow_79 : decode prog_13_method_36_code 79 = .ok (.iload_n 3, 1) := by decide +kernel
theorem d_Mo_isRow_80 : decode prog_13_method_36_code 80 = .ok (.ireturn, 1) := by decide +kernel
theorem M_Mo_isRow : lt_M0 m_Mo_isRow 2 := ⟨lt_m5 201 rfl rfl, lt_m1 13 rfl rfl, ⟨by decide +kernel, by decide +kernel, by decide +kernel⟩, by decide⟩
theorem in_Mo_isRow : Cond.instanceMethod m_Mo_isRow.1 ∈ lt_T := lt_m5 200 rfl rfl
theorem se_Mo_isRow : Cond.selects "LinearSearchModel" m_Mo_isRow.1 m_Mo_isRow.1 ∈ lt_T := lt_memS 57 rfl rfl
abbrev m_Mo_isFinal : lt_M := (⟨"LinearSearchModel", "isFinal", "(I)Z"⟩, prog_13_method_35_code, 2, (some .boolean))
theorem d_Mo_isFinal_0 : decode prog_13_method_35_code 0 = .ok (.aload_n 0, 1) := by decide +kernel
theorem d_Mo_isFinal_1 : decode prog_13_method_35_code 1 = .ok (.aload_n 0, 1) := by decide +kernel
theorem d_Mo_isFinal_2 : decode prog_13_method_35_code 2 = .ok (.getfield 65, 3) := by decide +kernel
theorem d_Mo_isFinal_5 : decode prog_13_method_35_code 5 = .ok (.bipush 64, 2) := by decide +kernel
theorem d_Mo_isFinal_7 : decode prog_13_method_35_code 7 = .ok (.iload_n 1, 1) := by decide +kernel
theorem d_Mo_isFinal_8 : decode prog_13_method_35_code 8 = .ok (.imul, 1) := by decide +kernel
theorem d_Mo_isFinal_9 : decode prog_13_method_35_code 9 = .ok (.aload_n 0, 1) := by decide +kernel
theorem d_Mo_isFinal_10 : decode prog_13_method_35_code 10 = .ok (.getfield 62, 3) := by decide +kernel
theorem d_Mo_isFinal_13 : decode prog_13_method_35_code 13 = .ok (.iload_n 1, 1) := by decide +kernel
theorem d_Mo_isFinal_14 : decode prog_13_method_35_code 14 = .ok (.iaload, 1) := by decide +kernel
theorem d_Mo_isFinal_15 : decode prog_13_method_35_code 15 = .ok (.invokevirtual 217, 3) := by decide +kernel
theorem d_Mo_isFinal_18 : decode prog_13_method_35_code 18 = .ok (.ireturn, 1) := by decide +kernel
theorem M_Mo_isFinal : lt_M0 m_Mo_isFinal 1 := ⟨lt_m5 205 rfl rfl, lt_m1 13 rfl rfl, ⟨by decide +kernel, by decide +kernel, by decide +kernel⟩, by decide⟩
theorem in_Mo_isFinal : Cond.instanceMethod m_Mo_isFinal.1 ∈ lt_T := lt_m5 204 rfl rfl
theorem se_Mo_isFinal : Cond.selects "LinearSearchModel" m_Mo_isFinal.1 m_Mo_isFinal.1 ∈ lt_T := lt_memS 58 rfl rfl
abbrev m_Mo_endsBehind : lt_M := (⟨"LinearSearchModel", "endsBehind", "(I)Z"⟩, prog_13_method_40_code, 5, (some .boolean))
theorem d_Mo_endsBehind_0 : decode prog_13_method_40_code 0 = .ok (.iconst 0, 1) := by decide +kernel
theorem d_Mo_endsBehind_1 : decode prog_13_method_40_code 1 = .ok (.istore_n 2, 1) := by decide +kernel
theorem d_Mo_endsBehind_2 : decode prog_13_method_40_code 2 = .ok (.aload_n 0, 1) := by decide +kernel
theorem d_Mo_endsBehind_3 : decode prog_13_method_40_code 3 = .ok (.dup, 1) := by decide +kernel
theorem d_Mo_endsBehind_4 : decode prog_13_method_40_code 4 = .ok (.getfield 166, 3) := by decide +kernel
theorem d_Mo_endsBehind_7 : decode prog_13_method_40_code 7 = .ok (.iconst 1, 1) := by decide +kernel
theorem d_Mo_endsBehind_8 : decode prog_13_method_40_code 8 = .ok (.iadd, 1) := by decide +kernel
theorem d_Mo_endsBehind_9 : decode prog_13_method_40_code 9 = .ok (.putfield 166, 3) := by decide +kernel
theorem d_Mo_endsBehind_12 : decode prog_13_method_40_code 12 = .ok (.iconst 0, 1) := by decide +kernel
theorem d_Mo_endsBehind_13 : decode prog_13_method_40_code 13 = .ok (.istore_n 3, 1) := by decide +kernel
theorem d_Mo_endsBehind_14 : decode prog_13_method_40_code 14 = .ok (.iload_n 3, 1) := by decide +kernel
theorem d_Mo_endsBehind_15 : decode prog_13_method_40_code 15 = .ok (.aload_n 0, 1) := by decide +kernel
theorem d_Mo_endsBehind_16 : decode prog_13_method_40_code 16 = .ok (.getfield 62, 3) := by decide +kernel
theorem d_Mo_endsBehind_19 : decode prog_13_method_40_code 19 = .ok (.iload_n 1, 1) := by decide +kernel
theorem d_Mo_endsBehind_20 : decode prog_13_method_40_code 20 = .ok (.iaload, 1) := by decide +kernel
theorem d_Mo_endsBehind_21 : decode prog_13_method_40_code 21 = .ok (.if_icmp .ge 109, 3) := by decide +kernel
theorem d_Mo_endsBehind_24 : decode prog_13_method_40_code 24 = .ok (.aload_n 0, 1) := by decide +kernel
theorem d_Mo_endsBehind_25 : decode prog_13_method_40_code 25 = .ok (.getfield 16, 3) := by decide +kernel
theorem d_Mo_endsBehind_28 : decode prog_13_method_40_code 28 = .ok (.aload_n 0, 1) := by decide +kernel
theorem d_Mo_endsBehind_29 : decode prog_13_method_40_code 29 = .ok (.getfield 65, 3) := by decide +kernel
theorem d_Mo_endsBehind_32 : decode prog_13_method_40_code 32 = .ok (.bipush 64, 2) := by decide +kernel
theorem d_Mo_endsBehind_34 : decode prog_13_method_40_code 34 = .ok (.iload_n 1, 1) := by decide +kernel
theorem d_Mo_endsBehind_35 : decode prog_13_method_40_code 35 = .ok (.imul, 1) := by decide +kernel
theorem d_Mo_endsBehind_36 : decode prog_13_method_40_code 36 = .ok (.iload_n 3, 1) := by decide +kernel
theorem d_Mo_endsBehind_37 : decode prog_13_method_40_code 37 = .ok (.iadd, 1) := by decide +kernel
theorem d_Mo_endsBehind_38 : decode prog_13_method_40_code 38 = .ok (.iaload, 1) := by decide +kernel
theorem d_Mo_endsBehind_39 : decode prog_13_method_40_code 39 = .ok (.iaload, 1) := by decide +kernel
theorem d_Mo_endsBehind_40 : decode prog_13_method_40_code 40 = .ok (.bipush 6, 2) := by decide +kernel
theorem d_Mo_endsBehind_42 : decode prog_13_method_40_code 42 = .ok (.if_icmp .eq 6, 3) := by decide +kernel
theorem d_Mo_endsBehind_45 : decode prog_13_method_40_code 45 = .ok (.goto 79, 3) := by decide +kernel
theorem d_Mo_endsBehind_48 : decode prog_13_method_40_code 48 = .ok (.aload_n 0, 1) := by decide +kernel
theorem d_Mo_endsBehind_49 : decode prog_13_method_40_code 49 = .ok (.getfield 49, 3) := by decide +kernel
theorem d_Mo_endsBehind_52 : decode prog_13_method_40_code 52 = .ok (.iconst 0, 1) := by decide +kernel
theorem d_Mo_endsBehind_53 : decode prog_13_method_40_code 53 = .ok (.iconst 0, 1) := by decide +kernel
theorem d_Mo_endsBehind_54 : decode prog_13_method_40_code 54 = .ok (.iastore, 1) := by decide +kernel
theorem d_Mo_endsBehind_55 : decode prog_13_method_40_code 55 = .ok (.aload_n 0, 1) := by decide +kernel
theorem d_Mo_endsBehind_56 : decode prog_13_method_40_code 56 = .ok (.aload_n 0, 1) := by decide +kernel
theorem d_Mo_endsBehind_57 : decode prog_13_method_40_code 57 = .ok (.getfield 65, 3) := by decide +kernel
theorem d_Mo_endsBehind_60 : decode prog_13_method_40_code 60 = .ok (.bipush 64, 2) := by decide +kernel
theorem d_Mo_endsBehind_62 : decode prog_13_method_40_code 62 = .ok (.iload_n 1, 1) := by decide +kernel
theorem d_Mo_endsBehind_63 : decode prog_13_method_40_code 63 = .ok (.imul, 1) := by decide +kernel
theorem d_Mo_endsBehind_64 : decode prog_13_method_40_code 64 = .ok (.iload_n 3, 1) := by decide +kernel
theorem d_Mo_endsBehind_65 : decode prog_13_method_40_code 65 = .ok (.iadd, 1) := by decide +kernel
theorem d_Mo_endsBehind_66 : decode prog_13_method_40_code 66 = .ok (.iaload, 1) := by decide +kernel
theorem d_Mo_endsBehind_67 : decode prog_13_method_40_code 67 = .ok (.iconst 1, 1) := by decide +kernel
theorem d_Mo_endsBehind_68 : decode prog_13_method_40_code 68 = .ok (.iadd, 1) := by decide +kernel
theorem d_Mo_endsBehind_69 : decode prog_13_method_40_code 69 = .ok (.aload_n 0, 1) := by decide +kernel
theorem d_Mo_endsBehind_70 : decode prog_13_method_40_code 70 = .ok (.getfield 172, 3) := by decide +kernel
theorem d_Mo_endsBehind_73 : decode prog_13_method_40_code 73 = .ok (.iconst 0, 1) := by decide +kernel
theorem d_Mo_endsBehind_74 : decode prog_13_method_40_code 74 = .ok (.invokevirtual 202, 3) := by decide +kernel
theorem d_Mo_endsBehind_77 : decode prog_13_method_40_code 77 = .ok (.iconst 0, 1) := by decide +kernel
theorem d_Mo_endsBehind_78 : decode prog_13_method_40_code 78 = .ok (.istore 4, 2) := by decide +kernel
theorem d_Mo_endsBehind_80 : decode prog_13_method_40_code 80 = .ok (.iload 4, 2) := by decide +kernel
theorem d_Mo_endsBehind_82 : decode prog_13_method_40_code 82 = .ok (.aload_n 0, 1) := by decide +kernel
theorem d_Mo_endsBehind_83 : decode prog_13_method_40_code 83 = .ok (.getfield 49, 3) := by decide +kernel
theorem d_Mo_endsBehind_86 : decode prog_13_method_40_code 86 = .ok (.iconst 0, 1) := by decide +kernel
theorem d_Mo_endsBehind_87 : decode prog_13_method_40_code 87 = .ok (.iaload, 1) := by decide +kernel
theorem d_Mo_endsBehind_88 : decode prog_13_method_40_code 88 = .ok (.if_icmp .ge 36, 3) := by decide +kernel
theorem d_Mo_endsBehind_91 : decode prog_13_method_40_code 91 = .ok (.iload_n 2, 1) := by decide +kernel
theorem d_Mo_endsBehind_92 : decode prog_13_method_40_code 92 = .ok (.ifCond .ne 20, 3) := by decide +kernel
theorem d_Mo_endsBehind_95 : decode prog_13_method_40_code 95 = .ok (.aload_n 0, 1) := by decide +kernel
theorem d_Mo_endsBehind_96 : decode prog_13_method_40_code 96 = .ok (.getfield 16, 3) := by decide +kernel
theorem d_Mo_endsBehind_99 : decode prog_13_method_40_code 99 = .ok (.aload_n 0, 1) := by decide +kernel
theorem d_Mo_endsBehind_100 : decode prog_13_method_40_code 100 = .ok (.getfield 52, 3) := by decide +kernel
theorem d_Mo_endsBehind_103 : decode prog_13_method_40_code 103 = .ok (.iload 4, 2) := by decide +kernel
theorem d_Mo_endsBehind_105 : decode prog_13_method_40_code 105 = .ok (.iaload, 1) := by decide +kernel
theorem d_Mo_endsBehind_106 : decode prog_13_method_40_code 106 = .ok (.iaload, 1) := by decide +kernel
theorem d_Mo_endsBehind_107 : decode prog_13_method_40_code 107 = .ok (.bipush 7, 2) := by decide +kernel
theorem d_Mo_endsBehind_109 : decode prog_13_method_40_code 109 = .ok (.if_icmp .ne 7, 3) := by decide +kernel
theorem d_Mo_endsBehind_112 : decode prog_13_method_40_code 112 = .ok (.iconst 1, 1) := by decide +kernel
theorem d_Mo_endsBehind_113 : decode prog_13_method_40_code 113 = .ok (.goto 4, 3) := by decide +kernel
theorem d_Mo_endsBehind_116 : decode prog_13_method_40_code 116 = .ok (.iconst 0, 1) := by decide +kernel
theorem d_Mo_endsBehind_117 : decode prog_13_method_40_code 117 = .ok (.istore_n 2, 1) := by decide +kernel
theorem d_Mo_endsBehind_118 : decode prog_13_method_40_code 118 = .ok (.iinc 4 1, 3) := by decide +kernel
theorem d_Mo_endsBehind_121 : decode prog_13_method_40_code 121 = .ok (.goto (-41), 3) := by decide +kernel
theorem d_Mo_endsBehind_124 : decode prog_13_method_40_code 124 = .ok (.iinc 3 1, 3) := by decide +kernel
theorem d_Mo_endsBehind_127 : decode prog_13_method_40_code 127 = .ok (.goto (-113), 3) := by decide +kernel
theorem d_Mo_endsBehind_130 : decode prog_13_method_40_code 130 = .ok (.iload_n 2, 1) := by decide +kernel
theorem d_Mo_endsBehind_131 : decode prog_13_method_40_code 131 = .ok (.ireturn, 1) := by decide +kernel
theorem M_Mo_endsBehind : lt_M0 m_Mo_endsBehind 1 := ⟨lt_m5 209 rfl rfl, lt_m1 13 rfl rfl, ⟨by decide +kernel, by decide +kernel, by decide +kernel⟩, by decide⟩
theorem in_Mo_endsBehind : Cond.instanceMethod m_Mo_endsBehind.1 ∈ lt_T := lt_m5 208 rfl rfl
theorem se_Mo_endsBehind : Cond.selects "LinearSearchModel" m_Mo_endsBehind.1 m_Mo_endsBehind.1 ∈ lt_T := lt_memS 59 rfl rfl
abbrev m_Mo_nextState : lt_M := (⟨"LinearSearchModel", "nextState", "(II)I"⟩, prog_13_method_39_code, 6, (some .int))
theorem d_Mo_nextState_0 : decode prog_13_method_39_code 0 = .ok (.aload_n 0, 1) := by decide +kernel
theorem d_Mo_nextState_1 : decode prog_13_method_39_code 1 = .ok (.getfield 71, 3) := by decide +kernel
theorem d_Mo_nextState_4 : decode prog_13_method_39_code 4 = .ok (.bipush 8, 2) := by decide +kernel
theorem d_Mo_nextState_6 : decode prog_13_method_39_code 6 = .ok (.iload_n 1, 1) := by decide +kernel
theorem d_Mo_nextState_7 : decode prog_13_method_39_code 7 = .ok (.imul, 1) := by decide +kernel
theorem d_Mo_nextState_8 : decode prog_13_method_39_code 8 = .ok (.iload_n 2, 1) := by decide +kernel
theorem d_Mo_nextState_9 : decode prog_13_method_39_code 9 = .ok (.iadd, 1) := by decide +kernel
theorem d_Mo_nextState_10 : decode prog_13_method_39_code 10 = .ok (.iaload, 1) := by decide +kernel
theorem d_Mo_nextState_11 : decode prog_13_method_39_code 11 = .ok (.iconst (-1), 1) := by decide +kernel
theorem d_Mo_nextState_12 : decode prog_13_method_39_code 12 = .ok (.if_icmp .eq 15, 3) := by decide +kernel
theorem d_Mo_nextState_15 : decode prog_13_method_39_code 15 = .ok (.aload_n 0, 1) := by decide +kernel
theorem d_Mo_nextState_16 : decode prog_13_method_39_code 16 = .ok (.getfield 71, 3) := by decide +kernel
theorem d_Mo_nextState_19 : decode prog_13_method_39_code 19 = .ok (.bipush 8, 2) := by decide +kernel
theorem d_Mo_nextState_21 : decode prog_13_method_39_code 21 = .ok (.iload_n 1, 1) := by decide +kernel
theorem d_Mo_nextState_22 : decode prog_13_method_39_code 22 = .ok (.imul, 1) := by decide +kernel
theorem d_Mo_nextState_23 : decode prog_13_method_39_code 23 = .ok (.iload_n 2, 1) := by decide +kernel
theorem d_Mo_nextState_24 : decode prog_13_method_39_code 24 = .ok (.iadd, 1) := by decide +kernel
theorem d_Mo_nextState_25 : decode prog_13_method_39_code 25 = .ok (.iaload, 1) := by decide +kernel
theorem d_Mo_nextState_26 : decode prog_13_method_39_code 26 = .ok (.ireturn, 1) := by decide +kernel
theorem d_Mo_nextState_27 : decode prog_13_method_39_code 27 = .ok (.aload_n 0, 1) := by decide +kernel
theorem d_Mo_nextState_28 : decode prog_13_method_39_code 28 = .ok (.dup, 1) := by decide +kernel
theorem d_Mo_nextState_29 : decode prog_13_method_39_code 29 = .ok (.getfield 166, 3) := by decide +kernel
theorem d_Mo_nextState_32 : decode prog_13_method_39_code 32 = .ok (.iconst 1, 1) := by decide +kernel
theorem d_Mo_nextState_33 : decode prog_13_method_39_code 33 = .ok (.iadd, 1) := by decide +kernel
theorem d_Mo_nextState_34 : decode prog_13_method_39_code 34 = .ok (.putfield 166, 3) := by decide +kernel
theorem d_Mo_nextState_37 : decode prog_13_method_39_code 37 = .ok (.aload_n 0, 1) := by decide +kernel
theorem d_Mo_nextState_38 : decode prog_13_method_39_code 38 = .ok (.iconst 0, 1) := by decide +kernel
theorem d_Mo_nextState_39 : decode prog_13_method_39_code 39 = .ok (.putfield 214, 3) := by decide +kernel
theorem d_Mo_nextState_42 : decode prog_13_method_39_code 42 = .ok (.iconst 0, 1) := by decide +kernel
theorem d_Mo_nextState_43 : decode prog_13_method_39_code 43 = .ok (.istore_n 3, 1) := by decide +kernel
theorem d_Mo_nextState_44 : decode prog_13_method_39_code 44 = .ok (.iload_n 3, 1) := by decide +kernel
theorem d_Mo_nextState_45 : decode prog_13_method_39_code 45 = .ok (.aload_n 0, 1) := by decide +kernel
theorem d_Mo_nextState_46 : decode prog_13_method_39_code 46 = .ok (.getfield 62, 3) := by decide +kernel
theorem d_Mo_nextState_49 : decode prog_13_method_39_code 49 = .ok (.iload_n 1, 1) := by decide +kernel
theorem d_Mo_nextState_50 : decode prog_13_method_39_code 50 = .ok (.iaload, 1) := by decide +kernel
theorem d_Mo_nextState_51 : decode prog_13_method_39_code 51 = .ok (.if_icmp .ge 63, 3) := by decide +kernel
theorem d_Mo_nextState_54 : decode prog_13_method_39_code 54 = .ok (.aload_n 0, 1) := by decide +kernel
theorem d_Mo_nextState_55 : decode prog_13_method_39_code 55 = .ok (.getfield 65, 3) := by decide +kernel
theorem d_Mo_nextState_58 : decode prog_13_method_39_code 58 = .ok (.bipush 64, 2) := by decide +kernel
theorem d_Mo_nextState_60 : decode prog_13_method_39_code 60 = .ok (.iload_n 1, 1) := by decide +kernel
theorem d_Mo_nextState_61 : decode prog_13_method_39_code 61 = .ok (.imul, 1) := by decide +kernel
theorem d_Mo_nextState_62 : decode prog_13_method_39_code 62 = .ok (.iload_n 3, 1) := by decide +kernel
theorem d_Mo_nextState_63 : decode prog_13_method_39_code 63 = .ok (.iadd, 1) := by decide +kernel
theorem d_Mo_nextState_64 : decode prog_13_method_39_code 64 = .ok (.iaload, 1) := by decide +kernel
theorem d_Mo_nextState_65 : decode prog_13_method_39_code 65 = .ok (.istore 4, 2) := by decide +kernel
theorem d_Mo_nextState_67 : decode prog_13_method_39_code 67 = .ok (.aload_n 0, 1) := by decide +kernel
theorem d_Mo_nextState_68 : decode prog_13_method_39_code 68 = .ok (.getfield 16, 3) := by decide +kernel
theorem d_Mo_nextState_71 : decode prog_13_method_39_code 71 = .ok (.iload 4, 2) := by decide +kernel
theorem d_Mo_nextState_73 : decode prog_13_method_39_code 73 = .ok (.iaload, 1) := by decide +kernel
theorem d_Mo_nextState_74 : decode prog_13_method_39_code 74 = .ok (.iconst 1, 1) := by decide +kernel
theorem d_Mo_nextState_75 : decode prog_13_method_39_code 75 = .ok (.if_icmp .eq 24, 3) := by decide +kernel
theorem d_Mo_nextState_78 : decode prog_13_method_39_code 78 = .ok (.aload_n 0, 1) := by decide +kernel
theorem d_Mo_nextState_79 : decode prog_13_method_39_code 79 = .ok (.getfield 16, 3) := by decide +kernel
theorem d_Mo_nextState_82 : decode prog_13_method_39_code 82 = .ok (.iload 4, 2) := by decide +kernel
theorem d_Mo_nextState_84 : decode prog_13_method_39_code 84 = .ok (.iaload, 1) := by decide +kernel
theorem d_Mo_nextState_85 : decode prog_13_method_39_code 85 = .ok (.ifCond .ne 23, 3) := by decide +kernel
theorem d_Mo_nextState_88 : decode prog_13_method_39_code 88 = .ok (.aload_n 0, 1) := by decide +kernel
theorem d_Mo_nextState_89 : decode prog_13_method_39_code 89 = .ok (.getfield 19, 3) := by decide +kernel
theorem d_Mo_nextState_92 : decode prog_13_method_39_code 92 = .ok (.iload 4, 2) := by decide +kernel
theorem d_Mo_nextState_94 : decode prog_13_method_39_code 94 = .ok (.iaload, 1) := by decide +kernel
theorem d_Mo_nextState_95 : decode prog_13_method_39_code 95 = .ok (.iload_n 2, 1) := by decide +kernel
theorem d_Mo_nextState_96 : decode prog_13_method_39_code 96 = .ok (.if_icmp .ne 12, 3) := by decide +kernel
theorem d_Mo_nextState_99 : decode prog_13_method_39_code 99 = .ok (.aload_n 0, 1) := by decide +kernel
theorem d_Mo_nextState_100 : decode prog_13_method_39_code 100 = .ok (.iload 4, 2) := by decide +kernel
theorem d_Mo_nextState_102 : decode prog_13_method_39_code 102 = .ok (.iconst 1, 1) := by decide +kernel
theorem d_Mo_nextState_103 : decode prog_13_method_39_code 103 = .ok (.iadd, 1) := by decide +kernel
theorem d_Mo_nextState_104 : decode prog_13_method_39_code 104 = .ok (.iconst 0, 1) := by decide +kernel
theorem d_Mo_nextState_105 : decode prog_13_method_39_code 105 = .ok (.invokevirtual 228, 3) := by decide +kernel
theorem d_Mo_nextState_108 : decode prog_13_method_39_code 108 = .ok (.iinc 3 1, 3) := by decide +kernel
theorem d_Mo_nextState_111 : decode prog_13_method_39_code 111 = .ok (.goto (-67), 3) := by decide +kernel
theorem d_Mo_nextState_114 : decode prog_13_method_39_code 114 = .ok (.aload_n 0, 1) := by decide +kernel
theorem d_Mo_nextState_115 : decode prog_13_method_39_code 115 = .ok (.getfield 68, 3) := by decide +kernel
theorem d_Mo_nextState_118 : decode prog_13_method_39_code 118 = .ok (.iload_n 1, 1) := by decide +kernel
theorem d_Mo_nextState_119 : decode prog_13_method_39_code 119 = .ok (.baload, 1) := by decide +kernel
theorem d_Mo_nextState_120 : decode prog_13_method_39_code 120 = .ok (.ifCond .eq 15, 3) := by decide +kernel
theorem d_Mo_nextState_123 : decode prog_13_method_39_code 123 = .ok (.aload_n 0, 1) := by decide +kernel
theorem d_Mo_nextState_124 : decode prog_13_method_39_code 124 = .ok (.iload_n 1, 1) := by decide +kernel
theorem d_Mo_nextState_125 : decode prog_13_method_39_code 125 = .ok (.invokevirtual 236, 3) := by decide +kernel
theorem d_Mo_nextState_128 : decode prog_13_method_39_code 128 = .ok (.ifCond .ne 7, 3) := by decide +kernel
theorem d_Mo_nextState_131 : decode prog_13_method_39_code 131 = .ok (.iconst 1, 1) := by decide +kernel
theorem d_Mo_nextState_132 : decode prog_13_method_39_code 132 = .ok (.goto 4, 3) := by decide +kernel
theorem d_Mo_nextState_135 : decode prog_13_method_39_code 135 = .ok (.iconst 0, 1) := by decide +kernel
theorem d_Mo_nextState_136 : decode prog_13_method_39_code 136 = .ok (.istore_n 3, 1) := by decide +kernel
theorem d_Mo_nextState_137 : decode prog_13_method_39_code 137 = .ok (.iload_n 3, 1) := by decide +kernel
theorem d_Mo_nextState_138 : decode prog_13_method_39_code 138 = .ok (.ifCond .eq 9, 3) := by decide +kernel
theorem d_Mo_nextState_141 : decode prog_13_method_39_code 141 = .ok (.aload_n 0, 1) := by decide +kernel
theorem d_Mo_nextState_142 : decode prog_13_method_39_code 142 = .ok (.iconst 0, 1) := by decide +kernel
theorem d_Mo_nextState_143 : decode prog_13_method_39_code 143 = .ok (.iconst 0, 1) := by decide +kernel
theorem d_Mo_nextState_144 : decode prog_13_method_39_code 144 = .ok (.invokevirtual 228, 3) := by decide +kernel
theorem d_Mo_nextState_147 : decode prog_13_method_39_code 147 = .ok (.aload_n 0, 1) := by decide +kernel
theorem d_Mo_nextState_148 : decode prog_13_method_39_code 148 = .ok (.getfield 154, 3) := by decide +kernel
theorem d_Mo_nextState_151 : decode prog_13_method_39_code 151 = .ok (.istore 4, 2) := by decide +kernel
theorem d_Mo_nextState_153 : decode prog_13_method_39_code 153 = .ok (.aload_n 0, 1) := by decide +kernel
theorem d_Mo_nextState_154 : decode prog_13_method_39_code 154 = .ok (.iload_n 3, 1) := by decide +kernel
theorem d_Mo_nextState_155 : decode prog_13_method_39_code 155 = .ok (.invokevirtual 232, 3) := by decide +kernel
theorem d_Mo_nextState_158 : decode prog_13_method_39_code 158 = .ok (.istore 5, 2) := by decide +kernel
theorem d_Mo_nextState_160 : decode prog_13_method_39_code 160 = .ok (.aload_n 0, 1) := by decide +kernel
theorem d_Mo_nextState_161 : decode prog_13_method_39_code 161 = .ok (.getfield 154, 3) := by decide +kernel
theorem d_Mo_nextState_164 : decode prog_13_method_39_code 164 = .ok (.iload 4, 2) := by decide +kernel
theorem d_Mo_nextState_166 : decode prog_13_method_39_code 166 = .ok (.if_icmp .ne 16, 3) := by decide +kernel
theorem d_Mo_nextState_169 : decode prog_13_method_39_code 169 = .ok (.aload_n 0, 1) := by decide +kernel
theorem d_Mo_nextState_170 : decode prog_13_method_39_code 170 = .ok (.getfield 71, 3) := by decide +kernel
theorem d_Mo_nextState_173 : decode prog_13_method_39_code 173 = .ok (.bipush 8, 2) := by decide +kernel
theorem d_Mo_nextState_175 : decode prog_13_method_39_code 175 = .ok (.iload_n 1, 1) := by decide +kernel
theorem d_Mo_nextState_176 : decode prog_13_method_39_code 176 = .ok (.imul, 1) := by decide +kernel
theorem d_Mo_nextState_177 : decode prog_13_method_39_code 177 = .ok (.iload_n 2, 1) := by decide +kernel
theorem d_Mo_nextState_178 : decode prog_13_method_39_code 178 = .ok (.iadd, 1) := by decide +kernel
theorem d_Mo_nextState_179 : decode prog_13_method_39_code 179 = .ok (.iload 5, 2) := by decide +kernel
theorem d_Mo_nextState_181 : decode prog_13_method_39_code 181 = .ok (.iastore, 1) := by decide +kernel
theorem d_Mo_nextState_182 : decode prog_13_method_39_code 182 = .ok (.iload 5, 2) := by decide +kernel
theorem d_Mo_nextState_184 : decode prog_13_method_39_code 184 = .ok (.ireturn, 1) := by decide +kernel
theorem M_Mo_nextState : lt_M0 m_Mo_nextState 2 := ⟨lt_m5 213 rfl rfl, lt_m1 13 rfl rfl, ⟨by decide +kernel, by decide +kernel, by decide +kernel⟩, by decide⟩
theorem in_Mo_nextState : Cond.instanceMethod m_Mo_nextState.1 ∈ lt_T := lt_m5 212 rfl rfl
theorem se_Mo_nextState : Cond.selects "LinearSearchModel" m_Mo_nextState.1 m_Mo_nextState.1 ∈ lt_T := lt_memS 60 rfl rfl
abbrev m_Mo_runSingle : lt_M := (⟨"LinearSearchModel", "runSingle", "()V"⟩, prog_13_method_43_code, 5, none)
theorem d_Mo_runSingle_0 : decode prog_13_method_43_code 0 = .ok (.aload_n 0, 1) := by decide +kernel
theorem d_Mo_runSingle_1 : decode prog_13_method_43_code 1 = .ok (.iconst 0, 1) := by decide +kernel
theorem d_Mo_runSingle_2 : decode prog_13_method_43_code 2 = .ok (.putfield 105, 3) := by decide +kernel
theorem d_Mo_runSingle_5 : decode prog_13_method_43_code 5 = .ok (.aload_n 0, 1) := by decide +kernel
theorem d_Mo_runSingle_6 : decode prog_13_method_43_code 6 = .ok (.iconst 1, 1) := by decide +kernel
theorem d_Mo_runSingle_7 : decode prog_13_method_43_code 7 = .ok (.putfield 189, 3) := by decide +kernel
theorem d_Mo_runSingle_10 : decode prog_13_method_43_code 10 = .ok (.aload_n 0, 1) := by decide +kernel
theorem d_Mo_runSingle_11 : decode prog_13_method_43_code 11 = .ok (.iconst 0, 1) := by decide +kernel
theorem d_Mo_runSingle_12 : decode prog_13_method_43_code 12 = .ok (.invokevirtual 205, 3) := by decide +kernel
theorem d_Mo_runSingle_15 : decode prog_13_method_43_code 15 = .ok (.iconst 0, 1) := by decide +kernel
theorem d_Mo_runSingle_16 : decode prog_13_method_43_code 16 = .ok (.istore_n 1, 1) := by decide +kernel
theorem d_Mo_runSingle_17 : decode prog_13_method_43_code 17 = .ok (.iconst 0, 1) := by decide +kernel
theorem d_Mo_runSingle_18 : decode prog_13_method_43_code 18 = .ok (.istore_n 2, 1) := by decide +kernel
theorem d_Mo_runSingle_19 : decode prog_13_method_43_code 19 = .ok (.iload_n 2, 1) := by decide +kernel
theorem d_Mo_runSingle_20 : decode prog_13_method_43_code 20 = .ok (.aload_n 0, 1) := by decide +kernel
theorem d_Mo_runSingle_21 : decode prog_13_method_43_code 21 = .ok (.getfield 172, 3) := by decide +kernel
theorem d_Mo_runSingle_24 : decode prog_13_method_43_code 24 = .ok (.if_icmp .gt 155, 3) := by decide +kernel
theorem d_Mo_runSingle_27 : decode prog_13_method_43_code 27 = .ok (.iload_n 1, 1) := by decide +kernel
theorem d_Mo_runSingle_28 : decode prog_13_method_43_code 28 = .ok (.iconst (-1), 1) := by decide +kernel
theorem d_Mo_runSingle_29 : decode prog_13_method_43_code 29 = .ok (.if_icmp .eq 150, 3) := by decide +kernel
theorem d_Mo_runSingle_32 : decode prog_13_method_43_code 32 = .ok (.aload_n 0, 1) := by decide +kernel
theorem d_Mo_runSingle_33 : decode prog_13_method_43_code 33 = .ok (.dup, 1) := by decide +kernel
theorem d_Mo_runSingle_34 : decode prog_13_method_43_code 34 = .ok (.getfield 166, 3) := by decide +kernel
theorem d_Mo_runSingle_37 : decode prog_13_method_43_code 37 = .ok (.iconst 1, 1) := by decide +kernel
theorem d_Mo_runSingle_38 : decode prog_13_method_43_code 38 = .ok (.iadd, 1) := by decide +kernel
theorem d_Mo_runSingle_39 : decode prog_13_method_43_code 39 = .ok (.putfield 166, 3) := by decide +kernel
theorem d_Mo_runSingle_42 : decode prog_13_method_43_code 42 = .ok (.aload_n 0, 1) := by decide +kernel
theorem d_Mo_runSingle_43 : decode prog_13_method_43_code 43 = .ok (.getfield 49, 3) := by decide +kernel
theorem d_Mo_runSingle_46 : decode prog_13_method_43_code 46 = .ok (.iconst 0, 1) := by decide +kernel
theorem d_Mo_runSingle_47 : decode prog_13_method_43_code 47 = .ok (.iconst 0, 1) := by decide +kernel
theorem d_Mo_runSingle_48 : decode prog_13_method_43_code 48 = .ok (.iastore, 1) := by decide +kernel
theorem d_Mo_runSingle_49 : decode prog_13_method_43_code 49 = .ok (.aload_n 0, 1) := by decide +kernel
theorem d_Mo_runSingle_50 : decode prog_13_method_43_code 50 = .ok (.iload_n 1, 1) := by decide +kernel
theorem d_Mo_runSingle_51 : decode prog_13_method_43_code 51 = .ok (.iload_n 2, 1) := by decide +kernel
theorem d_Mo_runSingle_52 : decode prog_13_method_43_code 52 = .ok (.iconst 0, 1) := by decide +kernel
theorem d_Mo_runSingle_53 : decode prog_13_method_43_code 53 = .ok (.invokevirtual 202, 3) := by decide +kernel
theorem d_Mo_runSingle_56 : decode prog_13_method_43_code 56 = .ok (.iconst (-1), 1) := by decide +kernel
theorem d_Mo_runSingle_57 : decode prog_13_method_43_code 57 = .ok (.istore_n 1, 1) := by decide +kernel
theorem d_Mo_runSingle_58 : decode prog_13_method_43_code 58 = .ok (.iconst (-1), 1) := by decide +kernel
theorem d_Mo_runSingle_59 : decode prog_13_method_43_code 59 = .ok (.istore_n 3, 1) := by decide +kernel
theorem d_Mo_runSingle_60 : decode prog_13_method_43_code 60 = .ok (.iconst 0, 1) := by decide +kernel
theorem d_Mo_runSingle_61 : decode prog_13_method_43_code 61 = .ok (.istore 4, 2) := by decide +kernel
theorem d_Mo_runSingle_63 : decode prog_13_method_43_code 63 = .ok (.iload 4, 2) := by decide +kernel
theorem d_Mo_runSingle_65 : decode prog_13_method_43_code 65 = .ok (.aload_n 0, 1) := by decide +kernel
theorem d_Mo_runSingle_66 : decode prog_13_method_43_code 66 = .ok (.getfield 49, 3) := by decide +kernel
theorem d_Mo_runSingle_69 : decode prog_13_method_43_code 69 = .ok (.iconst 0, 1) := by decide +kernel
theorem d_Mo_runSingle_70 : decode prog_13_method_43_code 70 = .ok (.iaload, 1) := by decide +kernel
theorem d_Mo_runSingle_71 : decode prog_13_method_43_code 71 = .ok (.if_icmp .ge 70, 3) := by decide +kernel
theorem d_Mo_runSingle_74 : decode prog_13_method_43_code 74 = .ok (.iload 4, 2) := by decide +kernel
theorem d_Mo_runSingle_76 : decode prog_13_method_43_code 76 = .ok (.ifCond .lt 65, 3) := by decide +kernel
theorem d_Mo_runSingle_79 : decode prog_13_method_43_code 79 = .ok (.aload_n 0, 1) := by decide +kernel
theorem d_Mo_runSingle_80 : decode prog_13_method_43_code 80 = .ok (.getfield 16, 3) := by decide +kernel
theorem d_Mo_runSingle_83 : decode prog_13_method_43_code 83 = .ok (.aload_n 0, 1) := by decide +kernel
theorem d_Mo_runSingle_84 : decode prog_13_method_43_code 84 = .ok (.getfield 52, 3) := by decide +kernel
theorem d_Mo_runSingle_87 : decode prog_13_method_43_code 87 = .ok (.iload 4, 2) := by decide +kernel
theorem d_Mo_runSingle_89 : decode prog_13_method_43_code 89 = .ok (.iaload, 1) := by decide +kernel
theorem d_Mo_runSingle_90 : decode prog_13_method_43_code 90 = .ok (.iaload, 1) := by decide +kernel
theorem d_Mo_runSingle_91 : decode prog_13_method_43_code 91 = .ok (.bipush 7, 2) := by decide +kernel
theorem d_Mo_runSingle_93 : decode prog_13_method_43_code 93 = .ok (.if_icmp .ne 24, 3) := by decide +kernel
theorem d_Mo_runSingle_96 : decode prog_13_method_43_code 96 = .ok (.aload_n 0, 1) := by decide +kernel
theorem d_Mo_runSingle_97 : decode prog_13_method_43_code 97 = .ok (.iload 4, 2) := by decide +kernel
theorem d_Mo_runSingle_99 : decode prog_13_method_43_code 99 = .ok (.invokevirtual 192, 3) := by decide +kernel
theorem d_Mo_runSingle_102 : decode prog_13_method_43_code 102 = .ok (.aload_n 0, 1) := by decide +kernel
theorem d_Mo_runSingle_103 : decode prog_13_method_43_code 103 = .ok (.iload_n 2, 1) := by decide +kernel
theorem d_Mo_runSingle_104 : decode prog_13_method_43_code 104 = .ok (.invokevirtual 195, 3) := by decide +kernel
theorem d_Mo_runSingle_107 : decode prog_13_method_43_code 107 = .ok (.aload_n 0, 1) := by decide +kernel
theorem d_Mo_runSingle_108 : decode prog_13_method_43_code 108 = .ok (.getfield 49, 3) := by decide +kernel
theorem d_Mo_runSingle_111 : decode prog_13_method_43_code 111 = .ok (.iconst 0, 1) := by decide +kernel
theorem d_Mo_runSingle_112 : decode prog_13_method_43_code 112 = .ok (.iconst 0, 1) := by decide +kernel
theorem d_Mo_runSingle_113 : decode prog_13_method_43_code 113 = .ok (.iastore, 1) := by decide +kernel
theorem d_Mo_runSingle_114 : decode prog_13_method_43_code 114 = .ok (.goto 21, 3) := by decide +kernel
theorem d_Mo_runSingle_117 : decode prog_13_method_43_code 117 = .ok (.aload_n 0, 1) := by decide +kernel
theorem d_Mo_runSingle_118 : decode prog_13_method_43_code 118 = .ok (.aload_n 0, 1) := by decide +kernel
theorem d_Mo_runSingle_119 : decode prog_13_method_43_code 119 = .ok (.getfield 52, 3) := by decide +kernel
theorem d_Mo_runSingle_122 : decode prog_13_method_43_code 122 = .ok (.iload 4, 2) := by decide +kernel
theorem d_Mo_runSingle_124 : decode prog_13_method_43_code 124 = .ok (.iaload, 1) := by decide +kernel
theorem d_Mo_runSingle_125 : decode prog_13_method_43_code 125 = .ok (.iload_n 2, 1) := by decide +kernel
theorem d_Mo_runSingle_126 : decode prog_13_method_43_code 126 = .ok (.invokevirtual 198, 3) := by decide +kernel
theorem d_Mo_runSingle_129 : decode prog_13_method_43_code 129 = .ok (.ifCond .eq 6, 3) := by decide +kernel
theorem d_Mo_runSingle_132 : decode prog_13_method_43_code 132 = .ok (.iload 4, 2) := by decide +kernel
theorem d_Mo_runSingle_134 : decode prog_13_method_43_code 134 = .ok (.istore_n 3, 1) := by decide +kernel
theorem d_Mo_runSingle_135 : decode prog_13_method_43_code 135 = .ok (.iinc 4 1, 3) := by decide +kernel
theorem d_Mo_runSingle_138 : decode prog_13_method_43_code 138 = .ok (.goto (-75), 3) := by decide +kernel
theorem d_Mo_runSingle_141 : decode prog_13_method_43_code 141 = .ok (.iload_n 3, 1) := by decide +kernel
theorem d_Mo_runSingle_142 : decode prog_13_method_43_code 142 = .ok (.iconst (-1), 1) := by decide +kernel
theorem d_Mo_runSingle_143 : decode prog_13_method_43_code 143 = .ok (.if_icmp .ne 6, 3) := by decide +kernel
theorem d_Mo_runSingle_146 : decode prog_13_method_43_code 146 = .ok (.goto 27, 3) := by decide +kernel
theorem d_Mo_runSingle_149 : decode prog_13_method_43_code 149 = .ok (.aload_n 0, 1) := by decide +kernel
theorem d_Mo_runSingle_150 : decode prog_13_method_43_code 150 = .ok (.iload_n 3, 1) := by decide +kernel
theorem d_Mo_runSingle_151 : decode prog_13_method_43_code 151 = .ok (.invokevirtual 192, 3) := by decide +kernel
theorem d_Mo_runSingle_154 : decode prog_13_method_43_code 154 = .ok (.aload_n 0, 1) := by decide +kernel
theorem d_Mo_runSingle_155 : decode prog_13_method_43_code 155 = .ok (.getfield 52, 3) := by decide +kernel
theorem d_Mo_runSingle_158 : decode prog_13_method_43_code 158 = .ok (.iload_n 3, 1) := by decide +kernel
theorem d_Mo_runSingle_159 : decode prog_13_method_43_code 159 = .ok (.iaload, 1) := by decide +kernel
theorem d_Mo_runSingle_160 : decode prog_13_method_43_code 160 = .ok (.iconst 1, 1) := by decide +kernel
theorem d_Mo_runSingle_161 : decode prog_13_method_43_code 161 = .ok (.iadd, 1) := by decide +kernel
theorem d_Mo_runSingle_162 : decode prog_13_method_43_code 162 = .ok (.istore_n 1, 1) := by decide +kernel
theorem d_Mo_runSingle_163 : decode prog_13_method_43_code 163 = .ok (.aload_n 0, 1) := by decide +kernel
theorem d_Mo_runSingle_164 : decode prog_13_method_43_code 164 = .ok (.dup, 1) := by decide +kernel
theorem d_Mo_runSingle_165 : decode prog_13_method_43_code 165 = .ok (.getfield 189, 3) := by decide +kernel
theorem d_Mo_runSingle_168 : decode prog_13_method_43_code 168 = .ok (.iconst 1, 1) := by decide +kernel
theorem d_Mo_runSingle_169 : decode prog_13_method_43_code 169 = .ok (.iadd, 1) := by decide +kernel
theorem d_Mo_runSingle_170 : decode prog_13_method_43_code 170 = .ok (.putfield 189, 3) := by decide +kernel
theorem d_Mo_runSingle_173 : decode prog_13_method_43_code 173 = .ok (.iinc 2 1, 3) := by decide +kernel
theorem d_Mo_runSingle_176 : decode prog_13_method_43_code 176 = .ok (.goto (-157), 3) := by decide +kernel
theorem d_Mo_runSingle_179 : decode prog_13_method_43_code 179 = .ok (.return_, 1) := by decide +kernel
theorem M_Mo_runSingle : lt_M0 m_Mo_runSingle 0 := ⟨lt_m5 217 rfl rfl, lt_m1 13 rfl rfl, ⟨by decide +kernel, by decide +kernel, by decide +kernel⟩, by decide⟩
theorem in_Mo_runSingle : Cond.instanceMethod m_Mo_runSingle.1 ∈ lt_T := lt_m5 216 rfl rfl
theorem se_Mo_runSingle : Cond.selects "LinearSearchModel" m_Mo_runSingle.1 m_Mo_runSingle.1 ∈ lt_T := lt_memS 61 rfl rfl
abbrev m_Mo_slot : lt_M := (⟨"LinearSearchModel", "slot", "(IZ)I"⟩, prog_13_method_45_code, 3, (some .int))
theorem d_Mo_slot_0 : decode prog_13_method_45_code 0 = .ok (.aload_n 0, 1) := by decide +kernel
theorem d_Mo_slot_1 : decode prog_13_method_45_code 1 = .ok (.iload_n 1, 1) := by decide +kernel
theorem d_Mo_slot_2 : decode prog_13_method_45_code 2 = .ok (.ifCond .lt 8, 3) := by decide +kernel
theorem d_Mo_slot_5 : decode prog_13_method_45_code 5 = .ok (.iload_n 1, 1) := by decide +kernel
theorem d_Mo_slot_6 : decode prog_13_method_45_code 6 = .ok (.iconst 3, 1) := by decide +kernel
theorem d_Mo_slot_7 : decode prog_13_method_45_code 7 = .ok (.if_icmp .le 7, 3) := by decide +kernel
theorem d_Mo_slot_10 : decode prog_13_method_45_code 10 = .ok (.iconst 1, 1) := by decide +kernel
theorem d_Mo_slot_11 : decode prog_13_method_45_code 11 = .ok (.goto 4, 3) := by decide +kernel
theorem d_Mo_slot_14 : decode prog_13_method_45_code 14 = .ok (.iconst 0, 1) := by decide +kernel
theorem d_Mo_slot_15 : decode prog_13_method_45_code 15 = .ok (.putfield 102, 3) := by decide +kernel
theorem d_Mo_slot_18 : decode prog_13_method_45_code 18 = .ok (.aload_n 0, 1) := by decide +kernel
theorem d_Mo_slot_19 : decode prog_13_method_45_code 19 = .ok (.getfield 102, 3) := by decide +kernel
theorem d_Mo_slot_22 : decode prog_13_method_45_code 22 = .ok (.ifCond .le 5, 3) := by decide +kernel
theorem d_Mo_slot_25 : decode prog_13_method_45_code 25 = .ok (.iconst 0, 1) := by decide +kernel
theorem d_Mo_slot_26 : decode prog_13_method_45_code 26 = .ok (.ireturn, 1) := by decide +kernel
theorem d_Mo_slot_27 : decode prog_13_method_45_code 27 = .ok (.aload_n 0, 1) := by decide +kernel
theorem d_Mo_slot_28 : decode prog_13_method_45_code 28 = .ok (.getfield 105, 3) := by decide +kernel
theorem d_Mo_slot_31 : decode prog_13_method_45_code 31 = .ok (.ifCond .eq 24, 3) := by decide +kernel
theorem d_Mo_slot_34 : decode prog_13_method_45_code 34 = .ok (.aload_n 0, 1) := by decide +kernel
theorem d_Mo_slot_35 : decode prog_13_method_45_code 35 = .ok (.getfield 84, 3) := by decide +kernel
theorem d_Mo_slot_38 : decode prog_13_method_45_code 38 = .ok (.iconst 2, 1) := by decide +kernel
theorem d_Mo_slot_39 : decode prog_13_method_45_code 39 = .ok (.iload_n 1, 1) := by decide +kernel
theorem d_Mo_slot_40 : decode prog_13_method_45_code 40 = .ok (.imul, 1) := by decide +kernel
theorem d_Mo_slot_41 : decode prog_13_method_45_code 41 = .ok (.iload_n 2, 1) := by decide +kernel
theorem d_Mo_slot_42 : decode prog_13_method_45_code 42 = .ok (.ifCond .eq 7, 3) := by decide +kernel
theorem d_Mo_slot_45 : decode prog_13_method_45_code 45 = .ok (.iconst 1, 1) := by decide +kernel
theorem d_Mo_slot_46 : decode prog_13_method_45_code 46 = .ok (.goto 4, 3) := by decide +kernel
theorem d_Mo_slot_49 : decode prog_13_method_45_code 49 = .ok (.iconst 0, 1) := by decide +kernel
theorem d_Mo_slot_50 : decode prog_13_method_45_code 50 = .ok (.iadd, 1) := by decide +kernel
theorem d_Mo_slot_51 : decode prog_13_method_45_code 51 = .ok (.iaload, 1) := by decide +kernel
theorem d_Mo_slot_52 : decode prog_13_method_45_code 52 = .ok (.goto 4, 3) := by decide +kernel
theorem d_Mo_slot_55 : decode prog_13_method_45_code 55 = .ok (.iconst (-1), 1) := by decide +kernel
theorem d_Mo_slot_56 : decode prog_13_method_45_code 56 = .ok (.ireturn, 1) := by decide +kernel
theorem M_Mo_slot : lt_M0 m_Mo_slot 2 := ⟨lt_m5 221 rfl rfl, lt_m1 13 rfl rfl, ⟨by decide +kernel, by decide +kernel, by decide +kernel⟩, by decide⟩
theorem in_Mo_slot : Cond.instanceMethod m_Mo_slot.1 ∈ lt_T := lt_m5 219 rfl rfl
theorem se_Mo_slot : Cond.selects "LinearSearchModel" m_Mo_slot.1 m_Mo_slot.1 ∈ lt_T := lt_m5 220 rfl rfl
abbrev m_Mo_work : lt_M := (⟨"LinearSearchModel", "work", "()I"⟩, prog_13_method_46_code, 1, (some .int))
theorem d_Mo_work_0 : decode prog_13_method_46_code 0 = .ok (.aload_n 0, 1) := by decide +kernel
theorem d_Mo_work_1 : decode prog_13_method_46_code 1 = .ok (.iconst 0, 1) := by decide +kernel
theorem d_Mo_work_2 : decode prog_13_method_46_code 2 = .ok (.putfield 102, 3) := by decide +kernel
theorem d_Mo_work_5 : decode prog_13_method_46_code 5 = .ok (.aload_n 0, 1) := by decide +kernel
theorem d_Mo_work_6 : decode prog_13_method_46_code 6 = .ok (.getfield 81, 3) := by decide +kernel
theorem d_Mo_work_9 : decode prog_13_method_46_code 9 = .ok (.ireturn, 1) := by decide +kernel
theorem M_Mo_work : lt_M0 m_Mo_work 0 := ⟨lt_m5 225 rfl rfl, lt_m1 13 rfl rfl, ⟨by decide +kernel, by decide +kernel, by decide +kernel⟩, by decide⟩
theorem in_Mo_work : Cond.instanceMethod m_Mo_work.1 ∈ lt_T := lt_m5 223 rfl rfl
theorem se_Mo_work : Cond.selects "LinearSearchModel" m_Mo_work.1 m_Mo_work.1 ∈ lt_T := lt_m5 224 rfl rfl
abbrev m_Mo_matcher : lt_M := (⟨"LinearSearchModel", "matcher", "()I"⟩, prog_13_method_47_code, 1, (some .int))
theorem d_Mo_matcher_0 : decode prog_13_method_47_code 0 = .ok (.aload_n 0, 1) := by decide +kernel
theorem d_Mo_matcher_1 : decode prog_13_method_47_code 1 = .ok (.iconst 0, 1) := by decide +kernel
theorem d_Mo_matcher_2 : decode prog_13_method_47_code 2 = .ok (.putfield 102, 3) := by decide +kernel
theorem d_Mo_matcher_5 : decode prog_13_method_47_code 5 = .ok (.aload_n 0, 1) := by decide +kernel
theorem d_Mo_matcher_6 : decode prog_13_method_47_code 6 = .ok (.getfield 77, 3) := by decide +kernel
theorem d_Mo_matcher_9 : decode prog_13_method_47_code 9 = .ok (.ireturn, 1) := by decide +kernel
theorem M_Mo_matcher : lt_M0 m_Mo_matcher 0 := ⟨lt_m5 229 rfl rfl, lt_m1 13 rfl rfl, ⟨by decide +kernel, by decide +kernel, by decide +kernel⟩, by decide⟩
theorem in_Mo_matcher : Cond.instanceMethod m_Mo_matcher.1 ∈ lt_T := lt_m5 227 rfl rfl
theorem se_Mo_matcher : Cond.selects "LinearSearchModel" m_Mo_matcher.1 m_Mo_matcher.1 ∈ lt_T := lt_m5 228 rfl rfl
abbrev m_Mo_states : lt_M := (⟨"LinearSearchModel", "states", "()I"⟩, prog_13_method_48_code, 1, (some .int))
theorem d_Mo_states_0 : decode prog_13_method_48_code 0 = .ok (.aload_n 0, 1) := by decide +kernel
theorem d_Mo_states_1 : decode prog_13_method_48_code 1 = .ok (.iconst 0, 1) := by decide +kernel
theorem d_Mo_states_2 : decode prog_13_method_48_code 2 = .ok (.putfield 102, 3) := by decide +kernel
theorem d_Mo_states_5 : decode prog_13_method_48_code 5 = .ok (.aload_n 0, 1) := by decide +kernel
theorem d_Mo_states_6 : decode prog_13_method_48_code 6 = .ok (.getfield 151, 3) := by decide +kernel
theorem d_Mo_states_9 : decode prog_13_method_48_code 9 = .ok (.ireturn, 1) := by decide +kernel
theorem M_Mo_states : lt_M0 m_Mo_states 0 := ⟨lt_m5 233 rfl rfl, lt_m1 13 rfl rfl, ⟨by decide +kernel, by decide +kernel, by decide +kernel⟩, by decide⟩
theorem in_Mo_states : Cond.instanceMethod m_Mo_states.1 ∈ lt_T := lt_m5 231 rfl rfl
theorem se_Mo_states : Cond.selects "LinearSearchModel" m_Mo_states.1 m_Mo_states.1 ∈ lt_T := lt_m5 232 rfl rfl
abbrev m_Mo_flushes : lt_M := (⟨"LinearSearchModel", "flushes", "()I"⟩, prog_13_method_49_code, 1, (some .int))
theorem d_Mo_flushes_0 : decode prog_13_method_49_code 0 = .ok (.aload_n 0, 1) := by decide +kernel
theorem d_Mo_flushes_1 : decode prog_13_method_49_code 1 = .ok (.iconst 0, 1) := by decide +kernel
theorem d_Mo_flushes_2 : decode prog_13_method_49_code 2 = .ok (.putfield 102, 3) := by decide +kernel
theorem d_Mo_flushes_5 : decode prog_13_method_49_code 5 = .ok (.aload_n 0, 1) := by decide +kernel
theorem d_Mo_flushes_6 : decode prog_13_method_49_code 6 = .ok (.getfield 154, 3) := by decide +kernel
theorem d_Mo_flushes_9 : decode prog_13_method_49_code 9 = .ok (.ireturn, 1) := by decide +kernel
theorem M_Mo_flushes : lt_M0 m_Mo_flushes 0 := ⟨lt_m5 237 rfl rfl, lt_m1 13 rfl rfl, ⟨by decide +kernel, by decide +kernel, by decide +kernel⟩, by decide⟩
theorem in_Mo_flushes : Cond.instanceMethod m_Mo_flushes.1 ∈ lt_T := lt_m5 235 rfl rfl
theorem se_Mo_flushes : Cond.selects "LinearSearchModel" m_Mo_flushes.1 m_Mo_flushes.1 ∈ lt_T := lt_m5 236 rfl rfl
abbrev m_Mo_breaks : lt_M := (⟨"LinearSearchModel", "breaks", "()I"⟩, prog_13_method_50_code, 6, (some .int))
theorem d_Mo_breaks_0 : decode prog_13_method_50_code 0 = .ok (.aload_n 0, 1) := by decide +kernel
theorem d_Mo_breaks_1 : decode prog_13_method_50_code 1 = .ok (.aload_n 0, 1) := by decide +kernel
theorem d_Mo_breaks_2 : decode prog_13_method_50_code 2 = .ok (.getfield 148, 3) := by decide +kernel
theorem d_Mo_breaks_5 : decode prog_13_method_50_code 5 = .ok (.ifCond .ne 7, 3) := by decide +kernel
theorem d_Mo_breaks_8 : decode prog_13_method_50_code 8 = .ok (.iconst 1, 1) := by decide +kernel
theorem d_Mo_breaks_9 : decode prog_13_method_50_code 9 = .ok (.goto 4, 3) := by decide +kernel
theorem d_Mo_breaks_12 : decode prog_13_method_50_code 12 = .ok (.iconst 0, 1) := by decide +kernel
theorem d_Mo_breaks_13 : decode prog_13_method_50_code 13 = .ok (.putfield 102, 3) := by decide +kernel
theorem d_Mo_breaks_16 : decode prog_13_method_50_code 16 = .ok (.aload_n 0, 1) := by decide +kernel
theorem d_Mo_breaks_17 : decode prog_13_method_50_code 17 = .ok (.getfield 102, 3) := by decide +kernel
theorem d_Mo_breaks_20 : decode prog_13_method_50_code 20 = .ok (.ifCond .le 5, 3) := by decide +kernel
theorem d_Mo_breaks_23 : decode prog_13_method_50_code 23 = .ok (.iconst 0, 1) := by decide +kernel
theorem d_Mo_breaks_24 : decode prog_13_method_50_code 24 = .ok (.ireturn, 1) := by decide +kernel
theorem d_Mo_breaks_25 : decode prog_13_method_50_code 25 = .ok (.aload_n 0, 1) := by decide +kernel
theorem d_Mo_breaks_26 : decode prog_13_method_50_code 26 = .ok (.getfield 105, 3) := by decide +kernel
theorem d_Mo_breaks_29 : decode prog_13_method_50_code 29 = .ok (.istore_n 1, 1) := by decide +kernel
theorem d_Mo_breaks_30 : decode prog_13_method_50_code 30 = .ok (.iconst 0, 1) := by decide +kernel
theorem d_Mo_breaks_31 : decode prog_13_method_50_code 31 = .ok (.istore_n 2, 1) := by decide +kernel
theorem d_Mo_breaks_32 : decode prog_13_method_50_code 32 = .ok (.iload_n 2, 1) := by decide +kernel
theorem d_Mo_breaks_33 : decode prog_13_method_50_code 33 = .ok (.bipush 8, 2) := by decide +kernel
theorem d_Mo_breaks_35 : decode prog_13_method_50_code 35 = .ok (.if_icmp .ge 21, 3) := by decide +kernel
theorem d_Mo_breaks_38 : decode prog_13_method_50_code 38 = .ok (.aload_n 0, 1) := by decide +kernel
theorem d_Mo_breaks_39 : decode prog_13_method_50_code 39 = .ok (.getfield 96, 3) := by decide +kernel
theorem d_Mo_breaks_42 : decode prog_13_method_50_code 42 = .ok (.iload_n 2, 1) := by decide +kernel
theorem d_Mo_breaks_43 : decode prog_13_method_50_code 43 = .ok (.aload_n 0, 1) := by decide +kernel
theorem d_Mo_breaks_44 : decode prog_13_method_50_code 44 = .ok (.getfield 84, 3) := by decide +kernel
theorem d_Mo_breaks_47 : decode prog_13_method_50_code 47 = .ok (.iload_n 2, 1) := by decide +kernel
theorem d_Mo_breaks_48 : decode prog_13_method_50_code 48 = .ok (.iaload, 1) := by decide +kernel
theorem d_Mo_breaks_49 : decode prog_13_method_50_code 49 = .ok (.iastore, 1) := by decide +kernel
theorem d_Mo_breaks_50 : decode prog_13_method_50_code 50 = .ok (.iinc 2 1, 3) := by decide +kernel
theorem d_Mo_breaks_53 : decode prog_13_method_50_code 53 = .ok (.goto (-21), 3) := by decide +kernel
theorem d_Mo_breaks_56 : decode prog_13_method_50_code 56 = .ok (.iconst 0, 1) := by decide +kernel
theorem d_Mo_breaks_57 : decode prog_13_method_50_code 57 = .ok (.istore_n 2, 1) := by decide +kernel
theorem d_Mo_breaks_58 : decode prog_13_method_50_code 58 = .ok (.iconst (-1), 1) := by decide +kernel
theorem d_Mo_breaks_59 : decode prog_13_method_50_code 59 = .ok (.istore_n 3, 1) := by decide +kernel
theorem d_Mo_breaks_60 : decode prog_13_method_50_code 60 = .ok (.iconst 0, 1) := by decide +kernel
theorem d_Mo_breaks_61 : decode prog_13_method_50_code 61 = .ok (.istore 4, 2) := by decide +kernel
theorem d_Mo_breaks_63 : decode prog_13_method_50_code 63 = .ok (.iload 4, 2) := by decide +kernel
theorem d_Mo_breaks_65 : decode prog_13_method_50_code 65 = .ok (.aload_n 0, 1) := by decide +kernel
theorem d_Mo_breaks_66 : decode prog_13_method_50_code 66 = .ok (.getfield 172, 3) := by decide +kernel
theorem d_Mo_breaks_69 : decode prog_13_method_50_code 69 = .ok (.if_icmp .gt 102, 3) := by decide +kernel
theorem d_Mo_breaks_72 : decode prog_13_method_50_code 72 = .ok (.aload_n 0, 1) := by decide +kernel
theorem d_Mo_breaks_73 : decode prog_13_method_50_code 73 = .ok (.iload 4, 2) := by decide +kernel
theorem d_Mo_breaks_75 : decode prog_13_method_50_code 75 = .ok (.iconst 0, 1) := by decide +kernel
theorem d_Mo_breaks_76 : decode prog_13_method_50_code 76 = .ok (.invokevirtual 251, 3) := by decide +kernel
theorem d_Mo_breaks_79 : decode prog_13_method_50_code 79 = .ok (.aload_n 0, 1) := by decide +kernel
theorem d_Mo_breaks_80 : decode prog_13_method_50_code 80 = .ok (.getfield 105, 3) := by decide +kernel
theorem d_Mo_breaks_83 : decode prog_13_method_50_code 83 = .ok (.ifCond .ne 14, 3) := by decide +kernel
theorem d_Mo_breaks_86 : decode prog_13_method_50_code 86 = .ok (.aload_n 0, 1) := by decide +kernel
theorem d_Mo_breaks_87 : decode prog_13_method_50_code 87 = .ok (.getfield 172, 3) := by decide +kernel
theorem d_Mo_breaks_90 : decode prog_13_method_50_code 90 = .ok (.iconst 1, 1) := by decide +kernel
theorem d_Mo_breaks_91 : decode prog_13_method_50_code 91 = .ok (.iadd, 1) := by decide +kernel
theorem d_Mo_breaks_92 : decode prog_13_method_50_code 92 = .ok (.istore 4, 2) := by decide +kernel
theorem d_Mo_breaks_94 : decode prog_13_method_50_code 94 = .ok (.goto (-31), 3) := by decide +kernel
theorem d_Mo_breaks_97 : decode prog_13_method_50_code 97 = .ok (.aload_n 0, 1) := by decide +kernel
theorem d_Mo_breaks_98 : decode prog_13_method_50_code 98 = .ok (.getfield 84, 3) := by decide +kernel
theorem d_Mo_breaks_101 : decode prog_13_method_50_code 101 = .ok (.iconst 0, 1) := by decide +kernel
theorem d_Mo_breaks_102 : decode prog_13_method_50_code 102 = .ok (.iaload, 1) := by decide +kernel
theorem d_Mo_breaks_103 : decode prog_13_method_50_code 103 = .ok (.aload_n 0, 1) := by decide +kernel
theorem d_Mo_breaks_104 : decode prog_13_method_50_code 104 = .ok (.getfield 84, 3) := by decide +kernel
theorem d_Mo_breaks_107 : decode prog_13_method_50_code 107 = .ok (.iconst 1, 1) := by decide +kernel
theorem d_Mo_breaks_108 : decode prog_13_method_50_code 108 = .ok (.iaload, 1) := by decide +kernel
theorem d_Mo_breaks_109 : decode prog_13_method_50_code 109 = .ok (.if_icmp .ne 7, 3) := by decide +kernel
theorem d_Mo_breaks_112 : decode prog_13_method_50_code 112 = .ok (.iconst 1, 1) := by decide +kernel
theorem d_Mo_breaks_113 : decode prog_13_method_50_code 113 = .ok (.goto 4, 3) := by decide +kernel
theorem d_Mo_breaks_116 : decode prog_13_method_50_code 116 = .ok (.iconst 0, 1) := by decide +kernel
theorem d_Mo_breaks_117 : decode prog_13_method_50_code 117 = .ok (.istore 5, 2) := by decide +kernel
theorem d_Mo_breaks_119 : decode prog_13_method_50_code 119 = .ok (.iload_n 2, 1) := by decide +kernel
theorem d_Mo_breaks_120 : decode prog_13_method_50_code 120 = .ok (.iload 5, 2) := by decide +kernel
theorem d_Mo_breaks_122 : decode prog_13_method_50_code 122 = .ok (.ifCond .eq 17, 3) := by decide +kernel
theorem d_Mo_breaks_125 : decode prog_13_method_50_code 125 = .ok (.aload_n 0, 1) := by decide +kernel
theorem d_Mo_breaks_126 : decode prog_13_method_50_code 126 = .ok (.getfield 84, 3) := by decide +kernel
theorem d_Mo_breaks_129 : decode prog_13_method_50_code 129 = .ok (.iconst 0, 1) := by decide +kernel
theorem d_Mo_breaks_130 : decode prog_13_method_50_code 130 = .ok (.iaload, 1) := by decide +kernel
theorem d_Mo_breaks_131 : decode prog_13_method_50_code 131 = .ok (.iload_n 3, 1) := by decide +kernel
theorem d_Mo_breaks_132 : decode prog_13_method_50_code 132 = .ok (.if_icmp .ne 7, 3) := by decide +kernel
theorem d_Mo_breaks_135 : decode prog_13_method_50_code 135 = .ok (.iconst 0, 1) := by decide +kernel
theorem d_Mo_breaks_136 : decode prog_13_method_50_code 136 = .ok (.goto 4, 3) := by decide +kernel
theorem d_Mo_breaks_139 : decode prog_13_method_50_code 139 = .ok (.iconst 1, 1) := by decide +kernel
theorem d_Mo_breaks_140 : decode prog_13_method_50_code 140 = .ok (.iadd, 1) := by decide +kernel
theorem d_Mo_breaks_141 : decode prog_13_method_50_code 141 = .ok (.istore_n 2, 1) := by decide +kernel
theorem d_Mo_breaks_142 : decode prog_13_method_50_code 142 = .ok (.aload_n 0, 1) := by decide +kernel
theorem d_Mo_breaks_143 : decode prog_13_method_50_code 143 = .ok (.getfield 84, 3) := by decide +kernel
theorem d_Mo_breaks_146 : decode prog_13_method_50_code 146 = .ok (.iconst 1, 1) := by decide +kernel
theorem d_Mo_breaks_147 : decode prog_13_method_50_code 147 = .ok (.iaload, 1) := by decide +kernel
theorem d_Mo_breaks_148 : decode prog_13_method_50_code 148 = .ok (.istore_n 3, 1) := by decide +kernel
theorem d_Mo_breaks_149 : decode prog_13_method_50_code 149 = .ok (.aload_n 0, 1) := by decide +kernel
theorem d_Mo_breaks_150 : decode prog_13_method_50_code 150 = .ok (.getfield 84, 3) := by decide +kernel
theorem d_Mo_breaks_153 : decode prog_13_method_50_code 153 = .ok (.iconst 1, 1) := by decide +kernel
theorem d_Mo_breaks_154 : decode prog_13_method_50_code 154 = .ok (.iaload, 1) := by decide +kernel
theorem d_Mo_breaks_155 : decode prog_13_method_50_code 155 = .ok (.iload 5, 2) := by decide +kernel
theorem d_Mo_breaks_157 : decode prog_13_method_50_code 157 = .ok (.ifCond .eq 7, 3) := by decide +kernel
theorem d_Mo_breaks_160 : decode prog_13_method_50_code 160 = .ok (.iconst 1, 1) := by decide +kernel
theorem d_Mo_breaks_161 : decode prog_13_method_50_code 161 = .ok (.goto 4, 3) := by decide +kernel
theorem d_Mo_breaks_164 : decode prog_13_method_50_code 164 = .ok (.iconst 0, 1) := by decide +kernel
theorem d_Mo_breaks_165 : decode prog_13_method_50_code 165 = .ok (.iadd, 1) := by decide +kernel
theorem d_Mo_breaks_166 : decode prog_13_method_50_code 166 = .ok (.istore 4, 2) := by decide +kernel
theorem d_Mo_breaks_168 : decode prog_13_method_50_code 168 = .ok (.goto (-105), 3) := by decide +kernel
theorem d_Mo_breaks_171 : decode prog_13_method_50_code 171 = .ok (.aload_n 0, 1) := by decide +kernel
theorem d_Mo_breaks_172 : decode prog_13_method_50_code 172 = .ok (.iload_n 1, 1) := by decide +kernel
theorem d_Mo_breaks_173 : decode prog_13_method_50_code 173 = .ok (.putfield 105, 3) := by decide +kernel
theorem d_Mo_breaks_176 : decode prog_13_method_50_code 176 = .ok (.iconst 0, 1) := by decide +kernel
theorem d_Mo_breaks_177 : decode prog_13_method_50_code 177 = .ok (.istore 5, 2) := by decide +kernel
theorem d_Mo_breaks_179 : decode prog_13_method_50_code 179 = .ok (.iload 5, 2) := by decide +kernel
theorem d_Mo_breaks_181 : decode prog_13_method_50_code 181 = .ok (.bipush 8, 2) := by decide +kernel
theorem d_Mo_breaks_183 : decode prog_13_method_50_code 183 = .ok (.if_icmp .ge 23, 3) := by decide +kernel
theorem d_Mo_breaks_186 : decode prog_13_method_50_code 186 = .ok (.aload_n 0, 1) := by decide +kernel
theorem d_Mo_breaks_187 : decode prog_13_method_50_code 187 = .ok (.getfield 84, 3) := by decide +kernel
theorem d_Mo_breaks_190 : decode prog_13_method_50_code 190 = .ok (.iload 5, 2) := by decide +kernel
theorem d_Mo_breaks_192 : decode prog_13_method_50_code 192 = .ok (.aload_n 0, 1) := by decide +kernel
theorem d_Mo_breaks_193 : decode prog_13_method_50_code 193 = .ok (.getfield 96, 3) := by decide +kernel
theorem d_Mo_breaks_196 : decode prog_13_method_50_code 196 = .ok (.iload 5, 2) := by decide +kernel
theorem d_Mo_breaks_198 : decode prog_13_method_50_code 198 = .ok (.iaload, 1) := by decide +kernel
theorem d_Mo_breaks_199 : decode prog_13_method_50_code 199 = .ok (.iastore, 1) := by decide +kernel
theorem d_Mo_breaks_200 : decode prog_13_method_50_code 200 = .ok (.iinc 5 1, 3) := by decide +kernel
theorem d_Mo_breaks_203 : decode prog_13_method_50_code 203 = .ok (.goto (-24), 3) := by decide +kernel
theorem d_Mo_breaks_206 : decode prog_13_method_50_code 206 = .ok (.iload_n 2, 1) := by decide +kernel
theorem d_Mo_breaks_207 : decode prog_13_method_50_code 207 = .ok (.ireturn, 1) := by decide +kernel
theorem M_Mo_breaks : lt_M0 m_Mo_breaks 0 := ⟨lt_m6 1 rfl rfl, lt_m1 13 rfl rfl, ⟨by decide +kernel, by decide +kernel, by decide +kernel⟩, by decide⟩
theorem in_Mo_breaks : Cond.instanceMethod m_Mo_breaks.1 ∈ lt_T := lt_m5 239 rfl rfl
theorem se_Mo_breaks : Cond.selects "LinearSearchModel" m_Mo_breaks.1 m_Mo_breaks.1 ∈ lt_T := lt_m6 0 rfl rfl
