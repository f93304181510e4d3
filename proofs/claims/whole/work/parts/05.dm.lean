theorem dX6_init_0 : decode cX6_init 0 = .ok (.aload_n 0, 1) := by decide +kernel
theorem dX6_init_1 : decode cX6_init 1 = .ok (.invokespecial 1, 3) := by decide +kernel
theorem dX6_init_4 : decode cX6_init 4 = .ok (.aload_n 0, 1) := by decide +kernel
theorem dX6_init_5 : decode cX6_init 5 = .ok (.bipush 24, 2) := by decide +kernel
theorem dX6_init_7 : decode cX6_init 7 = .ok (.newarray .int, 2) := by decide +kernel
theorem dX6_init_9 : decode cX6_init 9 = .ok (.putfield 7, 3) := by decide +kernel
theorem dX6_init_12 : decode cX6_init 12 = .ok (.aload_n 0, 1) := by decide +kernel
theorem dX6_init_13 : decode cX6_init 13 = .ok (.sipush 384, 3) := by decide +kernel
theorem dX6_init_16 : decode cX6_init 16 = .ok (.newarray .int, 2) := by decide +kernel
theorem dX6_init_18 : decode cX6_init 18 = .ok (.putfield 13, 3) := by decide +kernel
theorem dX6_init_21 : decode cX6_init 21 = .ok (.aload_n 0, 1) := by decide +kernel
theorem dX6_init_22 : decode cX6_init 22 = .ok (.sipush 384, 3) := by decide +kernel
theorem dX6_init_25 : decode cX6_init 25 = .ok (.newarray .boolean, 2) := by decide +kernel
theorem dX6_init_27 : decode cX6_init 27 = .ok (.putfield 16, 3) := by decide +kernel
theorem dX6_init_30 : decode cX6_init 30 = .ok (.aload_n 0, 1) := by decide +kernel
theorem dX6_init_31 : decode cX6_init 31 = .ok (.bipush 24, 2) := by decide +kernel
theorem dX6_init_33 : decode cX6_init 33 = .ok (.newarray .int, 2) := by decide +kernel
theorem dX6_init_35 : decode cX6_init 35 = .ok (.putfield 20, 3) := by decide +kernel
theorem dX6_init_38 : decode cX6_init 38 = .ok (.aload_n 0, 1) := by decide +kernel
theorem dX6_init_39 : decode cX6_init 39 = .ok (.sipush 1536, 3) := by decide +kernel
theorem dX6_init_42 : decode cX6_init 42 = .ok (.newarray .int, 2) := by decide +kernel
theorem dX6_init_44 : decode cX6_init 44 = .ok (.putfield 23, 3) := by decide +kernel
theorem dX6_init_47 : decode cX6_init 47 = .ok (.aload_n 0, 1) := by decide +kernel
theorem dX6_init_48 : decode cX6_init 48 = .ok (.bipush 24, 2) := by decide +kernel
theorem dX6_init_50 : decode cX6_init 50 = .ok (.newarray .int, 2) := by decide +kernel
theorem dX6_init_52 : decode cX6_init 52 = .ok (.putfield 26, 3) := by decide +kernel
theorem dX6_init_55 : decode cX6_init 55 = .ok (.aload_n 0, 1) := by decide +kernel
theorem dX6_init_56 : decode cX6_init 56 = .ok (.bipush 24, 2) := by decide +kernel
theorem dX6_init_58 : decode cX6_init 58 = .ok (.newarray .int, 2) := by decide +kernel
theorem dX6_init_60 : decode cX6_init 60 = .ok (.putfield 29, 3) := by decide +kernel
theorem dX6_init_63 : decode cX6_init 63 = .ok (.aload_n 0, 1) := by decide +kernel
theorem dX6_init_64 : decode cX6_init 64 = .ok (.ldc 32, 2) := by decide +kernel
theorem dX6_init_66 : decode cX6_init 66 = .ok (.newarray .int, 2) := by decide +kernel
theorem dX6_init_68 : decode cX6_init 68 = .ok (.putfield 33, 3) := by decide +kernel
theorem dX6_init_71 : decode cX6_init 71 = .ok (.aload_n 0, 1) := by decide +kernel
theorem dX6_init_72 : decode cX6_init 72 = .ok (.sipush 1536, 3) := by decide +kernel
theorem dX6_init_75 : decode cX6_init 75 = .ok (.newarray .int, 2) := by decide +kernel
theorem dX6_init_77 : decode cX6_init 77 = .ok (.putfield 36, 3) := by decide +kernel
theorem dX6_init_80 : decode cX6_init 80 = .ok (.aload_n 0, 1) := by decide +kernel
theorem dX6_init_81 : decode cX6_init 81 = .ok (.ldc 39, 2) := by decide +kernel
theorem dX6_init_83 : decode cX6_init 83 = .ok (.newarray .int, 2) := by decide +kernel
theorem dX6_init_85 : decode cX6_init 85 = .ok (.putfield 40, 3) := by decide +kernel
theorem dX6_init_88 : decode cX6_init 88 = .ok (.aload_n 0, 1) := by decide +kernel
theorem dX6_init_89 : decode cX6_init 89 = .ok (.sipush 2000, 3) := by decide +kernel
theorem dX6_init_92 : decode cX6_init 92 = .ok (.newarray .int, 2) := by decide +kernel
theorem dX6_init_94 : decode cX6_init 94 = .ok (.putfield 43, 3) := by decide +kernel
theorem dX6_init_97 : decode cX6_init 97 = .ok (.aload_n 0, 1) := by decide +kernel
theorem dX6_init_98 : decode cX6_init 98 = .ok (.sipush 2000, 3) := by decide +kernel
theorem dX6_init_101 : decode cX6_init 101 = .ok (.newarray .int, 2) := by decide +kernel
theorem dX6_init_103 : decode cX6_init 103 = .ok (.putfield 46, 3) := by decide +kernel
theorem dX6_init_106 : decode cX6_init 106 = .ok (.aload_n 0, 1) := by decide +kernel
theorem dX6_init_107 : decode cX6_init 107 = .ok (.sipush 2000, 3) := by decide +kernel
theorem dX6_init_110 : decode cX6_init 110 = .ok (.newarray .int, 2) := by decide +kernel
theorem dX6_init_112 : decode cX6_init 112 = .ok (.putfield 49, 3) := by decide +kernel
theorem dX6_init_115 : decode cX6_init 115 = .ok (.aload_n 0, 1) := by decide +kernel
theorem dX6_init_116 : decode cX6_init 116 = .ok (.sipush 2001, 3) := by decide +kernel
theorem dX6_init_119 : decode cX6_init 119 = .ok (.newarray .int, 2) := by decide +kernel
theorem dX6_init_121 : decode cX6_init 121 = .ok (.putfield 52, 3) := by decide +kernel
theorem dX6_init_124 : decode cX6_init 124 = .ok (.aload_n 0, 1) := by decide +kernel
theorem dX6_init_125 : decode cX6_init 125 = .ok (.bipush 65, 2) := by decide +kernel
theorem dX6_init_127 : decode cX6_init 127 = .ok (.newarray .int, 2) := by decide +kernel
theorem dX6_init_129 : decode cX6_init 129 = .ok (.putfield 55, 3) := by decide +kernel
theorem dX6_init_132 : decode cX6_init 132 = .ok (.aload_n 0, 1) := by decide +kernel
theorem dX6_init_133 : decode cX6_init 133 = .ok (.bipush 65, 2) := by decide +kernel
theorem dX6_init_135 : decode cX6_init 135 = .ok (.newarray .int, 2) := by decide +kernel
theorem dX6_init_137 : decode cX6_init 137 = .ok (.putfield 58, 3) := by decide +kernel
theorem dX6_init_140 : decode cX6_init 140 = .ok (.aload_n 0, 1) := by decide +kernel
theorem dX6_init_141 : decode cX6_init 141 = .ok (.bipush 30, 2) := by decide +kernel
theorem dX6_init_143 : decode cX6_init 143 = .ok (.newarray .int, 2) := by decide +kernel
theorem dX6_init_145 : decode cX6_init 145 = .ok (.putfield 61, 3) := by decide +kernel
theorem dX6_init_148 : decode cX6_init 148 = .ok (.aload_n 0, 1) := by decide +kernel
theorem dX6_init_149 : decode cX6_init 149 = .ok (.bipush 30, 2) := by decide +kernel
theorem dX6_init_151 : decode cX6_init 151 = .ok (.newarray .int, 2) := by decide +kernel
theorem dX6_init_153 : decode cX6_init 153 = .ok (.putfield 64, 3) := by decide +kernel
theorem dX6_init_156 : decode cX6_init 156 = .ok (.aload_n 0, 1) := by decide +kernel
theorem dX6_init_157 : decode cX6_init 157 = .ok (.sipush 3001, 3) := by decide +kernel
theorem dX6_init_160 : decode cX6_init 160 = .ok (.newarray .int, 2) := by decide +kernel
theorem dX6_init_162 : decode cX6_init 162 = .ok (.putfield 67, 3) := by decide +kernel
theorem dX6_init_165 : decode cX6_init 165 = .ok (.aload_n 0, 1) := by decide +kernel
theorem dX6_init_166 : decode cX6_init 166 = .ok (.sipush 3001, 3) := by decide +kernel
theorem dX6_init_169 : decode cX6_init 169 = .ok (.newarray .int, 2) := by decide +kernel
theorem dX6_init_171 : decode cX6_init 171 = .ok (.putfield 70, 3) := by decide +kernel
theorem dX6_init_174 : decode cX6_init 174 = .ok (.aload_n 0, 1) := by decide +kernel
theorem dX6_init_175 : decode cX6_init 175 = .ok (.sipush 576, 3) := by decide +kernel
theorem dX6_init_178 : decode cX6_init 178 = .ok (.newarray .boolean, 2) := by decide +kernel
theorem dX6_init_180 : decode cX6_init 180 = .ok (.putfield 73, 3) := by decide +kernel
theorem dX6_init_183 : decode cX6_init 183 = .ok (.aload_n 0, 1) := by decide +kernel
theorem dX6_init_184 : decode cX6_init 184 = .ok (.bipush 24, 2) := by decide +kernel
theorem dX6_init_186 : decode cX6_init 186 = .ok (.newarray .int, 2) := by decide +kernel
theorem dX6_init_188 : decode cX6_init 188 = .ok (.putfield 76, 3) := by decide +kernel
theorem dX6_init_191 : decode cX6_init 191 = .ok (.aload_n 0, 1) := by decide +kernel
theorem dX6_init_192 : decode cX6_init 192 = .ok (.bipush 24, 2) := by decide +kernel
theorem dX6_init_194 : decode cX6_init 194 = .ok (.newarray .int, 2) := by decide +kernel
theorem dX6_init_196 : decode cX6_init 196 = .ok (.putfield 79, 3) := by decide +kernel
theorem dX6_init_199 : decode cX6_init 199 = .ok (.aload_n 0, 1) := by decide +kernel
theorem dX6_init_200 : decode cX6_init 200 = .ok (.invokevirtual 82, 3) := by decide +kernel
theorem dX6_init_203 : decode cX6_init 203 = .ok (.return_, 1) := by decide +kernel
theorem dX6_thrown_0 : decode cX6_thrown 0 = .ok (.aload_n 0, 1) := by decide +kernel
theorem dX6_thrown_1 : decode cX6_thrown 1 = .ok (.getfield 85, 3) := by decide +kernel
theorem dX6_thrown_4 : decode cX6_thrown 4 = .ok (.ireturn, 1) := by decide +kernel
theorem dX6_isIn_0 : decode cX6_isIn 0 = .ok (.iload_n 0, 1) := by decide +kernel
theorem dX6_isIn_1 : decode cX6_isIn 1 = .ok (.ifCond .lt 12, 3) := by decide +kernel
theorem dX6_isIn_4 : decode cX6_isIn 4 = .ok (.iload_n 0, 1) := by decide +kernel
theorem dX6_isIn_5 : decode cX6_isIn 5 = .ok (.iload_n 1, 1) := by decide +kernel
theorem dX6_isIn_6 : decode cX6_isIn 6 = .ok (.if_icmp .ge 7, 3) := by decide +kernel
theorem dX6_isIn_9 : decode cX6_isIn 9 = .ok (.iconst 1, 1) := by decide +kernel
theorem dX6_isIn_10 : decode cX6_isIn 10 = .ok (.goto 4, 3) := by decide +kernel
theorem dX6_isIn_13 : decode cX6_isIn 13 = .ok (.iconst 0, 1) := by decide +kernel
theorem dX6_isIn_14 : decode cX6_isIn 14 = .ok (.ireturn, 1) := by decide +kernel
theorem dX6_refused_0 : decode cX6_refused 0 = .ok (.aload_n 0, 1) := by decide +kernel
theorem dX6_refused_1 : decode cX6_refused 1 = .ok (.iload_n 1, 1) := by decide +kernel
theorem dX6_refused_2 : decode cX6_refused 2 = .ok (.ifCond .eq 7, 3) := by decide +kernel
theorem dX6_refused_5 : decode cX6_refused 5 = .ok (.iconst 1, 1) := by decide +kernel
theorem dX6_refused_6 : decode cX6_refused 6 = .ok (.goto 12, 3) := by decide +kernel
theorem dX6_refused_9 : decode cX6_refused 9 = .ok (.iload_n 2, 1) := by decide +kernel
theorem dX6_refused_10 : decode cX6_refused 10 = .ok (.ifCond .eq 7, 3) := by decide +kernel
theorem dX6_refused_13 : decode cX6_refused 13 = .ok (.iconst 2, 1) := by decide +kernel
theorem dX6_refused_14 : decode cX6_refused 14 = .ok (.goto 4, 3) := by decide +kernel
theorem dX6_refused_17 : decode cX6_refused 17 = .ok (.iconst 0, 1) := by decide +kernel
theorem dX6_refused_18 : decode cX6_refused 18 = .ok (.putfield 85, 3) := by decide +kernel
theorem dX6_refused_21 : decode cX6_refused 21 = .ok (.aload_n 0, 1) := by decide +kernel
theorem dX6_refused_22 : decode cX6_refused 22 = .ok (.getfield 85, 3) := by decide +kernel
theorem dX6_refused_25 : decode cX6_refused 25 = .ok (.ifCond .le 7, 3) := by decide +kernel
theorem dX6_refused_28 : decode cX6_refused 28 = .ok (.iconst 1, 1) := by decide +kernel
theorem dX6_refused_29 : decode cX6_refused 29 = .ok (.goto 4, 3) := by decide +kernel
theorem dX6_refused_32 : decode cX6_refused 32 = .ok (.iconst 0, 1) := by decide +kernel
theorem dX6_refused_33 : decode cX6_refused 33 = .ok (.ireturn, 1) := by decide +kernel
theorem dX6_module_0 : decode cX6_module 0 = .ok (.aload_n 0, 1) := by decide +kernel
theorem dX6_module_1 : decode cX6_module 1 = .ok (.aload_n 0, 1) := by decide +kernel
theorem dX6_module_2 : decode cX6_module 2 = .ok (.getfield 89, 3) := by decide +kernel
theorem dX6_module_5 : decode cX6_module 5 = .ok (.bipush 24, 2) := by decide +kernel
theorem dX6_module_7 : decode cX6_module 7 = .ok (.if_icmp .ne 7, 3) := by decide +kernel
theorem dX6_module_10 : decode cX6_module 10 = .ok (.iconst 1, 1) := by decide +kernel
theorem dX6_module_11 : decode cX6_module 11 = .ok (.goto 4, 3) := by decide +kernel
theorem dX6_module_14 : decode cX6_module 14 = .ok (.iconst 0, 1) := by decide +kernel
theorem dX6_module_15 : decode cX6_module 15 = .ok (.putfield 85, 3) := by decide +kernel
theorem dX6_module_18 : decode cX6_module 18 = .ok (.aload_n 0, 1) := by decide +kernel
theorem dX6_module_19 : decode cX6_module 19 = .ok (.getfield 85, 3) := by decide +kernel
theorem dX6_module_22 : decode cX6_module 22 = .ok (.ifCond .le 5, 3) := by decide +kernel
theorem dX6_module_25 : decode cX6_module 25 = .ok (.iconst 0, 1) := by decide +kernel
theorem dX6_module_26 : decode cX6_module 26 = .ok (.ireturn, 1) := by decide +kernel
theorem dX6_module_27 : decode cX6_module 27 = .ok (.aload_n 0, 1) := by decide +kernel
theorem dX6_module_28 : decode cX6_module 28 = .ok (.aload_n 0, 1) := by decide +kernel
theorem dX6_module_29 : decode cX6_module 29 = .ok (.getfield 89, 3) := by decide +kernel
theorem dX6_module_32 : decode cX6_module 32 = .ok (.invokevirtual 92, 3) := by decide +kernel
theorem dX6_module_35 : decode cX6_module 35 = .ok (.aload_n 0, 1) := by decide +kernel
theorem dX6_module_36 : decode cX6_module 36 = .ok (.dup, 1) := by decide +kernel
theorem dX6_module_37 : decode cX6_module 37 = .ok (.getfield 89, 3) := by decide +kernel
theorem dX6_module_40 : decode cX6_module 40 = .ok (.iconst 1, 1) := by decide +kernel
theorem dX6_module_41 : decode cX6_module 41 = .ok (.iadd, 1) := by decide +kernel
theorem dX6_module_42 : decode cX6_module 42 = .ok (.putfield 89, 3) := by decide +kernel
theorem dX6_module_45 : decode cX6_module 45 = .ok (.aload_n 0, 1) := by decide +kernel
theorem dX6_module_46 : decode cX6_module 46 = .ok (.getfield 89, 3) := by decide +kernel
theorem dX6_module_49 : decode cX6_module 49 = .ok (.iconst 1, 1) := by decide +kernel
theorem dX6_module_50 : decode cX6_module 50 = .ok (.isub, 1) := by decide +kernel
theorem dX6_module_51 : decode cX6_module 51 = .ok (.ireturn, 1) := by decide +kernel
theorem dX6_begin_0 : decode cX6_begin 0 = .ok (.aload_n 0, 1) := by decide +kernel
theorem dX6_begin_1 : decode cX6_begin 1 = .ok (.getfield 7, 3) := by decide +kernel
theorem dX6_begin_4 : decode cX6_begin 4 = .ok (.iload_n 1, 1) := by decide +kernel
theorem dX6_begin_5 : decode cX6_begin 5 = .ok (.iconst 0, 1) := by decide +kernel
theorem dX6_begin_6 : decode cX6_begin 6 = .ok (.iastore, 1) := by decide +kernel
theorem dX6_begin_7 : decode cX6_begin 7 = .ok (.aload_n 0, 1) := by decide +kernel
theorem dX6_begin_8 : decode cX6_begin 8 = .ok (.getfield 20, 3) := by decide +kernel
theorem dX6_begin_11 : decode cX6_begin 11 = .ok (.iload_n 1, 1) := by decide +kernel
theorem dX6_begin_12 : decode cX6_begin 12 = .ok (.iconst 0, 1) := by decide +kernel
theorem dX6_begin_13 : decode cX6_begin 13 = .ok (.iastore, 1) := by decide +kernel
theorem dX6_begin_14 : decode cX6_begin 14 = .ok (.aload_n 0, 1) := by decide +kernel
theorem dX6_begin_15 : decode cX6_begin 15 = .ok (.getfield 26, 3) := by decide +kernel
theorem dX6_begin_18 : decode cX6_begin 18 = .ok (.iload_n 1, 1) := by decide +kernel
theorem dX6_begin_19 : decode cX6_begin 19 = .ok (.iconst 0, 1) := by decide +kernel
theorem dX6_begin_20 : decode cX6_begin 20 = .ok (.iastore, 1) := by decide +kernel
theorem dX6_begin_21 : decode cX6_begin 21 = .ok (.aload_n 0, 1) := by decide +kernel
theorem dX6_begin_22 : decode cX6_begin 22 = .ok (.dup, 1) := by decide +kernel
theorem dX6_begin_23 : decode cX6_begin 23 = .ok (.getfield 96, 3) := by decide +kernel
theorem dX6_begin_26 : decode cX6_begin 26 = .ok (.iconst 1, 1) := by decide +kernel
theorem dX6_begin_27 : decode cX6_begin 27 = .ok (.iadd, 1) := by decide +kernel
theorem dX6_begin_28 : decode cX6_begin 28 = .ok (.putfield 96, 3) := by decide +kernel
theorem dX6_begin_31 : decode cX6_begin 31 = .ok (.aload_n 0, 1) := by decide +kernel
theorem dX6_begin_32 : decode cX6_begin 32 = .ok (.getfield 29, 3) := by decide +kernel
theorem dX6_begin_35 : decode cX6_begin 35 = .ok (.iload_n 1, 1) := by decide +kernel
theorem dX6_begin_36 : decode cX6_begin 36 = .ok (.aload_n 0, 1) := by decide +kernel
theorem dX6_begin_37 : decode cX6_begin 37 = .ok (.getfield 96, 3) := by decide +kernel
theorem dX6_begin_40 : decode cX6_begin 40 = .ok (.iastore, 1) := by decide +kernel
theorem dX6_begin_41 : decode cX6_begin 41 = .ok (.iconst 0, 1) := by decide +kernel
theorem dX6_begin_42 : decode cX6_begin 42 = .ok (.istore_n 2, 1) := by decide +kernel
theorem dX6_begin_43 : decode cX6_begin 43 = .ok (.iload_n 2, 1) := by decide +kernel
theorem dX6_begin_44 : decode cX6_begin 44 = .ok (.sipush 8320, 3) := by decide +kernel
theorem dX6_begin_47 : decode cX6_begin 47 = .ok (.if_icmp .ge 22, 3) := by decide +kernel
theorem dX6_begin_50 : decode cX6_begin 50 = .ok (.aload_n 0, 1) := by decide +kernel
theorem dX6_begin_51 : decode cX6_begin 51 = .ok (.getfield 33, 3) := by decide +kernel
theorem dX6_begin_54 : decode cX6_begin 54 = .ok (.sipush 8320, 3) := by decide +kernel
theorem dX6_begin_57 : decode cX6_begin 57 = .ok (.iload_n 1, 1) := by decide +kernel
theorem dX6_begin_58 : decode cX6_begin 58 = .ok (.imul, 1) := by decide +kernel
theorem dX6_begin_59 : decode cX6_begin 59 = .ok (.iload_n 2, 1) := by decide +kernel
theorem dX6_begin_60 : decode cX6_begin 60 = .ok (.iadd, 1) := by decide +kernel
theorem dX6_begin_61 : decode cX6_begin 61 = .ok (.iconst (-1), 1) := by decide +kernel
theorem dX6_begin_62 : decode cX6_begin 62 = .ok (.iastore, 1) := by decide +kernel
theorem dX6_begin_63 : decode cX6_begin 63 = .ok (.iinc 2 1, 3) := by decide +kernel
theorem dX6_begin_66 : decode cX6_begin 66 = .ok (.goto (-23), 3) := by decide +kernel
theorem dX6_begin_69 : decode cX6_begin 69 = .ok (.iconst 0, 1) := by decide +kernel
theorem dX6_begin_70 : decode cX6_begin 70 = .ok (.istore_n 2, 1) := by decide +kernel
theorem dX6_begin_71 : decode cX6_begin 71 = .ok (.iload_n 2, 1) := by decide +kernel
theorem dX6_begin_72 : decode cX6_begin 72 = .ok (.bipush 64, 2) := by decide +kernel
theorem dX6_begin_74 : decode cX6_begin 74 = .ok (.if_icmp .ge 21, 3) := by decide +kernel
theorem dX6_begin_77 : decode cX6_begin 77 = .ok (.aload_n 0, 1) := by decide +kernel
theorem dX6_begin_78 : decode cX6_begin 78 = .ok (.getfield 36, 3) := by decide +kernel
theorem dX6_begin_81 : decode cX6_begin 81 = .ok (.bipush 64, 2) := by decide +kernel
theorem dX6_begin_83 : decode cX6_begin 83 = .ok (.iload_n 1, 1) := by decide +kernel
theorem dX6_begin_84 : decode cX6_begin 84 = .ok (.imul, 1) := by decide +kernel
theorem dX6_begin_85 : decode cX6_begin 85 = .ok (.iload_n 2, 1) := by decide +kernel
theorem dX6_begin_86 : decode cX6_begin 86 = .ok (.iadd, 1) := by decide +kernel
theorem dX6_begin_87 : decode cX6_begin 87 = .ok (.iconst 0, 1) := by decide +kernel
theorem dX6_begin_88 : decode cX6_begin 88 = .ok (.iastore, 1) := by decide +kernel
theorem dX6_begin_89 : decode cX6_begin 89 = .ok (.iinc 2 1, 3) := by decide +kernel
theorem dX6_begin_92 : decode cX6_begin 92 = .ok (.goto (-21), 3) := by decide +kernel
theorem dX6_begin_95 : decode cX6_begin 95 = .ok (.return_, 1) := by decide +kernel
theorem dX6_isUsed_0 : decode cX6_isUsed 0 = .ok (.iconst 0, 1) := by decide +kernel
theorem dX6_isUsed_1 : decode cX6_isUsed 1 = .ok (.istore_n 2, 1) := by decide +kernel
theorem dX6_isUsed_2 : decode cX6_isUsed 2 = .ok (.iload_n 2, 1) := by decide +kernel
theorem dX6_isUsed_3 : decode cX6_isUsed 3 = .ok (.aload_n 0, 1) := by decide +kernel
theorem dX6_isUsed_4 : decode cX6_isUsed 4 = .ok (.getfield 89, 3) := by decide +kernel
theorem dX6_isUsed_7 : decode cX6_isUsed 7 = .ok (.if_icmp .ge 44, 3) := by decide +kernel
theorem dX6_isUsed_10 : decode cX6_isUsed 10 = .ok (.iconst 0, 1) := by decide +kernel
theorem dX6_isUsed_11 : decode cX6_isUsed 11 = .ok (.istore_n 3, 1) := by decide +kernel
theorem dX6_isUsed_12 : decode cX6_isUsed 12 = .ok (.iload_n 3, 1) := by decide +kernel
theorem dX6_isUsed_13 : decode cX6_isUsed 13 = .ok (.aload_n 0, 1) := by decide +kernel
theorem dX6_isUsed_14 : decode cX6_isUsed 14 = .ok (.getfield 20, 3) := by decide +kernel
theorem dX6_isUsed_17 : decode cX6_isUsed 17 = .ok (.iload_n 2, 1) := by decide +kernel
theorem dX6_isUsed_18 : decode cX6_isUsed 18 = .ok (.iaload, 1) := by decide +kernel
theorem dX6_isUsed_19 : decode cX6_isUsed 19 = .ok (.if_icmp .ge 26, 3) := by decide +kernel
theorem dX6_isUsed_22 : decode cX6_isUsed 22 = .ok (.aload_n 0, 1) := by decide +kernel
theorem dX6_isUsed_23 : decode cX6_isUsed 23 = .ok (.getfield 23, 3) := by decide +kernel
theorem dX6_isUsed_26 : decode cX6_isUsed 26 = .ok (.bipush 64, 2) := by decide +kernel
theorem dX6_isUsed_28 : decode cX6_isUsed 28 = .ok (.iload_n 2, 1) := by decide +kernel
theorem dX6_isUsed_29 : decode cX6_isUsed 29 = .ok (.imul, 1) := by decide +kernel
theorem dX6_isUsed_30 : decode cX6_isUsed 30 = .ok (.iload_n 3, 1) := by decide +kernel
theorem dX6_isUsed_31 : decode cX6_isUsed 31 = .ok (.iadd, 1) := by decide +kernel
theorem dX6_isUsed_32 : decode cX6_isUsed 32 = .ok (.iaload, 1) := by decide +kernel
theorem dX6_isUsed_33 : decode cX6_isUsed 33 = .ok (.iload_n 1, 1) := by decide +kernel
theorem dX6_isUsed_34 : decode cX6_isUsed 34 = .ok (.if_icmp .ne 5, 3) := by decide +kernel
theorem dX6_isUsed_37 : decode cX6_isUsed 37 = .ok (.iconst 1, 1) := by decide +kernel
theorem dX6_isUsed_38 : decode cX6_isUsed 38 = .ok (.ireturn, 1) := by decide +kernel
theorem dX6_isUsed_39 : decode cX6_isUsed 39 = .ok (.iinc 3 1, 3) := by decide +kernel
theorem dX6_isUsed_42 : decode cX6_isUsed 42 = .ok (.goto (-30), 3) := by decide +kernel
theorem dX6_isUsed_45 : decode cX6_isUsed 45 = .ok (.iinc 2 1, 3) := by decide +kernel
theorem dX6_isUsed_48 : decode cX6_isUsed 48 = .ok (.goto (-46), 3) := by decide +kernel
theorem dX6_isUsed_51 : decode cX6_isUsed 51 = .ok (.iconst 0, 1) := by decide +kernel
theorem dX6_isUsed_52 : decode cX6_isUsed 52 = .ok (.ireturn, 1) := by decide +kernel
theorem dX6_port_0 : decode cX6_port 0 = .ok (.iload_n 1, 1) := by decide +kernel
theorem dX6_port_1 : decode cX6_port 1 = .ok (.aload_n 0, 1) := by decide +kernel
theorem dX6_port_2 : decode cX6_port 2 = .ok (.getfield 89, 3) := by decide +kernel
theorem dX6_port_5 : decode cX6_port 5 = .ok (.invokestatic 99, 3) := by decide +kernel
theorem dX6_port_8 : decode cX6_port 8 = .ok (.istore 4, 2) := by decide +kernel
theorem dX6_port_10 : decode cX6_port 10 = .ok (.aload_n 0, 1) := by decide +kernel
theorem dX6_port_11 : decode cX6_port 11 = .ok (.iload 4, 2) := by decide +kernel
theorem dX6_port_13 : decode cX6_port 13 = .ok (.ifCond .ne 7, 3) := by decide +kernel
theorem dX6_port_16 : decode cX6_port 16 = .ok (.iconst 1, 1) := by decide +kernel
theorem dX6_port_17 : decode cX6_port 17 = .ok (.goto 42, 3) := by decide +kernel
theorem dX6_port_20 : decode cX6_port 20 = .ok (.aload_n 0, 1) := by decide +kernel
theorem dX6_port_21 : decode cX6_port 21 = .ok (.getfield 7, 3) := by decide +kernel
theorem dX6_port_24 : decode cX6_port 24 = .ok (.iload_n 1, 1) := by decide +kernel
theorem dX6_port_25 : decode cX6_port 25 = .ok (.iaload, 1) := by decide +kernel
theorem dX6_port_26 : decode cX6_port 26 = .ok (.bipush 16, 2) := by decide +kernel
theorem dX6_port_28 : decode cX6_port 28 = .ok (.if_icmp .eq 11, 3) := by decide +kernel
theorem dX6_port_31 : decode cX6_port 31 = .ok (.aload_n 0, 1) := by decide +kernel
theorem dX6_port_32 : decode cX6_port 32 = .ok (.iload_n 1, 1) := by decide +kernel
theorem dX6_port_33 : decode cX6_port 33 = .ok (.invokevirtual 103, 3) := by decide +kernel
theorem dX6_port_36 : decode cX6_port 36 = .ok (.ifCond .eq 7, 3) := by decide +kernel
theorem dX6_port_39 : decode cX6_port 39 = .ok (.iconst 2, 1) := by decide +kernel
theorem dX6_port_40 : decode cX6_port 40 = .ok (.goto 19, 3) := by decide +kernel
theorem dX6_port_43 : decode cX6_port 43 = .ok (.iload_n 2, 1) := by decide +kernel
theorem dX6_port_44 : decode cX6_port 44 = .ok (.iconst 1, 1) := by decide +kernel
theorem dX6_port_45 : decode cX6_port 45 = .ok (.if_icmp .lt 9, 3) := by decide +kernel
theorem dX6_port_48 : decode cX6_port 48 = .ok (.iload_n 2, 1) := by decide +kernel
theorem dX6_port_49 : decode cX6_port 49 = .ok (.bipush 8, 2) := by decide +kernel
theorem dX6_port_51 : decode cX6_port 51 = .ok (.if_icmp .le 7, 3) := by decide +kernel
theorem dX6_port_54 : decode cX6_port 54 = .ok (.iconst 3, 1) := by decide +kernel
theorem dX6_port_55 : decode cX6_port 55 = .ok (.goto 4, 3) := by decide +kernel
theorem dX6_port_58 : decode cX6_port 58 = .ok (.iconst 0, 1) := by decide +kernel
theorem dX6_port_59 : decode cX6_port 59 = .ok (.putfield 85, 3) := by decide +kernel
theorem dX6_port_62 : decode cX6_port 62 = .ok (.aload_n 0, 1) := by decide +kernel
theorem dX6_port_63 : decode cX6_port 63 = .ok (.getfield 85, 3) := by decide +kernel
theorem dX6_port_66 : decode cX6_port 66 = .ok (.ifCond .le 5, 3) := by decide +kernel
theorem dX6_port_69 : decode cX6_port 69 = .ok (.iconst 0, 1) := by decide +kernel
theorem dX6_port_70 : decode cX6_port 70 = .ok (.ireturn, 1) := by decide +kernel
theorem dX6_port_71 : decode cX6_port 71 = .ok (.aload_n 0, 1) := by decide +kernel
theorem dX6_port_72 : decode cX6_port 72 = .ok (.getfield 13, 3) := by decide +kernel
theorem dX6_port_75 : decode cX6_port 75 = .ok (.bipush 16, 2) := by decide +kernel
theorem dX6_port_77 : decode cX6_port 77 = .ok (.iload_n 1, 1) := by decide +kernel
theorem dX6_port_78 : decode cX6_port 78 = .ok (.imul, 1) := by decide +kernel
theorem dX6_port_79 : decode cX6_port 79 = .ok (.aload_n 0, 1) := by decide +kernel
theorem dX6_port_80 : decode cX6_port 80 = .ok (.getfield 7, 3) := by decide +kernel
theorem dX6_port_83 : decode cX6_port 83 = .ok (.iload_n 1, 1) := by decide +kernel
theorem dX6_port_84 : decode cX6_port 84 = .ok (.iaload, 1) := by decide +kernel
theorem dX6_port_85 : decode cX6_port 85 = .ok (.iadd, 1) := by decide +kernel
theorem dX6_port_86 : decode cX6_port 86 = .ok (.iload_n 2, 1) := by decide +kernel
theorem dX6_port_87 : decode cX6_port 87 = .ok (.iastore, 1) := by decide +kernel
theorem dX6_port_88 : decode cX6_port 88 = .ok (.aload_n 0, 1) := by decide +kernel
theorem dX6_port_89 : decode cX6_port 89 = .ok (.getfield 16, 3) := by decide +kernel
theorem dX6_port_92 : decode cX6_port 92 = .ok (.bipush 16, 2) := by decide +kernel
theorem dX6_port_94 : decode cX6_port 94 = .ok (.iload_n 1, 1) := by decide +kernel
theorem dX6_port_95 : decode cX6_port 95 = .ok (.imul, 1) := by decide +kernel
theorem dX6_port_96 : decode cX6_port 96 = .ok (.aload_n 0, 1) := by decide +kernel
theorem dX6_port_97 : decode cX6_port 97 = .ok (.getfield 7, 3) := by decide +kernel
theorem dX6_port_100 : decode cX6_port 100 = .ok (.iload_n 1, 1) := by decide +kernel
theorem dX6_port_101 : decode cX6_port 101 = .ok (.iaload, 1) := by decide +kernel
theorem dX6_port_102 : decode cX6_port 102 = .ok (.iadd, 1) := by decide +kernel
theorem dX6_port_103 : decode cX6_port 103 = .ok (.iload_n 3, 1) := by decide +kernel
theorem dX6_port_104 : decode cX6_port 104 = .ok (.bastore, 1) := by decide +kernel
theorem dX6_port_105 : decode cX6_port 105 = .ok (.aload_n 0, 1) := by decide +kernel
theorem dX6_port_106 : decode cX6_port 106 = .ok (.getfield 7, 3) := by decide +kernel
theorem dX6_port_109 : decode cX6_port 109 = .ok (.iload_n 1, 1) := by decide +kernel
theorem dX6_port_110 : decode cX6_port 110 = .ok (.dup2, 1) := by decide +kernel
theorem dX6_port_111 : decode cX6_port 111 = .ok (.iaload, 1) := by decide +kernel
theorem dX6_port_112 : decode cX6_port 112 = .ok (.iconst 1, 1) := by decide +kernel
theorem dX6_port_113 : decode cX6_port 113 = .ok (.iadd, 1) := by decide +kernel
theorem dX6_port_114 : decode cX6_port 114 = .ok (.iastore, 1) := by decide +kernel
theorem dX6_port_115 : decode cX6_port 115 = .ok (.aload_n 0, 1) := by decide +kernel
theorem dX6_port_116 : decode cX6_port 116 = .ok (.getfield 7, 3) := by decide +kernel
theorem dX6_port_119 : decode cX6_port 119 = .ok (.iload_n 1, 1) := by decide +kernel
theorem dX6_port_120 : decode cX6_port 120 = .ok (.iaload, 1) := by decide +kernel
theorem dX6_port_121 : decode cX6_port 121 = .ok (.iconst 1, 1) := by decide +kernel
theorem dX6_port_122 : decode cX6_port 122 = .ok (.isub, 1) := by decide +kernel
theorem dX6_port_123 : decode cX6_port 123 = .ok (.ireturn, 1) := by decide +kernel
theorem dX6_ownPins_0 : decode cX6_ownPins 0 = .ok (.iconst 0, 1) := by decide +kernel
theorem dX6_ownPins_1 : decode cX6_ownPins 1 = .ok (.istore_n 2, 1) := by decide +kernel
theorem dX6_ownPins_2 : decode cX6_ownPins 2 = .ok (.iconst 0, 1) := by decide +kernel
theorem dX6_ownPins_3 : decode cX6_ownPins 3 = .ok (.istore_n 3, 1) := by decide +kernel
theorem dX6_ownPins_4 : decode cX6_ownPins 4 = .ok (.iload_n 3, 1) := by decide +kernel
theorem dX6_ownPins_5 : decode cX6_ownPins 5 = .ok (.aload_n 0, 1) := by decide +kernel
theorem dX6_ownPins_6 : decode cX6_ownPins 6 = .ok (.getfield 7, 3) := by decide +kernel
theorem dX6_ownPins_9 : decode cX6_ownPins 9 = .ok (.iload_n 1, 1) := by decide +kernel
theorem dX6_ownPins_10 : decode cX6_ownPins 10 = .ok (.iaload, 1) := by decide +kernel
theorem dX6_ownPins_11 : decode cX6_ownPins 11 = .ok (.if_icmp .ge 23, 3) := by decide +kernel
theorem dX6_ownPins_14 : decode cX6_ownPins 14 = .ok (.iload_n 2, 1) := by decide +kernel
theorem dX6_ownPins_15 : decode cX6_ownPins 15 = .ok (.aload_n 0, 1) := by decide +kernel
theorem dX6_ownPins_16 : decode cX6_ownPins 16 = .ok (.getfield 13, 3) := by decide +kernel
theorem dX6_ownPins_19 : decode cX6_ownPins 19 = .ok (.bipush 16, 2) := by decide +kernel
theorem dX6_ownPins_21 : decode cX6_ownPins 21 = .ok (.iload_n 1, 1) := by decide +kernel
theorem dX6_ownPins_22 : decode cX6_ownPins 22 = .ok (.imul, 1) := by decide +kernel
theorem dX6_ownPins_23 : decode cX6_ownPins 23 = .ok (.iload_n 3, 1) := by decide +kernel
theorem dX6_ownPins_24 : decode cX6_ownPins 24 = .ok (.iadd, 1) := by decide +kernel
theorem dX6_ownPins_25 : decode cX6_ownPins 25 = .ok (.iaload, 1) := by decide +kernel
theorem dX6_ownPins_26 : decode cX6_ownPins 26 = .ok (.iadd, 1) := by decide +kernel
theorem dX6_ownPins_27 : decode cX6_ownPins 27 = .ok (.istore_n 2, 1) := by decide +kernel
theorem dX6_ownPins_28 : decode cX6_ownPins 28 = .ok (.iinc 3 1, 3) := by decide +kernel
theorem dX6_ownPins_31 : decode cX6_ownPins 31 = .ok (.goto (-27), 3) := by decide +kernel
theorem dX6_ownPins_34 : decode cX6_ownPins 34 = .ok (.iload_n 2, 1) := by decide +kernel
theorem dX6_ownPins_35 : decode cX6_ownPins 35 = .ok (.ireturn, 1) := by decide +kernel
theorem dX6_isOut_0 : decode cX6_isOut 0 = .ok (.iload_n 2, 1) := by decide +kernel
theorem dX6_isOut_1 : decode cX6_isOut 1 = .ok (.istore_n 3, 1) := by decide +kernel
theorem dX6_isOut_2 : decode cX6_isOut 2 = .ok (.iconst 0, 1) := by decide +kernel
theorem dX6_isOut_3 : decode cX6_isOut 3 = .ok (.istore 4, 2) := by decide +kernel
theorem dX6_isOut_5 : decode cX6_isOut 5 = .ok (.iload_n 3, 1) := by decide +kernel
theorem dX6_isOut_6 : decode cX6_isOut 6 = .ok (.aload_n 0, 1) := by decide +kernel
theorem dX6_isOut_7 : decode cX6_isOut 7 = .ok (.getfield 13, 3) := by decide +kernel
theorem dX6_isOut_10 : decode cX6_isOut 10 = .ok (.bipush 16, 2) := by decide +kernel
theorem dX6_isOut_12 : decode cX6_isOut 12 = .ok (.iload_n 1, 1) := by decide +kernel
theorem dX6_isOut_13 : decode cX6_isOut 13 = .ok (.imul, 1) := by decide +kernel
theorem dX6_isOut_14 : decode cX6_isOut 14 = .ok (.iload 4, 2) := by decide +kernel
theorem dX6_isOut_16 : decode cX6_isOut 16 = .ok (.iadd, 1) := by decide +kernel
theorem dX6_isOut_17 : decode cX6_isOut 17 = .ok (.iaload, 1) := by decide +kernel
theorem dX6_isOut_18 : decode cX6_isOut 18 = .ok (.if_icmp .lt 24, 3) := by decide +kernel
theorem dX6_isOut_21 : decode cX6_isOut 21 = .ok (.iload_n 3, 1) := by decide +kernel
theorem dX6_isOut_22 : decode cX6_isOut 22 = .ok (.aload_n 0, 1) := by decide +kernel
theorem dX6_isOut_23 : decode cX6_isOut 23 = .ok (.getfield 13, 3) := by decide +kernel
theorem dX6_isOut_26 : decode cX6_isOut 26 = .ok (.bipush 16, 2) := by decide +kernel
theorem dX6_isOut_28 : decode cX6_isOut 28 = .ok (.iload_n 1, 1) := by decide +kernel
theorem dX6_isOut_29 : decode cX6_isOut 29 = .ok (.imul, 1) := by decide +kernel
theorem dX6_isOut_30 : decode cX6_isOut 30 = .ok (.iload 4, 2) := by decide +kernel
theorem dX6_isOut_32 : decode cX6_isOut 32 = .ok (.iadd, 1) := by decide +kernel
theorem dX6_isOut_33 : decode cX6_isOut 33 = .ok (.iaload, 1) := by decide +kernel
theorem dX6_isOut_34 : decode cX6_isOut 34 = .ok (.isub, 1) := by decide +kernel
theorem dX6_isOut_35 : decode cX6_isOut 35 = .ok (.istore_n 3, 1) := by decide +kernel
theorem dX6_isOut_36 : decode cX6_isOut 36 = .ok (.iinc 4 1, 3) := by decide +kernel
theorem dX6_isOut_39 : decode cX6_isOut 39 = .ok (.goto (-34), 3) := by decide +kernel
theorem dX6_isOut_42 : decode cX6_isOut 42 = .ok (.aload_n 0, 1) := by decide +kernel
theorem dX6_isOut_43 : decode cX6_isOut 43 = .ok (.getfield 16, 3) := by decide +kernel
theorem dX6_isOut_46 : decode cX6_isOut 46 = .ok (.bipush 16, 2) := by decide +kernel
theorem dX6_isOut_48 : decode cX6_isOut 48 = .ok (.iload_n 1, 1) := by decide +kernel
theorem dX6_isOut_49 : decode cX6_isOut 49 = .ok (.imul, 1) := by decide +kernel
theorem dX6_isOut_50 : decode cX6_isOut 50 = .ok (.iload 4, 2) := by decide +kernel
theorem dX6_isOut_52 : decode cX6_isOut 52 = .ok (.iadd, 1) := by decide +kernel
theorem dX6_isOut_53 : decode cX6_isOut 53 = .ok (.baload, 1) := by decide +kernel
theorem dX6_isOut_54 : decode cX6_isOut 54 = .ok (.ireturn, 1) := by decide +kernel
theorem dX6_isWithin_0 : decode cX6_isWithin 0 = .ok (.iconst 0, 1) := by decide +kernel
theorem dX6_isWithin_1 : decode cX6_isWithin 1 = .ok (.istore_n 3, 1) := by decide +kernel
theorem dX6_isWithin_2 : decode cX6_isWithin 2 = .ok (.iload_n 3, 1) := by decide +kernel
theorem dX6_isWithin_3 : decode cX6_isWithin 3 = .ok (.aload_n 0, 1) := by decide +kernel
theorem dX6_isWithin_4 : decode cX6_isWithin 4 = .ok (.getfield 89, 3) := by decide +kernel
theorem dX6_isWithin_7 : decode cX6_isWithin 7 = .ok (.if_icmp .ge 25, 3) := by decide +kernel
theorem dX6_isWithin_10 : decode cX6_isWithin 10 = .ok (.aload_n 0, 1) := by decide +kernel
theorem dX6_isWithin_11 : decode cX6_isWithin 11 = .ok (.getfield 76, 3) := by decide +kernel
theorem dX6_isWithin_14 : decode cX6_isWithin 14 = .ok (.iload_n 3, 1) := by decide +kernel
theorem dX6_isWithin_15 : decode cX6_isWithin 15 = .ok (.iload_n 3, 1) := by decide +kernel
theorem dX6_isWithin_16 : decode cX6_isWithin 16 = .ok (.iload_n 2, 1) := by decide +kernel
theorem dX6_isWithin_17 : decode cX6_isWithin 17 = .ok (.if_icmp .ne 7, 3) := by decide +kernel
theorem dX6_isWithin_20 : decode cX6_isWithin 20 = .ok (.iconst 1, 1) := by decide +kernel
theorem dX6_isWithin_21 : decode cX6_isWithin 21 = .ok (.goto 4, 3) := by decide +kernel
theorem dX6_isWithin_24 : decode cX6_isWithin 24 = .ok (.iconst 0, 1) := by decide +kernel
theorem dX6_isWithin_25 : decode cX6_isWithin 25 = .ok (.iastore, 1) := by decide +kernel
theorem dX6_isWithin_26 : decode cX6_isWithin 26 = .ok (.iinc 3 1, 3) := by decide +kernel
theorem dX6_isWithin_29 : decode cX6_isWithin 29 = .ok (.goto (-27), 3) := by decide +kernel
theorem dX6_isWithin_32 : decode cX6_isWithin 32 = .ok (.iconst 1, 1) := by decide +kernel
theorem dX6_isWithin_33 : decode cX6_isWithin 33 = .ok (.istore_n 3, 1) := by decide +kernel
theorem dX6_isWithin_34 : decode cX6_isWithin 34 = .ok (.iload_n 3, 1) := by decide +kernel
theorem dX6_isWithin_35 : decode cX6_isWithin 35 = .ok (.ifCond .eq 101, 3) := by decide +kernel
theorem dX6_isWithin_38 : decode cX6_isWithin 38 = .ok (.iconst 0, 1) := by decide +kernel
theorem dX6_isWithin_39 : decode cX6_isWithin 39 = .ok (.istore_n 3, 1) := by decide +kernel
theorem dX6_isWithin_40 : decode cX6_isWithin 40 = .ok (.iconst 0, 1) := by decide +kernel
theorem dX6_isWithin_41 : decode cX6_isWithin 41 = .ok (.istore 4, 2) := by decide +kernel
theorem dX6_isWithin_43 : decode cX6_isWithin 43 = .ok (.iload 4, 2) := by decide +kernel
theorem dX6_isWithin_45 : decode cX6_isWithin 45 = .ok (.aload_n 0, 1) := by decide +kernel
theorem dX6_isWithin_46 : decode cX6_isWithin 46 = .ok (.getfield 89, 3) := by decide +kernel
theorem dX6_isWithin_49 : decode cX6_isWithin 49 = .ok (.if_icmp .ge 84, 3) := by decide +kernel
theorem dX6_isWithin_52 : decode cX6_isWithin 52 = .ok (.iconst 0, 1) := by decide +kernel
theorem dX6_isWithin_53 : decode cX6_isWithin 53 = .ok (.istore 5, 2) := by decide +kernel
theorem dX6_isWithin_55 : decode cX6_isWithin 55 = .ok (.iload 5, 2) := by decide +kernel
theorem dX6_isWithin_57 : decode cX6_isWithin 57 = .ok (.aload_n 0, 1) := by decide +kernel
theorem dX6_isWithin_58 : decode cX6_isWithin 58 = .ok (.getfield 20, 3) := by decide +kernel
theorem dX6_isWithin_61 : decode cX6_isWithin 61 = .ok (.iload 4, 2) := by decide +kernel
theorem dX6_isWithin_63 : decode cX6_isWithin 63 = .ok (.iaload, 1) := by decide +kernel
theorem dX6_isWithin_64 : decode cX6_isWithin 64 = .ok (.if_icmp .ge 63, 3) := by decide +kernel
theorem dX6_isWithin_67 : decode cX6_isWithin 67 = .ok (.aload_n 0, 1) := by decide +kernel
theorem dX6_isWithin_68 : decode cX6_isWithin 68 = .ok (.getfield 76, 3) := by decide +kernel
theorem dX6_isWithin_71 : decode cX6_isWithin 71 = .ok (.iload 4, 2) := by decide +kernel
theorem dX6_isWithin_73 : decode cX6_isWithin 73 = .ok (.iaload, 1) := by decide +kernel
theorem dX6_isWithin_74 : decode cX6_isWithin 74 = .ok (.iconst 1, 1) := by decide +kernel
theorem dX6_isWithin_75 : decode cX6_isWithin 75 = .ok (.if_icmp .ne 52, 3) := by decide +kernel
theorem dX6_isWithin_78 : decode cX6_isWithin 78 = .ok (.aload_n 0, 1) := by decide +kernel
theorem dX6_isWithin_79 : decode cX6_isWithin 79 = .ok (.getfield 23, 3) := by decide +kernel
theorem dX6_isWithin_82 : decode cX6_isWithin 82 = .ok (.bipush 64, 2) := by decide +kernel
theorem dX6_isWithin_84 : decode cX6_isWithin 84 = .ok (.iload 4, 2) := by decide +kernel
theorem dX6_isWithin_86 : decode cX6_isWithin 86 = .ok (.imul, 1) := by decide +kernel
theorem dX6_isWithin_87 : decode cX6_isWithin 87 = .ok (.iload 5, 2) := by decide +kernel
theorem dX6_isWithin_89 : decode cX6_isWithin 89 = .ok (.iadd, 1) := by decide +kernel
theorem dX6_isWithin_90 : decode cX6_isWithin 90 = .ok (.iaload, 1) := by decide +kernel
theorem dX6_isWithin_91 : decode cX6_isWithin 91 = .ok (.istore 6, 2) := by decide +kernel
theorem dX6_isWithin_93 : decode cX6_isWithin 93 = .ok (.iload_n 3, 1) := by decide +kernel
theorem dX6_isWithin_94 : decode cX6_isWithin 94 = .ok (.ifCond .ne 13, 3) := by decide +kernel
theorem dX6_isWithin_97 : decode cX6_isWithin 97 = .ok (.aload_n 0, 1) := by decide +kernel
theorem dX6_isWithin_98 : decode cX6_isWithin 98 = .ok (.getfield 76, 3) := by decide +kernel
theorem dX6_isWithin_101 : decode cX6_isWithin 101 = .ok (.iload 6, 2) := by decide +kernel
theorem dX6_isWithin_103 : decode cX6_isWithin 103 = .ok (.iaload, 1) := by decide +kernel
theorem dX6_isWithin_104 : decode cX6_isWithin 104 = .ok (.ifCond .ne 7, 3) := by decide +kernel
theorem dX6_isWithin_107 : decode cX6_isWithin 107 = .ok (.iconst 1, 1) := by decide +kernel
theorem dX6_isWithin_108 : decode cX6_isWithin 108 = .ok (.goto 4, 3) := by decide +kernel
theorem dX6_isWithin_111 : decode cX6_isWithin 111 = .ok (.iconst 0, 1) := by decide +kernel
theorem dX6_isWithin_112 : decode cX6_isWithin 112 = .ok (.istore_n 3, 1) := by decide +kernel
theorem dX6_isWithin_113 : decode cX6_isWithin 113 = .ok (.aload_n 0, 1) := by decide +kernel
theorem dX6_isWithin_114 : decode cX6_isWithin 114 = .ok (.getfield 76, 3) := by decide +kernel
theorem dX6_isWithin_117 : decode cX6_isWithin 117 = .ok (.iload 6, 2) := by decide +kernel
theorem dX6_isWithin_119 : decode cX6_isWithin 119 = .ok (.iconst 1, 1) := by decide +kernel
theorem dX6_isWithin_120 : decode cX6_isWithin 120 = .ok (.iastore, 1) := by decide +kernel
theorem dX6_isWithin_121 : decode cX6_isWithin 121 = .ok (.iinc 5 1, 3) := by decide +kernel
theorem dX6_isWithin_124 : decode cX6_isWithin 124 = .ok (.goto (-69), 3) := by decide +kernel
theorem dX6_isWithin_127 : decode cX6_isWithin 127 = .ok (.iinc 4 1, 3) := by decide +kernel
theorem dX6_isWithin_130 : decode cX6_isWithin 130 = .ok (.goto (-87), 3) := by decide +kernel
theorem dX6_isWithin_133 : decode cX6_isWithin 133 = .ok (.goto (-99), 3) := by decide +kernel
theorem dX6_isWithin_136 : decode cX6_isWithin 136 = .ok (.aload_n 0, 1) := by decide +kernel
theorem dX6_isWithin_137 : decode cX6_isWithin 137 = .ok (.getfield 76, 3) := by decide +kernel
theorem dX6_isWithin_140 : decode cX6_isWithin 140 = .ok (.iload_n 1, 1) := by decide +kernel
theorem dX6_isWithin_141 : decode cX6_isWithin 141 = .ok (.iaload, 1) := by decide +kernel
theorem dX6_isWithin_142 : decode cX6_isWithin 142 = .ok (.iconst 1, 1) := by decide +kernel
theorem dX6_isWithin_143 : decode cX6_isWithin 143 = .ok (.if_icmp .ne 7, 3) := by decide +kernel
theorem dX6_isWithin_146 : decode cX6_isWithin 146 = .ok (.iconst 1, 1) := by decide +kernel
theorem dX6_isWithin_147 : decode cX6_isWithin 147 = .ok (.goto 4, 3) := by decide +kernel
theorem dX6_isWithin_150 : decode cX6_isWithin 150 = .ok (.iconst 0, 1) := by decide +kernel
theorem dX6_isWithin_151 : decode cX6_isWithin 151 = .ok (.ireturn, 1) := by decide +kernel
theorem dX6_change_0 : decode cX6_change 0 = .ok (.iconst 1, 1) := by decide +kernel
theorem dX6_change_1 : decode cX6_change 1 = .ok (.istore_n 2, 1) := by decide +kernel
theorem dX6_change_2 : decode cX6_change 2 = .ok (.iconst 0, 1) := by decide +kernel
theorem dX6_change_3 : decode cX6_change 3 = .ok (.istore_n 3, 1) := by decide +kernel
theorem dX6_change_4 : decode cX6_change 4 = .ok (.iload_n 3, 1) := by decide +kernel
theorem dX6_change_5 : decode cX6_change 5 = .ok (.aload_n 0, 1) := by decide +kernel
theorem dX6_change_6 : decode cX6_change 6 = .ok (.getfield 89, 3) := by decide +kernel
theorem dX6_change_9 : decode cX6_change 9 = .ok (.if_icmp .ge 39, 3) := by decide +kernel
theorem dX6_change_12 : decode cX6_change 12 = .ok (.iload_n 2, 1) := by decide +kernel
theorem dX6_change_13 : decode cX6_change 13 = .ok (.ifCond .eq 27, 3) := by decide +kernel
theorem dX6_change_16 : decode cX6_change 16 = .ok (.iload_n 3, 1) := by decide +kernel
theorem dX6_change_17 : decode cX6_change 17 = .ok (.iload_n 1, 1) := by decide +kernel
theorem dX6_change_18 : decode cX6_change 18 = .ok (.if_icmp .eq 18, 3) := by decide +kernel
theorem dX6_change_21 : decode cX6_change 21 = .ok (.aload_n 0, 1) := by decide +kernel
theorem dX6_change_22 : decode cX6_change 22 = .ok (.getfield 29, 3) := by decide +kernel
theorem dX6_change_25 : decode cX6_change 25 = .ok (.iload_n 3, 1) := by decide +kernel
theorem dX6_change_26 : decode cX6_change 26 = .ok (.iaload, 1) := by decide +kernel
theorem dX6_change_27 : decode cX6_change 27 = .ok (.aload_n 0, 1) := by decide +kernel
theorem dX6_change_28 : decode cX6_change 28 = .ok (.getfield 29, 3) := by decide +kernel
theorem dX6_change_31 : decode cX6_change 31 = .ok (.iload_n 1, 1) := by decide +kernel
theorem dX6_change_32 : decode cX6_change 32 = .ok (.iaload, 1) := by decide +kernel
theorem dX6_change_33 : decode cX6_change 33 = .ok (.if_icmp .eq 7, 3) := by decide +kernel
theorem dX6_change_36 : decode cX6_change 36 = .ok (.iconst 1, 1) := by decide +kernel
theorem dX6_change_37 : decode cX6_change 37 = .ok (.goto 4, 3) := by decide +kernel
theorem dX6_change_40 : decode cX6_change 40 = .ok (.iconst 0, 1) := by decide +kernel
theorem dX6_change_41 : decode cX6_change 41 = .ok (.istore_n 2, 1) := by decide +kernel
theorem dX6_change_42 : decode cX6_change 42 = .ok (.iinc 3 1, 3) := by decide +kernel
theorem dX6_change_45 : decode cX6_change 45 = .ok (.goto (-41), 3) := by decide +kernel
theorem dX6_change_48 : decode cX6_change 48 = .ok (.iload_n 2, 1) := by decide +kernel
theorem dX6_change_49 : decode cX6_change 49 = .ok (.ifCond .ne 23, 3) := by decide +kernel
theorem dX6_change_52 : decode cX6_change 52 = .ok (.aload_n 0, 1) := by decide +kernel
theorem dX6_change_53 : decode cX6_change 53 = .ok (.dup, 1) := by decide +kernel
theorem dX6_change_54 : decode cX6_change 54 = .ok (.getfield 96, 3) := by decide +kernel
theorem dX6_change_57 : decode cX6_change 57 = .ok (.iconst 1, 1) := by decide +kernel
theorem dX6_change_58 : decode cX6_change 58 = .ok (.iadd, 1) := by decide +kernel
theorem dX6_change_59 : decode cX6_change 59 = .ok (.putfield 96, 3) := by decide +kernel
theorem dX6_change_62 : decode cX6_change 62 = .ok (.aload_n 0, 1) := by decide +kernel
theorem dX6_change_63 : decode cX6_change 63 = .ok (.getfield 29, 3) := by decide +kernel
theorem dX6_change_66 : decode cX6_change 66 = .ok (.iload_n 1, 1) := by decide +kernel
theorem dX6_change_67 : decode cX6_change 67 = .ok (.aload_n 0, 1) := by decide +kernel
theorem dX6_change_68 : decode cX6_change 68 = .ok (.getfield 96, 3) := by decide +kernel
theorem dX6_change_71 : decode cX6_change 71 = .ok (.iastore, 1) := by decide +kernel
theorem dX6_change_72 : decode cX6_change 72 = .ok (.return_, 1) := by decide +kernel
theorem dX6_instance_0 : decode cX6_instance 0 = .ok (.iload_n 1, 1) := by decide +kernel
theorem dX6_instance_1 : decode cX6_instance 1 = .ok (.aload_n 0, 1) := by decide +kernel
theorem dX6_instance_2 : decode cX6_instance 2 = .ok (.getfield 89, 3) := by decide +kernel
theorem dX6_instance_5 : decode cX6_instance 5 = .ok (.invokestatic 99, 3) := by decide +kernel
theorem dX6_instance_8 : decode cX6_instance 8 = .ok (.ifCond .eq 18, 3) := by decide +kernel
theorem dX6_instance_11 : decode cX6_instance 11 = .ok (.iload_n 2, 1) := by decide +kernel
theorem dX6_instance_12 : decode cX6_instance 12 = .ok (.aload_n 0, 1) := by decide +kernel
theorem dX6_instance_13 : decode cX6_instance 13 = .ok (.getfield 89, 3) := by decide +kernel
theorem dX6_instance_16 : decode cX6_instance 16 = .ok (.invokestatic 99, 3) := by decide +kernel
theorem dX6_instance_19 : decode cX6_instance 19 = .ok (.ifCond .eq 7, 3) := by decide +kernel
theorem dX6_instance_22 : decode cX6_instance 22 = .ok (.iconst 1, 1) := by decide +kernel
theorem dX6_instance_23 : decode cX6_instance 23 = .ok (.goto 4, 3) := by decide +kernel
theorem dX6_instance_26 : decode cX6_instance 26 = .ok (.iconst 0, 1) := by decide +kernel
theorem dX6_instance_27 : decode cX6_instance 27 = .ok (.istore_n 3, 1) := by decide +kernel
theorem dX6_instance_28 : decode cX6_instance 28 = .ok (.aload_n 0, 1) := by decide +kernel
theorem dX6_instance_29 : decode cX6_instance 29 = .ok (.iload_n 3, 1) := by decide +kernel
theorem dX6_instance_30 : decode cX6_instance 30 = .ok (.ifCond .ne 7, 3) := by decide +kernel
theorem dX6_instance_33 : decode cX6_instance 33 = .ok (.iconst 1, 1) := by decide +kernel
theorem dX6_instance_34 : decode cX6_instance 34 = .ok (.goto 4, 3) := by decide +kernel
theorem dX6_instance_37 : decode cX6_instance 37 = .ok (.iconst 0, 1) := by decide +kernel
theorem dX6_instance_38 : decode cX6_instance 38 = .ok (.iload_n 3, 1) := by decide +kernel
theorem dX6_instance_39 : decode cX6_instance 39 = .ok (.ifCond .eq 18, 3) := by decide +kernel
theorem dX6_instance_42 : decode cX6_instance 42 = .ok (.aload_n 0, 1) := by decide +kernel
theorem dX6_instance_43 : decode cX6_instance 43 = .ok (.getfield 20, 3) := by decide +kernel
theorem dX6_instance_46 : decode cX6_instance 46 = .ok (.iload_n 1, 1) := by decide +kernel
theorem dX6_instance_47 : decode cX6_instance 47 = .ok (.iaload, 1) := by decide +kernel
theorem dX6_instance_48 : decode cX6_instance 48 = .ok (.bipush 64, 2) := by decide +kernel
theorem dX6_instance_50 : decode cX6_instance 50 = .ok (.if_icmp .ne 7, 3) := by decide +kernel
theorem dX6_instance_53 : decode cX6_instance 53 = .ok (.iconst 1, 1) := by decide +kernel
theorem dX6_instance_54 : decode cX6_instance 54 = .ok (.goto 4, 3) := by decide +kernel
theorem dX6_instance_57 : decode cX6_instance 57 = .ok (.iconst 0, 1) := by decide +kernel
theorem dX6_instance_58 : decode cX6_instance 58 = .ok (.invokevirtual 107, 3) := by decide +kernel
theorem dX6_instance_61 : decode cX6_instance 61 = .ok (.ifCond .eq 5, 3) := by decide +kernel
theorem dX6_instance_64 : decode cX6_instance 64 = .ok (.iconst 0, 1) := by decide +kernel
theorem dX6_instance_65 : decode cX6_instance 65 = .ok (.ireturn, 1) := by decide +kernel
theorem dX6_instance_66 : decode cX6_instance 66 = .ok (.aload_n 0, 1) := by decide +kernel
theorem dX6_instance_67 : decode cX6_instance 67 = .ok (.iload_n 1, 1) := by decide +kernel
theorem dX6_instance_68 : decode cX6_instance 68 = .ok (.iload_n 2, 1) := by decide +kernel
theorem dX6_instance_69 : decode cX6_instance 69 = .ok (.invokevirtual 111, 3) := by decide +kernel
theorem dX6_instance_72 : decode cX6_instance 72 = .ok (.ifCond .eq 5, 3) := by decide +kernel
theorem dX6_instance_75 : decode cX6_instance 75 = .ok (.iconst (-1), 1) := by decide +kernel
theorem dX6_instance_76 : decode cX6_instance 76 = .ok (.ireturn, 1) := by decide +kernel
theorem dX6_instance_77 : decode cX6_instance 77 = .ok (.aload_n 0, 1) := by decide +kernel
theorem dX6_instance_78 : decode cX6_instance 78 = .ok (.iload_n 1, 1) := by decide +kernel
theorem dX6_instance_79 : decode cX6_instance 79 = .ok (.invokevirtual 114, 3) := by decide +kernel
theorem dX6_instance_82 : decode cX6_instance 82 = .ok (.aload_n 0, 1) := by decide +kernel
theorem dX6_instance_83 : decode cX6_instance 83 = .ok (.getfield 20, 3) := by decide +kernel
theorem dX6_instance_86 : decode cX6_instance 86 = .ok (.iload_n 1, 1) := by decide +kernel
theorem dX6_instance_87 : decode cX6_instance 87 = .ok (.iaload, 1) := by decide +kernel
theorem dX6_instance_88 : decode cX6_instance 88 = .ok (.istore 4, 2) := by decide +kernel
theorem dX6_instance_90 : decode cX6_instance 90 = .ok (.aload_n 0, 1) := by decide +kernel
theorem dX6_instance_91 : decode cX6_instance 91 = .ok (.getfield 23, 3) := by decide +kernel
theorem dX6_instance_94 : decode cX6_instance 94 = .ok (.bipush 64, 2) := by decide +kernel
theorem dX6_instance_96 : decode cX6_instance 96 = .ok (.iload_n 1, 1) := by decide +kernel
theorem dX6_instance_97 : decode cX6_instance 97 = .ok (.imul, 1) := by decide +kernel
theorem dX6_instance_98 : decode cX6_instance 98 = .ok (.iload 4, 2) := by decide +kernel
theorem dX6_instance_100 : decode cX6_instance 100 = .ok (.iadd, 1) := by decide +kernel
theorem dX6_instance_101 : decode cX6_instance 101 = .ok (.iload_n 2, 1) := by decide +kernel
theorem dX6_instance_102 : decode cX6_instance 102 = .ok (.iastore, 1) := by decide +kernel
theorem dX6_instance_103 : decode cX6_instance 103 = .ok (.aload_n 0, 1) := by decide +kernel
theorem dX6_instance_104 : decode cX6_instance 104 = .ok (.getfield 36, 3) := by decide +kernel
theorem dX6_instance_107 : decode cX6_instance 107 = .ok (.bipush 64, 2) := by decide +kernel
theorem dX6_instance_109 : decode cX6_instance 109 = .ok (.iload_n 1, 1) := by decide +kernel
theorem dX6_instance_110 : decode cX6_instance 110 = .ok (.imul, 1) := by decide +kernel
theorem dX6_instance_111 : decode cX6_instance 111 = .ok (.iload 4, 2) := by decide +kernel
theorem dX6_instance_113 : decode cX6_instance 113 = .ok (.iadd, 1) := by decide +kernel
theorem dX6_instance_114 : decode cX6_instance 114 = .ok (.iconst 0, 1) := by decide +kernel
theorem dX6_instance_115 : decode cX6_instance 115 = .ok (.iastore, 1) := by decide +kernel
theorem dX6_instance_116 : decode cX6_instance 116 = .ok (.aload_n 0, 1) := by decide +kernel
theorem dX6_instance_117 : decode cX6_instance 117 = .ok (.getfield 20, 3) := by decide +kernel
theorem dX6_instance_120 : decode cX6_instance 120 = .ok (.iload_n 1, 1) := by decide +kernel
theorem dX6_instance_121 : decode cX6_instance 121 = .ok (.dup2, 1) := by decide +kernel
theorem dX6_instance_122 : decode cX6_instance 122 = .ok (.iaload, 1) := by decide +kernel
theorem dX6_instance_123 : decode cX6_instance 123 = .ok (.iconst 1, 1) := by decide +kernel
theorem dX6_instance_124 : decode cX6_instance 124 = .ok (.iadd, 1) := by decide +kernel
theorem dX6_instance_125 : decode cX6_instance 125 = .ok (.iastore, 1) := by decide +kernel
theorem dX6_instance_126 : decode cX6_instance 126 = .ok (.iload 4, 2) := by decide +kernel
theorem dX6_instance_128 : decode cX6_instance 128 = .ok (.ireturn, 1) := by decide +kernel
theorem dX6_net_0 : decode cX6_net 0 = .ok (.iload_n 1, 1) := by decide +kernel
theorem dX6_net_1 : decode cX6_net 1 = .ok (.aload_n 0, 1) := by decide +kernel
theorem dX6_net_2 : decode cX6_net 2 = .ok (.getfield 89, 3) := by decide +kernel
theorem dX6_net_5 : decode cX6_net 5 = .ok (.invokestatic 99, 3) := by decide +kernel
theorem dX6_net_8 : decode cX6_net 8 = .ok (.istore_n 2, 1) := by decide +kernel
theorem dX6_net_9 : decode cX6_net 9 = .ok (.aload_n 0, 1) := by decide +kernel
theorem dX6_net_10 : decode cX6_net 10 = .ok (.iload_n 2, 1) := by decide +kernel
theorem dX6_net_11 : decode cX6_net 11 = .ok (.ifCond .ne 7, 3) := by decide +kernel
theorem dX6_net_14 : decode cX6_net 14 = .ok (.iconst 1, 1) := by decide +kernel
theorem dX6_net_15 : decode cX6_net 15 = .ok (.goto 4, 3) := by decide +kernel
theorem dX6_net_18 : decode cX6_net 18 = .ok (.iconst 0, 1) := by decide +kernel
theorem dX6_net_19 : decode cX6_net 19 = .ok (.iload_n 2, 1) := by decide +kernel
theorem dX6_net_20 : decode cX6_net 20 = .ok (.ifCond .eq 19, 3) := by decide +kernel
theorem dX6_net_23 : decode cX6_net 23 = .ok (.aload_n 0, 1) := by decide +kernel
theorem dX6_net_24 : decode cX6_net 24 = .ok (.getfield 26, 3) := by decide +kernel
theorem dX6_net_27 : decode cX6_net 27 = .ok (.iload_n 1, 1) := by decide +kernel
theorem dX6_net_28 : decode cX6_net 28 = .ok (.iaload, 1) := by decide +kernel
theorem dX6_net_29 : decode cX6_net 29 = .ok (.sipush 128, 3) := by decide +kernel
theorem dX6_net_32 : decode cX6_net 32 = .ok (.if_icmp .ne 7, 3) := by decide +kernel
theorem dX6_net_35 : decode cX6_net 35 = .ok (.iconst 1, 1) := by decide +kernel
theorem dX6_net_36 : decode cX6_net 36 = .ok (.goto 4, 3) := by decide +kernel
theorem dX6_net_39 : decode cX6_net 39 = .ok (.iconst 0, 1) := by decide +kernel
theorem dX6_net_40 : decode cX6_net 40 = .ok (.invokevirtual 107, 3) := by decide +kernel
theorem dX6_net_43 : decode cX6_net 43 = .ok (.ifCond .eq 5, 3) := by decide +kernel
theorem dX6_net_46 : decode cX6_net 46 = .ok (.iconst 0, 1) := by decide +kernel
theorem dX6_net_47 : decode cX6_net 47 = .ok (.ireturn, 1) := by decide +kernel
theorem dX6_net_48 : decode cX6_net 48 = .ok (.aload_n 0, 1) := by decide +kernel
theorem dX6_net_49 : decode cX6_net 49 = .ok (.iload_n 1, 1) := by decide +kernel
theorem dX6_net_50 : decode cX6_net 50 = .ok (.invokevirtual 114, 3) := by decide +kernel
theorem dX6_net_53 : decode cX6_net 53 = .ok (.aload_n 0, 1) := by decide +kernel
theorem dX6_net_54 : decode cX6_net 54 = .ok (.getfield 26, 3) := by decide +kernel
theorem dX6_net_57 : decode cX6_net 57 = .ok (.iload_n 1, 1) := by decide +kernel
theorem dX6_net_58 : decode cX6_net 58 = .ok (.dup2, 1) := by decide +kernel
theorem dX6_net_59 : decode cX6_net 59 = .ok (.iaload, 1) := by decide +kernel
theorem dX6_net_60 : decode cX6_net 60 = .ok (.iconst 1, 1) := by decide +kernel
theorem dX6_net_61 : decode cX6_net 61 = .ok (.iadd, 1) := by decide +kernel
theorem dX6_net_62 : decode cX6_net 62 = .ok (.iastore, 1) := by decide +kernel
theorem dX6_net_63 : decode cX6_net 63 = .ok (.aload_n 0, 1) := by decide +kernel
theorem dX6_net_64 : decode cX6_net 64 = .ok (.getfield 26, 3) := by decide +kernel
theorem dX6_net_67 : decode cX6_net 67 = .ok (.iload_n 1, 1) := by decide +kernel
theorem dX6_net_68 : decode cX6_net 68 = .ok (.iaload, 1) := by decide +kernel
theorem dX6_net_69 : decode cX6_net 69 = .ok (.iconst 1, 1) := by decide +kernel
theorem dX6_net_70 : decode cX6_net 70 = .ok (.isub, 1) := by decide +kernel
theorem dX6_net_71 : decode cX6_net 71 = .ok (.ireturn, 1) := by decide +kernel
theorem dX6_isPin_0 : decode cX6_isPin 0 = .ok (.iload_n 1, 1) := by decide +kernel
theorem dX6_isPin_1 : decode cX6_isPin 1 = .ok (.aload_n 0, 1) := by decide +kernel
theorem dX6_isPin_2 : decode cX6_isPin 2 = .ok (.getfield 89, 3) := by decide +kernel
theorem dX6_isPin_5 : decode cX6_isPin 5 = .ok (.invokestatic 99, 3) := by decide +kernel
theorem dX6_isPin_8 : decode cX6_isPin 8 = .ok (.ifCond .eq 21, 3) := by decide +kernel
theorem dX6_isPin_11 : decode cX6_isPin 11 = .ok (.iload_n 2, 1) := by decide +kernel
theorem dX6_isPin_12 : decode cX6_isPin 12 = .ok (.iconst (-1), 1) := by decide +kernel
theorem dX6_isPin_13 : decode cX6_isPin 13 = .ok (.if_icmp .eq 18, 3) := by decide +kernel
theorem dX6_isPin_16 : decode cX6_isPin 16 = .ok (.iload_n 2, 1) := by decide +kernel
theorem dX6_isPin_17 : decode cX6_isPin 17 = .ok (.aload_n 0, 1) := by decide +kernel
theorem dX6_isPin_18 : decode cX6_isPin 18 = .ok (.getfield 20, 3) := by decide +kernel
theorem dX6_isPin_21 : decode cX6_isPin 21 = .ok (.iload_n 1, 1) := by decide +kernel
theorem dX6_isPin_22 : decode cX6_isPin 22 = .ok (.iaload, 1) := by decide +kernel
theorem dX6_isPin_23 : decode cX6_isPin 23 = .ok (.invokestatic 99, 3) := by decide +kernel
theorem dX6_isPin_26 : decode cX6_isPin 26 = .ok (.ifCond .ne 5, 3) := by decide +kernel
theorem dX6_isPin_29 : decode cX6_isPin 29 = .ok (.iconst 0, 1) := by decide +kernel
theorem dX6_isPin_30 : decode cX6_isPin 30 = .ok (.ireturn, 1) := by decide +kernel
theorem dX6_isPin_31 : decode cX6_isPin 31 = .ok (.iload_n 2, 1) := by decide +kernel
theorem dX6_isPin_32 : decode cX6_isPin 32 = .ok (.iconst (-1), 1) := by decide +kernel
theorem dX6_isPin_33 : decode cX6_isPin 33 = .ok (.if_icmp .ne 7, 3) := by decide +kernel
theorem dX6_isPin_36 : decode cX6_isPin 36 = .ok (.iload_n 1, 1) := by decide +kernel
theorem dX6_isPin_37 : decode cX6_isPin 37 = .ok (.goto 14, 3) := by decide +kernel
theorem dX6_isPin_40 : decode cX6_isPin 40 = .ok (.aload_n 0, 1) := by decide +kernel
theorem dX6_isPin_41 : decode cX6_isPin 41 = .ok (.getfield 23, 3) := by decide +kernel
theorem dX6_isPin_44 : decode cX6_isPin 44 = .ok (.bipush 64, 2) := by decide +kernel
theorem dX6_isPin_46 : decode cX6_isPin 46 = .ok (.iload_n 1, 1) := by decide +kernel
theorem dX6_isPin_47 : decode cX6_isPin 47 = .ok (.imul, 1) := by decide +kernel
theorem dX6_isPin_48 : decode cX6_isPin 48 = .ok (.iload_n 2, 1) := by decide +kernel
theorem dX6_isPin_49 : decode cX6_isPin 49 = .ok (.iadd, 1) := by decide +kernel
theorem dX6_isPin_50 : decode cX6_isPin 50 = .ok (.iaload, 1) := by decide +kernel
theorem dX6_isPin_51 : decode cX6_isPin 51 = .ok (.istore 4, 2) := by decide +kernel
theorem dX6_isPin_53 : decode cX6_isPin 53 = .ok (.iload_n 3, 1) := by decide +kernel
theorem dX6_isPin_54 : decode cX6_isPin 54 = .ok (.aload_n 0, 1) := by decide +kernel
theorem dX6_isPin_55 : decode cX6_isPin 55 = .ok (.iload 4, 2) := by decide +kernel
theorem dX6_isPin_57 : decode cX6_isPin 57 = .ok (.invokevirtual 117, 3) := by decide +kernel
theorem dX6_isPin_60 : decode cX6_isPin 60 = .ok (.invokestatic 99, 3) := by decide +kernel
theorem dX6_isPin_63 : decode cX6_isPin 63 = .ok (.ireturn, 1) := by decide +kernel
theorem dX6_at_0 : decode cX6_at 0 = .ok (.sipush 8320, 3) := by decide +kernel
theorem dX6_at_3 : decode cX6_at 3 = .ok (.iload_n 0, 1) := by decide +kernel
theorem dX6_at_4 : decode cX6_at 4 = .ok (.imul, 1) := by decide +kernel
theorem dX6_at_5 : decode cX6_at 5 = .ok (.sipush 128, 3) := by decide +kernel
theorem dX6_at_8 : decode cX6_at 8 = .ok (.iload_n 1, 1) := by decide +kernel
theorem dX6_at_9 : decode cX6_at 9 = .ok (.iconst (-1), 1) := by decide +kernel
theorem dX6_at_10 : decode cX6_at 10 = .ok (.if_icmp .ne 8, 3) := by decide +kernel
theorem dX6_at_13 : decode cX6_at 13 = .ok (.bipush 64, 2) := by decide +kernel
theorem dX6_at_15 : decode cX6_at 15 = .ok (.goto 4, 3) := by decide +kernel
theorem dX6_at_18 : decode cX6_at 18 = .ok (.iload_n 1, 1) := by decide +kernel
theorem dX6_at_19 : decode cX6_at 19 = .ok (.imul, 1) := by decide +kernel
theorem dX6_at_20 : decode cX6_at 20 = .ok (.iadd, 1) := by decide +kernel
theorem dX6_at_21 : decode cX6_at 21 = .ok (.iload_n 2, 1) := by decide +kernel
theorem dX6_at_22 : decode cX6_at 22 = .ok (.iadd, 1) := by decide +kernel
theorem dX6_at_23 : decode cX6_at 23 = .ok (.ireturn, 1) := by decide +kernel
theorem dX6_join_0 : decode cX6_join 0 = .ok (.aload_n 0, 1) := by decide +kernel
theorem dX6_join_1 : decode cX6_join 1 = .ok (.aload_n 0, 1) := by decide +kernel
theorem dX6_join_2 : decode cX6_join 2 = .ok (.iload_n 1, 1) := by decide +kernel
theorem dX6_join_3 : decode cX6_join 3 = .ok (.iload_n 3, 1) := by decide +kernel
theorem dX6_join_4 : decode cX6_join 4 = .ok (.iload 4, 2) := by decide +kernel
theorem dX6_join_6 : decode cX6_join 6 = .ok (.invokevirtual 121, 3) := by decide +kernel
theorem dX6_join_9 : decode cX6_join 9 = .ok (.ifCond .eq 16, 3) := by decide +kernel
theorem dX6_join_12 : decode cX6_join 12 = .ok (.iload_n 2, 1) := by decide +kernel
theorem dX6_join_13 : decode cX6_join 13 = .ok (.aload_n 0, 1) := by decide +kernel
theorem dX6_join_14 : decode cX6_join 14 = .ok (.getfield 26, 3) := by decide +kernel
theorem dX6_join_17 : decode cX6_join 17 = .ok (.iload_n 1, 1) := by decide +kernel
theorem dX6_join_18 : decode cX6_join 18 = .ok (.iaload, 1) := by decide +kernel
theorem dX6_join_19 : decode cX6_join 19 = .ok (.invokestatic 99, 3) := by decide +kernel
theorem dX6_join_22 : decode cX6_join 22 = .ok (.ifCond .ne 7, 3) := by decide +kernel
theorem dX6_join_25 : decode cX6_join 25 = .ok (.iconst 1, 1) := by decide +kernel
theorem dX6_join_26 : decode cX6_join 26 = .ok (.goto 4, 3) := by decide +kernel
theorem dX6_join_29 : decode cX6_join 29 = .ok (.iconst 0, 1) := by decide +kernel
theorem dX6_join_30 : decode cX6_join 30 = .ok (.iconst 0, 1) := by decide +kernel
theorem dX6_join_31 : decode cX6_join 31 = .ok (.invokevirtual 107, 3) := by decide +kernel
theorem dX6_join_34 : decode cX6_join 34 = .ok (.ifCond .eq 5, 3) := by decide +kernel
theorem dX6_join_37 : decode cX6_join 37 = .ok (.iconst 0, 1) := by decide +kernel
theorem dX6_join_38 : decode cX6_join 38 = .ok (.ireturn, 1) := by decide +kernel
theorem dX6_join_39 : decode cX6_join 39 = .ok (.iload_n 1, 1) := by decide +kernel
theorem dX6_join_40 : decode cX6_join 40 = .ok (.iload_n 3, 1) := by decide +kernel
theorem dX6_join_41 : decode cX6_join 41 = .ok (.iload 4, 2) := by decide +kernel
theorem dX6_join_43 : decode cX6_join 43 = .ok (.invokestatic 125, 3) := by decide +kernel
theorem dX6_join_46 : decode cX6_join 46 = .ok (.istore 5, 2) := by decide +kernel
theorem dX6_join_48 : decode cX6_join 48 = .ok (.aload_n 0, 1) := by decide +kernel
theorem dX6_join_49 : decode cX6_join 49 = .ok (.getfield 33, 3) := by decide +kernel
theorem dX6_join_52 : decode cX6_join 52 = .ok (.iload 5, 2) := by decide +kernel
theorem dX6_join_54 : decode cX6_join 54 = .ok (.iaload, 1) := by decide +kernel
theorem dX6_join_55 : decode cX6_join 55 = .ok (.iload_n 2, 1) := by decide +kernel
theorem dX6_join_56 : decode cX6_join 56 = .ok (.if_icmp .ne 5, 3) := by decide +kernel
theorem dX6_join_59 : decode cX6_join 59 = .ok (.iconst 0, 1) := by decide +kernel
theorem dX6_join_60 : decode cX6_join 60 = .ok (.ireturn, 1) := by decide +kernel
theorem dX6_join_61 : decode cX6_join 61 = .ok (.aload_n 0, 1) := by decide +kernel
theorem dX6_join_62 : decode cX6_join 62 = .ok (.iload_n 1, 1) := by decide +kernel
theorem dX6_join_63 : decode cX6_join 63 = .ok (.invokevirtual 114, 3) := by decide +kernel
theorem dX6_join_66 : decode cX6_join 66 = .ok (.aload_n 0, 1) := by decide +kernel
theorem dX6_join_67 : decode cX6_join 67 = .ok (.getfield 33, 3) := by decide +kernel
theorem dX6_join_70 : decode cX6_join 70 = .ok (.iload 5, 2) := by decide +kernel
theorem dX6_join_72 : decode cX6_join 72 = .ok (.iload_n 2, 1) := by decide +kernel
theorem dX6_join_73 : decode cX6_join 73 = .ok (.iastore, 1) := by decide +kernel
theorem dX6_join_74 : decode cX6_join 74 = .ok (.iconst 1, 1) := by decide +kernel
theorem dX6_join_75 : decode cX6_join 75 = .ok (.ireturn, 1) := by decide +kernel
theorem dX6_part_0 : decode cX6_part 0 = .ok (.aload_n 0, 1) := by decide +kernel
theorem dX6_part_1 : decode cX6_part 1 = .ok (.aload_n 0, 1) := by decide +kernel
theorem dX6_part_2 : decode cX6_part 2 = .ok (.iload_n 1, 1) := by decide +kernel
theorem dX6_part_3 : decode cX6_part 3 = .ok (.iload_n 2, 1) := by decide +kernel
theorem dX6_part_4 : decode cX6_part 4 = .ok (.iload_n 3, 1) := by decide +kernel
theorem dX6_part_5 : decode cX6_part 5 = .ok (.invokevirtual 121, 3) := by decide +kernel
theorem dX6_part_8 : decode cX6_part 8 = .ok (.ifCond .ne 7, 3) := by decide +kernel
theorem dX6_part_11 : decode cX6_part 11 = .ok (.iconst 1, 1) := by decide +kernel
theorem dX6_part_12 : decode cX6_part 12 = .ok (.goto 4, 3) := by decide +kernel
theorem dX6_part_15 : decode cX6_part 15 = .ok (.iconst 0, 1) := by decide +kernel
theorem dX6_part_16 : decode cX6_part 16 = .ok (.iconst 0, 1) := by decide +kernel
theorem dX6_part_17 : decode cX6_part 17 = .ok (.invokevirtual 107, 3) := by decide +kernel
theorem dX6_part_20 : decode cX6_part 20 = .ok (.ifCond .eq 5, 3) := by decide +kernel
theorem dX6_part_23 : decode cX6_part 23 = .ok (.iconst 0, 1) := by decide +kernel
theorem dX6_part_24 : decode cX6_part 24 = .ok (.ireturn, 1) := by decide +kernel
theorem dX6_part_25 : decode cX6_part 25 = .ok (.iload_n 1, 1) := by decide +kernel
theorem dX6_part_26 : decode cX6_part 26 = .ok (.iload_n 2, 1) := by decide +kernel
theorem dX6_part_27 : decode cX6_part 27 = .ok (.iload_n 3, 1) := by decide +kernel
theorem dX6_part_28 : decode cX6_part 28 = .ok (.invokestatic 125, 3) := by decide +kernel
theorem dX6_part_31 : decode cX6_part 31 = .ok (.istore 4, 2) := by decide +kernel
theorem dX6_part_33 : decode cX6_part 33 = .ok (.aload_n 0, 1) := by decide +kernel
theorem dX6_part_34 : decode cX6_part 34 = .ok (.getfield 33, 3) := by decide +kernel
theorem dX6_part_37 : decode cX6_part 37 = .ok (.iload 4, 2) := by decide +kernel
theorem dX6_part_39 : decode cX6_part 39 = .ok (.iaload, 1) := by decide +kernel
theorem dX6_part_40 : decode cX6_part 40 = .ok (.iconst (-1), 1) := by decide +kernel
theorem dX6_part_41 : decode cX6_part 41 = .ok (.if_icmp .ne 5, 3) := by decide +kernel
theorem dX6_part_44 : decode cX6_part 44 = .ok (.iconst 0, 1) := by decide +kernel
theorem dX6_part_45 : decode cX6_part 45 = .ok (.ireturn, 1) := by decide +kernel
theorem dX6_part_46 : decode cX6_part 46 = .ok (.aload_n 0, 1) := by decide +kernel
theorem dX6_part_47 : decode cX6_part 47 = .ok (.iload_n 1, 1) := by decide +kernel
theorem dX6_part_48 : decode cX6_part 48 = .ok (.invokevirtual 114, 3) := by decide +kernel
theorem dX6_part_51 : decode cX6_part 51 = .ok (.aload_n 0, 1) := by decide +kernel
theorem dX6_part_52 : decode cX6_part 52 = .ok (.getfield 33, 3) := by decide +kernel
theorem dX6_part_55 : decode cX6_part 55 = .ok (.iload 4, 2) := by decide +kernel
theorem dX6_part_57 : decode cX6_part 57 = .ok (.iconst (-1), 1) := by decide +kernel
theorem dX6_part_58 : decode cX6_part 58 = .ok (.iastore, 1) := by decide +kernel
theorem dX6_part_59 : decode cX6_part 59 = .ok (.iconst 1, 1) := by decide +kernel
theorem dX6_part_60 : decode cX6_part 60 = .ok (.ireturn, 1) := by decide +kernel
theorem dX6_netOf_0 : decode cX6_netOf 0 = .ok (.aload_n 0, 1) := by decide +kernel
theorem dX6_netOf_1 : decode cX6_netOf 1 = .ok (.aload_n 0, 1) := by decide +kernel
theorem dX6_netOf_2 : decode cX6_netOf 2 = .ok (.iload_n 1, 1) := by decide +kernel
theorem dX6_netOf_3 : decode cX6_netOf 3 = .ok (.iload_n 2, 1) := by decide +kernel
theorem dX6_netOf_4 : decode cX6_netOf 4 = .ok (.iload_n 3, 1) := by decide +kernel
theorem dX6_netOf_5 : decode cX6_netOf 5 = .ok (.invokevirtual 121, 3) := by decide +kernel
theorem dX6_netOf_8 : decode cX6_netOf 8 = .ok (.ifCond .ne 7, 3) := by decide +kernel
theorem dX6_netOf_11 : decode cX6_netOf 11 = .ok (.iconst 1, 1) := by decide +kernel
theorem dX6_netOf_12 : decode cX6_netOf 12 = .ok (.goto 4, 3) := by decide +kernel
theorem dX6_netOf_15 : decode cX6_netOf 15 = .ok (.iconst 0, 1) := by decide +kernel
theorem dX6_netOf_16 : decode cX6_netOf 16 = .ok (.iconst 0, 1) := by decide +kernel
theorem dX6_netOf_17 : decode cX6_netOf 17 = .ok (.invokevirtual 107, 3) := by decide +kernel
theorem dX6_netOf_20 : decode cX6_netOf 20 = .ok (.ifCond .eq 7, 3) := by decide +kernel
theorem dX6_netOf_23 : decode cX6_netOf 23 = .ok (.iconst 0, 1) := by decide +kernel
theorem dX6_netOf_24 : decode cX6_netOf 24 = .ok (.goto 14, 3) := by decide +kernel
theorem dX6_netOf_27 : decode cX6_netOf 27 = .ok (.aload_n 0, 1) := by decide +kernel
theorem dX6_netOf_28 : decode cX6_netOf 28 = .ok (.getfield 33, 3) := by decide +kernel
theorem dX6_netOf_31 : decode cX6_netOf 31 = .ok (.iload_n 1, 1) := by decide +kernel
theorem dX6_netOf_32 : decode cX6_netOf 32 = .ok (.iload_n 2, 1) := by decide +kernel
theorem dX6_netOf_33 : decode cX6_netOf 33 = .ok (.iload_n 3, 1) := by decide +kernel
theorem dX6_netOf_34 : decode cX6_netOf 34 = .ok (.invokestatic 125, 3) := by decide +kernel
theorem dX6_netOf_37 : decode cX6_netOf 37 = .ok (.iaload, 1) := by decide +kernel
theorem dX6_netOf_38 : decode cX6_netOf 38 = .ok (.ireturn, 1) := by decide +kernel
theorem dX6_drives_0 : decode cX6_drives 0 = .ok (.iload_n 2, 1) := by decide +kernel
theorem dX6_drives_1 : decode cX6_drives 1 = .ok (.iconst (-1), 1) := by decide +kernel
theorem dX6_drives_2 : decode cX6_drives 2 = .ok (.if_icmp .ne 20, 3) := by decide +kernel
theorem dX6_drives_5 : decode cX6_drives 5 = .ok (.aload_n 0, 1) := by decide +kernel
theorem dX6_drives_6 : decode cX6_drives 6 = .ok (.iload_n 1, 1) := by decide +kernel
theorem dX6_drives_7 : decode cX6_drives 7 = .ok (.iload_n 3, 1) := by decide +kernel
theorem dX6_drives_8 : decode cX6_drives 8 = .ok (.invokevirtual 129, 3) := by decide +kernel
theorem dX6_drives_11 : decode cX6_drives 11 = .ok (.ifCond .ne 7, 3) := by decide +kernel
theorem dX6_drives_14 : decode cX6_drives 14 = .ok (.iconst 1, 1) := by decide +kernel
theorem dX6_drives_15 : decode cX6_drives 15 = .ok (.goto 23, 3) := by decide +kernel
theorem dX6_drives_18 : decode cX6_drives 18 = .ok (.iconst 0, 1) := by decide +kernel
theorem dX6_drives_19 : decode cX6_drives 19 = .ok (.goto 19, 3) := by decide +kernel
theorem dX6_drives_22 : decode cX6_drives 22 = .ok (.aload_n 0, 1) := by decide +kernel
theorem dX6_drives_23 : decode cX6_drives 23 = .ok (.aload_n 0, 1) := by decide +kernel
theorem dX6_drives_24 : decode cX6_drives 24 = .ok (.getfield 23, 3) := by decide +kernel
theorem dX6_drives_27 : decode cX6_drives 27 = .ok (.bipush 64, 2) := by decide +kernel
theorem dX6_drives_29 : decode cX6_drives 29 = .ok (.iload_n 1, 1) := by decide +kernel
theorem dX6_drives_30 : decode cX6_drives 30 = .ok (.imul, 1) := by decide +kernel
theorem dX6_drives_31 : decode cX6_drives 31 = .ok (.iload_n 2, 1) := by decide +kernel
theorem dX6_drives_32 : decode cX6_drives 32 = .ok (.iadd, 1) := by decide +kernel
theorem dX6_drives_33 : decode cX6_drives 33 = .ok (.iaload, 1) := by decide +kernel
theorem dX6_drives_34 : decode cX6_drives 34 = .ok (.iload_n 3, 1) := by decide +kernel
theorem dX6_drives_35 : decode cX6_drives 35 = .ok (.invokevirtual 129, 3) := by decide +kernel
theorem dX6_drives_38 : decode cX6_drives 38 = .ok (.ireturn, 1) := by decide +kernel
theorem dX6_countPins_0 : decode cX6_countPins 0 = .ok (.iconst 0, 1) := by decide +kernel
theorem dX6_countPins_1 : decode cX6_countPins 1 = .ok (.istore 4, 2) := by decide +kernel
theorem dX6_countPins_3 : decode cX6_countPins 3 = .ok (.iconst (-1), 1) := by decide +kernel
theorem dX6_countPins_4 : decode cX6_countPins 4 = .ok (.istore 5, 2) := by decide +kernel
theorem dX6_countPins_6 : decode cX6_countPins 6 = .ok (.iload 5, 2) := by decide +kernel
theorem dX6_countPins_8 : decode cX6_countPins 8 = .ok (.aload_n 0, 1) := by decide +kernel
theorem dX6_countPins_9 : decode cX6_countPins 9 = .ok (.getfield 20, 3) := by decide +kernel
theorem dX6_countPins_12 : decode cX6_countPins 12 = .ok (.iload_n 1, 1) := by decide +kernel
theorem dX6_countPins_13 : decode cX6_countPins 13 = .ok (.iaload, 1) := by decide +kernel
theorem dX6_countPins_14 : decode cX6_countPins 14 = .ok (.if_icmp .ge 89, 3) := by decide +kernel
theorem dX6_countPins_17 : decode cX6_countPins 17 = .ok (.aload_n 0, 1) := by decide +kernel
theorem dX6_countPins_18 : decode cX6_countPins 18 = .ok (.iload 5, 2) := by decide +kernel
theorem dX6_countPins_20 : decode cX6_countPins 20 = .ok (.iconst (-1), 1) := by decide +kernel
theorem dX6_countPins_21 : decode cX6_countPins 21 = .ok (.if_icmp .ne 7, 3) := by decide +kernel
theorem dX6_countPins_24 : decode cX6_countPins 24 = .ok (.iload_n 1, 1) := by decide +kernel
theorem dX6_countPins_25 : decode cX6_countPins 25 = .ok (.goto 15, 3) := by decide +kernel
theorem dX6_countPins_28 : decode cX6_countPins 28 = .ok (.aload_n 0, 1) := by decide +kernel
theorem dX6_countPins_29 : decode cX6_countPins 29 = .ok (.getfield 23, 3) := by decide +kernel
theorem dX6_countPins_32 : decode cX6_countPins 32 = .ok (.bipush 64, 2) := by decide +kernel
theorem dX6_countPins_34 : decode cX6_countPins 34 = .ok (.iload_n 1, 1) := by decide +kernel
theorem dX6_countPins_35 : decode cX6_countPins 35 = .ok (.imul, 1) := by decide +kernel
theorem dX6_countPins_36 : decode cX6_countPins 36 = .ok (.iload 5, 2) := by decide +kernel
theorem dX6_countPins_38 : decode cX6_countPins 38 = .ok (.iadd, 1) := by decide +kernel
theorem dX6_countPins_39 : decode cX6_countPins 39 = .ok (.iaload, 1) := by decide +kernel
theorem dX6_countPins_40 : decode cX6_countPins 40 = .ok (.invokevirtual 117, 3) := by decide +kernel
theorem dX6_countPins_43 : decode cX6_countPins 43 = .ok (.istore 6, 2) := by decide +kernel
theorem dX6_countPins_45 : decode cX6_countPins 45 = .ok (.iconst 0, 1) := by decide +kernel
theorem dX6_countPins_46 : decode cX6_countPins 46 = .ok (.istore 7, 2) := by decide +kernel
theorem dX6_countPins_48 : decode cX6_countPins 48 = .ok (.iload 7, 2) := by decide +kernel
theorem dX6_countPins_50 : decode cX6_countPins 50 = .ok (.iload 6, 2) := by decide +kernel
theorem dX6_countPins_52 : decode cX6_countPins 52 = .ok (.if_icmp .ge 45, 3) := by decide +kernel
theorem dX6_countPins_55 : decode cX6_countPins 55 = .ok (.aload_n 0, 1) := by decide +kernel
theorem dX6_countPins_56 : decode cX6_countPins 56 = .ok (.getfield 33, 3) := by decide +kernel
theorem dX6_countPins_59 : decode cX6_countPins 59 = .ok (.iload_n 1, 1) := by decide +kernel
theorem dX6_countPins_60 : decode cX6_countPins 60 = .ok (.iload 5, 2) := by decide +kernel
theorem dX6_countPins_62 : decode cX6_countPins 62 = .ok (.iload 7, 2) := by decide +kernel
theorem dX6_countPins_64 : decode cX6_countPins 64 = .ok (.invokestatic 125, 3) := by decide +kernel
theorem dX6_countPins_67 : decode cX6_countPins 67 = .ok (.iaload, 1) := by decide +kernel
theorem dX6_countPins_68 : decode cX6_countPins 68 = .ok (.iload_n 2, 1) := by decide +kernel
theorem dX6_countPins_69 : decode cX6_countPins 69 = .ok (.if_icmp .ne 22, 3) := by decide +kernel
theorem dX6_countPins_72 : decode cX6_countPins 72 = .ok (.iload_n 3, 1) := by decide +kernel
theorem dX6_countPins_73 : decode cX6_countPins 73 = .ok (.ifCond .eq 15, 3) := by decide +kernel
theorem dX6_countPins_76 : decode cX6_countPins 76 = .ok (.aload_n 0, 1) := by decide +kernel
theorem dX6_countPins_77 : decode cX6_countPins 77 = .ok (.iload_n 1, 1) := by decide +kernel
theorem dX6_countPins_78 : decode cX6_countPins 78 = .ok (.iload 5, 2) := by decide +kernel
theorem dX6_countPins_80 : decode cX6_countPins 80 = .ok (.iload 7, 2) := by decide +kernel
theorem dX6_countPins_82 : decode cX6_countPins 82 = .ok (.invokevirtual 132, 3) := by decide +kernel
theorem dX6_countPins_85 : decode cX6_countPins 85 = .ok (.ifCond .eq 6, 3) := by decide +kernel
theorem dX6_countPins_88 : decode cX6_countPins 88 = .ok (.iinc 4 1, 3) := by decide +kernel
theorem dX6_countPins_91 : decode cX6_countPins 91 = .ok (.iinc 7 1, 3) := by decide +kernel
theorem dX6_countPins_94 : decode cX6_countPins 94 = .ok (.goto (-46), 3) := by decide +kernel
theorem dX6_countPins_97 : decode cX6_countPins 97 = .ok (.iinc 5 1, 3) := by decide +kernel
theorem dX6_countPins_100 : decode cX6_countPins 100 = .ok (.goto (-94), 3) := by decide +kernel
theorem dX6_countPins_103 : decode cX6_countPins 103 = .ok (.iload 4, 2) := by decide +kernel
theorem dX6_countPins_105 : decode cX6_countPins 105 = .ok (.ireturn, 1) := by decide +kernel
theorem dX6_pins_0 : decode cX6_pins 0 = .ok (.iload_n 1, 1) := by decide +kernel
theorem dX6_pins_1 : decode cX6_pins 1 = .ok (.aload_n 0, 1) := by decide +kernel
theorem dX6_pins_2 : decode cX6_pins 2 = .ok (.getfield 89, 3) := by decide +kernel
theorem dX6_pins_5 : decode cX6_pins 5 = .ok (.invokestatic 99, 3) := by decide +kernel
theorem dX6_pins_8 : decode cX6_pins 8 = .ok (.ifCond .eq 20, 3) := by decide +kernel
theorem dX6_pins_11 : decode cX6_pins 11 = .ok (.iload_n 2, 1) := by decide +kernel
theorem dX6_pins_12 : decode cX6_pins 12 = .ok (.aload_n 0, 1) := by decide +kernel
theorem dX6_pins_13 : decode cX6_pins 13 = .ok (.getfield 26, 3) := by decide +kernel
theorem dX6_pins_16 : decode cX6_pins 16 = .ok (.iload_n 1, 1) := by decide +kernel
theorem dX6_pins_17 : decode cX6_pins 17 = .ok (.iaload, 1) := by decide +kernel
theorem dX6_pins_18 : decode cX6_pins 18 = .ok (.invokestatic 99, 3) := by decide +kernel
theorem dX6_pins_21 : decode cX6_pins 21 = .ok (.ifCond .eq 7, 3) := by decide +kernel
theorem dX6_pins_24 : decode cX6_pins 24 = .ok (.iconst 1, 1) := by decide +kernel
theorem dX6_pins_25 : decode cX6_pins 25 = .ok (.goto 4, 3) := by decide +kernel
theorem dX6_pins_28 : decode cX6_pins 28 = .ok (.iconst 0, 1) := by decide +kernel
theorem dX6_pins_29 : decode cX6_pins 29 = .ok (.istore_n 3, 1) := by decide +kernel
theorem dX6_pins_30 : decode cX6_pins 30 = .ok (.aload_n 0, 1) := by decide +kernel
theorem dX6_pins_31 : decode cX6_pins 31 = .ok (.iload_n 3, 1) := by decide +kernel
theorem dX6_pins_32 : decode cX6_pins 32 = .ok (.ifCond .ne 7, 3) := by decide +kernel
theorem dX6_pins_35 : decode cX6_pins 35 = .ok (.iconst 1, 1) := by decide +kernel
theorem dX6_pins_36 : decode cX6_pins 36 = .ok (.goto 4, 3) := by decide +kernel
theorem dX6_pins_39 : decode cX6_pins 39 = .ok (.iconst 0, 1) := by decide +kernel
theorem dX6_pins_40 : decode cX6_pins 40 = .ok (.iconst 0, 1) := by decide +kernel
theorem dX6_pins_41 : decode cX6_pins 41 = .ok (.invokevirtual 107, 3) := by decide +kernel
theorem dX6_pins_44 : decode cX6_pins 44 = .ok (.ifCond .eq 7, 3) := by decide +kernel
theorem dX6_pins_47 : decode cX6_pins 47 = .ok (.iconst 0, 1) := by decide +kernel
theorem dX6_pins_48 : decode cX6_pins 48 = .ok (.goto 10, 3) := by decide +kernel
theorem dX6_pins_51 : decode cX6_pins 51 = .ok (.aload_n 0, 1) := by decide +kernel
theorem dX6_pins_52 : decode cX6_pins 52 = .ok (.iload_n 1, 1) := by decide +kernel
theorem dX6_pins_53 : decode cX6_pins 53 = .ok (.iload_n 2, 1) := by decide +kernel
theorem dX6_pins_54 : decode cX6_pins 54 = .ok (.iconst 0, 1) := by decide +kernel
theorem dX6_pins_55 : decode cX6_pins 55 = .ok (.invokevirtual 135, 3) := by decide +kernel
theorem dX6_pins_58 : decode cX6_pins 58 = .ok (.ireturn, 1) := by decide +kernel
theorem dX6_pin_0 : decode cX6_pin 0 = .ok (.iload_n 1, 1) := by decide +kernel
theorem dX6_pin_1 : decode cX6_pin 1 = .ok (.aload_n 0, 1) := by decide +kernel
theorem dX6_pin_2 : decode cX6_pin 2 = .ok (.getfield 89, 3) := by decide +kernel
theorem dX6_pin_5 : decode cX6_pin 5 = .ok (.invokestatic 99, 3) := by decide +kernel
theorem dX6_pin_8 : decode cX6_pin 8 = .ok (.ifCond .eq 43, 3) := by decide +kernel
theorem dX6_pin_11 : decode cX6_pin 11 = .ok (.iload_n 2, 1) := by decide +kernel
theorem dX6_pin_12 : decode cX6_pin 12 = .ok (.aload_n 0, 1) := by decide +kernel
theorem dX6_pin_13 : decode cX6_pin 13 = .ok (.getfield 26, 3) := by decide +kernel
theorem dX6_pin_16 : decode cX6_pin 16 = .ok (.iload_n 1, 1) := by decide +kernel
theorem dX6_pin_17 : decode cX6_pin 17 = .ok (.iaload, 1) := by decide +kernel
theorem dX6_pin_18 : decode cX6_pin 18 = .ok (.invokestatic 99, 3) := by decide +kernel
theorem dX6_pin_21 : decode cX6_pin 21 = .ok (.ifCond .eq 30, 3) := by decide +kernel
theorem dX6_pin_24 : decode cX6_pin 24 = .ok (.iload 4, 2) := by decide +kernel
theorem dX6_pin_26 : decode cX6_pin 26 = .ok (.iconst 3, 1) := by decide +kernel
theorem dX6_pin_27 : decode cX6_pin 27 = .ok (.invokestatic 99, 3) := by decide +kernel
theorem dX6_pin_30 : decode cX6_pin 30 = .ok (.ifCond .eq 21, 3) := by decide +kernel
theorem dX6_pin_33 : decode cX6_pin 33 = .ok (.iload_n 3, 1) := by decide +kernel
theorem dX6_pin_34 : decode cX6_pin 34 = .ok (.aload_n 0, 1) := by decide +kernel
theorem dX6_pin_35 : decode cX6_pin 35 = .ok (.iload_n 1, 1) := by decide +kernel
theorem dX6_pin_36 : decode cX6_pin 36 = .ok (.iload_n 2, 1) := by decide +kernel
theorem dX6_pin_37 : decode cX6_pin 37 = .ok (.iconst 0, 1) := by decide +kernel
theorem dX6_pin_38 : decode cX6_pin 38 = .ok (.invokevirtual 135, 3) := by decide +kernel
theorem dX6_pin_41 : decode cX6_pin 41 = .ok (.invokestatic 99, 3) := by decide +kernel
theorem dX6_pin_44 : decode cX6_pin 44 = .ok (.ifCond .eq 7, 3) := by decide +kernel
theorem dX6_pin_47 : decode cX6_pin 47 = .ok (.iconst 1, 1) := by decide +kernel
theorem dX6_pin_48 : decode cX6_pin 48 = .ok (.goto 4, 3) := by decide +kernel
theorem dX6_pin_51 : decode cX6_pin 51 = .ok (.iconst 0, 1) := by decide +kernel
theorem dX6_pin_52 : decode cX6_pin 52 = .ok (.istore 5, 2) := by decide +kernel
theorem dX6_pin_54 : decode cX6_pin 54 = .ok (.aload_n 0, 1) := by decide +kernel
theorem dX6_pin_55 : decode cX6_pin 55 = .ok (.iload 5, 2) := by decide +kernel
theorem dX6_pin_57 : decode cX6_pin 57 = .ok (.ifCond .ne 7, 3) := by decide +kernel
theorem dX6_pin_60 : decode cX6_pin 60 = .ok (.iconst 1, 1) := by decide +kernel
theorem dX6_pin_61 : decode cX6_pin 61 = .ok (.goto 4, 3) := by decide +kernel
theorem dX6_pin_64 : decode cX6_pin 64 = .ok (.iconst 0, 1) := by decide +kernel
theorem dX6_pin_65 : decode cX6_pin 65 = .ok (.iconst 0, 1) := by decide +kernel
theorem dX6_pin_66 : decode cX6_pin 66 = .ok (.invokevirtual 107, 3) := by decide +kernel
theorem dX6_pin_69 : decode cX6_pin 69 = .ok (.ifCond .eq 5, 3) := by decide +kernel
theorem dX6_pin_72 : decode cX6_pin 72 = .ok (.iconst 0, 1) := by decide +kernel
theorem dX6_pin_73 : decode cX6_pin 73 = .ok (.ireturn, 1) := by decide +kernel
theorem dX6_pin_74 : decode cX6_pin 74 = .ok (.iload_n 3, 1) := by decide +kernel
theorem dX6_pin_75 : decode cX6_pin 75 = .ok (.istore 6, 2) := by decide +kernel
theorem dX6_pin_77 : decode cX6_pin 77 = .ok (.iconst (-1), 1) := by decide +kernel
theorem dX6_pin_78 : decode cX6_pin 78 = .ok (.istore 7, 2) := by decide +kernel
theorem dX6_pin_80 : decode cX6_pin 80 = .ok (.iload 7, 2) := by decide +kernel
theorem dX6_pin_82 : decode cX6_pin 82 = .ok (.aload_n 0, 1) := by decide +kernel
theorem dX6_pin_83 : decode cX6_pin 83 = .ok (.getfield 20, 3) := by decide +kernel
theorem dX6_pin_86 : decode cX6_pin 86 = .ok (.iload_n 1, 1) := by decide +kernel
theorem dX6_pin_87 : decode cX6_pin 87 = .ok (.iaload, 1) := by decide +kernel
theorem dX6_pin_88 : decode cX6_pin 88 = .ok (.if_icmp .ge 117, 3) := by decide +kernel
theorem dX6_pin_91 : decode cX6_pin 91 = .ok (.aload_n 0, 1) := by decide +kernel
theorem dX6_pin_92 : decode cX6_pin 92 = .ok (.iload 7, 2) := by decide +kernel
theorem dX6_pin_94 : decode cX6_pin 94 = .ok (.iconst (-1), 1) := by decide +kernel
theorem dX6_pin_95 : decode cX6_pin 95 = .ok (.if_icmp .ne 7, 3) := by decide +kernel
theorem dX6_pin_98 : decode cX6_pin 98 = .ok (.iload_n 1, 1) := by decide +kernel
theorem dX6_pin_99 : decode cX6_pin 99 = .ok (.goto 15, 3) := by decide +kernel
theorem dX6_pin_102 : decode cX6_pin 102 = .ok (.aload_n 0, 1) := by decide +kernel
theorem dX6_pin_103 : decode cX6_pin 103 = .ok (.getfield 23, 3) := by decide +kernel
theorem dX6_pin_106 : decode cX6_pin 106 = .ok (.bipush 64, 2) := by decide +kernel
theorem dX6_pin_108 : decode cX6_pin 108 = .ok (.iload_n 1, 1) := by decide +kernel
theorem dX6_pin_109 : decode cX6_pin 109 = .ok (.imul, 1) := by decide +kernel
theorem dX6_pin_110 : decode cX6_pin 110 = .ok (.iload 7, 2) := by decide +kernel
theorem dX6_pin_112 : decode cX6_pin 112 = .ok (.iadd, 1) := by decide +kernel
theorem dX6_pin_113 : decode cX6_pin 113 = .ok (.iaload, 1) := by decide +kernel
theorem dX6_pin_114 : decode cX6_pin 114 = .ok (.invokevirtual 117, 3) := by decide +kernel
theorem dX6_pin_117 : decode cX6_pin 117 = .ok (.istore 8, 2) := by decide +kernel
theorem dX6_pin_119 : decode cX6_pin 119 = .ok (.iconst 0, 1) := by decide +kernel
theorem dX6_pin_120 : decode cX6_pin 120 = .ok (.istore 9, 2) := by decide +kernel
theorem dX6_pin_122 : decode cX6_pin 122 = .ok (.iload 9, 2) := by decide +kernel
theorem dX6_pin_124 : decode cX6_pin 124 = .ok (.iload 8, 2) := by decide +kernel
theorem dX6_pin_126 : decode cX6_pin 126 = .ok (.if_icmp .ge 73, 3) := by decide +kernel
theorem dX6_pin_129 : decode cX6_pin 129 = .ok (.aload_n 0, 1) := by decide +kernel
theorem dX6_pin_130 : decode cX6_pin 130 = .ok (.getfield 33, 3) := by decide +kernel
theorem dX6_pin_133 : decode cX6_pin 133 = .ok (.iload_n 1, 1) := by decide +kernel
theorem dX6_pin_134 : decode cX6_pin 134 = .ok (.iload 7, 2) := by decide +kernel
theorem dX6_pin_136 : decode cX6_pin 136 = .ok (.iload 9, 2) := by decide +kernel
theorem dX6_pin_138 : decode cX6_pin 138 = .ok (.invokestatic 125, 3) := by decide +kernel
theorem dX6_pin_141 : decode cX6_pin 141 = .ok (.iaload, 1) := by decide +kernel
theorem dX6_pin_142 : decode cX6_pin 142 = .ok (.iload_n 2, 1) := by decide +kernel
theorem dX6_pin_143 : decode cX6_pin 143 = .ok (.if_icmp .ne 50, 3) := by decide +kernel
theorem dX6_pin_146 : decode cX6_pin 146 = .ok (.iload 6, 2) := by decide +kernel
theorem dX6_pin_148 : decode cX6_pin 148 = .ok (.ifCond .ne 42, 3) := by decide +kernel
theorem dX6_pin_151 : decode cX6_pin 151 = .ok (.iload 4, 2) := by decide +kernel
theorem dX6_pin_153 : decode cX6_pin 153 = .ok (.ifCond .ne 8, 3) := by decide +kernel
theorem dX6_pin_156 : decode cX6_pin 156 = .ok (.iload 7, 2) := by decide +kernel
theorem dX6_pin_158 : decode cX6_pin 158 = .ok (.goto 31, 3) := by decide +kernel
theorem dX6_pin_161 : decode cX6_pin 161 = .ok (.iload 4, 2) := by decide +kernel
theorem dX6_pin_163 : decode cX6_pin 163 = .ok (.iconst 1, 1) := by decide +kernel
theorem dX6_pin_164 : decode cX6_pin 164 = .ok (.if_icmp .ne 8, 3) := by decide +kernel
theorem dX6_pin_167 : decode cX6_pin 167 = .ok (.iload 9, 2) := by decide +kernel
theorem dX6_pin_169 : decode cX6_pin 169 = .ok (.goto 20, 3) := by decide +kernel
theorem dX6_pin_172 : decode cX6_pin 172 = .ok (.aload_n 0, 1) := by decide +kernel
theorem dX6_pin_173 : decode cX6_pin 173 = .ok (.iload_n 1, 1) := by decide +kernel
theorem dX6_pin_174 : decode cX6_pin 174 = .ok (.iload 7, 2) := by decide +kernel
theorem dX6_pin_176 : decode cX6_pin 176 = .ok (.iload 9, 2) := by decide +kernel
theorem dX6_pin_178 : decode cX6_pin 178 = .ok (.invokevirtual 132, 3) := by decide +kernel
theorem dX6_pin_181 : decode cX6_pin 181 = .ok (.ifCond .eq 7, 3) := by decide +kernel
theorem dX6_pin_184 : decode cX6_pin 184 = .ok (.iconst 1, 1) := by decide +kernel
theorem dX6_pin_185 : decode cX6_pin 185 = .ok (.goto 4, 3) := by decide +kernel
theorem dX6_pin_188 : decode cX6_pin 188 = .ok (.iconst 0, 1) := by decide +kernel
theorem dX6_pin_189 : decode cX6_pin 189 = .ok (.ireturn, 1) := by decide +kernel
theorem dX6_pin_190 : decode cX6_pin 190 = .ok (.iinc 6 (-1), 3) := by decide +kernel
theorem dX6_pin_193 : decode cX6_pin 193 = .ok (.iinc 9 1, 3) := by decide +kernel
theorem dX6_pin_196 : decode cX6_pin 196 = .ok (.goto (-74), 3) := by decide +kernel
theorem dX6_pin_199 : decode cX6_pin 199 = .ok (.iinc 7 1, 3) := by decide +kernel
theorem dX6_pin_202 : decode cX6_pin 202 = .ok (.goto (-122), 3) := by decide +kernel
theorem dX6_pin_205 : decode cX6_pin 205 = .ok (.iconst 0, 1) := by decide +kernel
theorem dX6_pin_206 : decode cX6_pin 206 = .ok (.ireturn, 1) := by decide +kernel
theorem dX6_copy_0 : decode cX6_copy 0 = .ok (.aload_n 0, 1) := by decide +kernel
theorem dX6_copy_1 : decode cX6_copy 1 = .ok (.iload_n 1, 1) := by decide +kernel
theorem dX6_copy_2 : decode cX6_copy 2 = .ok (.aload_n 0, 1) := by decide +kernel
theorem dX6_copy_3 : decode cX6_copy 3 = .ok (.getfield 89, 3) := by decide +kernel
theorem dX6_copy_6 : decode cX6_copy 6 = .ok (.invokestatic 99, 3) := by decide +kernel
theorem dX6_copy_9 : decode cX6_copy 9 = .ok (.ifCond .ne 7, 3) := by decide +kernel
theorem dX6_copy_12 : decode cX6_copy 12 = .ok (.iconst 1, 1) := by decide +kernel
theorem dX6_copy_13 : decode cX6_copy 13 = .ok (.goto 4, 3) := by decide +kernel
theorem dX6_copy_16 : decode cX6_copy 16 = .ok (.iconst 0, 1) := by decide +kernel
theorem dX6_copy_17 : decode cX6_copy 17 = .ok (.aload_n 0, 1) := by decide +kernel
theorem dX6_copy_18 : decode cX6_copy 18 = .ok (.getfield 89, 3) := by decide +kernel
theorem dX6_copy_21 : decode cX6_copy 21 = .ok (.bipush 24, 2) := by decide +kernel
theorem dX6_copy_23 : decode cX6_copy 23 = .ok (.if_icmp .ne 7, 3) := by decide +kernel
theorem dX6_copy_26 : decode cX6_copy 26 = .ok (.iconst 1, 1) := by decide +kernel
theorem dX6_copy_27 : decode cX6_copy 27 = .ok (.goto 4, 3) := by decide +kernel
theorem dX6_copy_30 : decode cX6_copy 30 = .ok (.iconst 0, 1) := by decide +kernel
theorem dX6_copy_31 : decode cX6_copy 31 = .ok (.invokevirtual 107, 3) := by decide +kernel
theorem dX6_copy_34 : decode cX6_copy 34 = .ok (.ifCond .eq 5, 3) := by decide +kernel
theorem dX6_copy_37 : decode cX6_copy 37 = .ok (.iconst 0, 1) := by decide +kernel
theorem dX6_copy_38 : decode cX6_copy 38 = .ok (.ireturn, 1) := by decide +kernel
theorem dX6_copy_39 : decode cX6_copy 39 = .ok (.aload_n 0, 1) := by decide +kernel
theorem dX6_copy_40 : decode cX6_copy 40 = .ok (.getfield 89, 3) := by decide +kernel
theorem dX6_copy_43 : decode cX6_copy 43 = .ok (.istore_n 2, 1) := by decide +kernel
theorem dX6_copy_44 : decode cX6_copy 44 = .ok (.aload_n 0, 1) := by decide +kernel
theorem dX6_copy_45 : decode cX6_copy 45 = .ok (.iload_n 2, 1) := by decide +kernel
theorem dX6_copy_46 : decode cX6_copy 46 = .ok (.invokevirtual 92, 3) := by decide +kernel
theorem dX6_copy_49 : decode cX6_copy 49 = .ok (.aload_n 0, 1) := by decide +kernel
theorem dX6_copy_50 : decode cX6_copy 50 = .ok (.dup, 1) := by decide +kernel
theorem dX6_copy_51 : decode cX6_copy 51 = .ok (.getfield 89, 3) := by decide +kernel
theorem dX6_copy_54 : decode cX6_copy 54 = .ok (.iconst 1, 1) := by decide +kernel
theorem dX6_copy_55 : decode cX6_copy 55 = .ok (.iadd, 1) := by decide +kernel
theorem dX6_copy_56 : decode cX6_copy 56 = .ok (.putfield 89, 3) := by decide +kernel
theorem dX6_copy_59 : decode cX6_copy 59 = .ok (.aload_n 0, 1) := by decide +kernel
theorem dX6_copy_60 : decode cX6_copy 60 = .ok (.getfield 7, 3) := by decide +kernel
theorem dX6_copy_63 : decode cX6_copy 63 = .ok (.iload_n 2, 1) := by decide +kernel
theorem dX6_copy_64 : decode cX6_copy 64 = .ok (.aload_n 0, 1) := by decide +kernel
theorem dX6_copy_65 : decode cX6_copy 65 = .ok (.getfield 7, 3) := by decide +kernel
theorem dX6_copy_68 : decode cX6_copy 68 = .ok (.iload_n 1, 1) := by decide +kernel
theorem dX6_copy_69 : decode cX6_copy 69 = .ok (.iaload, 1) := by decide +kernel
theorem dX6_copy_70 : decode cX6_copy 70 = .ok (.iastore, 1) := by decide +kernel
theorem dX6_copy_71 : decode cX6_copy 71 = .ok (.aload_n 0, 1) := by decide +kernel
theorem dX6_copy_72 : decode cX6_copy 72 = .ok (.getfield 20, 3) := by decide +kernel
theorem dX6_copy_75 : decode cX6_copy 75 = .ok (.iload_n 2, 1) := by decide +kernel
theorem dX6_copy_76 : decode cX6_copy 76 = .ok (.aload_n 0, 1) := by decide +kernel
theorem dX6_copy_77 : decode cX6_copy 77 = .ok (.getfield 20, 3) := by decide +kernel
theorem dX6_copy_80 : decode cX6_copy 80 = .ok (.iload_n 1, 1) := by decide +kernel
theorem dX6_copy_81 : decode cX6_copy 81 = .ok (.iaload, 1) := by decide +kernel
theorem dX6_copy_82 : decode cX6_copy 82 = .ok (.iastore, 1) := by decide +kernel
theorem dX6_copy_83 : decode cX6_copy 83 = .ok (.aload_n 0, 1) := by decide +kernel
theorem dX6_copy_84 : decode cX6_copy 84 = .ok (.getfield 26, 3) := by decide +kernel
theorem dX6_copy_87 : decode cX6_copy 87 = .ok (.iload_n 2, 1) := by decide +kernel
theorem dX6_copy_88 : decode cX6_copy 88 = .ok (.aload_n 0, 1) := by decide +kernel
theorem dX6_copy_89 : decode cX6_copy 89 = .ok (.getfield 26, 3) := by decide +kernel
theorem dX6_copy_92 : decode cX6_copy 92 = .ok (.iload_n 1, 1) := by decide +kernel
theorem dX6_copy_93 : decode cX6_copy 93 = .ok (.iaload, 1) := by decide +kernel
theorem dX6_copy_94 : decode cX6_copy 94 = .ok (.iastore, 1) := by decide +kernel
theorem dX6_copy_95 : decode cX6_copy 95 = .ok (.aload_n 0, 1) := by decide +kernel
theorem dX6_copy_96 : decode cX6_copy 96 = .ok (.getfield 29, 3) := by decide +kernel
theorem dX6_copy_99 : decode cX6_copy 99 = .ok (.iload_n 2, 1) := by decide +kernel
theorem dX6_copy_100 : decode cX6_copy 100 = .ok (.aload_n 0, 1) := by decide +kernel
theorem dX6_copy_101 : decode cX6_copy 101 = .ok (.getfield 29, 3) := by decide +kernel
theorem dX6_copy_104 : decode cX6_copy 104 = .ok (.iload_n 1, 1) := by decide +kernel
theorem dX6_copy_105 : decode cX6_copy 105 = .ok (.iaload, 1) := by decide +kernel
theorem dX6_copy_106 : decode cX6_copy 106 = .ok (.iastore, 1) := by decide +kernel
theorem dX6_copy_107 : decode cX6_copy 107 = .ok (.iconst 0, 1) := by decide +kernel
theorem dX6_copy_108 : decode cX6_copy 108 = .ok (.istore_n 3, 1) := by decide +kernel
theorem dX6_copy_109 : decode cX6_copy 109 = .ok (.iload_n 3, 1) := by decide +kernel
theorem dX6_copy_110 : decode cX6_copy 110 = .ok (.bipush 16, 2) := by decide +kernel
theorem dX6_copy_112 : decode cX6_copy 112 = .ok (.if_icmp .ge 53, 3) := by decide +kernel
theorem dX6_copy_115 : decode cX6_copy 115 = .ok (.aload_n 0, 1) := by decide +kernel
theorem dX6_copy_116 : decode cX6_copy 116 = .ok (.getfield 13, 3) := by decide +kernel
theorem dX6_copy_119 : decode cX6_copy 119 = .ok (.bipush 16, 2) := by decide +kernel
theorem dX6_copy_121 : decode cX6_copy 121 = .ok (.iload_n 2, 1) := by decide +kernel
theorem dX6_copy_122 : decode cX6_copy 122 = .ok (.imul, 1) := by decide +kernel
theorem dX6_copy_123 : decode cX6_copy 123 = .ok (.iload_n 3, 1) := by decide +kernel
theorem dX6_copy_124 : decode cX6_copy 124 = .ok (.iadd, 1) := by decide +kernel
theorem dX6_copy_125 : decode cX6_copy 125 = .ok (.aload_n 0, 1) := by decide +kernel
theorem dX6_copy_126 : decode cX6_copy 126 = .ok (.getfield 13, 3) := by decide +kernel
theorem dX6_copy_129 : decode cX6_copy 129 = .ok (.bipush 16, 2) := by decide +kernel
theorem dX6_copy_131 : decode cX6_copy 131 = .ok (.iload_n 1, 1) := by decide +kernel
theorem dX6_copy_132 : decode cX6_copy 132 = .ok (.imul, 1) := by decide +kernel
theorem dX6_copy_133 : decode cX6_copy 133 = .ok (.iload_n 3, 1) := by decide +kernel
theorem dX6_copy_134 : decode cX6_copy 134 = .ok (.iadd, 1) := by decide +kernel
theorem dX6_copy_135 : decode cX6_copy 135 = .ok (.iaload, 1) := by decide +kernel
theorem dX6_copy_136 : decode cX6_copy 136 = .ok (.iastore, 1) := by decide +kernel
theorem dX6_copy_137 : decode cX6_copy 137 = .ok (.aload_n 0, 1) := by decide +kernel
theorem dX6_copy_138 : decode cX6_copy 138 = .ok (.getfield 16, 3) := by decide +kernel
theorem dX6_copy_141 : decode cX6_copy 141 = .ok (.bipush 16, 2) := by decide +kernel
theorem dX6_copy_143 : decode cX6_copy 143 = .ok (.iload_n 2, 1) := by decide +kernel
theorem dX6_copy_144 : decode cX6_copy 144 = .ok (.imul, 1) := by decide +kernel
theorem dX6_copy_145 : decode cX6_copy 145 = .ok (.iload_n 3, 1) := by decide +kernel
theorem dX6_copy_146 : decode cX6_copy 146 = .ok (.iadd, 1) := by decide +kernel
theorem dX6_copy_147 : decode cX6_copy 147 = .ok (.aload_n 0, 1) := by decide +kernel
theorem dX6_copy_148 : decode cX6_copy 148 = .ok (.getfield 16, 3) := by decide +kernel
theorem dX6_copy_151 : decode cX6_copy 151 = .ok (.bipush 16, 2) := by decide +kernel
theorem dX6_copy_153 : decode cX6_copy 153 = .ok (.iload_n 1, 1) := by decide +kernel
theorem dX6_copy_154 : decode cX6_copy 154 = .ok (.imul, 1) := by decide +kernel
theorem dX6_copy_155 : decode cX6_copy 155 = .ok (.iload_n 3, 1) := by decide +kernel
theorem dX6_copy_156 : decode cX6_copy 156 = .ok (.iadd, 1) := by decide +kernel
theorem dX6_copy_157 : decode cX6_copy 157 = .ok (.baload, 1) := by decide +kernel
theorem dX6_copy_158 : decode cX6_copy 158 = .ok (.bastore, 1) := by decide +kernel
theorem dX6_copy_159 : decode cX6_copy 159 = .ok (.iinc 3 1, 3) := by decide +kernel
theorem dX6_copy_162 : decode cX6_copy 162 = .ok (.goto (-53), 3) := by decide +kernel
theorem dX6_copy_165 : decode cX6_copy 165 = .ok (.iconst 0, 1) := by decide +kernel
theorem dX6_copy_166 : decode cX6_copy 166 = .ok (.istore_n 3, 1) := by decide +kernel
theorem dX6_copy_167 : decode cX6_copy 167 = .ok (.iload_n 3, 1) := by decide +kernel
theorem dX6_copy_168 : decode cX6_copy 168 = .ok (.sipush 8320, 3) := by decide +kernel
theorem dX6_copy_171 : decode cX6_copy 171 = .ok (.if_icmp .ge 33, 3) := by decide +kernel
theorem dX6_copy_174 : decode cX6_copy 174 = .ok (.aload_n 0, 1) := by decide +kernel
theorem dX6_copy_175 : decode cX6_copy 175 = .ok (.getfield 33, 3) := by decide +kernel
theorem dX6_copy_178 : decode cX6_copy 178 = .ok (.sipush 8320, 3) := by decide +kernel
theorem dX6_copy_181 : decode cX6_copy 181 = .ok (.iload_n 2, 1) := by decide +kernel
theorem dX6_copy_182 : decode cX6_copy 182 = .ok (.imul, 1) := by decide +kernel
theorem dX6_copy_183 : decode cX6_copy 183 = .ok (.iload_n 3, 1) := by decide +kernel
theorem dX6_copy_184 : decode cX6_copy 184 = .ok (.iadd, 1) := by decide +kernel
theorem dX6_copy_185 : decode cX6_copy 185 = .ok (.aload_n 0, 1) := by decide +kernel
theorem dX6_copy_186 : decode cX6_copy 186 = .ok (.getfield 33, 3) := by decide +kernel
theorem dX6_copy_189 : decode cX6_copy 189 = .ok (.sipush 8320, 3) := by decide +kernel
theorem dX6_copy_192 : decode cX6_copy 192 = .ok (.iload_n 1, 1) := by decide +kernel
theorem dX6_copy_193 : decode cX6_copy 193 = .ok (.imul, 1) := by decide +kernel
theorem dX6_copy_194 : decode cX6_copy 194 = .ok (.iload_n 3, 1) := by decide +kernel
theorem dX6_copy_195 : decode cX6_copy 195 = .ok (.iadd, 1) := by decide +kernel
theorem dX6_copy_196 : decode cX6_copy 196 = .ok (.iaload, 1) := by decide +kernel
theorem dX6_copy_197 : decode cX6_copy 197 = .ok (.iastore, 1) := by decide +kernel
theorem dX6_copy_198 : decode cX6_copy 198 = .ok (.iinc 3 1, 3) := by decide +kernel
theorem dX6_copy_201 : decode cX6_copy 201 = .ok (.goto (-34), 3) := by decide +kernel
theorem dX6_copy_204 : decode cX6_copy 204 = .ok (.iconst 0, 1) := by decide +kernel
theorem dX6_copy_205 : decode cX6_copy 205 = .ok (.istore_n 3, 1) := by decide +kernel
theorem dX6_copy_206 : decode cX6_copy 206 = .ok (.iload_n 3, 1) := by decide +kernel
theorem dX6_copy_207 : decode cX6_copy 207 = .ok (.bipush 64, 2) := by decide +kernel
theorem dX6_copy_209 : decode cX6_copy 209 = .ok (.if_icmp .ge 53, 3) := by decide +kernel
theorem dX6_copy_212 : decode cX6_copy 212 = .ok (.aload_n 0, 1) := by decide +kernel
theorem dX6_copy_213 : decode cX6_copy 213 = .ok (.getfield 23, 3) := by decide +kernel
theorem dX6_copy_216 : decode cX6_copy 216 = .ok (.bipush 64, 2) := by decide +kernel
theorem dX6_copy_218 : decode cX6_copy 218 = .ok (.iload_n 2, 1) := by decide +kernel
theorem dX6_copy_219 : decode cX6_copy 219 = .ok (.imul, 1) := by decide +kernel
theorem dX6_copy_220 : decode cX6_copy 220 = .ok (.iload_n 3, 1) := by decide +kernel
theorem dX6_copy_221 : decode cX6_copy 221 = .ok (.iadd, 1) := by decide +kernel
theorem dX6_copy_222 : decode cX6_copy 222 = .ok (.aload_n 0, 1) := by decide +kernel
theorem dX6_copy_223 : decode cX6_copy 223 = .ok (.getfield 23, 3) := by decide +kernel
theorem dX6_copy_226 : decode cX6_copy 226 = .ok (.bipush 64, 2) := by decide +kernel
theorem dX6_copy_228 : decode cX6_copy 228 = .ok (.iload_n 1, 1) := by decide +kernel
theorem dX6_copy_229 : decode cX6_copy 229 = .ok (.imul, 1) := by decide +kernel
theorem dX6_copy_230 : decode cX6_copy 230 = .ok (.iload_n 3, 1) := by decide +kernel
theorem dX6_copy_231 : decode cX6_copy 231 = .ok (.iadd, 1) := by decide +kernel
theorem dX6_copy_232 : decode cX6_copy 232 = .ok (.iaload, 1) := by decide +kernel
theorem dX6_copy_233 : decode cX6_copy 233 = .ok (.iastore, 1) := by decide +kernel
theorem dX6_copy_234 : decode cX6_copy 234 = .ok (.aload_n 0, 1) := by decide +kernel
theorem dX6_copy_235 : decode cX6_copy 235 = .ok (.getfield 36, 3) := by decide +kernel
theorem dX6_copy_238 : decode cX6_copy 238 = .ok (.bipush 64, 2) := by decide +kernel
theorem dX6_copy_240 : decode cX6_copy 240 = .ok (.iload_n 2, 1) := by decide +kernel
theorem dX6_copy_241 : decode cX6_copy 241 = .ok (.imul, 1) := by decide +kernel
theorem dX6_copy_242 : decode cX6_copy 242 = .ok (.iload_n 3, 1) := by decide +kernel
theorem dX6_copy_243 : decode cX6_copy 243 = .ok (.iadd, 1) := by decide +kernel
theorem dX6_copy_244 : decode cX6_copy 244 = .ok (.aload_n 0, 1) := by decide +kernel
theorem dX6_copy_245 : decode cX6_copy 245 = .ok (.getfield 36, 3) := by decide +kernel
theorem dX6_copy_248 : decode cX6_copy 248 = .ok (.bipush 64, 2) := by decide +kernel
theorem dX6_copy_250 : decode cX6_copy 250 = .ok (.iload_n 1, 1) := by decide +kernel
theorem dX6_copy_251 : decode cX6_copy 251 = .ok (.imul, 1) := by decide +kernel
theorem dX6_copy_252 : decode cX6_copy 252 = .ok (.iload_n 3, 1) := by decide +kernel
theorem dX6_copy_253 : decode cX6_copy 253 = .ok (.iadd, 1) := by decide +kernel
theorem dX6_copy_254 : decode cX6_copy 254 = .ok (.iaload, 1) := by decide +kernel
theorem dX6_copy_255 : decode cX6_copy 255 = .ok (.iastore, 1) := by decide +kernel
theorem dX6_copy_256 : decode cX6_copy 256 = .ok (.iinc 3 1, 3) := by decide +kernel
theorem dX6_copy_259 : decode cX6_copy 259 = .ok (.goto (-53), 3) := by decide +kernel
theorem dX6_copy_262 : decode cX6_copy 262 = .ok (.iconst 0, 1) := by decide +kernel
theorem dX6_copy_263 : decode cX6_copy 263 = .ok (.istore_n 3, 1) := by decide +kernel
theorem dX6_copy_264 : decode cX6_copy 264 = .ok (.iload_n 3, 1) := by decide +kernel
theorem dX6_copy_265 : decode cX6_copy 265 = .ok (.sipush 1536, 3) := by decide +kernel
theorem dX6_copy_268 : decode cX6_copy 268 = .ok (.if_icmp .ge 33, 3) := by decide +kernel
theorem dX6_copy_271 : decode cX6_copy 271 = .ok (.aload_n 0, 1) := by decide +kernel
theorem dX6_copy_272 : decode cX6_copy 272 = .ok (.getfield 40, 3) := by decide +kernel
theorem dX6_copy_275 : decode cX6_copy 275 = .ok (.sipush 1536, 3) := by decide +kernel
theorem dX6_copy_278 : decode cX6_copy 278 = .ok (.iload_n 2, 1) := by decide +kernel
theorem dX6_copy_279 : decode cX6_copy 279 = .ok (.imul, 1) := by decide +kernel
theorem dX6_copy_280 : decode cX6_copy 280 = .ok (.iload_n 3, 1) := by decide +kernel
theorem dX6_copy_281 : decode cX6_copy 281 = .ok (.iadd, 1) := by decide +kernel
theorem dX6_copy_282 : decode cX6_copy 282 = .ok (.aload_n 0, 1) := by decide +kernel
theorem dX6_copy_283 : decode cX6_copy 283 = .ok (.getfield 40, 3) := by decide +kernel
theorem dX6_copy_286 : decode cX6_copy 286 = .ok (.sipush 1536, 3) := by decide +kernel
theorem dX6_copy_289 : decode cX6_copy 289 = .ok (.iload_n 1, 1) := by decide +kernel
theorem dX6_copy_290 : decode cX6_copy 290 = .ok (.imul, 1) := by decide +kernel
theorem dX6_copy_291 : decode cX6_copy 291 = .ok (.iload_n 3, 1) := by decide +kernel
theorem dX6_copy_292 : decode cX6_copy 292 = .ok (.iadd, 1) := by decide +kernel
theorem dX6_copy_293 : decode cX6_copy 293 = .ok (.iaload, 1) := by decide +kernel
theorem dX6_copy_294 : decode cX6_copy 294 = .ok (.iastore, 1) := by decide +kernel
theorem dX6_copy_295 : decode cX6_copy 295 = .ok (.iinc 3 1, 3) := by decide +kernel
theorem dX6_copy_298 : decode cX6_copy 298 = .ok (.goto (-34), 3) := by decide +kernel
theorem dX6_copy_301 : decode cX6_copy 301 = .ok (.iload_n 2, 1) := by decide +kernel
theorem dX6_copy_302 : decode cX6_copy 302 = .ok (.ireturn, 1) := by decide +kernel
theorem dX6_shared_0 : decode cX6_shared 0 = .ok (.aload_n 0, 1) := by decide +kernel
theorem dX6_shared_1 : decode cX6_shared 1 = .ok (.iload_n 1, 1) := by decide +kernel
theorem dX6_shared_2 : decode cX6_shared 2 = .ok (.aload_n 0, 1) := by decide +kernel
theorem dX6_shared_3 : decode cX6_shared 3 = .ok (.getfield 89, 3) := by decide +kernel
theorem dX6_shared_6 : decode cX6_shared 6 = .ok (.invokestatic 99, 3) := by decide +kernel
theorem dX6_shared_9 : decode cX6_shared 9 = .ok (.ifCond .eq 14, 3) := by decide +kernel
theorem dX6_shared_12 : decode cX6_shared 12 = .ok (.iload_n 2, 1) := by decide +kernel
theorem dX6_shared_13 : decode cX6_shared 13 = .ok (.aload_n 0, 1) := by decide +kernel
theorem dX6_shared_14 : decode cX6_shared 14 = .ok (.getfield 89, 3) := by decide +kernel
theorem dX6_shared_17 : decode cX6_shared 17 = .ok (.invokestatic 99, 3) := by decide +kernel
theorem dX6_shared_20 : decode cX6_shared 20 = .ok (.ifCond .ne 7, 3) := by decide +kernel
theorem dX6_shared_23 : decode cX6_shared 23 = .ok (.iconst 1, 1) := by decide +kernel
theorem dX6_shared_24 : decode cX6_shared 24 = .ok (.goto 4, 3) := by decide +kernel
theorem dX6_shared_27 : decode cX6_shared 27 = .ok (.iconst 0, 1) := by decide +kernel
theorem dX6_shared_28 : decode cX6_shared 28 = .ok (.iconst 0, 1) := by decide +kernel
theorem dX6_shared_29 : decode cX6_shared 29 = .ok (.invokevirtual 107, 3) := by decide +kernel
theorem dX6_shared_32 : decode cX6_shared 32 = .ok (.ifCond .ne 22, 3) := by decide +kernel
theorem dX6_shared_35 : decode cX6_shared 35 = .ok (.aload_n 0, 1) := by decide +kernel
theorem dX6_shared_36 : decode cX6_shared 36 = .ok (.getfield 29, 3) := by decide +kernel
theorem dX6_shared_39 : decode cX6_shared 39 = .ok (.iload_n 1, 1) := by decide +kernel
theorem dX6_shared_40 : decode cX6_shared 40 = .ok (.iaload, 1) := by decide +kernel
theorem dX6_shared_41 : decode cX6_shared 41 = .ok (.aload_n 0, 1) := by decide +kernel
theorem dX6_shared_42 : decode cX6_shared 42 = .ok (.getfield 29, 3) := by decide +kernel
theorem dX6_shared_45 : decode cX6_shared 45 = .ok (.iload_n 2, 1) := by decide +kernel
theorem dX6_shared_46 : decode cX6_shared 46 = .ok (.iaload, 1) := by decide +kernel
theorem dX6_shared_47 : decode cX6_shared 47 = .ok (.if_icmp .ne 7, 3) := by decide +kernel
theorem dX6_shared_50 : decode cX6_shared 50 = .ok (.iconst 1, 1) := by decide +kernel
theorem dX6_shared_51 : decode cX6_shared 51 = .ok (.goto 4, 3) := by decide +kernel
theorem dX6_shared_54 : decode cX6_shared 54 = .ok (.iconst 0, 1) := by decide +kernel
theorem dX6_shared_55 : decode cX6_shared 55 = .ok (.ireturn, 1) := by decide +kernel
theorem dX6_enter_0 : decode cX6_enter 0 = .ok (.aload_n 0, 1) := by decide +kernel
theorem dX6_enter_1 : decode cX6_enter 1 = .ok (.getfield 43, 3) := by decide +kernel
theorem dX6_enter_4 : decode cX6_enter 4 = .ok (.aload_n 0, 1) := by decide +kernel
theorem dX6_enter_5 : decode cX6_enter 5 = .ok (.getfield 139, 3) := by decide +kernel
theorem dX6_enter_8 : decode cX6_enter 8 = .ok (.iload_n 1, 1) := by decide +kernel
theorem dX6_enter_9 : decode cX6_enter 9 = .ok (.iastore, 1) := by decide +kernel
theorem dX6_enter_10 : decode cX6_enter 10 = .ok (.aload_n 0, 1) := by decide +kernel
theorem dX6_enter_11 : decode cX6_enter 11 = .ok (.getfield 46, 3) := by decide +kernel
theorem dX6_enter_14 : decode cX6_enter 14 = .ok (.aload_n 0, 1) := by decide +kernel
theorem dX6_enter_15 : decode cX6_enter 15 = .ok (.getfield 139, 3) := by decide +kernel
theorem dX6_enter_18 : decode cX6_enter 18 = .ok (.iload_n 2, 1) := by decide +kernel
theorem dX6_enter_19 : decode cX6_enter 19 = .ok (.iastore, 1) := by decide +kernel
theorem dX6_enter_20 : decode cX6_enter 20 = .ok (.aload_n 0, 1) := by decide +kernel
theorem dX6_enter_21 : decode cX6_enter 21 = .ok (.getfield 49, 3) := by decide +kernel
theorem dX6_enter_24 : decode cX6_enter 24 = .ok (.aload_n 0, 1) := by decide +kernel
theorem dX6_enter_25 : decode cX6_enter 25 = .ok (.getfield 139, 3) := by decide +kernel
theorem dX6_enter_28 : decode cX6_enter 28 = .ok (.iload_n 3, 1) := by decide +kernel
theorem dX6_enter_29 : decode cX6_enter 29 = .ok (.iastore, 1) := by decide +kernel
theorem dX6_enter_30 : decode cX6_enter 30 = .ok (.aload_n 0, 1) := by decide +kernel
theorem dX6_enter_31 : decode cX6_enter 31 = .ok (.dup, 1) := by decide +kernel
theorem dX6_enter_32 : decode cX6_enter 32 = .ok (.getfield 139, 3) := by decide +kernel
theorem dX6_enter_35 : decode cX6_enter 35 = .ok (.iconst 1, 1) := by decide +kernel
theorem dX6_enter_36 : decode cX6_enter 36 = .ok (.iadd, 1) := by decide +kernel
theorem dX6_enter_37 : decode cX6_enter 37 = .ok (.putfield 139, 3) := by decide +kernel
theorem dX6_enter_40 : decode cX6_enter 40 = .ok (.return_, 1) := by decide +kernel
theorem dX6_walk_0 : decode cX6_walk 0 = .ok (.aload_n 0, 1) := by decide +kernel
theorem dX6_walk_1 : decode cX6_walk 1 = .ok (.iconst 0, 1) := by decide +kernel
theorem dX6_walk_2 : decode cX6_walk 2 = .ok (.putfield 139, 3) := by decide +kernel
theorem dX6_walk_5 : decode cX6_walk 5 = .ok (.aload_n 0, 1) := by decide +kernel
theorem dX6_walk_6 : decode cX6_walk 6 = .ok (.iconst 0, 1) := by decide +kernel
theorem dX6_walk_7 : decode cX6_walk 7 = .ok (.putfield 142, 3) := by decide +kernel
theorem dX6_walk_10 : decode cX6_walk 10 = .ok (.aload_n 0, 1) := by decide +kernel
theorem dX6_walk_11 : decode cX6_walk 11 = .ok (.iload_n 1, 1) := by decide +kernel
theorem dX6_walk_12 : decode cX6_walk 12 = .ok (.iconst (-1), 1) := by decide +kernel
theorem dX6_walk_13 : decode cX6_walk 13 = .ok (.iconst (-1), 1) := by decide +kernel
theorem dX6_walk_14 : decode cX6_walk 14 = .ok (.invokevirtual 145, 3) := by decide +kernel
theorem dX6_walk_17 : decode cX6_walk 17 = .ok (.iconst 1, 1) := by decide +kernel
theorem dX6_walk_18 : decode cX6_walk 18 = .ok (.istore_n 2, 1) := by decide +kernel
theorem dX6_walk_19 : decode cX6_walk 19 = .ok (.aload_n 0, 1) := by decide +kernel
theorem dX6_walk_20 : decode cX6_walk 20 = .ok (.getfield 61, 3) := by decide +kernel
theorem dX6_walk_23 : decode cX6_walk 23 = .ok (.iconst 0, 1) := by decide +kernel
theorem dX6_walk_24 : decode cX6_walk 24 = .ok (.iconst 0, 1) := by decide +kernel
theorem dX6_walk_25 : decode cX6_walk 25 = .ok (.iastore, 1) := by decide +kernel
theorem dX6_walk_26 : decode cX6_walk 26 = .ok (.aload_n 0, 1) := by decide +kernel
theorem dX6_walk_27 : decode cX6_walk 27 = .ok (.getfield 64, 3) := by decide +kernel
theorem dX6_walk_30 : decode cX6_walk 30 = .ok (.iconst 0, 1) := by decide +kernel
theorem dX6_walk_31 : decode cX6_walk 31 = .ok (.iconst 0, 1) := by decide +kernel
theorem dX6_walk_32 : decode cX6_walk 32 = .ok (.iastore, 1) := by decide +kernel
theorem dX6_walk_33 : decode cX6_walk 33 = .ok (.iload_n 2, 1) := by decide +kernel
theorem dX6_walk_34 : decode cX6_walk 34 = .ok (.ifCond .le 164, 3) := by decide +kernel
theorem dX6_walk_37 : decode cX6_walk 37 = .ok (.aload_n 0, 1) := by decide +kernel
theorem dX6_walk_38 : decode cX6_walk 38 = .ok (.getfield 61, 3) := by decide +kernel
theorem dX6_walk_41 : decode cX6_walk 41 = .ok (.iload_n 2, 1) := by decide +kernel
theorem dX6_walk_42 : decode cX6_walk 42 = .ok (.iconst 1, 1) := by decide +kernel
theorem dX6_walk_43 : decode cX6_walk 43 = .ok (.isub, 1) := by decide +kernel
theorem dX6_walk_44 : decode cX6_walk 44 = .ok (.iaload, 1) := by decide +kernel
theorem dX6_walk_45 : decode cX6_walk 45 = .ok (.istore_n 3, 1) := by decide +kernel
theorem dX6_walk_46 : decode cX6_walk 46 = .ok (.aload_n 0, 1) := by decide +kernel
theorem dX6_walk_47 : decode cX6_walk 47 = .ok (.getfield 43, 3) := by decide +kernel
theorem dX6_walk_50 : decode cX6_walk 50 = .ok (.iload_n 3, 1) := by decide +kernel
theorem dX6_walk_51 : decode cX6_walk 51 = .ok (.iaload, 1) := by decide +kernel
theorem dX6_walk_52 : decode cX6_walk 52 = .ok (.istore 4, 2) := by decide +kernel
theorem dX6_walk_54 : decode cX6_walk 54 = .ok (.aload_n 0, 1) := by decide +kernel
theorem dX6_walk_55 : decode cX6_walk 55 = .ok (.getfield 64, 3) := by decide +kernel
theorem dX6_walk_58 : decode cX6_walk 58 = .ok (.iload_n 2, 1) := by decide +kernel
theorem dX6_walk_59 : decode cX6_walk 59 = .ok (.iconst 1, 1) := by decide +kernel
theorem dX6_walk_60 : decode cX6_walk 60 = .ok (.isub, 1) := by decide +kernel
theorem dX6_walk_61 : decode cX6_walk 61 = .ok (.iaload, 1) := by decide +kernel
theorem dX6_walk_62 : decode cX6_walk 62 = .ok (.istore 5, 2) := by decide +kernel
theorem dX6_walk_64 : decode cX6_walk 64 = .ok (.iload 5, 2) := by decide +kernel
theorem dX6_walk_66 : decode cX6_walk 66 = .ok (.aload_n 0, 1) := by decide +kernel
theorem dX6_walk_67 : decode cX6_walk 67 = .ok (.getfield 20, 3) := by decide +kernel
theorem dX6_walk_70 : decode cX6_walk 70 = .ok (.iload 4, 2) := by decide +kernel
theorem dX6_walk_72 : decode cX6_walk 72 = .ok (.iaload, 1) := by decide +kernel
theorem dX6_walk_73 : decode cX6_walk 73 = .ok (.if_icmp .ne 9, 3) := by decide +kernel
theorem dX6_walk_76 : decode cX6_walk 76 = .ok (.iinc 2 (-1), 3) := by decide +kernel
theorem dX6_walk_79 : decode cX6_walk 79 = .ok (.goto 116, 3) := by decide +kernel
theorem dX6_walk_82 : decode cX6_walk 82 = .ok (.aload_n 0, 1) := by decide +kernel
theorem dX6_walk_83 : decode cX6_walk 83 = .ok (.getfield 64, 3) := by decide +kernel
theorem dX6_walk_86 : decode cX6_walk 86 = .ok (.iload_n 2, 1) := by decide +kernel
theorem dX6_walk_87 : decode cX6_walk 87 = .ok (.iconst 1, 1) := by decide +kernel
theorem dX6_walk_88 : decode cX6_walk 88 = .ok (.isub, 1) := by decide +kernel
theorem dX6_walk_89 : decode cX6_walk 89 = .ok (.iload 5, 2) := by decide +kernel
theorem dX6_walk_91 : decode cX6_walk 91 = .ok (.iconst 1, 1) := by decide +kernel
theorem dX6_walk_92 : decode cX6_walk 92 = .ok (.iadd, 1) := by decide +kernel
theorem dX6_walk_93 : decode cX6_walk 93 = .ok (.iastore, 1) := by decide +kernel
theorem dX6_walk_94 : decode cX6_walk 94 = .ok (.aload_n 0, 1) := by decide +kernel
theorem dX6_walk_95 : decode cX6_walk 95 = .ok (.getfield 23, 3) := by decide +kernel
theorem dX6_walk_98 : decode cX6_walk 98 = .ok (.bipush 64, 2) := by decide +kernel
theorem dX6_walk_100 : decode cX6_walk 100 = .ok (.iload 4, 2) := by decide +kernel
theorem dX6_walk_102 : decode cX6_walk 102 = .ok (.imul, 1) := by decide +kernel
theorem dX6_walk_103 : decode cX6_walk 103 = .ok (.iload 5, 2) := by decide +kernel
theorem dX6_walk_105 : decode cX6_walk 105 = .ok (.iadd, 1) := by decide +kernel
theorem dX6_walk_106 : decode cX6_walk 106 = .ok (.iaload, 1) := by decide +kernel
theorem dX6_walk_107 : decode cX6_walk 107 = .ok (.istore 6, 2) := by decide +kernel
theorem dX6_walk_109 : decode cX6_walk 109 = .ok (.aload_n 0, 1) := by decide +kernel
theorem dX6_walk_110 : decode cX6_walk 110 = .ok (.getfield 20, 3) := by decide +kernel
theorem dX6_walk_113 : decode cX6_walk 113 = .ok (.iload 6, 2) := by decide +kernel
theorem dX6_walk_115 : decode cX6_walk 115 = .ok (.iaload, 1) := by decide +kernel
theorem dX6_walk_116 : decode cX6_walk 116 = .ok (.ifCond .le 37, 3) := by decide +kernel
theorem dX6_walk_119 : decode cX6_walk 119 = .ok (.aload_n 0, 1) := by decide +kernel
theorem dX6_walk_120 : decode cX6_walk 120 = .ok (.iload 6, 2) := by decide +kernel
theorem dX6_walk_122 : decode cX6_walk 122 = .ok (.iload_n 3, 1) := by decide +kernel
theorem dX6_walk_123 : decode cX6_walk 123 = .ok (.iload 5, 2) := by decide +kernel
theorem dX6_walk_125 : decode cX6_walk 125 = .ok (.invokevirtual 145, 3) := by decide +kernel
theorem dX6_walk_128 : decode cX6_walk 128 = .ok (.aload_n 0, 1) := by decide +kernel
theorem dX6_walk_129 : decode cX6_walk 129 = .ok (.getfield 61, 3) := by decide +kernel
theorem dX6_walk_132 : decode cX6_walk 132 = .ok (.iload_n 2, 1) := by decide +kernel
theorem dX6_walk_133 : decode cX6_walk 133 = .ok (.aload_n 0, 1) := by decide +kernel
theorem dX6_walk_134 : decode cX6_walk 134 = .ok (.getfield 139, 3) := by decide +kernel
theorem dX6_walk_137 : decode cX6_walk 137 = .ok (.iconst 1, 1) := by decide +kernel
theorem dX6_walk_138 : decode cX6_walk 138 = .ok (.isub, 1) := by decide +kernel
theorem dX6_walk_139 : decode cX6_walk 139 = .ok (.iastore, 1) := by decide +kernel
theorem dX6_walk_140 : decode cX6_walk 140 = .ok (.aload_n 0, 1) := by decide +kernel
theorem dX6_walk_141 : decode cX6_walk 141 = .ok (.getfield 64, 3) := by decide +kernel
theorem dX6_walk_144 : decode cX6_walk 144 = .ok (.iload_n 2, 1) := by decide +kernel
theorem dX6_walk_145 : decode cX6_walk 145 = .ok (.iconst 0, 1) := by decide +kernel
theorem dX6_walk_146 : decode cX6_walk 146 = .ok (.iastore, 1) := by decide +kernel
theorem dX6_walk_147 : decode cX6_walk 147 = .ok (.iinc 2 1, 3) := by decide +kernel
theorem dX6_walk_150 : decode cX6_walk 150 = .ok (.goto 45, 3) := by decide +kernel
theorem dX6_walk_153 : decode cX6_walk 153 = .ok (.aload_n 0, 1) := by decide +kernel
theorem dX6_walk_154 : decode cX6_walk 154 = .ok (.getfield 142, 3) := by decide +kernel
theorem dX6_walk_157 : decode cX6_walk 157 = .ok (.bipush 64, 2) := by decide +kernel
theorem dX6_walk_159 : decode cX6_walk 159 = .ok (.if_icmp .ne 5, 3) := by decide +kernel
theorem dX6_walk_162 : decode cX6_walk 162 = .ok (.iconst 0, 1) := by decide +kernel
theorem dX6_walk_163 : decode cX6_walk 163 = .ok (.ireturn, 1) := by decide +kernel
theorem dX6_walk_164 : decode cX6_walk 164 = .ok (.aload_n 0, 1) := by decide +kernel
theorem dX6_walk_165 : decode cX6_walk 165 = .ok (.getfield 55, 3) := by decide +kernel
theorem dX6_walk_168 : decode cX6_walk 168 = .ok (.aload_n 0, 1) := by decide +kernel
theorem dX6_walk_169 : decode cX6_walk 169 = .ok (.getfield 142, 3) := by decide +kernel
theorem dX6_walk_172 : decode cX6_walk 172 = .ok (.iload_n 3, 1) := by decide +kernel
theorem dX6_walk_173 : decode cX6_walk 173 = .ok (.iastore, 1) := by decide +kernel
theorem dX6_walk_174 : decode cX6_walk 174 = .ok (.aload_n 0, 1) := by decide +kernel
theorem dX6_walk_175 : decode cX6_walk 175 = .ok (.getfield 58, 3) := by decide +kernel
theorem dX6_walk_178 : decode cX6_walk 178 = .ok (.aload_n 0, 1) := by decide +kernel
theorem dX6_walk_179 : decode cX6_walk 179 = .ok (.getfield 142, 3) := by decide +kernel
theorem dX6_walk_182 : decode cX6_walk 182 = .ok (.iload 5, 2) := by decide +kernel
theorem dX6_walk_184 : decode cX6_walk 184 = .ok (.iastore, 1) := by decide +kernel
theorem dX6_walk_185 : decode cX6_walk 185 = .ok (.aload_n 0, 1) := by decide +kernel
theorem dX6_walk_186 : decode cX6_walk 186 = .ok (.dup, 1) := by decide +kernel
theorem dX6_walk_187 : decode cX6_walk 187 = .ok (.getfield 142, 3) := by decide +kernel
theorem dX6_walk_190 : decode cX6_walk 190 = .ok (.iconst 1, 1) := by decide +kernel
theorem dX6_walk_191 : decode cX6_walk 191 = .ok (.iadd, 1) := by decide +kernel
theorem dX6_walk_192 : decode cX6_walk 192 = .ok (.putfield 142, 3) := by decide +kernel
theorem dX6_walk_195 : decode cX6_walk 195 = .ok (.goto (-162), 3) := by decide +kernel
theorem dX6_walk_198 : decode cX6_walk 198 = .ok (.iconst 1, 1) := by decide +kernel
theorem dX6_walk_199 : decode cX6_walk 199 = .ok (.ireturn, 1) := by decide +kernel
theorem dX6_unite_0 : decode cX6_unite 0 = .ok (.aload_n 0, 1) := by decide +kernel
theorem dX6_unite_1 : decode cX6_unite 1 = .ok (.getfield 52, 3) := by decide +kernel
theorem dX6_unite_4 : decode cX6_unite 4 = .ok (.iconst 0, 1) := by decide +kernel
theorem dX6_unite_5 : decode cX6_unite 5 = .ok (.iconst 0, 1) := by decide +kernel
theorem dX6_unite_6 : decode cX6_unite 6 = .ok (.iastore, 1) := by decide +kernel
theorem dX6_unite_7 : decode cX6_unite 7 = .ok (.iconst 0, 1) := by decide +kernel
theorem dX6_unite_8 : decode cX6_unite 8 = .ok (.istore_n 1, 1) := by decide +kernel
theorem dX6_unite_9 : decode cX6_unite 9 = .ok (.iload_n 1, 1) := by decide +kernel
theorem dX6_unite_10 : decode cX6_unite 10 = .ok (.aload_n 0, 1) := by decide +kernel
theorem dX6_unite_11 : decode cX6_unite 11 = .ok (.getfield 139, 3) := by decide +kernel
theorem dX6_unite_14 : decode cX6_unite 14 = .ok (.if_icmp .ge 51, 3) := by decide +kernel
theorem dX6_unite_17 : decode cX6_unite 17 = .ok (.aload_n 0, 1) := by decide +kernel
theorem dX6_unite_18 : decode cX6_unite 18 = .ok (.getfield 52, 3) := by decide +kernel
theorem dX6_unite_21 : decode cX6_unite 21 = .ok (.iload_n 1, 1) := by decide +kernel
theorem dX6_unite_22 : decode cX6_unite 22 = .ok (.iconst 1, 1) := by decide +kernel
theorem dX6_unite_23 : decode cX6_unite 23 = .ok (.iadd, 1) := by decide +kernel
theorem dX6_unite_24 : decode cX6_unite 24 = .ok (.aload_n 0, 1) := by decide +kernel
theorem dX6_unite_25 : decode cX6_unite 25 = .ok (.getfield 52, 3) := by decide +kernel
theorem dX6_unite_28 : decode cX6_unite 28 = .ok (.iload_n 1, 1) := by decide +kernel
theorem dX6_unite_29 : decode cX6_unite 29 = .ok (.iaload, 1) := by decide +kernel
theorem dX6_unite_30 : decode cX6_unite 30 = .ok (.aload_n 0, 1) := by decide +kernel
theorem dX6_unite_31 : decode cX6_unite 31 = .ok (.getfield 26, 3) := by decide +kernel
theorem dX6_unite_34 : decode cX6_unite 34 = .ok (.aload_n 0, 1) := by decide +kernel
theorem dX6_unite_35 : decode cX6_unite 35 = .ok (.getfield 43, 3) := by decide +kernel
theorem dX6_unite_38 : decode cX6_unite 38 = .ok (.iload_n 1, 1) := by decide +kernel
theorem dX6_unite_39 : decode cX6_unite 39 = .ok (.iaload, 1) := by decide +kernel
theorem dX6_unite_40 : decode cX6_unite 40 = .ok (.iaload, 1) := by decide +kernel
theorem dX6_unite_41 : decode cX6_unite 41 = .ok (.iadd, 1) := by decide +kernel
theorem dX6_unite_42 : decode cX6_unite 42 = .ok (.iastore, 1) := by decide +kernel
theorem dX6_unite_43 : decode cX6_unite 43 = .ok (.aload_n 0, 1) := by decide +kernel
theorem dX6_unite_44 : decode cX6_unite 44 = .ok (.getfield 52, 3) := by decide +kernel
theorem dX6_unite_47 : decode cX6_unite 47 = .ok (.iload_n 1, 1) := by decide +kernel
theorem dX6_unite_48 : decode cX6_unite 48 = .ok (.iconst 1, 1) := by decide +kernel
theorem dX6_unite_49 : decode cX6_unite 49 = .ok (.iadd, 1) := by decide +kernel
theorem dX6_unite_50 : decode cX6_unite 50 = .ok (.iaload, 1) := by decide +kernel
theorem dX6_unite_51 : decode cX6_unite 51 = .ok (.sipush 3000, 3) := by decide +kernel
theorem dX6_unite_54 : decode cX6_unite 54 = .ok (.if_icmp .le 5, 3) := by decide +kernel
theorem dX6_unite_57 : decode cX6_unite 57 = .ok (.iconst 0, 1) := by decide +kernel
theorem dX6_unite_58 : decode cX6_unite 58 = .ok (.ireturn, 1) := by decide +kernel
theorem dX6_unite_59 : decode cX6_unite 59 = .ok (.iinc 1 1, 3) := by decide +kernel
theorem dX6_unite_62 : decode cX6_unite 62 = .ok (.goto (-53), 3) := by decide +kernel
theorem dX6_unite_65 : decode cX6_unite 65 = .ok (.iconst 0, 1) := by decide +kernel
theorem dX6_unite_66 : decode cX6_unite 66 = .ok (.istore_n 1, 1) := by decide +kernel
theorem dX6_unite_67 : decode cX6_unite 67 = .ok (.iload_n 1, 1) := by decide +kernel
theorem dX6_unite_68 : decode cX6_unite 68 = .ok (.aload_n 0, 1) := by decide +kernel
theorem dX6_unite_69 : decode cX6_unite 69 = .ok (.getfield 52, 3) := by decide +kernel
theorem dX6_unite_72 : decode cX6_unite 72 = .ok (.aload_n 0, 1) := by decide +kernel
theorem dX6_unite_73 : decode cX6_unite 73 = .ok (.getfield 139, 3) := by decide +kernel
theorem dX6_unite_76 : decode cX6_unite 76 = .ok (.iaload, 1) := by decide +kernel
theorem dX6_unite_77 : decode cX6_unite 77 = .ok (.if_icmp .ge 16, 3) := by decide +kernel
theorem dX6_unite_80 : decode cX6_unite 80 = .ok (.aload_n 0, 1) := by decide +kernel
theorem dX6_unite_81 : decode cX6_unite 81 = .ok (.getfield 67, 3) := by decide +kernel
theorem dX6_unite_84 : decode cX6_unite 84 = .ok (.iload_n 1, 1) := by decide +kernel
theorem dX6_unite_85 : decode cX6_unite 85 = .ok (.iload_n 1, 1) := by decide +kernel
theorem dX6_unite_86 : decode cX6_unite 86 = .ok (.iastore, 1) := by decide +kernel
theorem dX6_unite_87 : decode cX6_unite 87 = .ok (.iinc 1 1, 3) := by decide +kernel
theorem dX6_unite_90 : decode cX6_unite 90 = .ok (.goto (-23), 3) := by decide +kernel
theorem dX6_unite_93 : decode cX6_unite 93 = .ok (.iconst 1, 1) := by decide +kernel
theorem dX6_unite_94 : decode cX6_unite 94 = .ok (.istore_n 1, 1) := by decide +kernel
theorem dX6_unite_95 : decode cX6_unite 95 = .ok (.iload_n 1, 1) := by decide +kernel
theorem dX6_unite_96 : decode cX6_unite 96 = .ok (.ifCond .eq 149, 3) := by decide +kernel
theorem dX6_unite_99 : decode cX6_unite 99 = .ok (.iconst 0, 1) := by decide +kernel
theorem dX6_unite_100 : decode cX6_unite 100 = .ok (.istore_n 1, 1) := by decide +kernel
theorem dX6_unite_101 : decode cX6_unite 101 = .ok (.iconst 1, 1) := by decide +kernel
theorem dX6_unite_102 : decode cX6_unite 102 = .ok (.istore_n 2, 1) := by decide +kernel
theorem dX6_unite_103 : decode cX6_unite 103 = .ok (.iload_n 2, 1) := by decide +kernel
theorem dX6_unite_104 : decode cX6_unite 104 = .ok (.aload_n 0, 1) := by decide +kernel
theorem dX6_unite_105 : decode cX6_unite 105 = .ok (.getfield 139, 3) := by decide +kernel
theorem dX6_unite_108 : decode cX6_unite 108 = .ok (.if_icmp .ge 134, 3) := by decide +kernel
theorem dX6_unite_111 : decode cX6_unite 111 = .ok (.aload_n 0, 1) := by decide +kernel
theorem dX6_unite_112 : decode cX6_unite 112 = .ok (.getfield 46, 3) := by decide +kernel
theorem dX6_unite_115 : decode cX6_unite 115 = .ok (.iload_n 2, 1) := by decide +kernel
theorem dX6_unite_116 : decode cX6_unite 116 = .ok (.iaload, 1) := by decide +kernel
theorem dX6_unite_117 : decode cX6_unite 117 = .ok (.istore_n 3, 1) := by decide +kernel
theorem dX6_unite_118 : decode cX6_unite 118 = .ok (.aload_n 0, 1) := by decide +kernel
theorem dX6_unite_119 : decode cX6_unite 119 = .ok (.aload_n 0, 1) := by decide +kernel
theorem dX6_unite_120 : decode cX6_unite 120 = .ok (.getfield 43, 3) := by decide +kernel
theorem dX6_unite_123 : decode cX6_unite 123 = .ok (.iload_n 2, 1) := by decide +kernel
theorem dX6_unite_124 : decode cX6_unite 124 = .ok (.iaload, 1) := by decide +kernel
theorem dX6_unite_125 : decode cX6_unite 125 = .ok (.invokevirtual 117, 3) := by decide +kernel
theorem dX6_unite_128 : decode cX6_unite 128 = .ok (.istore 4, 2) := by decide +kernel
theorem dX6_unite_130 : decode cX6_unite 130 = .ok (.iconst 0, 1) := by decide +kernel
theorem dX6_unite_131 : decode cX6_unite 131 = .ok (.istore 5, 2) := by decide +kernel
theorem dX6_unite_133 : decode cX6_unite 133 = .ok (.iload 5, 2) := by decide +kernel
theorem dX6_unite_135 : decode cX6_unite 135 = .ok (.iload 4, 2) := by decide +kernel
theorem dX6_unite_137 : decode cX6_unite 137 = .ok (.if_icmp .ge 99, 3) := by decide +kernel
theorem dX6_unite_140 : decode cX6_unite 140 = .ok (.aload_n 0, 1) := by decide +kernel
theorem dX6_unite_141 : decode cX6_unite 141 = .ok (.getfield 33, 3) := by decide +kernel
theorem dX6_unite_144 : decode cX6_unite 144 = .ok (.aload_n 0, 1) := by decide +kernel
theorem dX6_unite_145 : decode cX6_unite 145 = .ok (.getfield 43, 3) := by decide +kernel
theorem dX6_unite_148 : decode cX6_unite 148 = .ok (.iload_n 3, 1) := by decide +kernel
theorem dX6_unite_149 : decode cX6_unite 149 = .ok (.iaload, 1) := by decide +kernel
theorem dX6_unite_150 : decode cX6_unite 150 = .ok (.aload_n 0, 1) := by decide +kernel
theorem dX6_unite_151 : decode cX6_unite 151 = .ok (.getfield 49, 3) := by decide +kernel
theorem dX6_unite_154 : decode cX6_unite 154 = .ok (.iload_n 2, 1) := by decide +kernel
theorem dX6_unite_155 : decode cX6_unite 155 = .ok (.iaload, 1) := by decide +kernel
theorem dX6_unite_156 : decode cX6_unite 156 = .ok (.iload 5, 2) := by decide +kernel
theorem dX6_unite_158 : decode cX6_unite 158 = .ok (.invokestatic 125, 3) := by decide +kernel
theorem dX6_unite_161 : decode cX6_unite 161 = .ok (.iaload, 1) := by decide +kernel
theorem dX6_unite_162 : decode cX6_unite 162 = .ok (.istore 6, 2) := by decide +kernel
theorem dX6_unite_164 : decode cX6_unite 164 = .ok (.aload_n 0, 1) := by decide +kernel
theorem dX6_unite_165 : decode cX6_unite 165 = .ok (.getfield 33, 3) := by decide +kernel
theorem dX6_unite_168 : decode cX6_unite 168 = .ok (.aload_n 0, 1) := by decide +kernel
theorem dX6_unite_169 : decode cX6_unite 169 = .ok (.getfield 43, 3) := by decide +kernel
theorem dX6_unite_172 : decode cX6_unite 172 = .ok (.iload_n 2, 1) := by decide +kernel
theorem dX6_unite_173 : decode cX6_unite 173 = .ok (.iaload, 1) := by decide +kernel
theorem dX6_unite_174 : decode cX6_unite 174 = .ok (.iconst (-1), 1) := by decide +kernel
theorem dX6_unite_175 : decode cX6_unite 175 = .ok (.iload 5, 2) := by decide +kernel
theorem dX6_unite_177 : decode cX6_unite 177 = .ok (.invokestatic 125, 3) := by decide +kernel
theorem dX6_unite_180 : decode cX6_unite 180 = .ok (.iaload, 1) := by decide +kernel
theorem dX6_unite_181 : decode cX6_unite 181 = .ok (.istore 7, 2) := by decide +kernel
theorem dX6_unite_183 : decode cX6_unite 183 = .ok (.iload 6, 2) := by decide +kernel
theorem dX6_unite_185 : decode cX6_unite 185 = .ok (.iconst (-1), 1) := by decide +kernel
theorem dX6_unite_186 : decode cX6_unite 186 = .ok (.if_icmp .eq 44, 3) := by decide +kernel
theorem dX6_unite_189 : decode cX6_unite 189 = .ok (.iload 7, 2) := by decide +kernel
theorem dX6_unite_191 : decode cX6_unite 191 = .ok (.iconst (-1), 1) := by decide +kernel
theorem dX6_unite_192 : decode cX6_unite 192 = .ok (.if_icmp .eq 38, 3) := by decide +kernel
theorem dX6_unite_195 : decode cX6_unite 195 = .ok (.aload_n 0, 1) := by decide +kernel
theorem dX6_unite_196 : decode cX6_unite 196 = .ok (.aload_n 0, 1) := by decide +kernel
theorem dX6_unite_197 : decode cX6_unite 197 = .ok (.getfield 52, 3) := by decide +kernel
theorem dX6_unite_200 : decode cX6_unite 200 = .ok (.iload_n 3, 1) := by decide +kernel
theorem dX6_unite_201 : decode cX6_unite 201 = .ok (.iaload, 1) := by decide +kernel
theorem dX6_unite_202 : decode cX6_unite 202 = .ok (.iload 6, 2) := by decide +kernel
theorem dX6_unite_204 : decode cX6_unite 204 = .ok (.iadd, 1) := by decide +kernel
theorem dX6_unite_205 : decode cX6_unite 205 = .ok (.aload_n 0, 1) := by decide +kernel
theorem dX6_unite_206 : decode cX6_unite 206 = .ok (.getfield 52, 3) := by decide +kernel
theorem dX6_unite_209 : decode cX6_unite 209 = .ok (.iload_n 2, 1) := by decide +kernel
theorem dX6_unite_210 : decode cX6_unite 210 = .ok (.iaload, 1) := by decide +kernel
theorem dX6_unite_211 : decode cX6_unite 211 = .ok (.iload 7, 2) := by decide +kernel
theorem dX6_unite_213 : decode cX6_unite 213 = .ok (.iadd, 1) := by decide +kernel
theorem dX6_unite_214 : decode cX6_unite 214 = .ok (.invokevirtual 149, 3) := by decide +kernel
theorem dX6_unite_217 : decode cX6_unite 217 = .ok (.ifCond .ne 7, 3) := by decide +kernel
theorem dX6_unite_220 : decode cX6_unite 220 = .ok (.iload_n 1, 1) := by decide +kernel
theorem dX6_unite_221 : decode cX6_unite 221 = .ok (.ifCond .eq 7, 3) := by decide +kernel
theorem dX6_unite_224 : decode cX6_unite 224 = .ok (.iconst 1, 1) := by decide +kernel
theorem dX6_unite_225 : decode cX6_unite 225 = .ok (.goto 4, 3) := by decide +kernel
theorem dX6_unite_228 : decode cX6_unite 228 = .ok (.iconst 0, 1) := by decide +kernel
theorem dX6_unite_229 : decode cX6_unite 229 = .ok (.istore_n 1, 1) := by decide +kernel
theorem dX6_unite_230 : decode cX6_unite 230 = .ok (.iinc 5 1, 3) := by decide +kernel
theorem dX6_unite_233 : decode cX6_unite 233 = .ok (.goto (-100), 3) := by decide +kernel
theorem dX6_unite_236 : decode cX6_unite 236 = .ok (.iinc 2 1, 3) := by decide +kernel
theorem dX6_unite_239 : decode cX6_unite 239 = .ok (.goto (-136), 3) := by decide +kernel
theorem dX6_unite_242 : decode cX6_unite 242 = .ok (.goto (-147), 3) := by decide +kernel
theorem dX6_unite_245 : decode cX6_unite 245 = .ok (.iconst 1, 1) := by decide +kernel
theorem dX6_unite_246 : decode cX6_unite 246 = .ok (.ireturn, 1) := by decide +kernel
theorem dX6_lower_0 : decode cX6_lower 0 = .ok (.aload_n 0, 1) := by decide +kernel
theorem dX6_lower_1 : decode cX6_lower 1 = .ok (.getfield 67, 3) := by decide +kernel
theorem dX6_lower_4 : decode cX6_lower 4 = .ok (.iload_n 1, 1) := by decide +kernel
theorem dX6_lower_5 : decode cX6_lower 5 = .ok (.iaload, 1) := by decide +kernel
theorem dX6_lower_6 : decode cX6_lower 6 = .ok (.aload_n 0, 1) := by decide +kernel
theorem dX6_lower_7 : decode cX6_lower 7 = .ok (.getfield 67, 3) := by decide +kernel
theorem dX6_lower_10 : decode cX6_lower 10 = .ok (.iload_n 2, 1) := by decide +kernel
theorem dX6_lower_11 : decode cX6_lower 11 = .ok (.iaload, 1) := by decide +kernel
theorem dX6_lower_12 : decode cX6_lower 12 = .ok (.if_icmp .ge 12, 3) := by decide +kernel
theorem dX6_lower_15 : decode cX6_lower 15 = .ok (.aload_n 0, 1) := by decide +kernel
theorem dX6_lower_16 : decode cX6_lower 16 = .ok (.getfield 67, 3) := by decide +kernel
theorem dX6_lower_19 : decode cX6_lower 19 = .ok (.iload_n 1, 1) := by decide +kernel
theorem dX6_lower_20 : decode cX6_lower 20 = .ok (.iaload, 1) := by decide +kernel
theorem dX6_lower_21 : decode cX6_lower 21 = .ok (.goto 9, 3) := by decide +kernel
theorem dX6_lower_24 : decode cX6_lower 24 = .ok (.aload_n 0, 1) := by decide +kernel
theorem dX6_lower_25 : decode cX6_lower 25 = .ok (.getfield 67, 3) := by decide +kernel
theorem dX6_lower_28 : decode cX6_lower 28 = .ok (.iload_n 2, 1) := by decide +kernel
theorem dX6_lower_29 : decode cX6_lower 29 = .ok (.iaload, 1) := by decide +kernel
theorem dX6_lower_30 : decode cX6_lower 30 = .ok (.istore_n 3, 1) := by decide +kernel
theorem dX6_lower_31 : decode cX6_lower 31 = .ok (.aload_n 0, 1) := by decide +kernel
theorem dX6_lower_32 : decode cX6_lower 32 = .ok (.getfield 67, 3) := by decide +kernel
theorem dX6_lower_35 : decode cX6_lower 35 = .ok (.iload_n 1, 1) := by decide +kernel
theorem dX6_lower_36 : decode cX6_lower 36 = .ok (.iaload, 1) := by decide +kernel
theorem dX6_lower_37 : decode cX6_lower 37 = .ok (.aload_n 0, 1) := by decide +kernel
theorem dX6_lower_38 : decode cX6_lower 38 = .ok (.getfield 67, 3) := by decide +kernel
theorem dX6_lower_41 : decode cX6_lower 41 = .ok (.iload_n 2, 1) := by decide +kernel
theorem dX6_lower_42 : decode cX6_lower 42 = .ok (.iaload, 1) := by decide +kernel
theorem dX6_lower_43 : decode cX6_lower 43 = .ok (.if_icmp .eq 7, 3) := by decide +kernel
theorem dX6_lower_46 : decode cX6_lower 46 = .ok (.iconst 1, 1) := by decide +kernel
theorem dX6_lower_47 : decode cX6_lower 47 = .ok (.goto 4, 3) := by decide +kernel
theorem dX6_lower_50 : decode cX6_lower 50 = .ok (.iconst 0, 1) := by decide +kernel
theorem dX6_lower_51 : decode cX6_lower 51 = .ok (.istore 4, 2) := by decide +kernel
theorem dX6_lower_53 : decode cX6_lower 53 = .ok (.aload_n 0, 1) := by decide +kernel
theorem dX6_lower_54 : decode cX6_lower 54 = .ok (.getfield 67, 3) := by decide +kernel
theorem dX6_lower_57 : decode cX6_lower 57 = .ok (.iload_n 1, 1) := by decide +kernel
theorem dX6_lower_58 : decode cX6_lower 58 = .ok (.iload_n 3, 1) := by decide +kernel
theorem dX6_lower_59 : decode cX6_lower 59 = .ok (.iastore, 1) := by decide +kernel
theorem dX6_lower_60 : decode cX6_lower 60 = .ok (.aload_n 0, 1) := by decide +kernel
theorem dX6_lower_61 : decode cX6_lower 61 = .ok (.getfield 67, 3) := by decide +kernel
theorem dX6_lower_64 : decode cX6_lower 64 = .ok (.iload_n 2, 1) := by decide +kernel
theorem dX6_lower_65 : decode cX6_lower 65 = .ok (.iload_n 3, 1) := by decide +kernel
theorem dX6_lower_66 : decode cX6_lower 66 = .ok (.iastore, 1) := by decide +kernel
theorem dX6_lower_67 : decode cX6_lower 67 = .ok (.iload 4, 2) := by decide +kernel
theorem dX6_lower_69 : decode cX6_lower 69 = .ok (.ireturn, 1) := by decide +kernel
theorem dX6_number_0 : decode cX6_number 0 = .ok (.iconst 0, 1) := by decide +kernel
theorem dX6_number_1 : decode cX6_number 1 = .ok (.istore_n 1, 1) := by decide +kernel
theorem dX6_number_2 : decode cX6_number 2 = .ok (.iconst 0, 1) := by decide +kernel
theorem dX6_number_3 : decode cX6_number 3 = .ok (.istore_n 2, 1) := by decide +kernel
theorem dX6_number_4 : decode cX6_number 4 = .ok (.iload_n 2, 1) := by decide +kernel
theorem dX6_number_5 : decode cX6_number 5 = .ok (.aload_n 0, 1) := by decide +kernel
theorem dX6_number_6 : decode cX6_number 6 = .ok (.getfield 52, 3) := by decide +kernel
theorem dX6_number_9 : decode cX6_number 9 = .ok (.aload_n 0, 1) := by decide +kernel
theorem dX6_number_10 : decode cX6_number 10 = .ok (.getfield 139, 3) := by decide +kernel
theorem dX6_number_13 : decode cX6_number 13 = .ok (.iaload, 1) := by decide +kernel
theorem dX6_number_14 : decode cX6_number 14 = .ok (.if_icmp .ge 49, 3) := by decide +kernel
theorem dX6_number_17 : decode cX6_number 17 = .ok (.aload_n 0, 1) := by decide +kernel
theorem dX6_number_18 : decode cX6_number 18 = .ok (.getfield 67, 3) := by decide +kernel
theorem dX6_number_21 : decode cX6_number 21 = .ok (.iload_n 2, 1) := by decide +kernel
theorem dX6_number_22 : decode cX6_number 22 = .ok (.iaload, 1) := by decide +kernel
theorem dX6_number_23 : decode cX6_number 23 = .ok (.iload_n 2, 1) := by decide +kernel
theorem dX6_number_24 : decode cX6_number 24 = .ok (.if_icmp .ne 16, 3) := by decide +kernel
theorem dX6_number_27 : decode cX6_number 27 = .ok (.aload_n 0, 1) := by decide +kernel
theorem dX6_number_28 : decode cX6_number 28 = .ok (.getfield 70, 3) := by decide +kernel
theorem dX6_number_31 : decode cX6_number 31 = .ok (.iload_n 2, 1) := by decide +kernel
theorem dX6_number_32 : decode cX6_number 32 = .ok (.iload_n 1, 1) := by decide +kernel
theorem dX6_number_33 : decode cX6_number 33 = .ok (.iastore, 1) := by decide +kernel
theorem dX6_number_34 : decode cX6_number 34 = .ok (.iinc 1 1, 3) := by decide +kernel
theorem dX6_number_37 : decode cX6_number 37 = .ok (.goto 20, 3) := by decide +kernel
theorem dX6_number_40 : decode cX6_number 40 = .ok (.aload_n 0, 1) := by decide +kernel
theorem dX6_number_41 : decode cX6_number 41 = .ok (.getfield 70, 3) := by decide +kernel
theorem dX6_number_44 : decode cX6_number 44 = .ok (.iload_n 2, 1) := by decide +kernel
theorem dX6_number_45 : decode cX6_number 45 = .ok (.aload_n 0, 1) := by decide +kernel
theorem dX6_number_46 : decode cX6_number 46 = .ok (.getfield 70, 3) := by decide +kernel
theorem dX6_number_49 : decode cX6_number 49 = .ok (.aload_n 0, 1) := by decide +kernel
theorem dX6_number_50 : decode cX6_number 50 = .ok (.getfield 67, 3) := by decide +kernel
theorem dX6_number_53 : decode cX6_number 53 = .ok (.iload_n 2, 1) := by decide +kernel
theorem dX6_number_54 : decode cX6_number 54 = .ok (.iaload, 1) := by decide +kernel
theorem dX6_number_55 : decode cX6_number 55 = .ok (.iaload, 1) := by decide +kernel
theorem dX6_number_56 : decode cX6_number 56 = .ok (.iastore, 1) := by decide +kernel
theorem dX6_number_57 : decode cX6_number 57 = .ok (.iinc 2 1, 3) := by decide +kernel
theorem dX6_number_60 : decode cX6_number 60 = .ok (.goto (-56), 3) := by decide +kernel
theorem dX6_number_63 : decode cX6_number 63 = .ok (.iload_n 1, 1) := by decide +kernel
theorem dX6_number_64 : decode cX6_number 64 = .ok (.ireturn, 1) := by decide +kernel
theorem dX6_setWay_0 : decode cX6_setWay 0 = .ok (.iconst 1, 1) := by decide +kernel
theorem dX6_setWay_1 : decode cX6_setWay 1 = .ok (.istore_n 3, 1) := by decide +kernel
theorem dX6_setWay_2 : decode cX6_setWay 2 = .ok (.aload_n 0, 1) := by decide +kernel
theorem dX6_setWay_3 : decode cX6_setWay 3 = .ok (.getfield 55, 3) := by decide +kernel
theorem dX6_setWay_6 : decode cX6_setWay 6 = .ok (.iload_n 2, 1) := by decide +kernel
theorem dX6_setWay_7 : decode cX6_setWay 7 = .ok (.iaload, 1) := by decide +kernel
theorem dX6_setWay_8 : decode cX6_setWay 8 = .ok (.istore 4, 2) := by decide +kernel
theorem dX6_setWay_10 : decode cX6_setWay 10 = .ok (.aload_n 0, 1) := by decide +kernel
theorem dX6_setWay_11 : decode cX6_setWay 11 = .ok (.getfield 46, 3) := by decide +kernel
theorem dX6_setWay_14 : decode cX6_setWay 14 = .ok (.iload 4, 2) := by decide +kernel
theorem dX6_setWay_16 : decode cX6_setWay 16 = .ok (.iaload, 1) := by decide +kernel
theorem dX6_setWay_17 : decode cX6_setWay 17 = .ok (.iconst (-1), 1) := by decide +kernel
theorem dX6_setWay_18 : decode cX6_setWay 18 = .ok (.if_icmp .eq 18, 3) := by decide +kernel
theorem dX6_setWay_21 : decode cX6_setWay 21 = .ok (.iinc 3 1, 3) := by decide +kernel
theorem dX6_setWay_24 : decode cX6_setWay 24 = .ok (.aload_n 0, 1) := by decide +kernel
theorem dX6_setWay_25 : decode cX6_setWay 25 = .ok (.getfield 46, 3) := by decide +kernel
theorem dX6_setWay_28 : decode cX6_setWay 28 = .ok (.iload 4, 2) := by decide +kernel
theorem dX6_setWay_30 : decode cX6_setWay 30 = .ok (.iaload, 1) := by decide +kernel
theorem dX6_setWay_31 : decode cX6_setWay 31 = .ok (.istore 4, 2) := by decide +kernel
theorem dX6_setWay_33 : decode cX6_setWay 33 = .ok (.goto (-23), 3) := by decide +kernel
theorem dX6_setWay_36 : decode cX6_setWay 36 = .ok (.bipush 64, 2) := by decide +kernel
theorem dX6_setWay_38 : decode cX6_setWay 38 = .ok (.iload_n 1, 1) := by decide +kernel
theorem dX6_setWay_39 : decode cX6_setWay 39 = .ok (.imul, 1) := by decide +kernel
theorem dX6_setWay_40 : decode cX6_setWay 40 = .ok (.iload_n 2, 1) := by decide +kernel
theorem dX6_setWay_41 : decode cX6_setWay 41 = .ok (.iadd, 1) := by decide +kernel
theorem dX6_setWay_42 : decode cX6_setWay 42 = .ok (.istore 4, 2) := by decide +kernel
theorem dX6_setWay_44 : decode cX6_setWay 44 = .ok (.aload_n 0, 1) := by decide +kernel
theorem dX6_setWay_45 : decode cX6_setWay 45 = .ok (.getfield 36, 3) := by decide +kernel
theorem dX6_setWay_48 : decode cX6_setWay 48 = .ok (.iload 4, 2) := by decide +kernel
theorem dX6_setWay_50 : decode cX6_setWay 50 = .ok (.iload_n 3, 1) := by decide +kernel
theorem dX6_setWay_51 : decode cX6_setWay 51 = .ok (.iastore, 1) := by decide +kernel
theorem dX6_setWay_52 : decode cX6_setWay 52 = .ok (.aload_n 0, 1) := by decide +kernel
theorem dX6_setWay_53 : decode cX6_setWay 53 = .ok (.getfield 40, 3) := by decide +kernel
theorem dX6_setWay_56 : decode cX6_setWay 56 = .ok (.bipush 24, 2) := by decide +kernel
theorem dX6_setWay_58 : decode cX6_setWay 58 = .ok (.iload 4, 2) := by decide +kernel
theorem dX6_setWay_60 : decode cX6_setWay 60 = .ok (.imul, 1) := by decide +kernel
theorem dX6_setWay_61 : decode cX6_setWay 61 = .ok (.iload_n 3, 1) := by decide +kernel
theorem dX6_setWay_62 : decode cX6_setWay 62 = .ok (.iadd, 1) := by decide +kernel
theorem dX6_setWay_63 : decode cX6_setWay 63 = .ok (.iconst 1, 1) := by decide +kernel
theorem dX6_setWay_64 : decode cX6_setWay 64 = .ok (.isub, 1) := by decide +kernel
theorem dX6_setWay_65 : decode cX6_setWay 65 = .ok (.aload_n 0, 1) := by decide +kernel
theorem dX6_setWay_66 : decode cX6_setWay 66 = .ok (.getfield 58, 3) := by decide +kernel
theorem dX6_setWay_69 : decode cX6_setWay 69 = .ok (.iload_n 2, 1) := by decide +kernel
theorem dX6_setWay_70 : decode cX6_setWay 70 = .ok (.iaload, 1) := by decide +kernel
theorem dX6_setWay_71 : decode cX6_setWay 71 = .ok (.iastore, 1) := by decide +kernel
theorem dX6_setWay_72 : decode cX6_setWay 72 = .ok (.iload_n 3, 1) := by decide +kernel
theorem dX6_setWay_73 : decode cX6_setWay 73 = .ok (.iconst 2, 1) := by decide +kernel
theorem dX6_setWay_74 : decode cX6_setWay 74 = .ok (.isub, 1) := by decide +kernel
theorem dX6_setWay_75 : decode cX6_setWay 75 = .ok (.istore 5, 2) := by decide +kernel
theorem dX6_setWay_77 : decode cX6_setWay 77 = .ok (.aload_n 0, 1) := by decide +kernel
theorem dX6_setWay_78 : decode cX6_setWay 78 = .ok (.getfield 55, 3) := by decide +kernel
theorem dX6_setWay_81 : decode cX6_setWay 81 = .ok (.iload_n 2, 1) := by decide +kernel
theorem dX6_setWay_82 : decode cX6_setWay 82 = .ok (.iaload, 1) := by decide +kernel
theorem dX6_setWay_83 : decode cX6_setWay 83 = .ok (.istore 6, 2) := by decide +kernel
theorem dX6_setWay_85 : decode cX6_setWay 85 = .ok (.aload_n 0, 1) := by decide +kernel
theorem dX6_setWay_86 : decode cX6_setWay 86 = .ok (.getfield 46, 3) := by decide +kernel
theorem dX6_setWay_89 : decode cX6_setWay 89 = .ok (.iload 6, 2) := by decide +kernel
theorem dX6_setWay_91 : decode cX6_setWay 91 = .ok (.iaload, 1) := by decide +kernel
theorem dX6_setWay_92 : decode cX6_setWay 92 = .ok (.iconst (-1), 1) := by decide +kernel
theorem dX6_setWay_93 : decode cX6_setWay 93 = .ok (.if_icmp .eq 38, 3) := by decide +kernel
theorem dX6_setWay_96 : decode cX6_setWay 96 = .ok (.aload_n 0, 1) := by decide +kernel
theorem dX6_setWay_97 : decode cX6_setWay 97 = .ok (.getfield 40, 3) := by decide +kernel
theorem dX6_setWay_100 : decode cX6_setWay 100 = .ok (.bipush 24, 2) := by decide +kernel
theorem dX6_setWay_102 : decode cX6_setWay 102 = .ok (.iload 4, 2) := by decide +kernel
theorem dX6_setWay_104 : decode cX6_setWay 104 = .ok (.imul, 1) := by decide +kernel
theorem dX6_setWay_105 : decode cX6_setWay 105 = .ok (.iload 5, 2) := by decide +kernel
theorem dX6_setWay_107 : decode cX6_setWay 107 = .ok (.iadd, 1) := by decide +kernel
theorem dX6_setWay_108 : decode cX6_setWay 108 = .ok (.aload_n 0, 1) := by decide +kernel
theorem dX6_setWay_109 : decode cX6_setWay 109 = .ok (.getfield 49, 3) := by decide +kernel
theorem dX6_setWay_112 : decode cX6_setWay 112 = .ok (.iload 6, 2) := by decide +kernel
theorem dX6_setWay_114 : decode cX6_setWay 114 = .ok (.iaload, 1) := by decide +kernel
theorem dX6_setWay_115 : decode cX6_setWay 115 = .ok (.iastore, 1) := by decide +kernel
theorem dX6_setWay_116 : decode cX6_setWay 116 = .ok (.iinc 5 (-1), 3) := by decide +kernel
theorem dX6_setWay_119 : decode cX6_setWay 119 = .ok (.aload_n 0, 1) := by decide +kernel
theorem dX6_setWay_120 : decode cX6_setWay 120 = .ok (.getfield 46, 3) := by decide +kernel
theorem dX6_setWay_123 : decode cX6_setWay 123 = .ok (.iload 6, 2) := by decide +kernel
theorem dX6_setWay_125 : decode cX6_setWay 125 = .ok (.iaload, 1) := by decide +kernel
theorem dX6_setWay_126 : decode cX6_setWay 126 = .ok (.istore 6, 2) := by decide +kernel
theorem dX6_setWay_128 : decode cX6_setWay 128 = .ok (.goto (-43), 3) := by decide +kernel
theorem dX6_setWay_131 : decode cX6_setWay 131 = .ok (.return_, 1) := by decide +kernel
theorem dX6_flat_0 : decode cX6_flat 0 = .ok (.iload_n 1, 1) := by decide +kernel
theorem dX6_flat_1 : decode cX6_flat 1 = .ok (.aload_n 0, 1) := by decide +kernel
theorem dX6_flat_2 : decode cX6_flat 2 = .ok (.getfield 89, 3) := by decide +kernel
theorem dX6_flat_5 : decode cX6_flat 5 = .ok (.invokestatic 99, 3) := by decide +kernel
theorem dX6_flat_8 : decode cX6_flat 8 = .ok (.istore_n 2, 1) := by decide +kernel
theorem dX6_flat_9 : decode cX6_flat 9 = .ok (.aload_n 0, 1) := by decide +kernel
theorem dX6_flat_10 : decode cX6_flat 10 = .ok (.iload_n 2, 1) := by decide +kernel
theorem dX6_flat_11 : decode cX6_flat 11 = .ok (.ifCond .ne 7, 3) := by decide +kernel
theorem dX6_flat_14 : decode cX6_flat 14 = .ok (.iconst 1, 1) := by decide +kernel
theorem dX6_flat_15 : decode cX6_flat 15 = .ok (.goto 4, 3) := by decide +kernel
theorem dX6_flat_18 : decode cX6_flat 18 = .ok (.iconst 0, 1) := by decide +kernel
theorem dX6_flat_19 : decode cX6_flat 19 = .ok (.aload_n 0, 1) := by decide +kernel
theorem dX6_flat_20 : decode cX6_flat 20 = .ok (.getfield 89, 3) := by decide +kernel
theorem dX6_flat_23 : decode cX6_flat 23 = .ok (.bipush 24, 2) := by decide +kernel
theorem dX6_flat_25 : decode cX6_flat 25 = .ok (.if_icmp .ne 7, 3) := by decide +kernel
theorem dX6_flat_28 : decode cX6_flat 28 = .ok (.iconst 1, 1) := by decide +kernel
theorem dX6_flat_29 : decode cX6_flat 29 = .ok (.goto 4, 3) := by decide +kernel
theorem dX6_flat_32 : decode cX6_flat 32 = .ok (.iconst 0, 1) := by decide +kernel
theorem dX6_flat_33 : decode cX6_flat 33 = .ok (.invokevirtual 107, 3) := by decide +kernel
theorem dX6_flat_36 : decode cX6_flat 36 = .ok (.ifCond .eq 5, 3) := by decide +kernel
theorem dX6_flat_39 : decode cX6_flat 39 = .ok (.iconst 0, 1) := by decide +kernel
theorem dX6_flat_40 : decode cX6_flat 40 = .ok (.ireturn, 1) := by decide +kernel
theorem dX6_flat_41 : decode cX6_flat 41 = .ok (.iconst 0, 1) := by decide +kernel
theorem dX6_flat_42 : decode cX6_flat 42 = .ok (.istore_n 3, 1) := by decide +kernel
theorem dX6_flat_43 : decode cX6_flat 43 = .ok (.aload_n 0, 1) := by decide +kernel
theorem dX6_flat_44 : decode cX6_flat 44 = .ok (.iload_n 1, 1) := by decide +kernel
theorem dX6_flat_45 : decode cX6_flat 45 = .ok (.invokevirtual 152, 3) := by decide +kernel
theorem dX6_flat_48 : decode cX6_flat 48 = .ok (.ifCond .eq 14, 3) := by decide +kernel
theorem dX6_flat_51 : decode cX6_flat 51 = .ok (.aload_n 0, 1) := by decide +kernel
theorem dX6_flat_52 : decode cX6_flat 52 = .ok (.invokevirtual 155, 3) := by decide +kernel
theorem dX6_flat_55 : decode cX6_flat 55 = .ok (.ifCond .eq 7, 3) := by decide +kernel
theorem dX6_flat_58 : decode cX6_flat 58 = .ok (.iconst 1, 1) := by decide +kernel
theorem dX6_flat_59 : decode cX6_flat 59 = .ok (.goto 4, 3) := by decide +kernel
theorem dX6_flat_62 : decode cX6_flat 62 = .ok (.iconst 0, 1) := by decide +kernel
theorem dX6_flat_63 : decode cX6_flat 63 = .ok (.istore 4, 2) := by decide +kernel
theorem dX6_flat_65 : decode cX6_flat 65 = .ok (.iload 4, 2) := by decide +kernel
theorem dX6_flat_67 : decode cX6_flat 67 = .ok (.ifCond .eq 8, 3) := by decide +kernel
theorem dX6_flat_70 : decode cX6_flat 70 = .ok (.aload_n 0, 1) := by decide +kernel
theorem dX6_flat_71 : decode cX6_flat 71 = .ok (.invokevirtual 159, 3) := by decide +kernel
theorem dX6_flat_74 : decode cX6_flat 74 = .ok (.istore_n 3, 1) := by decide +kernel
theorem dX6_flat_75 : decode cX6_flat 75 = .ok (.aload_n 0, 1) := by decide +kernel
theorem dX6_flat_76 : decode cX6_flat 76 = .ok (.iload 4, 2) := by decide +kernel
theorem dX6_flat_78 : decode cX6_flat 78 = .ok (.ifCond .eq 14, 3) := by decide +kernel
theorem dX6_flat_81 : decode cX6_flat 81 = .ok (.iload_n 3, 1) := by decide +kernel
theorem dX6_flat_82 : decode cX6_flat 82 = .ok (.sipush 128, 3) := by decide +kernel
theorem dX6_flat_85 : decode cX6_flat 85 = .ok (.if_icmp .gt 7, 3) := by decide +kernel
theorem dX6_flat_88 : decode cX6_flat 88 = .ok (.iconst 0, 1) := by decide +kernel
theorem dX6_flat_89 : decode cX6_flat 89 = .ok (.goto 4, 3) := by decide +kernel
theorem dX6_flat_92 : decode cX6_flat 92 = .ok (.iconst 3, 1) := by decide +kernel
theorem dX6_flat_93 : decode cX6_flat 93 = .ok (.putfield 85, 3) := by decide +kernel
theorem dX6_flat_96 : decode cX6_flat 96 = .ok (.aload_n 0, 1) := by decide +kernel
theorem dX6_flat_97 : decode cX6_flat 97 = .ok (.getfield 85, 3) := by decide +kernel
theorem dX6_flat_100 : decode cX6_flat 100 = .ok (.ifCond .le 5, 3) := by decide +kernel
theorem dX6_flat_103 : decode cX6_flat 103 = .ok (.iconst 0, 1) := by decide +kernel
theorem dX6_flat_104 : decode cX6_flat 104 = .ok (.ireturn, 1) := by decide +kernel
theorem dX6_flat_105 : decode cX6_flat 105 = .ok (.aload_n 0, 1) := by decide +kernel
theorem dX6_flat_106 : decode cX6_flat 106 = .ok (.getfield 89, 3) := by decide +kernel
theorem dX6_flat_109 : decode cX6_flat 109 = .ok (.istore 5, 2) := by decide +kernel
theorem dX6_flat_111 : decode cX6_flat 111 = .ok (.aload_n 0, 1) := by decide +kernel
theorem dX6_flat_112 : decode cX6_flat 112 = .ok (.iload 5, 2) := by decide +kernel
theorem dX6_flat_114 : decode cX6_flat 114 = .ok (.invokevirtual 92, 3) := by decide +kernel
theorem dX6_flat_117 : decode cX6_flat 117 = .ok (.aload_n 0, 1) := by decide +kernel
theorem dX6_flat_118 : decode cX6_flat 118 = .ok (.dup, 1) := by decide +kernel
theorem dX6_flat_119 : decode cX6_flat 119 = .ok (.getfield 89, 3) := by decide +kernel
theorem dX6_flat_122 : decode cX6_flat 122 = .ok (.iconst 1, 1) := by decide +kernel
theorem dX6_flat_123 : decode cX6_flat 123 = .ok (.iadd, 1) := by decide +kernel
theorem dX6_flat_124 : decode cX6_flat 124 = .ok (.putfield 89, 3) := by decide +kernel
theorem dX6_flat_127 : decode cX6_flat 127 = .ok (.aload_n 0, 1) := by decide +kernel
theorem dX6_flat_128 : decode cX6_flat 128 = .ok (.getfield 7, 3) := by decide +kernel
theorem dX6_flat_131 : decode cX6_flat 131 = .ok (.iload 5, 2) := by decide +kernel
theorem dX6_flat_133 : decode cX6_flat 133 = .ok (.aload_n 0, 1) := by decide +kernel
theorem dX6_flat_134 : decode cX6_flat 134 = .ok (.getfield 7, 3) := by decide +kernel
theorem dX6_flat_137 : decode cX6_flat 137 = .ok (.iload_n 1, 1) := by decide +kernel
theorem dX6_flat_138 : decode cX6_flat 138 = .ok (.iaload, 1) := by decide +kernel
theorem dX6_flat_139 : decode cX6_flat 139 = .ok (.iastore, 1) := by decide +kernel
theorem dX6_flat_140 : decode cX6_flat 140 = .ok (.iconst 0, 1) := by decide +kernel
theorem dX6_flat_141 : decode cX6_flat 141 = .ok (.istore 6, 2) := by decide +kernel
theorem dX6_flat_143 : decode cX6_flat 143 = .ok (.iload 6, 2) := by decide +kernel
theorem dX6_flat_145 : decode cX6_flat 145 = .ok (.bipush 16, 2) := by decide +kernel
theorem dX6_flat_147 : decode cX6_flat 147 = .ok (.if_icmp .ge 59, 3) := by decide +kernel
theorem dX6_flat_150 : decode cX6_flat 150 = .ok (.aload_n 0, 1) := by decide +kernel
theorem dX6_flat_151 : decode cX6_flat 151 = .ok (.getfield 13, 3) := by decide +kernel
theorem dX6_flat_154 : decode cX6_flat 154 = .ok (.bipush 16, 2) := by decide +kernel
theorem dX6_flat_156 : decode cX6_flat 156 = .ok (.iload 5, 2) := by decide +kernel
theorem dX6_flat_158 : decode cX6_flat 158 = .ok (.imul, 1) := by decide +kernel
theorem dX6_flat_159 : decode cX6_flat 159 = .ok (.iload 6, 2) := by decide +kernel
theorem dX6_flat_161 : decode cX6_flat 161 = .ok (.iadd, 1) := by decide +kernel
theorem dX6_flat_162 : decode cX6_flat 162 = .ok (.aload_n 0, 1) := by decide +kernel
theorem dX6_flat_163 : decode cX6_flat 163 = .ok (.getfield 13, 3) := by decide +kernel
theorem dX6_flat_166 : decode cX6_flat 166 = .ok (.bipush 16, 2) := by decide +kernel
theorem dX6_flat_168 : decode cX6_flat 168 = .ok (.iload_n 1, 1) := by decide +kernel
theorem dX6_flat_169 : decode cX6_flat 169 = .ok (.imul, 1) := by decide +kernel
theorem dX6_flat_170 : decode cX6_flat 170 = .ok (.iload 6, 2) := by decide +kernel
theorem dX6_flat_172 : decode cX6_flat 172 = .ok (.iadd, 1) := by decide +kernel
theorem dX6_flat_173 : decode cX6_flat 173 = .ok (.iaload, 1) := by decide +kernel
theorem dX6_flat_174 : decode cX6_flat 174 = .ok (.iastore, 1) := by decide +kernel
theorem dX6_flat_175 : decode cX6_flat 175 = .ok (.aload_n 0, 1) := by decide +kernel
theorem dX6_flat_176 : decode cX6_flat 176 = .ok (.getfield 16, 3) := by decide +kernel
theorem dX6_flat_179 : decode cX6_flat 179 = .ok (.bipush 16, 2) := by decide +kernel
theorem dX6_flat_181 : decode cX6_flat 181 = .ok (.iload 5, 2) := by decide +kernel
theorem dX6_flat_183 : decode cX6_flat 183 = .ok (.imul, 1) := by decide +kernel
theorem dX6_flat_184 : decode cX6_flat 184 = .ok (.iload 6, 2) := by decide +kernel
theorem dX6_flat_186 : decode cX6_flat 186 = .ok (.iadd, 1) := by decide +kernel
theorem dX6_flat_187 : decode cX6_flat 187 = .ok (.aload_n 0, 1) := by decide +kernel
theorem dX6_flat_188 : decode cX6_flat 188 = .ok (.getfield 16, 3) := by decide +kernel
theorem dX6_flat_191 : decode cX6_flat 191 = .ok (.bipush 16, 2) := by decide +kernel
theorem dX6_flat_193 : decode cX6_flat 193 = .ok (.iload_n 1, 1) := by decide +kernel
theorem dX6_flat_194 : decode cX6_flat 194 = .ok (.imul, 1) := by decide +kernel
theorem dX6_flat_195 : decode cX6_flat 195 = .ok (.iload 6, 2) := by decide +kernel
theorem dX6_flat_197 : decode cX6_flat 197 = .ok (.iadd, 1) := by decide +kernel
theorem dX6_flat_198 : decode cX6_flat 198 = .ok (.baload, 1) := by decide +kernel
theorem dX6_flat_199 : decode cX6_flat 199 = .ok (.bastore, 1) := by decide +kernel
theorem dX6_flat_200 : decode cX6_flat 200 = .ok (.iinc 6 1, 3) := by decide +kernel
theorem dX6_flat_203 : decode cX6_flat 203 = .ok (.goto (-60), 3) := by decide +kernel
theorem dX6_flat_206 : decode cX6_flat 206 = .ok (.aload_n 0, 1) := by decide +kernel
theorem dX6_flat_207 : decode cX6_flat 207 = .ok (.getfield 26, 3) := by decide +kernel
theorem dX6_flat_210 : decode cX6_flat 210 = .ok (.iload 5, 2) := by decide +kernel
theorem dX6_flat_212 : decode cX6_flat 212 = .ok (.iload_n 3, 1) := by decide +kernel
theorem dX6_flat_213 : decode cX6_flat 213 = .ok (.iastore, 1) := by decide +kernel
theorem dX6_flat_214 : decode cX6_flat 214 = .ok (.aload_n 0, 1) := by decide +kernel
theorem dX6_flat_215 : decode cX6_flat 215 = .ok (.getfield 20, 3) := by decide +kernel
theorem dX6_flat_218 : decode cX6_flat 218 = .ok (.iload 5, 2) := by decide +kernel
theorem dX6_flat_220 : decode cX6_flat 220 = .ok (.aload_n 0, 1) := by decide +kernel
theorem dX6_flat_221 : decode cX6_flat 221 = .ok (.getfield 142, 3) := by decide +kernel
theorem dX6_flat_224 : decode cX6_flat 224 = .ok (.iastore, 1) := by decide +kernel
theorem dX6_flat_225 : decode cX6_flat 225 = .ok (.iconst 0, 1) := by decide +kernel
theorem dX6_flat_226 : decode cX6_flat 226 = .ok (.istore 6, 2) := by decide +kernel
theorem dX6_flat_228 : decode cX6_flat 228 = .ok (.iload 6, 2) := by decide +kernel
theorem dX6_flat_230 : decode cX6_flat 230 = .ok (.aload_n 0, 1) := by decide +kernel
theorem dX6_flat_231 : decode cX6_flat 231 = .ok (.iload 5, 2) := by decide +kernel
theorem dX6_flat_233 : decode cX6_flat 233 = .ok (.invokevirtual 117, 3) := by decide +kernel
theorem dX6_flat_236 : decode cX6_flat 236 = .ok (.if_icmp .ge 53, 3) := by decide +kernel
theorem dX6_flat_239 : decode cX6_flat 239 = .ok (.aload_n 0, 1) := by decide +kernel
theorem dX6_flat_240 : decode cX6_flat 240 = .ok (.getfield 33, 3) := by decide +kernel
theorem dX6_flat_243 : decode cX6_flat 243 = .ok (.iload_n 1, 1) := by decide +kernel
theorem dX6_flat_244 : decode cX6_flat 244 = .ok (.iconst (-1), 1) := by decide +kernel
theorem dX6_flat_245 : decode cX6_flat 245 = .ok (.iload 6, 2) := by decide +kernel
theorem dX6_flat_247 : decode cX6_flat 247 = .ok (.invokestatic 125, 3) := by decide +kernel
theorem dX6_flat_250 : decode cX6_flat 250 = .ok (.iaload, 1) := by decide +kernel
theorem dX6_flat_251 : decode cX6_flat 251 = .ok (.istore 7, 2) := by decide +kernel
theorem dX6_flat_253 : decode cX6_flat 253 = .ok (.aload_n 0, 1) := by decide +kernel
theorem dX6_flat_254 : decode cX6_flat 254 = .ok (.getfield 33, 3) := by decide +kernel
theorem dX6_flat_257 : decode cX6_flat 257 = .ok (.iload 5, 2) := by decide +kernel
theorem dX6_flat_259 : decode cX6_flat 259 = .ok (.iconst (-1), 1) := by decide +kernel
theorem dX6_flat_260 : decode cX6_flat 260 = .ok (.iload 6, 2) := by decide +kernel
theorem dX6_flat_262 : decode cX6_flat 262 = .ok (.invokestatic 125, 3) := by decide +kernel
theorem dX6_flat_265 : decode cX6_flat 265 = .ok (.iload 7, 2) := by decide +kernel
theorem dX6_flat_267 : decode cX6_flat 267 = .ok (.iconst (-1), 1) := by decide +kernel
theorem dX6_flat_268 : decode cX6_flat 268 = .ok (.if_icmp .ne 7, 3) := by decide +kernel
theorem dX6_flat_271 : decode cX6_flat 271 = .ok (.iconst (-1), 1) := by decide +kernel
theorem dX6_flat_272 : decode cX6_flat 272 = .ok (.goto 10, 3) := by decide +kernel
theorem dX6_flat_275 : decode cX6_flat 275 = .ok (.aload_n 0, 1) := by decide +kernel
theorem dX6_flat_276 : decode cX6_flat 276 = .ok (.getfield 70, 3) := by decide +kernel
theorem dX6_flat_279 : decode cX6_flat 279 = .ok (.iload 7, 2) := by decide +kernel
theorem dX6_flat_281 : decode cX6_flat 281 = .ok (.iaload, 1) := by decide +kernel
theorem dX6_flat_282 : decode cX6_flat 282 = .ok (.iastore, 1) := by decide +kernel
theorem dX6_flat_283 : decode cX6_flat 283 = .ok (.iinc 6 1, 3) := by decide +kernel
theorem dX6_flat_286 : decode cX6_flat 286 = .ok (.goto (-58), 3) := by decide +kernel
theorem dX6_flat_289 : decode cX6_flat 289 = .ok (.iconst 0, 1) := by decide +kernel
theorem dX6_flat_290 : decode cX6_flat 290 = .ok (.istore 6, 2) := by decide +kernel
theorem dX6_flat_292 : decode cX6_flat 292 = .ok (.iload 6, 2) := by decide +kernel
theorem dX6_flat_294 : decode cX6_flat 294 = .ok (.aload_n 0, 1) := by decide +kernel
theorem dX6_flat_295 : decode cX6_flat 295 = .ok (.getfield 142, 3) := by decide +kernel
theorem dX6_flat_298 : decode cX6_flat 298 = .ok (.if_icmp .ge 151, 3) := by decide +kernel
theorem dX6_flat_301 : decode cX6_flat 301 = .ok (.aload_n 0, 1) := by decide +kernel
theorem dX6_flat_302 : decode cX6_flat 302 = .ok (.getfield 43, 3) := by decide +kernel
theorem dX6_flat_305 : decode cX6_flat 305 = .ok (.aload_n 0, 1) := by decide +kernel
theorem dX6_flat_306 : decode cX6_flat 306 = .ok (.getfield 55, 3) := by decide +kernel
theorem dX6_flat_309 : decode cX6_flat 309 = .ok (.iload 6, 2) := by decide +kernel
theorem dX6_flat_311 : decode cX6_flat 311 = .ok (.iaload, 1) := by decide +kernel
theorem dX6_flat_312 : decode cX6_flat 312 = .ok (.iaload, 1) := by decide +kernel
theorem dX6_flat_313 : decode cX6_flat 313 = .ok (.istore 7, 2) := by decide +kernel
theorem dX6_flat_315 : decode cX6_flat 315 = .ok (.aload_n 0, 1) := by decide +kernel
theorem dX6_flat_316 : decode cX6_flat 316 = .ok (.getfield 23, 3) := by decide +kernel
theorem dX6_flat_319 : decode cX6_flat 319 = .ok (.bipush 64, 2) := by decide +kernel
theorem dX6_flat_321 : decode cX6_flat 321 = .ok (.iload 7, 2) := by decide +kernel
theorem dX6_flat_323 : decode cX6_flat 323 = .ok (.imul, 1) := by decide +kernel
theorem dX6_flat_324 : decode cX6_flat 324 = .ok (.aload_n 0, 1) := by decide +kernel
theorem dX6_flat_325 : decode cX6_flat 325 = .ok (.getfield 58, 3) := by decide +kernel
theorem dX6_flat_328 : decode cX6_flat 328 = .ok (.iload 6, 2) := by decide +kernel
theorem dX6_flat_330 : decode cX6_flat 330 = .ok (.iaload, 1) := by decide +kernel
theorem dX6_flat_331 : decode cX6_flat 331 = .ok (.iadd, 1) := by decide +kernel
theorem dX6_flat_332 : decode cX6_flat 332 = .ok (.iaload, 1) := by decide +kernel
theorem dX6_flat_333 : decode cX6_flat 333 = .ok (.istore 8, 2) := by decide +kernel
theorem dX6_flat_335 : decode cX6_flat 335 = .ok (.aload_n 0, 1) := by decide +kernel
theorem dX6_flat_336 : decode cX6_flat 336 = .ok (.getfield 23, 3) := by decide +kernel
theorem dX6_flat_339 : decode cX6_flat 339 = .ok (.bipush 64, 2) := by decide +kernel
theorem dX6_flat_341 : decode cX6_flat 341 = .ok (.iload 5, 2) := by decide +kernel
theorem dX6_flat_343 : decode cX6_flat 343 = .ok (.imul, 1) := by decide +kernel
theorem dX6_flat_344 : decode cX6_flat 344 = .ok (.iload 6, 2) := by decide +kernel
theorem dX6_flat_346 : decode cX6_flat 346 = .ok (.iadd, 1) := by decide +kernel
theorem dX6_flat_347 : decode cX6_flat 347 = .ok (.iload 8, 2) := by decide +kernel
theorem dX6_flat_349 : decode cX6_flat 349 = .ok (.iastore, 1) := by decide +kernel
theorem dX6_flat_350 : decode cX6_flat 350 = .ok (.aload_n 0, 1) := by decide +kernel
theorem dX6_flat_351 : decode cX6_flat 351 = .ok (.iload 5, 2) := by decide +kernel
theorem dX6_flat_353 : decode cX6_flat 353 = .ok (.iload 6, 2) := by decide +kernel
theorem dX6_flat_355 : decode cX6_flat 355 = .ok (.invokevirtual 163, 3) := by decide +kernel
theorem dX6_flat_358 : decode cX6_flat 358 = .ok (.iconst 0, 1) := by decide +kernel
theorem dX6_flat_359 : decode cX6_flat 359 = .ok (.istore 9, 2) := by decide +kernel
theorem dX6_flat_361 : decode cX6_flat 361 = .ok (.iload 9, 2) := by decide +kernel
theorem dX6_flat_363 : decode cX6_flat 363 = .ok (.aload_n 0, 1) := by decide +kernel
theorem dX6_flat_364 : decode cX6_flat 364 = .ok (.iload 8, 2) := by decide +kernel
theorem dX6_flat_366 : decode cX6_flat 366 = .ok (.invokevirtual 117, 3) := by decide +kernel
theorem dX6_flat_369 : decode cX6_flat 369 = .ok (.if_icmp .ge 74, 3) := by decide +kernel
theorem dX6_flat_372 : decode cX6_flat 372 = .ok (.aload_n 0, 1) := by decide +kernel
theorem dX6_flat_373 : decode cX6_flat 373 = .ok (.getfield 33, 3) := by decide +kernel
theorem dX6_flat_376 : decode cX6_flat 376 = .ok (.iload 7, 2) := by decide +kernel
theorem dX6_flat_378 : decode cX6_flat 378 = .ok (.aload_n 0, 1) := by decide +kernel
theorem dX6_flat_379 : decode cX6_flat 379 = .ok (.getfield 58, 3) := by decide +kernel
theorem dX6_flat_382 : decode cX6_flat 382 = .ok (.iload 6, 2) := by decide +kernel
theorem dX6_flat_384 : decode cX6_flat 384 = .ok (.iaload, 1) := by decide +kernel
theorem dX6_flat_385 : decode cX6_flat 385 = .ok (.iload 9, 2) := by decide +kernel
theorem dX6_flat_387 : decode cX6_flat 387 = .ok (.invokestatic 125, 3) := by decide +kernel
theorem dX6_flat_390 : decode cX6_flat 390 = .ok (.iaload, 1) := by decide +kernel
theorem dX6_flat_391 : decode cX6_flat 391 = .ok (.istore 10, 2) := by decide +kernel
theorem dX6_flat_393 : decode cX6_flat 393 = .ok (.aload_n 0, 1) := by decide +kernel
theorem dX6_flat_394 : decode cX6_flat 394 = .ok (.getfield 33, 3) := by decide +kernel
theorem dX6_flat_397 : decode cX6_flat 397 = .ok (.iload 5, 2) := by decide +kernel
theorem dX6_flat_399 : decode cX6_flat 399 = .ok (.iload 6, 2) := by decide +kernel
theorem dX6_flat_401 : decode cX6_flat 401 = .ok (.iload 9, 2) := by decide +kernel
theorem dX6_flat_403 : decode cX6_flat 403 = .ok (.invokestatic 125, 3) := by decide +kernel
theorem dX6_flat_406 : decode cX6_flat 406 = .ok (.iload 10, 2) := by decide +kernel
theorem dX6_flat_408 : decode cX6_flat 408 = .ok (.iconst (-1), 1) := by decide +kernel
theorem dX6_flat_409 : decode cX6_flat 409 = .ok (.if_icmp .ne 7, 3) := by decide +kernel
theorem dX6_flat_412 : decode cX6_flat 412 = .ok (.iconst (-1), 1) := by decide +kernel
theorem dX6_flat_413 : decode cX6_flat 413 = .ok (.goto 23, 3) := by decide +kernel
theorem dX6_flat_416 : decode cX6_flat 416 = .ok (.aload_n 0, 1) := by decide +kernel
theorem dX6_flat_417 : decode cX6_flat 417 = .ok (.getfield 70, 3) := by decide +kernel
theorem dX6_flat_420 : decode cX6_flat 420 = .ok (.aload_n 0, 1) := by decide +kernel
theorem dX6_flat_421 : decode cX6_flat 421 = .ok (.getfield 52, 3) := by decide +kernel
theorem dX6_flat_424 : decode cX6_flat 424 = .ok (.aload_n 0, 1) := by decide +kernel
theorem dX6_flat_425 : decode cX6_flat 425 = .ok (.getfield 55, 3) := by decide +kernel
theorem dX6_flat_428 : decode cX6_flat 428 = .ok (.iload 6, 2) := by decide +kernel
theorem dX6_flat_430 : decode cX6_flat 430 = .ok (.iaload, 1) := by decide +kernel
theorem dX6_flat_431 : decode cX6_flat 431 = .ok (.iaload, 1) := by decide +kernel
theorem dX6_flat_432 : decode cX6_flat 432 = .ok (.iload 10, 2) := by decide +kernel
theorem dX6_flat_434 : decode cX6_flat 434 = .ok (.iadd, 1) := by decide +kernel
theorem dX6_flat_435 : decode cX6_flat 435 = .ok (.iaload, 1) := by decide +kernel
theorem dX6_flat_436 : decode cX6_flat 436 = .ok (.iastore, 1) := by decide +kernel
theorem dX6_flat_437 : decode cX6_flat 437 = .ok (.iinc 9 1, 3) := by decide +kernel
theorem dX6_flat_440 : decode cX6_flat 440 = .ok (.goto (-79), 3) := by decide +kernel
theorem dX6_flat_443 : decode cX6_flat 443 = .ok (.iinc 6 1, 3) := by decide +kernel
theorem dX6_flat_446 : decode cX6_flat 446 = .ok (.goto (-154), 3) := by decide +kernel
theorem dX6_flat_449 : decode cX6_flat 449 = .ok (.iload 5, 2) := by decide +kernel
theorem dX6_flat_451 : decode cX6_flat 451 = .ok (.ireturn, 1) := by decide +kernel
theorem dX6_path_0 : decode cX6_path 0 = .ok (.iload_n 1, 1) := by decide +kernel
theorem dX6_path_1 : decode cX6_path 1 = .ok (.aload_n 0, 1) := by decide +kernel
theorem dX6_path_2 : decode cX6_path 2 = .ok (.getfield 89, 3) := by decide +kernel
theorem dX6_path_5 : decode cX6_path 5 = .ok (.invokestatic 99, 3) := by decide +kernel
theorem dX6_path_8 : decode cX6_path 8 = .ok (.ifCond .eq 24, 3) := by decide +kernel
theorem dX6_path_11 : decode cX6_path 11 = .ok (.iload_n 2, 1) := by decide +kernel
theorem dX6_path_12 : decode cX6_path 12 = .ok (.aload_n 0, 1) := by decide +kernel
theorem dX6_path_13 : decode cX6_path 13 = .ok (.getfield 20, 3) := by decide +kernel
theorem dX6_path_16 : decode cX6_path 16 = .ok (.iload_n 1, 1) := by decide +kernel
theorem dX6_path_17 : decode cX6_path 17 = .ok (.iaload, 1) := by decide +kernel
theorem dX6_path_18 : decode cX6_path 18 = .ok (.invokestatic 99, 3) := by decide +kernel
theorem dX6_path_21 : decode cX6_path 21 = .ok (.ifCond .eq 11, 3) := by decide +kernel
theorem dX6_path_24 : decode cX6_path 24 = .ok (.iload_n 3, 1) := by decide +kernel
theorem dX6_path_25 : decode cX6_path 25 = .ok (.ifCond .lt 7, 3) := by decide +kernel
theorem dX6_path_28 : decode cX6_path 28 = .ok (.iconst 1, 1) := by decide +kernel
theorem dX6_path_29 : decode cX6_path 29 = .ok (.goto 4, 3) := by decide +kernel
theorem dX6_path_32 : decode cX6_path 32 = .ok (.iconst 0, 1) := by decide +kernel
theorem dX6_path_33 : decode cX6_path 33 = .ok (.istore 4, 2) := by decide +kernel
theorem dX6_path_35 : decode cX6_path 35 = .ok (.aload_n 0, 1) := by decide +kernel
theorem dX6_path_36 : decode cX6_path 36 = .ok (.iload 4, 2) := by decide +kernel
theorem dX6_path_38 : decode cX6_path 38 = .ok (.ifCond .ne 7, 3) := by decide +kernel
theorem dX6_path_41 : decode cX6_path 41 = .ok (.iconst 1, 1) := by decide +kernel
theorem dX6_path_42 : decode cX6_path 42 = .ok (.goto 4, 3) := by decide +kernel
theorem dX6_path_45 : decode cX6_path 45 = .ok (.iconst 0, 1) := by decide +kernel
theorem dX6_path_46 : decode cX6_path 46 = .ok (.iconst 0, 1) := by decide +kernel
theorem dX6_path_47 : decode cX6_path 47 = .ok (.invokevirtual 107, 3) := by decide +kernel
theorem dX6_path_50 : decode cX6_path 50 = .ok (.ifCond .eq 5, 3) := by decide +kernel
theorem dX6_path_53 : decode cX6_path 53 = .ok (.iconst 0, 1) := by decide +kernel
theorem dX6_path_54 : decode cX6_path 54 = .ok (.ireturn, 1) := by decide +kernel
theorem dX6_path_55 : decode cX6_path 55 = .ok (.bipush 64, 2) := by decide +kernel
theorem dX6_path_57 : decode cX6_path 57 = .ok (.iload_n 1, 1) := by decide +kernel
theorem dX6_path_58 : decode cX6_path 58 = .ok (.imul, 1) := by decide +kernel
theorem dX6_path_59 : decode cX6_path 59 = .ok (.iload_n 2, 1) := by decide +kernel
theorem dX6_path_60 : decode cX6_path 60 = .ok (.iadd, 1) := by decide +kernel
theorem dX6_path_61 : decode cX6_path 61 = .ok (.istore 5, 2) := by decide +kernel
theorem dX6_path_63 : decode cX6_path 63 = .ok (.aload_n 0, 1) := by decide +kernel
theorem dX6_path_64 : decode cX6_path 64 = .ok (.getfield 36, 3) := by decide +kernel
theorem dX6_path_67 : decode cX6_path 67 = .ok (.iload 5, 2) := by decide +kernel
theorem dX6_path_69 : decode cX6_path 69 = .ok (.iaload, 1) := by decide +kernel
theorem dX6_path_70 : decode cX6_path 70 = .ok (.ifCond .ne 13, 3) := by decide +kernel
theorem dX6_path_73 : decode cX6_path 73 = .ok (.iload_n 3, 1) := by decide +kernel
theorem dX6_path_74 : decode cX6_path 74 = .ok (.ifCond .ne 7, 3) := by decide +kernel
theorem dX6_path_77 : decode cX6_path 77 = .ok (.iload_n 2, 1) := by decide +kernel
theorem dX6_path_78 : decode cX6_path 78 = .ok (.goto 4, 3) := by decide +kernel
theorem dX6_path_81 : decode cX6_path 81 = .ok (.iconst (-1), 1) := by decide +kernel
theorem dX6_path_82 : decode cX6_path 82 = .ok (.ireturn, 1) := by decide +kernel
theorem dX6_path_83 : decode cX6_path 83 = .ok (.iload_n 3, 1) := by decide +kernel
theorem dX6_path_84 : decode cX6_path 84 = .ok (.aload_n 0, 1) := by decide +kernel
theorem dX6_path_85 : decode cX6_path 85 = .ok (.getfield 36, 3) := by decide +kernel
theorem dX6_path_88 : decode cX6_path 88 = .ok (.iload 5, 2) := by decide +kernel
theorem dX6_path_90 : decode cX6_path 90 = .ok (.iaload, 1) := by decide +kernel
theorem dX6_path_91 : decode cX6_path 91 = .ok (.if_icmp .ge 18, 3) := by decide +kernel
theorem dX6_path_94 : decode cX6_path 94 = .ok (.aload_n 0, 1) := by decide +kernel
theorem dX6_path_95 : decode cX6_path 95 = .ok (.getfield 40, 3) := by decide +kernel
theorem dX6_path_98 : decode cX6_path 98 = .ok (.bipush 24, 2) := by decide +kernel
theorem dX6_path_100 : decode cX6_path 100 = .ok (.iload 5, 2) := by decide +kernel
theorem dX6_path_102 : decode cX6_path 102 = .ok (.imul, 1) := by decide +kernel
theorem dX6_path_103 : decode cX6_path 103 = .ok (.iload_n 3, 1) := by decide +kernel
theorem dX6_path_104 : decode cX6_path 104 = .ok (.iadd, 1) := by decide +kernel
theorem dX6_path_105 : decode cX6_path 105 = .ok (.iaload, 1) := by decide +kernel
theorem dX6_path_106 : decode cX6_path 106 = .ok (.goto 4, 3) := by decide +kernel
theorem dX6_path_109 : decode cX6_path 109 = .ok (.iconst (-1), 1) := by decide +kernel
theorem dX6_path_110 : decode cX6_path 110 = .ok (.ireturn, 1) := by decide +kernel
theorem dX6_doubled_0 : decode cX6_doubled 0 = .ok (.aload_n 0, 1) := by decide +kernel
theorem dX6_doubled_1 : decode cX6_doubled 1 = .ok (.iload_n 1, 1) := by decide +kernel
theorem dX6_doubled_2 : decode cX6_doubled 2 = .ok (.aload_n 0, 1) := by decide +kernel
theorem dX6_doubled_3 : decode cX6_doubled 3 = .ok (.getfield 89, 3) := by decide +kernel
theorem dX6_doubled_6 : decode cX6_doubled 6 = .ok (.invokestatic 99, 3) := by decide +kernel
theorem dX6_doubled_9 : decode cX6_doubled 9 = .ok (.ifCond .eq 7, 3) := by decide +kernel
theorem dX6_doubled_12 : decode cX6_doubled 12 = .ok (.iload_n 2, 1) := by decide +kernel
theorem dX6_doubled_13 : decode cX6_doubled 13 = .ok (.ifCond .ge 7, 3) := by decide +kernel
theorem dX6_doubled_16 : decode cX6_doubled 16 = .ok (.iconst 1, 1) := by decide +kernel
theorem dX6_doubled_17 : decode cX6_doubled 17 = .ok (.goto 4, 3) := by decide +kernel
theorem dX6_doubled_20 : decode cX6_doubled 20 = .ok (.iconst 0, 1) := by decide +kernel
theorem dX6_doubled_21 : decode cX6_doubled 21 = .ok (.iconst 0, 1) := by decide +kernel
theorem dX6_doubled_22 : decode cX6_doubled 22 = .ok (.invokevirtual 107, 3) := by decide +kernel
theorem dX6_doubled_25 : decode cX6_doubled 25 = .ok (.ifCond .eq 5, 3) := by decide +kernel
theorem dX6_doubled_28 : decode cX6_doubled 28 = .ok (.iconst 0, 1) := by decide +kernel
theorem dX6_doubled_29 : decode cX6_doubled 29 = .ok (.ireturn, 1) := by decide +kernel
theorem dX6_doubled_30 : decode cX6_doubled 30 = .ok (.iload_n 2, 1) := by decide +kernel
theorem dX6_doubled_31 : decode cX6_doubled 31 = .ok (.istore_n 3, 1) := by decide +kernel
theorem dX6_doubled_32 : decode cX6_doubled 32 = .ok (.iconst 0, 1) := by decide +kernel
theorem dX6_doubled_33 : decode cX6_doubled 33 = .ok (.istore 4, 2) := by decide +kernel
theorem dX6_doubled_35 : decode cX6_doubled 35 = .ok (.iload 4, 2) := by decide +kernel
theorem dX6_doubled_37 : decode cX6_doubled 37 = .ok (.aload_n 0, 1) := by decide +kernel
theorem dX6_doubled_38 : decode cX6_doubled 38 = .ok (.getfield 26, 3) := by decide +kernel
theorem dX6_doubled_41 : decode cX6_doubled 41 = .ok (.iload_n 1, 1) := by decide +kernel
theorem dX6_doubled_42 : decode cX6_doubled 42 = .ok (.iaload, 1) := by decide +kernel
theorem dX6_doubled_43 : decode cX6_doubled 43 = .ok (.if_icmp .ge 31, 3) := by decide +kernel
theorem dX6_doubled_46 : decode cX6_doubled 46 = .ok (.aload_n 0, 1) := by decide +kernel
theorem dX6_doubled_47 : decode cX6_doubled 47 = .ok (.iload_n 1, 1) := by decide +kernel
theorem dX6_doubled_48 : decode cX6_doubled 48 = .ok (.iload 4, 2) := by decide +kernel
theorem dX6_doubled_50 : decode cX6_doubled 50 = .ok (.iconst 1, 1) := by decide +kernel
theorem dX6_doubled_51 : decode cX6_doubled 51 = .ok (.invokevirtual 135, 3) := by decide +kernel
theorem dX6_doubled_54 : decode cX6_doubled 54 = .ok (.iconst 1, 1) := by decide +kernel
theorem dX6_doubled_55 : decode cX6_doubled 55 = .ok (.if_icmp .le 13, 3) := by decide +kernel
theorem dX6_doubled_58 : decode cX6_doubled 58 = .ok (.iload_n 3, 1) := by decide +kernel
theorem dX6_doubled_59 : decode cX6_doubled 59 = .ok (.ifCond .ne 6, 3) := by decide +kernel
theorem dX6_doubled_62 : decode cX6_doubled 62 = .ok (.iload 4, 2) := by decide +kernel
theorem dX6_doubled_64 : decode cX6_doubled 64 = .ok (.ireturn, 1) := by decide +kernel
theorem dX6_doubled_65 : decode cX6_doubled 65 = .ok (.iinc 3 (-1), 3) := by decide +kernel
theorem dX6_doubled_68 : decode cX6_doubled 68 = .ok (.iinc 4 1, 3) := by decide +kernel
theorem dX6_doubled_71 : decode cX6_doubled 71 = .ok (.goto (-36), 3) := by decide +kernel
theorem dX6_doubled_74 : decode cX6_doubled 74 = .ok (.iconst (-1), 1) := by decide +kernel
theorem dX6_doubled_75 : decode cX6_doubled 75 = .ok (.ireturn, 1) := by decide +kernel
theorem dX6_open_0 : decode cX6_open 0 = .ok (.aload_n 0, 1) := by decide +kernel
theorem dX6_open_1 : decode cX6_open 1 = .ok (.iload_n 1, 1) := by decide +kernel
theorem dX6_open_2 : decode cX6_open 2 = .ok (.aload_n 0, 1) := by decide +kernel
theorem dX6_open_3 : decode cX6_open 3 = .ok (.getfield 89, 3) := by decide +kernel
theorem dX6_open_6 : decode cX6_open 6 = .ok (.invokestatic 99, 3) := by decide +kernel
theorem dX6_open_9 : decode cX6_open 9 = .ok (.ifCond .eq 7, 3) := by decide +kernel
theorem dX6_open_12 : decode cX6_open 12 = .ok (.iload_n 2, 1) := by decide +kernel
theorem dX6_open_13 : decode cX6_open 13 = .ok (.ifCond .ge 7, 3) := by decide +kernel
theorem dX6_open_16 : decode cX6_open 16 = .ok (.iconst 1, 1) := by decide +kernel
theorem dX6_open_17 : decode cX6_open 17 = .ok (.goto 4, 3) := by decide +kernel
theorem dX6_open_20 : decode cX6_open 20 = .ok (.iconst 0, 1) := by decide +kernel
theorem dX6_open_21 : decode cX6_open 21 = .ok (.iconst 0, 1) := by decide +kernel
theorem dX6_open_22 : decode cX6_open 22 = .ok (.invokevirtual 107, 3) := by decide +kernel
theorem dX6_open_25 : decode cX6_open 25 = .ok (.ifCond .eq 5, 3) := by decide +kernel
theorem dX6_open_28 : decode cX6_open 28 = .ok (.iconst 0, 1) := by decide +kernel
theorem dX6_open_29 : decode cX6_open 29 = .ok (.ireturn, 1) := by decide +kernel
theorem dX6_open_30 : decode cX6_open 30 = .ok (.iload_n 2, 1) := by decide +kernel
theorem dX6_open_31 : decode cX6_open 31 = .ok (.istore_n 3, 1) := by decide +kernel
theorem dX6_open_32 : decode cX6_open 32 = .ok (.iconst 0, 1) := by decide +kernel
theorem dX6_open_33 : decode cX6_open 33 = .ok (.istore 4, 2) := by decide +kernel
theorem dX6_open_35 : decode cX6_open 35 = .ok (.iload 4, 2) := by decide +kernel
theorem dX6_open_37 : decode cX6_open 37 = .ok (.aload_n 0, 1) := by decide +kernel
theorem dX6_open_38 : decode cX6_open 38 = .ok (.getfield 26, 3) := by decide +kernel
theorem dX6_open_41 : decode cX6_open 41 = .ok (.iload_n 1, 1) := by decide +kernel
theorem dX6_open_42 : decode cX6_open 42 = .ok (.iaload, 1) := by decide +kernel
theorem dX6_open_43 : decode cX6_open 43 = .ok (.if_icmp .ge 41, 3) := by decide +kernel
theorem dX6_open_46 : decode cX6_open 46 = .ok (.aload_n 0, 1) := by decide +kernel
theorem dX6_open_47 : decode cX6_open 47 = .ok (.iload_n 1, 1) := by decide +kernel
theorem dX6_open_48 : decode cX6_open 48 = .ok (.iload 4, 2) := by decide +kernel
theorem dX6_open_50 : decode cX6_open 50 = .ok (.iconst 0, 1) := by decide +kernel
theorem dX6_open_51 : decode cX6_open 51 = .ok (.invokevirtual 135, 3) := by decide +kernel
theorem dX6_open_54 : decode cX6_open 54 = .ok (.ifCond .le 24, 3) := by decide +kernel
theorem dX6_open_57 : decode cX6_open 57 = .ok (.aload_n 0, 1) := by decide +kernel
theorem dX6_open_58 : decode cX6_open 58 = .ok (.iload_n 1, 1) := by decide +kernel
theorem dX6_open_59 : decode cX6_open 59 = .ok (.iload 4, 2) := by decide +kernel
theorem dX6_open_61 : decode cX6_open 61 = .ok (.iconst 1, 1) := by decide +kernel
theorem dX6_open_62 : decode cX6_open 62 = .ok (.invokevirtual 135, 3) := by decide +kernel
theorem dX6_open_65 : decode cX6_open 65 = .ok (.ifCond .ne 13, 3) := by decide +kernel
theorem dX6_open_68 : decode cX6_open 68 = .ok (.iload_n 3, 1) := by decide +kernel
theorem dX6_open_69 : decode cX6_open 69 = .ok (.ifCond .ne 6, 3) := by decide +kernel
theorem dX6_open_72 : decode cX6_open 72 = .ok (.iload 4, 2) := by decide +kernel
theorem dX6_open_74 : decode cX6_open 74 = .ok (.ireturn, 1) := by decide +kernel
theorem dX6_open_75 : decode cX6_open 75 = .ok (.iinc 3 (-1), 3) := by decide +kernel
theorem dX6_open_78 : decode cX6_open 78 = .ok (.iinc 4 1, 3) := by decide +kernel
theorem dX6_open_81 : decode cX6_open 81 = .ok (.goto (-46), 3) := by decide +kernel
theorem dX6_open_84 : decode cX6_open 84 = .ok (.iconst (-1), 1) := by decide +kernel
theorem dX6_open_85 : decode cX6_open 85 = .ok (.ireturn, 1) := by decide +kernel
theorem dX6_looksAlike_0 : decode cX6_looksAlike 0 = .ok (.aload_n 0, 1) := by decide +kernel
theorem dX6_looksAlike_1 : decode cX6_looksAlike 1 = .ok (.getfield 7, 3) := by decide +kernel
theorem dX6_looksAlike_4 : decode cX6_looksAlike 4 = .ok (.iload_n 1, 1) := by decide +kernel
theorem dX6_looksAlike_5 : decode cX6_looksAlike 5 = .ok (.iaload, 1) := by decide +kernel
theorem dX6_looksAlike_6 : decode cX6_looksAlike 6 = .ok (.aload_n 0, 1) := by decide +kernel
theorem dX6_looksAlike_7 : decode cX6_looksAlike 7 = .ok (.getfield 7, 3) := by decide +kernel
theorem dX6_looksAlike_10 : decode cX6_looksAlike 10 = .ok (.iload_n 2, 1) := by decide +kernel
theorem dX6_looksAlike_11 : decode cX6_looksAlike 11 = .ok (.iaload, 1) := by decide +kernel
theorem dX6_looksAlike_12 : decode cX6_looksAlike 12 = .ok (.if_icmp .ne 37, 3) := by decide +kernel
theorem dX6_looksAlike_15 : decode cX6_looksAlike 15 = .ok (.aload_n 0, 1) := by decide +kernel
theorem dX6_looksAlike_16 : decode cX6_looksAlike 16 = .ok (.getfield 20, 3) := by decide +kernel
theorem dX6_looksAlike_19 : decode cX6_looksAlike 19 = .ok (.iload_n 1, 1) := by decide +kernel
theorem dX6_looksAlike_20 : decode cX6_looksAlike 20 = .ok (.iaload, 1) := by decide +kernel
theorem dX6_looksAlike_21 : decode cX6_looksAlike 21 = .ok (.aload_n 0, 1) := by decide +kernel
theorem dX6_looksAlike_22 : decode cX6_looksAlike 22 = .ok (.getfield 20, 3) := by decide +kernel
theorem dX6_looksAlike_25 : decode cX6_looksAlike 25 = .ok (.iload_n 2, 1) := by decide +kernel
theorem dX6_looksAlike_26 : decode cX6_looksAlike 26 = .ok (.iaload, 1) := by decide +kernel
theorem dX6_looksAlike_27 : decode cX6_looksAlike 27 = .ok (.if_icmp .ne 22, 3) := by decide +kernel
theorem dX6_looksAlike_30 : decode cX6_looksAlike 30 = .ok (.aload_n 0, 1) := by decide +kernel
theorem dX6_looksAlike_31 : decode cX6_looksAlike 31 = .ok (.getfield 26, 3) := by decide +kernel
theorem dX6_looksAlike_34 : decode cX6_looksAlike 34 = .ok (.iload_n 1, 1) := by decide +kernel
theorem dX6_looksAlike_35 : decode cX6_looksAlike 35 = .ok (.iaload, 1) := by decide +kernel
theorem dX6_looksAlike_36 : decode cX6_looksAlike 36 = .ok (.aload_n 0, 1) := by decide +kernel
theorem dX6_looksAlike_37 : decode cX6_looksAlike 37 = .ok (.getfield 26, 3) := by decide +kernel
theorem dX6_looksAlike_40 : decode cX6_looksAlike 40 = .ok (.iload_n 2, 1) := by decide +kernel
theorem dX6_looksAlike_41 : decode cX6_looksAlike 41 = .ok (.iaload, 1) := by decide +kernel
theorem dX6_looksAlike_42 : decode cX6_looksAlike 42 = .ok (.if_icmp .ne 7, 3) := by decide +kernel
theorem dX6_looksAlike_45 : decode cX6_looksAlike 45 = .ok (.iconst 1, 1) := by decide +kernel
theorem dX6_looksAlike_46 : decode cX6_looksAlike 46 = .ok (.goto 4, 3) := by decide +kernel
theorem dX6_looksAlike_49 : decode cX6_looksAlike 49 = .ok (.iconst 0, 1) := by decide +kernel
theorem dX6_looksAlike_50 : decode cX6_looksAlike 50 = .ok (.istore_n 3, 1) := by decide +kernel
theorem dX6_looksAlike_51 : decode cX6_looksAlike 51 = .ok (.iconst 0, 1) := by decide +kernel
theorem dX6_looksAlike_52 : decode cX6_looksAlike 52 = .ok (.istore 4, 2) := by decide +kernel
theorem dX6_looksAlike_54 : decode cX6_looksAlike 54 = .ok (.iload 4, 2) := by decide +kernel
theorem dX6_looksAlike_56 : decode cX6_looksAlike 56 = .ok (.aload_n 0, 1) := by decide +kernel
theorem dX6_looksAlike_57 : decode cX6_looksAlike 57 = .ok (.getfield 7, 3) := by decide +kernel
theorem dX6_looksAlike_60 : decode cX6_looksAlike 60 = .ok (.iload_n 1, 1) := by decide +kernel
theorem dX6_looksAlike_61 : decode cX6_looksAlike 61 = .ok (.iaload, 1) := by decide +kernel
theorem dX6_looksAlike_62 : decode cX6_looksAlike 62 = .ok (.if_icmp .ge 73, 3) := by decide +kernel
theorem dX6_looksAlike_65 : decode cX6_looksAlike 65 = .ok (.iload_n 3, 1) := by decide +kernel
theorem dX6_looksAlike_66 : decode cX6_looksAlike 66 = .ok (.ifCond .eq 69, 3) := by decide +kernel
theorem dX6_looksAlike_69 : decode cX6_looksAlike 69 = .ok (.aload_n 0, 1) := by decide +kernel
theorem dX6_looksAlike_70 : decode cX6_looksAlike 70 = .ok (.getfield 13, 3) := by decide +kernel
theorem dX6_looksAlike_73 : decode cX6_looksAlike 73 = .ok (.bipush 16, 2) := by decide +kernel
theorem dX6_looksAlike_75 : decode cX6_looksAlike 75 = .ok (.iload_n 1, 1) := by decide +kernel
theorem dX6_looksAlike_76 : decode cX6_looksAlike 76 = .ok (.imul, 1) := by decide +kernel
theorem dX6_looksAlike_77 : decode cX6_looksAlike 77 = .ok (.iload 4, 2) := by decide +kernel
theorem dX6_looksAlike_79 : decode cX6_looksAlike 79 = .ok (.iadd, 1) := by decide +kernel
theorem dX6_looksAlike_80 : decode cX6_looksAlike 80 = .ok (.iaload, 1) := by decide +kernel
theorem dX6_looksAlike_81 : decode cX6_looksAlike 81 = .ok (.aload_n 0, 1) := by decide +kernel
theorem dX6_looksAlike_82 : decode cX6_looksAlike 82 = .ok (.getfield 13, 3) := by decide +kernel
theorem dX6_looksAlike_85 : decode cX6_looksAlike 85 = .ok (.bipush 16, 2) := by decide +kernel
theorem dX6_looksAlike_87 : decode cX6_looksAlike 87 = .ok (.iload_n 2, 1) := by decide +kernel
theorem dX6_looksAlike_88 : decode cX6_looksAlike 88 = .ok (.imul, 1) := by decide +kernel
theorem dX6_looksAlike_89 : decode cX6_looksAlike 89 = .ok (.iload 4, 2) := by decide +kernel
theorem dX6_looksAlike_91 : decode cX6_looksAlike 91 = .ok (.iadd, 1) := by decide +kernel
theorem dX6_looksAlike_92 : decode cX6_looksAlike 92 = .ok (.iaload, 1) := by decide +kernel
theorem dX6_looksAlike_93 : decode cX6_looksAlike 93 = .ok (.if_icmp .ne 34, 3) := by decide +kernel
theorem dX6_looksAlike_96 : decode cX6_looksAlike 96 = .ok (.aload_n 0, 1) := by decide +kernel
theorem dX6_looksAlike_97 : decode cX6_looksAlike 97 = .ok (.getfield 16, 3) := by decide +kernel
theorem dX6_looksAlike_100 : decode cX6_looksAlike 100 = .ok (.bipush 16, 2) := by decide +kernel
theorem dX6_looksAlike_102 : decode cX6_looksAlike 102 = .ok (.iload_n 1, 1) := by decide +kernel
theorem dX6_looksAlike_103 : decode cX6_looksAlike 103 = .ok (.imul, 1) := by decide +kernel
theorem dX6_looksAlike_104 : decode cX6_looksAlike 104 = .ok (.iload 4, 2) := by decide +kernel
theorem dX6_looksAlike_106 : decode cX6_looksAlike 106 = .ok (.iadd, 1) := by decide +kernel
theorem dX6_looksAlike_107 : decode cX6_looksAlike 107 = .ok (.baload, 1) := by decide +kernel
theorem dX6_looksAlike_108 : decode cX6_looksAlike 108 = .ok (.aload_n 0, 1) := by decide +kernel
theorem dX6_looksAlike_109 : decode cX6_looksAlike 109 = .ok (.getfield 16, 3) := by decide +kernel
theorem dX6_looksAlike_112 : decode cX6_looksAlike 112 = .ok (.bipush 16, 2) := by decide +kernel
theorem dX6_looksAlike_114 : decode cX6_looksAlike 114 = .ok (.iload_n 2, 1) := by decide +kernel
theorem dX6_looksAlike_115 : decode cX6_looksAlike 115 = .ok (.imul, 1) := by decide +kernel
theorem dX6_looksAlike_116 : decode cX6_looksAlike 116 = .ok (.iload 4, 2) := by decide +kernel
theorem dX6_looksAlike_118 : decode cX6_looksAlike 118 = .ok (.iadd, 1) := by decide +kernel
theorem dX6_looksAlike_119 : decode cX6_looksAlike 119 = .ok (.baload, 1) := by decide +kernel
theorem dX6_looksAlike_120 : decode cX6_looksAlike 120 = .ok (.if_icmp .ne 7, 3) := by decide +kernel
theorem dX6_looksAlike_123 : decode cX6_looksAlike 123 = .ok (.iconst 1, 1) := by decide +kernel
theorem dX6_looksAlike_124 : decode cX6_looksAlike 124 = .ok (.goto 4, 3) := by decide +kernel
theorem dX6_looksAlike_127 : decode cX6_looksAlike 127 = .ok (.iconst 0, 1) := by decide +kernel
theorem dX6_looksAlike_128 : decode cX6_looksAlike 128 = .ok (.istore_n 3, 1) := by decide +kernel
theorem dX6_looksAlike_129 : decode cX6_looksAlike 129 = .ok (.iinc 4 1, 3) := by decide +kernel
theorem dX6_looksAlike_132 : decode cX6_looksAlike 132 = .ok (.goto (-78), 3) := by decide +kernel
theorem dX6_looksAlike_135 : decode cX6_looksAlike 135 = .ok (.iconst 0, 1) := by decide +kernel
theorem dX6_looksAlike_136 : decode cX6_looksAlike 136 = .ok (.istore 4, 2) := by decide +kernel
theorem dX6_looksAlike_138 : decode cX6_looksAlike 138 = .ok (.iload 4, 2) := by decide +kernel
theorem dX6_looksAlike_140 : decode cX6_looksAlike 140 = .ok (.aload_n 0, 1) := by decide +kernel
theorem dX6_looksAlike_141 : decode cX6_looksAlike 141 = .ok (.getfield 20, 3) := by decide +kernel
theorem dX6_looksAlike_144 : decode cX6_looksAlike 144 = .ok (.iload_n 1, 1) := by decide +kernel
theorem dX6_looksAlike_145 : decode cX6_looksAlike 145 = .ok (.iaload, 1) := by decide +kernel
theorem dX6_looksAlike_146 : decode cX6_looksAlike 146 = .ok (.if_icmp .ge 47, 3) := by decide +kernel
theorem dX6_looksAlike_149 : decode cX6_looksAlike 149 = .ok (.iload_n 3, 1) := by decide +kernel
theorem dX6_looksAlike_150 : decode cX6_looksAlike 150 = .ok (.ifCond .eq 43, 3) := by decide +kernel
theorem dX6_looksAlike_153 : decode cX6_looksAlike 153 = .ok (.aload_n 0, 1) := by decide +kernel
theorem dX6_looksAlike_154 : decode cX6_looksAlike 154 = .ok (.getfield 73, 3) := by decide +kernel
theorem dX6_looksAlike_157 : decode cX6_looksAlike 157 = .ok (.bipush 24, 2) := by decide +kernel
theorem dX6_looksAlike_159 : decode cX6_looksAlike 159 = .ok (.aload_n 0, 1) := by decide +kernel
theorem dX6_looksAlike_160 : decode cX6_looksAlike 160 = .ok (.getfield 23, 3) := by decide +kernel
theorem dX6_looksAlike_163 : decode cX6_looksAlike 163 = .ok (.bipush 64, 2) := by decide +kernel
theorem dX6_looksAlike_165 : decode cX6_looksAlike 165 = .ok (.iload_n 1, 1) := by decide +kernel
theorem dX6_looksAlike_166 : decode cX6_looksAlike 166 = .ok (.imul, 1) := by decide +kernel
theorem dX6_looksAlike_167 : decode cX6_looksAlike 167 = .ok (.iload 4, 2) := by decide +kernel
theorem dX6_looksAlike_169 : decode cX6_looksAlike 169 = .ok (.iadd, 1) := by decide +kernel
theorem dX6_looksAlike_170 : decode cX6_looksAlike 170 = .ok (.iaload, 1) := by decide +kernel
theorem dX6_looksAlike_171 : decode cX6_looksAlike 171 = .ok (.imul, 1) := by decide +kernel
theorem dX6_looksAlike_172 : decode cX6_looksAlike 172 = .ok (.aload_n 0, 1) := by decide +kernel
theorem dX6_looksAlike_173 : decode cX6_looksAlike 173 = .ok (.getfield 23, 3) := by decide +kernel
theorem dX6_looksAlike_176 : decode cX6_looksAlike 176 = .ok (.bipush 64, 2) := by decide +kernel
theorem dX6_looksAlike_178 : decode cX6_looksAlike 178 = .ok (.iload_n 2, 1) := by decide +kernel
theorem dX6_looksAlike_179 : decode cX6_looksAlike 179 = .ok (.imul, 1) := by decide +kernel
theorem dX6_looksAlike_180 : decode cX6_looksAlike 180 = .ok (.iload 4, 2) := by decide +kernel
theorem dX6_looksAlike_182 : decode cX6_looksAlike 182 = .ok (.iadd, 1) := by decide +kernel
theorem dX6_looksAlike_183 : decode cX6_looksAlike 183 = .ok (.iaload, 1) := by decide +kernel
theorem dX6_looksAlike_184 : decode cX6_looksAlike 184 = .ok (.iadd, 1) := by decide +kernel
theorem dX6_looksAlike_185 : decode cX6_looksAlike 185 = .ok (.baload, 1) := by decide +kernel
theorem dX6_looksAlike_186 : decode cX6_looksAlike 186 = .ok (.istore_n 3, 1) := by decide +kernel
theorem dX6_looksAlike_187 : decode cX6_looksAlike 187 = .ok (.iinc 4 1, 3) := by decide +kernel
theorem dX6_looksAlike_190 : decode cX6_looksAlike 190 = .ok (.goto (-52), 3) := by decide +kernel
theorem dX6_looksAlike_193 : decode cX6_looksAlike 193 = .ok (.iconst (-1), 1) := by decide +kernel
theorem dX6_looksAlike_194 : decode cX6_looksAlike 194 = .ok (.istore 4, 2) := by decide +kernel
theorem dX6_looksAlike_196 : decode cX6_looksAlike 196 = .ok (.iload 4, 2) := by decide +kernel
theorem dX6_looksAlike_198 : decode cX6_looksAlike 198 = .ok (.aload_n 0, 1) := by decide +kernel
theorem dX6_looksAlike_199 : decode cX6_looksAlike 199 = .ok (.getfield 20, 3) := by decide +kernel
theorem dX6_looksAlike_202 : decode cX6_looksAlike 202 = .ok (.iload_n 1, 1) := by decide +kernel
theorem dX6_looksAlike_203 : decode cX6_looksAlike 203 = .ok (.iaload, 1) := by decide +kernel
theorem dX6_looksAlike_204 : decode cX6_looksAlike 204 = .ok (.if_icmp .ge 96, 3) := by decide +kernel
theorem dX6_looksAlike_207 : decode cX6_looksAlike 207 = .ok (.iload_n 3, 1) := by decide +kernel
theorem dX6_looksAlike_208 : decode cX6_looksAlike 208 = .ok (.ifCond .eq 92, 3) := by decide +kernel
theorem dX6_looksAlike_211 : decode cX6_looksAlike 211 = .ok (.aload_n 0, 1) := by decide +kernel
theorem dX6_looksAlike_212 : decode cX6_looksAlike 212 = .ok (.iload 4, 2) := by decide +kernel
theorem dX6_looksAlike_214 : decode cX6_looksAlike 214 = .ok (.iconst (-1), 1) := by decide +kernel
theorem dX6_looksAlike_215 : decode cX6_looksAlike 215 = .ok (.if_icmp .ne 7, 3) := by decide +kernel
theorem dX6_looksAlike_218 : decode cX6_looksAlike 218 = .ok (.iload_n 1, 1) := by decide +kernel
theorem dX6_looksAlike_219 : decode cX6_looksAlike 219 = .ok (.goto 15, 3) := by decide +kernel
theorem dX6_looksAlike_222 : decode cX6_looksAlike 222 = .ok (.aload_n 0, 1) := by decide +kernel
theorem dX6_looksAlike_223 : decode cX6_looksAlike 223 = .ok (.getfield 23, 3) := by decide +kernel
theorem dX6_looksAlike_226 : decode cX6_looksAlike 226 = .ok (.bipush 64, 2) := by decide +kernel
theorem dX6_looksAlike_228 : decode cX6_looksAlike 228 = .ok (.iload_n 1, 1) := by decide +kernel
theorem dX6_looksAlike_229 : decode cX6_looksAlike 229 = .ok (.imul, 1) := by decide +kernel
theorem dX6_looksAlike_230 : decode cX6_looksAlike 230 = .ok (.iload 4, 2) := by decide +kernel
theorem dX6_looksAlike_232 : decode cX6_looksAlike 232 = .ok (.iadd, 1) := by decide +kernel
theorem dX6_looksAlike_233 : decode cX6_looksAlike 233 = .ok (.iaload, 1) := by decide +kernel
theorem dX6_looksAlike_234 : decode cX6_looksAlike 234 = .ok (.invokevirtual 117, 3) := by decide +kernel
theorem dX6_looksAlike_237 : decode cX6_looksAlike 237 = .ok (.istore 5, 2) := by decide +kernel
theorem dX6_looksAlike_239 : decode cX6_looksAlike 239 = .ok (.iconst 0, 1) := by decide +kernel
theorem dX6_looksAlike_240 : decode cX6_looksAlike 240 = .ok (.istore 6, 2) := by decide +kernel
theorem dX6_looksAlike_242 : decode cX6_looksAlike 242 = .ok (.iload 6, 2) := by decide +kernel
theorem dX6_looksAlike_244 : decode cX6_looksAlike 244 = .ok (.iload 5, 2) := by decide +kernel
theorem dX6_looksAlike_246 : decode cX6_looksAlike 246 = .ok (.if_icmp .ge 48, 3) := by decide +kernel
theorem dX6_looksAlike_249 : decode cX6_looksAlike 249 = .ok (.iload_n 3, 1) := by decide +kernel
theorem dX6_looksAlike_250 : decode cX6_looksAlike 250 = .ok (.ifCond .eq 44, 3) := by decide +kernel
theorem dX6_looksAlike_253 : decode cX6_looksAlike 253 = .ok (.aload_n 0, 1) := by decide +kernel
theorem dX6_looksAlike_254 : decode cX6_looksAlike 254 = .ok (.getfield 33, 3) := by decide +kernel
theorem dX6_looksAlike_257 : decode cX6_looksAlike 257 = .ok (.iload_n 1, 1) := by decide +kernel
theorem dX6_looksAlike_258 : decode cX6_looksAlike 258 = .ok (.iload 4, 2) := by decide +kernel
theorem dX6_looksAlike_260 : decode cX6_looksAlike 260 = .ok (.iload 6, 2) := by decide +kernel
theorem dX6_looksAlike_262 : decode cX6_looksAlike 262 = .ok (.invokestatic 125, 3) := by decide +kernel
theorem dX6_looksAlike_265 : decode cX6_looksAlike 265 = .ok (.iaload, 1) := by decide +kernel
theorem dX6_looksAlike_266 : decode cX6_looksAlike 266 = .ok (.aload_n 0, 1) := by decide +kernel
theorem dX6_looksAlike_267 : decode cX6_looksAlike 267 = .ok (.getfield 33, 3) := by decide +kernel
theorem dX6_looksAlike_270 : decode cX6_looksAlike 270 = .ok (.iload_n 2, 1) := by decide +kernel
theorem dX6_looksAlike_271 : decode cX6_looksAlike 271 = .ok (.iload 4, 2) := by decide +kernel
theorem dX6_looksAlike_273 : decode cX6_looksAlike 273 = .ok (.iload 6, 2) := by decide +kernel
theorem dX6_looksAlike_275 : decode cX6_looksAlike 275 = .ok (.invokestatic 125, 3) := by decide +kernel
theorem dX6_looksAlike_278 : decode cX6_looksAlike 278 = .ok (.iaload, 1) := by decide +kernel
theorem dX6_looksAlike_279 : decode cX6_looksAlike 279 = .ok (.if_icmp .ne 7, 3) := by decide +kernel
theorem dX6_looksAlike_282 : decode cX6_looksAlike 282 = .ok (.iconst 1, 1) := by decide +kernel
theorem dX6_looksAlike_283 : decode cX6_looksAlike 283 = .ok (.goto 4, 3) := by decide +kernel
theorem dX6_looksAlike_286 : decode cX6_looksAlike 286 = .ok (.iconst 0, 1) := by decide +kernel
theorem dX6_looksAlike_287 : decode cX6_looksAlike 287 = .ok (.istore_n 3, 1) := by decide +kernel
theorem dX6_looksAlike_288 : decode cX6_looksAlike 288 = .ok (.iinc 6 1, 3) := by decide +kernel
theorem dX6_looksAlike_291 : decode cX6_looksAlike 291 = .ok (.goto (-49), 3) := by decide +kernel
theorem dX6_looksAlike_294 : decode cX6_looksAlike 294 = .ok (.iinc 4 1, 3) := by decide +kernel
theorem dX6_looksAlike_297 : decode cX6_looksAlike 297 = .ok (.goto (-101), 3) := by decide +kernel
theorem dX6_looksAlike_300 : decode cX6_looksAlike 300 = .ok (.iload_n 3, 1) := by decide +kernel
theorem dX6_looksAlike_301 : decode cX6_looksAlike 301 = .ok (.ireturn, 1) := by decide +kernel
theorem dX6_findAlike_0 : decode cX6_findAlike 0 = .ok (.iconst 0, 1) := by decide +kernel
theorem dX6_findAlike_1 : decode cX6_findAlike 1 = .ok (.istore_n 1, 1) := by decide +kernel
theorem dX6_findAlike_2 : decode cX6_findAlike 2 = .ok (.iload_n 1, 1) := by decide +kernel
theorem dX6_findAlike_3 : decode cX6_findAlike 3 = .ok (.sipush 576, 3) := by decide +kernel
theorem dX6_findAlike_6 : decode cX6_findAlike 6 = .ok (.if_icmp .ge 16, 3) := by decide +kernel
theorem dX6_findAlike_9 : decode cX6_findAlike 9 = .ok (.aload_n 0, 1) := by decide +kernel
theorem dX6_findAlike_10 : decode cX6_findAlike 10 = .ok (.getfield 73, 3) := by decide +kernel
theorem dX6_findAlike_13 : decode cX6_findAlike 13 = .ok (.iload_n 1, 1) := by decide +kernel
theorem dX6_findAlike_14 : decode cX6_findAlike 14 = .ok (.iconst 1, 1) := by decide +kernel
theorem dX6_findAlike_15 : decode cX6_findAlike 15 = .ok (.bastore, 1) := by decide +kernel
theorem dX6_findAlike_16 : decode cX6_findAlike 16 = .ok (.iinc 1 1, 3) := by decide +kernel
theorem dX6_findAlike_19 : decode cX6_findAlike 19 = .ok (.goto (-17), 3) := by decide +kernel
theorem dX6_findAlike_22 : decode cX6_findAlike 22 = .ok (.iconst 1, 1) := by decide +kernel
theorem dX6_findAlike_23 : decode cX6_findAlike 23 = .ok (.istore_n 1, 1) := by decide +kernel
theorem dX6_findAlike_24 : decode cX6_findAlike 24 = .ok (.iload_n 1, 1) := by decide +kernel
theorem dX6_findAlike_25 : decode cX6_findAlike 25 = .ok (.ifCond .eq 77, 3) := by decide +kernel
theorem dX6_findAlike_28 : decode cX6_findAlike 28 = .ok (.iconst 0, 1) := by decide +kernel
theorem dX6_findAlike_29 : decode cX6_findAlike 29 = .ok (.istore_n 1, 1) := by decide +kernel
theorem dX6_findAlike_30 : decode cX6_findAlike 30 = .ok (.iconst 0, 1) := by decide +kernel
theorem dX6_findAlike_31 : decode cX6_findAlike 31 = .ok (.istore_n 2, 1) := by decide +kernel
theorem dX6_findAlike_32 : decode cX6_findAlike 32 = .ok (.iload_n 2, 1) := by decide +kernel
theorem dX6_findAlike_33 : decode cX6_findAlike 33 = .ok (.aload_n 0, 1) := by decide +kernel
theorem dX6_findAlike_34 : decode cX6_findAlike 34 = .ok (.getfield 89, 3) := by decide +kernel
theorem dX6_findAlike_37 : decode cX6_findAlike 37 = .ok (.if_icmp .ge 62, 3) := by decide +kernel
theorem dX6_findAlike_40 : decode cX6_findAlike 40 = .ok (.iconst 0, 1) := by decide +kernel
theorem dX6_findAlike_41 : decode cX6_findAlike 41 = .ok (.istore_n 3, 1) := by decide +kernel
theorem dX6_findAlike_42 : decode cX6_findAlike 42 = .ok (.iload_n 3, 1) := by decide +kernel
theorem dX6_findAlike_43 : decode cX6_findAlike 43 = .ok (.aload_n 0, 1) := by decide +kernel
theorem dX6_findAlike_44 : decode cX6_findAlike 44 = .ok (.getfield 89, 3) := by decide +kernel
theorem dX6_findAlike_47 : decode cX6_findAlike 47 = .ok (.if_icmp .ge 46, 3) := by decide +kernel
theorem dX6_findAlike_50 : decode cX6_findAlike 50 = .ok (.aload_n 0, 1) := by decide +kernel
theorem dX6_findAlike_51 : decode cX6_findAlike 51 = .ok (.getfield 73, 3) := by decide +kernel
theorem dX6_findAlike_54 : decode cX6_findAlike 54 = .ok (.bipush 24, 2) := by decide +kernel
theorem dX6_findAlike_56 : decode cX6_findAlike 56 = .ok (.iload_n 2, 1) := by decide +kernel
theorem dX6_findAlike_57 : decode cX6_findAlike 57 = .ok (.imul, 1) := by decide +kernel
theorem dX6_findAlike_58 : decode cX6_findAlike 58 = .ok (.iload_n 3, 1) := by decide +kernel
theorem dX6_findAlike_59 : decode cX6_findAlike 59 = .ok (.iadd, 1) := by decide +kernel
theorem dX6_findAlike_60 : decode cX6_findAlike 60 = .ok (.baload, 1) := by decide +kernel
theorem dX6_findAlike_61 : decode cX6_findAlike 61 = .ok (.ifCond .eq 26, 3) := by decide +kernel
theorem dX6_findAlike_64 : decode cX6_findAlike 64 = .ok (.aload_n 0, 1) := by decide +kernel
theorem dX6_findAlike_65 : decode cX6_findAlike 65 = .ok (.iload_n 2, 1) := by decide +kernel
theorem dX6_findAlike_66 : decode cX6_findAlike 66 = .ok (.iload_n 3, 1) := by decide +kernel
theorem dX6_findAlike_67 : decode cX6_findAlike 67 = .ok (.invokevirtual 167, 3) := by decide +kernel
theorem dX6_findAlike_70 : decode cX6_findAlike 70 = .ok (.ifCond .ne 17, 3) := by decide +kernel
theorem dX6_findAlike_73 : decode cX6_findAlike 73 = .ok (.aload_n 0, 1) := by decide +kernel
theorem dX6_findAlike_74 : decode cX6_findAlike 74 = .ok (.getfield 73, 3) := by decide +kernel
theorem dX6_findAlike_77 : decode cX6_findAlike 77 = .ok (.bipush 24, 2) := by decide +kernel
theorem dX6_findAlike_79 : decode cX6_findAlike 79 = .ok (.iload_n 2, 1) := by decide +kernel
theorem dX6_findAlike_80 : decode cX6_findAlike 80 = .ok (.imul, 1) := by decide +kernel
theorem dX6_findAlike_81 : decode cX6_findAlike 81 = .ok (.iload_n 3, 1) := by decide +kernel
theorem dX6_findAlike_82 : decode cX6_findAlike 82 = .ok (.iadd, 1) := by decide +kernel
theorem dX6_findAlike_83 : decode cX6_findAlike 83 = .ok (.iconst 0, 1) := by decide +kernel
theorem dX6_findAlike_84 : decode cX6_findAlike 84 = .ok (.bastore, 1) := by decide +kernel
theorem dX6_findAlike_85 : decode cX6_findAlike 85 = .ok (.iconst 1, 1) := by decide +kernel
theorem dX6_findAlike_86 : decode cX6_findAlike 86 = .ok (.istore_n 1, 1) := by decide +kernel
theorem dX6_findAlike_87 : decode cX6_findAlike 87 = .ok (.iinc 3 1, 3) := by decide +kernel
theorem dX6_findAlike_90 : decode cX6_findAlike 90 = .ok (.goto (-48), 3) := by decide +kernel
theorem dX6_findAlike_93 : decode cX6_findAlike 93 = .ok (.iinc 2 1, 3) := by decide +kernel
theorem dX6_findAlike_96 : decode cX6_findAlike 96 = .ok (.goto (-64), 3) := by decide +kernel
theorem dX6_findAlike_99 : decode cX6_findAlike 99 = .ok (.goto (-75), 3) := by decide +kernel
theorem dX6_findAlike_102 : decode cX6_findAlike 102 = .ok (.return_, 1) := by decide +kernel
theorem dX6_alike_0 : decode cX6_alike 0 = .ok (.aload_n 0, 1) := by decide +kernel
theorem dX6_alike_1 : decode cX6_alike 1 = .ok (.iload_n 1, 1) := by decide +kernel
theorem dX6_alike_2 : decode cX6_alike 2 = .ok (.aload_n 0, 1) := by decide +kernel
theorem dX6_alike_3 : decode cX6_alike 3 = .ok (.getfield 89, 3) := by decide +kernel
theorem dX6_alike_6 : decode cX6_alike 6 = .ok (.invokestatic 99, 3) := by decide +kernel
theorem dX6_alike_9 : decode cX6_alike 9 = .ok (.ifCond .eq 14, 3) := by decide +kernel
theorem dX6_alike_12 : decode cX6_alike 12 = .ok (.iload_n 2, 1) := by decide +kernel
theorem dX6_alike_13 : decode cX6_alike 13 = .ok (.aload_n 0, 1) := by decide +kernel
theorem dX6_alike_14 : decode cX6_alike 14 = .ok (.getfield 89, 3) := by decide +kernel
theorem dX6_alike_17 : decode cX6_alike 17 = .ok (.invokestatic 99, 3) := by decide +kernel
theorem dX6_alike_20 : decode cX6_alike 20 = .ok (.ifCond .ne 7, 3) := by decide +kernel
theorem dX6_alike_23 : decode cX6_alike 23 = .ok (.iconst 1, 1) := by decide +kernel
theorem dX6_alike_24 : decode cX6_alike 24 = .ok (.goto 4, 3) := by decide +kernel
theorem dX6_alike_27 : decode cX6_alike 27 = .ok (.iconst 0, 1) := by decide +kernel
theorem dX6_alike_28 : decode cX6_alike 28 = .ok (.iconst 0, 1) := by decide +kernel
theorem dX6_alike_29 : decode cX6_alike 29 = .ok (.invokevirtual 107, 3) := by decide +kernel
theorem dX6_alike_32 : decode cX6_alike 32 = .ok (.ifCond .eq 5, 3) := by decide +kernel
theorem dX6_alike_35 : decode cX6_alike 35 = .ok (.iconst 0, 1) := by decide +kernel
theorem dX6_alike_36 : decode cX6_alike 36 = .ok (.ireturn, 1) := by decide +kernel
theorem dX6_alike_37 : decode cX6_alike 37 = .ok (.aload_n 0, 1) := by decide +kernel
theorem dX6_alike_38 : decode cX6_alike 38 = .ok (.invokevirtual 170, 3) := by decide +kernel
theorem dX6_alike_41 : decode cX6_alike 41 = .ok (.aload_n 0, 1) := by decide +kernel
theorem dX6_alike_42 : decode cX6_alike 42 = .ok (.getfield 73, 3) := by decide +kernel
theorem dX6_alike_45 : decode cX6_alike 45 = .ok (.bipush 24, 2) := by decide +kernel
theorem dX6_alike_47 : decode cX6_alike 47 = .ok (.iload_n 1, 1) := by decide +kernel
theorem dX6_alike_48 : decode cX6_alike 48 = .ok (.imul, 1) := by decide +kernel
theorem dX6_alike_49 : decode cX6_alike 49 = .ok (.iload_n 2, 1) := by decide +kernel
theorem dX6_alike_50 : decode cX6_alike 50 = .ok (.iadd, 1) := by decide +kernel
theorem dX6_alike_51 : decode cX6_alike 51 = .ok (.baload, 1) := by decide +kernel
theorem dX6_alike_52 : decode cX6_alike 52 = .ok (.ireturn, 1) := by decide +kernel
theorem dX6_kinds_0 : decode cX6_kinds 0 = .ok (.aload_n 0, 1) := by decide +kernel
theorem dX6_kinds_1 : decode cX6_kinds 1 = .ok (.iconst 0, 1) := by decide +kernel
theorem dX6_kinds_2 : decode cX6_kinds 2 = .ok (.putfield 85, 3) := by decide +kernel
theorem dX6_kinds_5 : decode cX6_kinds 5 = .ok (.aload_n 0, 1) := by decide +kernel
theorem dX6_kinds_6 : decode cX6_kinds 6 = .ok (.invokevirtual 170, 3) := by decide +kernel
theorem dX6_kinds_9 : decode cX6_kinds 9 = .ok (.iconst 0, 1) := by decide +kernel
theorem dX6_kinds_10 : decode cX6_kinds 10 = .ok (.istore_n 1, 1) := by decide +kernel
theorem dX6_kinds_11 : decode cX6_kinds 11 = .ok (.iconst 0, 1) := by decide +kernel
theorem dX6_kinds_12 : decode cX6_kinds 12 = .ok (.istore_n 2, 1) := by decide +kernel
theorem dX6_kinds_13 : decode cX6_kinds 13 = .ok (.iload_n 2, 1) := by decide +kernel
theorem dX6_kinds_14 : decode cX6_kinds 14 = .ok (.aload_n 0, 1) := by decide +kernel
theorem dX6_kinds_15 : decode cX6_kinds 15 = .ok (.getfield 89, 3) := by decide +kernel
theorem dX6_kinds_18 : decode cX6_kinds 18 = .ok (.if_icmp .ge 63, 3) := by decide +kernel
theorem dX6_kinds_21 : decode cX6_kinds 21 = .ok (.iconst 1, 1) := by decide +kernel
theorem dX6_kinds_22 : decode cX6_kinds 22 = .ok (.istore_n 3, 1) := by decide +kernel
theorem dX6_kinds_23 : decode cX6_kinds 23 = .ok (.iconst 0, 1) := by decide +kernel
theorem dX6_kinds_24 : decode cX6_kinds 24 = .ok (.istore 4, 2) := by decide +kernel
theorem dX6_kinds_26 : decode cX6_kinds 26 = .ok (.iload 4, 2) := by decide +kernel
theorem dX6_kinds_28 : decode cX6_kinds 28 = .ok (.iload_n 2, 1) := by decide +kernel
theorem dX6_kinds_29 : decode cX6_kinds 29 = .ok (.if_icmp .ge 34, 3) := by decide +kernel
theorem dX6_kinds_32 : decode cX6_kinds 32 = .ok (.iload_n 3, 1) := by decide +kernel
theorem dX6_kinds_33 : decode cX6_kinds 33 = .ok (.ifCond .eq 22, 3) := by decide +kernel
theorem dX6_kinds_36 : decode cX6_kinds 36 = .ok (.aload_n 0, 1) := by decide +kernel
theorem dX6_kinds_37 : decode cX6_kinds 37 = .ok (.getfield 73, 3) := by decide +kernel
theorem dX6_kinds_40 : decode cX6_kinds 40 = .ok (.bipush 24, 2) := by decide +kernel
theorem dX6_kinds_42 : decode cX6_kinds 42 = .ok (.iload 4, 2) := by decide +kernel
theorem dX6_kinds_44 : decode cX6_kinds 44 = .ok (.imul, 1) := by decide +kernel
theorem dX6_kinds_45 : decode cX6_kinds 45 = .ok (.iload_n 2, 1) := by decide +kernel
theorem dX6_kinds_46 : decode cX6_kinds 46 = .ok (.iadd, 1) := by decide +kernel
theorem dX6_kinds_47 : decode cX6_kinds 47 = .ok (.baload, 1) := by decide +kernel
theorem dX6_kinds_48 : decode cX6_kinds 48 = .ok (.ifCond .ne 7, 3) := by decide +kernel
theorem dX6_kinds_51 : decode cX6_kinds 51 = .ok (.iconst 1, 1) := by decide +kernel
theorem dX6_kinds_52 : decode cX6_kinds 52 = .ok (.goto 4, 3) := by decide +kernel
theorem dX6_kinds_55 : decode cX6_kinds 55 = .ok (.iconst 0, 1) := by decide +kernel
theorem dX6_kinds_56 : decode cX6_kinds 56 = .ok (.istore_n 3, 1) := by decide +kernel
theorem dX6_kinds_57 : decode cX6_kinds 57 = .ok (.iinc 4 1, 3) := by decide +kernel
theorem dX6_kinds_60 : decode cX6_kinds 60 = .ok (.goto (-34), 3) := by decide +kernel
theorem dX6_kinds_63 : decode cX6_kinds 63 = .ok (.iload_n 3, 1) := by decide +kernel
theorem dX6_kinds_64 : decode cX6_kinds 64 = .ok (.ifCond .eq 9, 3) := by decide +kernel
theorem dX6_kinds_67 : decode cX6_kinds 67 = .ok (.iload_n 1, 1) := by decide +kernel
theorem dX6_kinds_68 : decode cX6_kinds 68 = .ok (.iconst 1, 1) := by decide +kernel
theorem dX6_kinds_69 : decode cX6_kinds 69 = .ok (.iadd, 1) := by decide +kernel
theorem dX6_kinds_70 : decode cX6_kinds 70 = .ok (.goto 4, 3) := by decide +kernel
theorem dX6_kinds_73 : decode cX6_kinds 73 = .ok (.iload_n 1, 1) := by decide +kernel
theorem dX6_kinds_74 : decode cX6_kinds 74 = .ok (.istore_n 1, 1) := by decide +kernel
theorem dX6_kinds_75 : decode cX6_kinds 75 = .ok (.iinc 2 1, 3) := by decide +kernel
theorem dX6_kinds_78 : decode cX6_kinds 78 = .ok (.goto (-65), 3) := by decide +kernel
theorem dX6_kinds_81 : decode cX6_kinds 81 = .ok (.iload_n 1, 1) := by decide +kernel
theorem dX6_kinds_82 : decode cX6_kinds 82 = .ok (.ireturn, 1) := by decide +kernel
theorem dX6_measure_0 : decode cX6_measure 0 = .ok (.iconst 0, 1) := by decide +kernel
theorem dX6_measure_1 : decode cX6_measure 1 = .ok (.istore_n 1, 1) := by decide +kernel
theorem dX6_measure_2 : decode cX6_measure 2 = .ok (.iload_n 1, 1) := by decide +kernel
theorem dX6_measure_3 : decode cX6_measure 3 = .ok (.aload_n 0, 1) := by decide +kernel
theorem dX6_measure_4 : decode cX6_measure 4 = .ok (.getfield 89, 3) := by decide +kernel
theorem dX6_measure_7 : decode cX6_measure 7 = .ok (.if_icmp .ge 23, 3) := by decide +kernel
theorem dX6_measure_10 : decode cX6_measure 10 = .ok (.aload_n 0, 1) := by decide +kernel
theorem dX6_measure_11 : decode cX6_measure 11 = .ok (.getfield 76, 3) := by decide +kernel
theorem dX6_measure_14 : decode cX6_measure 14 = .ok (.iload_n 1, 1) := by decide +kernel
theorem dX6_measure_15 : decode cX6_measure 15 = .ok (.iconst 0, 1) := by decide +kernel
theorem dX6_measure_16 : decode cX6_measure 16 = .ok (.iastore, 1) := by decide +kernel
theorem dX6_measure_17 : decode cX6_measure 17 = .ok (.aload_n 0, 1) := by decide +kernel
theorem dX6_measure_18 : decode cX6_measure 18 = .ok (.getfield 79, 3) := by decide +kernel
theorem dX6_measure_21 : decode cX6_measure 21 = .ok (.iload_n 1, 1) := by decide +kernel
theorem dX6_measure_22 : decode cX6_measure 22 = .ok (.iconst 1, 1) := by decide +kernel
theorem dX6_measure_23 : decode cX6_measure 23 = .ok (.iastore, 1) := by decide +kernel
theorem dX6_measure_24 : decode cX6_measure 24 = .ok (.iinc 1 1, 3) := by decide +kernel
theorem dX6_measure_27 : decode cX6_measure 27 = .ok (.goto (-25), 3) := by decide +kernel
theorem dX6_measure_30 : decode cX6_measure 30 = .ok (.iconst 1, 1) := by decide +kernel
theorem dX6_measure_31 : decode cX6_measure 31 = .ok (.istore_n 1, 1) := by decide +kernel
theorem dX6_measure_32 : decode cX6_measure 32 = .ok (.iload_n 1, 1) := by decide +kernel
theorem dX6_measure_33 : decode cX6_measure 33 = .ok (.ifCond .eq 181, 3) := by decide +kernel
theorem dX6_measure_36 : decode cX6_measure 36 = .ok (.iconst 0, 1) := by decide +kernel
theorem dX6_measure_37 : decode cX6_measure 37 = .ok (.istore_n 1, 1) := by decide +kernel
theorem dX6_measure_38 : decode cX6_measure 38 = .ok (.iconst 0, 1) := by decide +kernel
theorem dX6_measure_39 : decode cX6_measure 39 = .ok (.istore_n 2, 1) := by decide +kernel
theorem dX6_measure_40 : decode cX6_measure 40 = .ok (.iload_n 2, 1) := by decide +kernel
theorem dX6_measure_41 : decode cX6_measure 41 = .ok (.aload_n 0, 1) := by decide +kernel
theorem dX6_measure_42 : decode cX6_measure 42 = .ok (.getfield 89, 3) := by decide +kernel
theorem dX6_measure_45 : decode cX6_measure 45 = .ok (.if_icmp .ge 166, 3) := by decide +kernel
theorem dX6_measure_48 : decode cX6_measure 48 = .ok (.iconst 0, 1) := by decide +kernel
theorem dX6_measure_49 : decode cX6_measure 49 = .ok (.istore_n 3, 1) := by decide +kernel
theorem dX6_measure_50 : decode cX6_measure 50 = .ok (.aload_n 0, 1) := by decide +kernel
theorem dX6_measure_51 : decode cX6_measure 51 = .ok (.getfield 20, 3) := by decide +kernel
theorem dX6_measure_54 : decode cX6_measure 54 = .ok (.iload_n 2, 1) := by decide +kernel
theorem dX6_measure_55 : decode cX6_measure 55 = .ok (.iaload, 1) := by decide +kernel
theorem dX6_measure_56 : decode cX6_measure 56 = .ok (.ifCond .ne 7, 3) := by decide +kernel
theorem dX6_measure_59 : decode cX6_measure 59 = .ok (.iconst 1, 1) := by decide +kernel
theorem dX6_measure_60 : decode cX6_measure 60 = .ok (.goto 4, 3) := by decide +kernel
theorem dX6_measure_63 : decode cX6_measure 63 = .ok (.iconst 0, 1) := by decide +kernel
theorem dX6_measure_64 : decode cX6_measure 64 = .ok (.istore 4, 2) := by decide +kernel
theorem dX6_measure_66 : decode cX6_measure 66 = .ok (.iconst 0, 1) := by decide +kernel
theorem dX6_measure_67 : decode cX6_measure 67 = .ok (.istore 5, 2) := by decide +kernel
theorem dX6_measure_69 : decode cX6_measure 69 = .ok (.iload 5, 2) := by decide +kernel
theorem dX6_measure_71 : decode cX6_measure 71 = .ok (.aload_n 0, 1) := by decide +kernel
theorem dX6_measure_72 : decode cX6_measure 72 = .ok (.getfield 20, 3) := by decide +kernel
theorem dX6_measure_75 : decode cX6_measure 75 = .ok (.iload_n 2, 1) := by decide +kernel
theorem dX6_measure_76 : decode cX6_measure 76 = .ok (.iaload, 1) := by decide +kernel
theorem dX6_measure_77 : decode cX6_measure 77 = .ok (.if_icmp .ge 82, 3) := by decide +kernel
theorem dX6_measure_80 : decode cX6_measure 80 = .ok (.aload_n 0, 1) := by decide +kernel
theorem dX6_measure_81 : decode cX6_measure 81 = .ok (.getfield 23, 3) := by decide +kernel
theorem dX6_measure_84 : decode cX6_measure 84 = .ok (.bipush 64, 2) := by decide +kernel
theorem dX6_measure_86 : decode cX6_measure 86 = .ok (.iload_n 2, 1) := by decide +kernel
theorem dX6_measure_87 : decode cX6_measure 87 = .ok (.imul, 1) := by decide +kernel
theorem dX6_measure_88 : decode cX6_measure 88 = .ok (.iload 5, 2) := by decide +kernel
theorem dX6_measure_90 : decode cX6_measure 90 = .ok (.iadd, 1) := by decide +kernel
theorem dX6_measure_91 : decode cX6_measure 91 = .ok (.iaload, 1) := by decide +kernel
theorem dX6_measure_92 : decode cX6_measure 92 = .ok (.istore 6, 2) := by decide +kernel
theorem dX6_measure_94 : decode cX6_measure 94 = .ok (.aload_n 0, 1) := by decide +kernel
theorem dX6_measure_95 : decode cX6_measure 95 = .ok (.getfield 76, 3) := by decide +kernel
theorem dX6_measure_98 : decode cX6_measure 98 = .ok (.iload 6, 2) := by decide +kernel
theorem dX6_measure_100 : decode cX6_measure 100 = .ok (.iaload, 1) := by decide +kernel
theorem dX6_measure_101 : decode cX6_measure 101 = .ok (.iconst 1, 1) := by decide +kernel
theorem dX6_measure_102 : decode cX6_measure 102 = .ok (.iadd, 1) := by decide +kernel
theorem dX6_measure_103 : decode cX6_measure 103 = .ok (.iload_n 3, 1) := by decide +kernel
theorem dX6_measure_104 : decode cX6_measure 104 = .ok (.if_icmp .le 15, 3) := by decide +kernel
theorem dX6_measure_107 : decode cX6_measure 107 = .ok (.aload_n 0, 1) := by decide +kernel
theorem dX6_measure_108 : decode cX6_measure 108 = .ok (.getfield 76, 3) := by decide +kernel
theorem dX6_measure_111 : decode cX6_measure 111 = .ok (.iload 6, 2) := by decide +kernel
theorem dX6_measure_113 : decode cX6_measure 113 = .ok (.iaload, 1) := by decide +kernel
theorem dX6_measure_114 : decode cX6_measure 114 = .ok (.iconst 1, 1) := by decide +kernel
theorem dX6_measure_115 : decode cX6_measure 115 = .ok (.iadd, 1) := by decide +kernel
theorem dX6_measure_116 : decode cX6_measure 116 = .ok (.goto 4, 3) := by decide +kernel
theorem dX6_measure_119 : decode cX6_measure 119 = .ok (.iload_n 3, 1) := by decide +kernel
theorem dX6_measure_120 : decode cX6_measure 120 = .ok (.istore_n 3, 1) := by decide +kernel
theorem dX6_measure_121 : decode cX6_measure 121 = .ok (.iload 4, 2) := by decide +kernel
theorem dX6_measure_123 : decode cX6_measure 123 = .ok (.aload_n 0, 1) := by decide +kernel
theorem dX6_measure_124 : decode cX6_measure 124 = .ok (.getfield 79, 3) := by decide +kernel
theorem dX6_measure_127 : decode cX6_measure 127 = .ok (.iload 6, 2) := by decide +kernel
theorem dX6_measure_129 : decode cX6_measure 129 = .ok (.iaload, 1) := by decide +kernel
theorem dX6_measure_130 : decode cX6_measure 130 = .ok (.iadd, 1) := by decide +kernel
theorem dX6_measure_131 : decode cX6_measure 131 = .ok (.ldc 173, 2) := by decide +kernel
theorem dX6_measure_133 : decode cX6_measure 133 = .ok (.if_icmp .le 8, 3) := by decide +kernel
theorem dX6_measure_136 : decode cX6_measure 136 = .ok (.ldc 173, 2) := by decide +kernel
theorem dX6_measure_138 : decode cX6_measure 138 = .ok (.goto 13, 3) := by decide +kernel
theorem dX6_measure_141 : decode cX6_measure 141 = .ok (.iload 4, 2) := by decide +kernel
theorem dX6_measure_143 : decode cX6_measure 143 = .ok (.aload_n 0, 1) := by decide +kernel
theorem dX6_measure_144 : decode cX6_measure 144 = .ok (.getfield 79, 3) := by decide +kernel
theorem dX6_measure_147 : decode cX6_measure 147 = .ok (.iload 6, 2) := by decide +kernel
theorem dX6_measure_149 : decode cX6_measure 149 = .ok (.iaload, 1) := by decide +kernel
theorem dX6_measure_150 : decode cX6_measure 150 = .ok (.iadd, 1) := by decide +kernel
theorem dX6_measure_151 : decode cX6_measure 151 = .ok (.istore 4, 2) := by decide +kernel
theorem dX6_measure_153 : decode cX6_measure 153 = .ok (.iinc 5 1, 3) := by decide +kernel
theorem dX6_measure_156 : decode cX6_measure 156 = .ok (.goto (-87), 3) := by decide +kernel
theorem dX6_measure_159 : decode cX6_measure 159 = .ok (.iload_n 1, 1) := by decide +kernel
theorem dX6_measure_160 : decode cX6_measure 160 = .ok (.ifCond .ne 24, 3) := by decide +kernel
theorem dX6_measure_163 : decode cX6_measure 163 = .ok (.iload_n 3, 1) := by decide +kernel
theorem dX6_measure_164 : decode cX6_measure 164 = .ok (.aload_n 0, 1) := by decide +kernel
theorem dX6_measure_165 : decode cX6_measure 165 = .ok (.getfield 76, 3) := by decide +kernel
theorem dX6_measure_168 : decode cX6_measure 168 = .ok (.iload_n 2, 1) := by decide +kernel
theorem dX6_measure_169 : decode cX6_measure 169 = .ok (.iaload, 1) := by decide +kernel
theorem dX6_measure_170 : decode cX6_measure 170 = .ok (.if_icmp .ne 14, 3) := by decide +kernel
theorem dX6_measure_173 : decode cX6_measure 173 = .ok (.iload 4, 2) := by decide +kernel
theorem dX6_measure_175 : decode cX6_measure 175 = .ok (.aload_n 0, 1) := by decide +kernel
theorem dX6_measure_176 : decode cX6_measure 176 = .ok (.getfield 79, 3) := by decide +kernel
theorem dX6_measure_179 : decode cX6_measure 179 = .ok (.iload_n 2, 1) := by decide +kernel
theorem dX6_measure_180 : decode cX6_measure 180 = .ok (.iaload, 1) := by decide +kernel
theorem dX6_measure_181 : decode cX6_measure 181 = .ok (.if_icmp .eq 7, 3) := by decide +kernel
theorem dX6_measure_184 : decode cX6_measure 184 = .ok (.iconst 1, 1) := by decide +kernel
theorem dX6_measure_185 : decode cX6_measure 185 = .ok (.goto 4, 3) := by decide +kernel
theorem dX6_measure_188 : decode cX6_measure 188 = .ok (.iconst 0, 1) := by decide +kernel
theorem dX6_measure_189 : decode cX6_measure 189 = .ok (.istore_n 1, 1) := by decide +kernel
theorem dX6_measure_190 : decode cX6_measure 190 = .ok (.aload_n 0, 1) := by decide +kernel
theorem dX6_measure_191 : decode cX6_measure 191 = .ok (.getfield 76, 3) := by decide +kernel
theorem dX6_measure_194 : decode cX6_measure 194 = .ok (.iload_n 2, 1) := by decide +kernel
theorem dX6_measure_195 : decode cX6_measure 195 = .ok (.iload_n 3, 1) := by decide +kernel
theorem dX6_measure_196 : decode cX6_measure 196 = .ok (.iastore, 1) := by decide +kernel
theorem dX6_measure_197 : decode cX6_measure 197 = .ok (.aload_n 0, 1) := by decide +kernel
theorem dX6_measure_198 : decode cX6_measure 198 = .ok (.getfield 79, 3) := by decide +kernel
theorem dX6_measure_201 : decode cX6_measure 201 = .ok (.iload_n 2, 1) := by decide +kernel
theorem dX6_measure_202 : decode cX6_measure 202 = .ok (.iload 4, 2) := by decide +kernel
theorem dX6_measure_204 : decode cX6_measure 204 = .ok (.iastore, 1) := by decide +kernel
theorem dX6_measure_205 : decode cX6_measure 205 = .ok (.iinc 2 1, 3) := by decide +kernel
theorem dX6_measure_208 : decode cX6_measure 208 = .ok (.goto (-168), 3) := by decide +kernel
theorem dX6_measure_211 : decode cX6_measure 211 = .ok (.goto (-179), 3) := by decide +kernel
theorem dX6_measure_214 : decode cX6_measure 214 = .ok (.return_, 1) := by decide +kernel
theorem dX6_count_0 : decode cX6_count 0 = .ok (.aload_n 0, 1) := by decide +kernel
theorem dX6_count_1 : decode cX6_count 1 = .ok (.iload_n 1, 1) := by decide +kernel
theorem dX6_count_2 : decode cX6_count 2 = .ok (.aload_n 0, 1) := by decide +kernel
theorem dX6_count_3 : decode cX6_count 3 = .ok (.getfield 89, 3) := by decide +kernel
theorem dX6_count_6 : decode cX6_count 6 = .ok (.invokestatic 99, 3) := by decide +kernel
theorem dX6_count_9 : decode cX6_count 9 = .ok (.ifCond .eq 12, 3) := by decide +kernel
theorem dX6_count_12 : decode cX6_count 12 = .ok (.iload_n 2, 1) := by decide +kernel
theorem dX6_count_13 : decode cX6_count 13 = .ok (.bipush 6, 2) := by decide +kernel
theorem dX6_count_15 : decode cX6_count 15 = .ok (.invokestatic 99, 3) := by decide +kernel
theorem dX6_count_18 : decode cX6_count 18 = .ok (.ifCond .ne 7, 3) := by decide +kernel
theorem dX6_count_21 : decode cX6_count 21 = .ok (.iconst 1, 1) := by decide +kernel
theorem dX6_count_22 : decode cX6_count 22 = .ok (.goto 4, 3) := by decide +kernel
theorem dX6_count_25 : decode cX6_count 25 = .ok (.iconst 0, 1) := by decide +kernel
theorem dX6_count_26 : decode cX6_count 26 = .ok (.iconst 0, 1) := by decide +kernel
theorem dX6_count_27 : decode cX6_count 27 = .ok (.invokevirtual 107, 3) := by decide +kernel
theorem dX6_count_30 : decode cX6_count 30 = .ok (.ifCond .eq 5, 3) := by decide +kernel
theorem dX6_count_33 : decode cX6_count 33 = .ok (.iconst 0, 1) := by decide +kernel
theorem dX6_count_34 : decode cX6_count 34 = .ok (.ireturn, 1) := by decide +kernel
theorem dX6_count_35 : decode cX6_count 35 = .ok (.aload_n 0, 1) := by decide +kernel
theorem dX6_count_36 : decode cX6_count 36 = .ok (.invokevirtual 174, 3) := by decide +kernel
theorem dX6_count_39 : decode cX6_count 39 = .ok (.iload_n 2, 1) := by decide +kernel
theorem dX6_count_40 : decode cX6_count 40 = .ok (.tableswitch 70 0 4 #[36, 43, 50, 57, 63], 36) := by decide +kernel
theorem dX6_count_76 : decode cX6_count 76 = .ok (.aload_n 0, 1) := by decide +kernel
theorem dX6_count_77 : decode cX6_count 77 = .ok (.getfield 7, 3) := by decide +kernel
theorem dX6_count_80 : decode cX6_count 80 = .ok (.iload_n 1, 1) := by decide +kernel
theorem dX6_count_81 : decode cX6_count 81 = .ok (.iaload, 1) := by decide +kernel
theorem dX6_count_82 : decode cX6_count 82 = .ok (.ireturn, 1) := by decide +kernel
theorem dX6_count_83 : decode cX6_count 83 = .ok (.aload_n 0, 1) := by decide +kernel
theorem dX6_count_84 : decode cX6_count 84 = .ok (.getfield 20, 3) := by decide +kernel
theorem dX6_count_87 : decode cX6_count 87 = .ok (.iload_n 1, 1) := by decide +kernel
theorem dX6_count_88 : decode cX6_count 88 = .ok (.iaload, 1) := by decide +kernel
theorem dX6_count_89 : decode cX6_count 89 = .ok (.ireturn, 1) := by decide +kernel
theorem dX6_count_90 : decode cX6_count 90 = .ok (.aload_n 0, 1) := by decide +kernel
theorem dX6_count_91 : decode cX6_count 91 = .ok (.getfield 26, 3) := by decide +kernel
theorem dX6_count_94 : decode cX6_count 94 = .ok (.iload_n 1, 1) := by decide +kernel
theorem dX6_count_95 : decode cX6_count 95 = .ok (.iaload, 1) := by decide +kernel
theorem dX6_count_96 : decode cX6_count 96 = .ok (.ireturn, 1) := by decide +kernel
theorem dX6_count_97 : decode cX6_count 97 = .ok (.aload_n 0, 1) := by decide +kernel
theorem dX6_count_98 : decode cX6_count 98 = .ok (.iload_n 1, 1) := by decide +kernel
theorem dX6_count_99 : decode cX6_count 99 = .ok (.invokevirtual 117, 3) := by decide +kernel
theorem dX6_count_102 : decode cX6_count 102 = .ok (.ireturn, 1) := by decide +kernel
theorem dX6_count_103 : decode cX6_count 103 = .ok (.aload_n 0, 1) := by decide +kernel
theorem dX6_count_104 : decode cX6_count 104 = .ok (.getfield 76, 3) := by decide +kernel
theorem dX6_count_107 : decode cX6_count 107 = .ok (.iload_n 1, 1) := by decide +kernel
theorem dX6_count_108 : decode cX6_count 108 = .ok (.iaload, 1) := by decide +kernel
theorem dX6_count_109 : decode cX6_count 109 = .ok (.ireturn, 1) := by decide +kernel
theorem dX6_count_110 : decode cX6_count 110 = .ok (.aload_n 0, 1) := by decide +kernel
theorem dX6_count_111 : decode cX6_count 111 = .ok (.getfield 79, 3) := by decide +kernel
theorem dX6_count_114 : decode cX6_count 114 = .ok (.iload_n 1, 1) := by decide +kernel
theorem dX6_count_115 : decode cX6_count 115 = .ok (.iaload, 1) := by decide +kernel
theorem dX6_count_116 : decode cX6_count 116 = .ok (.ireturn, 1) := by decide +kernel
theorem dX6_moduleOf_0 : decode cX6_moduleOf 0 = .ok (.iload_n 1, 1) := by decide +kernel
theorem dX6_moduleOf_1 : decode cX6_moduleOf 1 = .ok (.aload_n 0, 1) := by decide +kernel
theorem dX6_moduleOf_2 : decode cX6_moduleOf 2 = .ok (.getfield 89, 3) := by decide +kernel
theorem dX6_moduleOf_5 : decode cX6_moduleOf 5 = .ok (.invokestatic 99, 3) := by decide +kernel
theorem dX6_moduleOf_8 : decode cX6_moduleOf 8 = .ok (.ifCond .eq 20, 3) := by decide +kernel
theorem dX6_moduleOf_11 : decode cX6_moduleOf 11 = .ok (.iload_n 2, 1) := by decide +kernel
theorem dX6_moduleOf_12 : decode cX6_moduleOf 12 = .ok (.aload_n 0, 1) := by decide +kernel
theorem dX6_moduleOf_13 : decode cX6_moduleOf 13 = .ok (.getfield 20, 3) := by decide +kernel
theorem dX6_moduleOf_16 : decode cX6_moduleOf 16 = .ok (.iload_n 1, 1) := by decide +kernel
theorem dX6_moduleOf_17 : decode cX6_moduleOf 17 = .ok (.iaload, 1) := by decide +kernel
theorem dX6_moduleOf_18 : decode cX6_moduleOf 18 = .ok (.invokestatic 99, 3) := by decide +kernel
theorem dX6_moduleOf_21 : decode cX6_moduleOf 21 = .ok (.ifCond .eq 7, 3) := by decide +kernel
theorem dX6_moduleOf_24 : decode cX6_moduleOf 24 = .ok (.iconst 1, 1) := by decide +kernel
theorem dX6_moduleOf_25 : decode cX6_moduleOf 25 = .ok (.goto 4, 3) := by decide +kernel
theorem dX6_moduleOf_28 : decode cX6_moduleOf 28 = .ok (.iconst 0, 1) := by decide +kernel
theorem dX6_moduleOf_29 : decode cX6_moduleOf 29 = .ok (.istore_n 3, 1) := by decide +kernel
theorem dX6_moduleOf_30 : decode cX6_moduleOf 30 = .ok (.aload_n 0, 1) := by decide +kernel
theorem dX6_moduleOf_31 : decode cX6_moduleOf 31 = .ok (.iload_n 3, 1) := by decide +kernel
theorem dX6_moduleOf_32 : decode cX6_moduleOf 32 = .ok (.ifCond .ne 7, 3) := by decide +kernel
theorem dX6_moduleOf_35 : decode cX6_moduleOf 35 = .ok (.iconst 1, 1) := by decide +kernel
theorem dX6_moduleOf_36 : decode cX6_moduleOf 36 = .ok (.goto 4, 3) := by decide +kernel
theorem dX6_moduleOf_39 : decode cX6_moduleOf 39 = .ok (.iconst 0, 1) := by decide +kernel
theorem dX6_moduleOf_40 : decode cX6_moduleOf 40 = .ok (.iconst 0, 1) := by decide +kernel
theorem dX6_moduleOf_41 : decode cX6_moduleOf 41 = .ok (.invokevirtual 107, 3) := by decide +kernel
theorem dX6_moduleOf_44 : decode cX6_moduleOf 44 = .ok (.ifCond .eq 7, 3) := by decide +kernel
theorem dX6_moduleOf_47 : decode cX6_moduleOf 47 = .ok (.iconst 0, 1) := by decide +kernel
theorem dX6_moduleOf_48 : decode cX6_moduleOf 48 = .ok (.goto 14, 3) := by decide +kernel
theorem dX6_moduleOf_51 : decode cX6_moduleOf 51 = .ok (.aload_n 0, 1) := by decide +kernel
theorem dX6_moduleOf_52 : decode cX6_moduleOf 52 = .ok (.getfield 23, 3) := by decide +kernel
theorem dX6_moduleOf_55 : decode cX6_moduleOf 55 = .ok (.bipush 64, 2) := by decide +kernel
theorem dX6_moduleOf_57 : decode cX6_moduleOf 57 = .ok (.iload_n 1, 1) := by decide +kernel
theorem dX6_moduleOf_58 : decode cX6_moduleOf 58 = .ok (.imul, 1) := by decide +kernel
theorem dX6_moduleOf_59 : decode cX6_moduleOf 59 = .ok (.iload_n 2, 1) := by decide +kernel
theorem dX6_moduleOf_60 : decode cX6_moduleOf 60 = .ok (.iadd, 1) := by decide +kernel
theorem dX6_moduleOf_61 : decode cX6_moduleOf 61 = .ok (.iaload, 1) := by decide +kernel
theorem dX6_moduleOf_62 : decode cX6_moduleOf 62 = .ok (.ireturn, 1) := by decide +kernel
theorem dX6_modules_0 : decode cX6_modules 0 = .ok (.aload_n 0, 1) := by decide +kernel
theorem dX6_modules_1 : decode cX6_modules 1 = .ok (.iconst 0, 1) := by decide +kernel
theorem dX6_modules_2 : decode cX6_modules 2 = .ok (.putfield 85, 3) := by decide +kernel
theorem dX6_modules_5 : decode cX6_modules 5 = .ok (.aload_n 0, 1) := by decide +kernel
theorem dX6_modules_6 : decode cX6_modules 6 = .ok (.getfield 89, 3) := by decide +kernel
theorem dX6_modules_9 : decode cX6_modules 9 = .ok (.ireturn, 1) := by decide +kernel
theorem dX6_clear_0 : decode cX6_clear 0 = .ok (.aload_n 0, 1) := by decide +kernel
theorem dX6_clear_1 : decode cX6_clear 1 = .ok (.iconst 0, 1) := by decide +kernel
theorem dX6_clear_2 : decode cX6_clear 2 = .ok (.putfield 85, 3) := by decide +kernel
theorem dX6_clear_5 : decode cX6_clear 5 = .ok (.aload_n 0, 1) := by decide +kernel
theorem dX6_clear_6 : decode cX6_clear 6 = .ok (.iconst 0, 1) := by decide +kernel
theorem dX6_clear_7 : decode cX6_clear 7 = .ok (.putfield 89, 3) := by decide +kernel
theorem dX6_clear_10 : decode cX6_clear 10 = .ok (.return_, 1) := by decide +kernel
