theorem dX8_foldStatement_155 : decode cX8_foldStatement 155 = .ok (.aload_n 0, 1) := by decide +kernel
theorem dX8_foldStatement_156 : decode cX8_foldStatement 156 = .ok (.bipush 7, 2) := by decide +kernel
theorem dX8_foldStatement_158 : decode cX8_foldStatement 158 = .ok (.iload_n 2, 1) := by decide +kernel
theorem dX8_foldStatement_159 : decode cX8_foldStatement 159 = .ok (.iload_n 3, 1) := by decide +kernel
theorem dX8_foldStatement_160 : decode cX8_foldStatement 160 = .ok (.aload_n 0, 1) := by decide +kernel
theorem dX8_foldStatement_161 : decode cX8_foldStatement 161 = .ok (.aload_n 0, 1) := by decide +kernel
theorem dX8_foldStatement_162 : decode cX8_foldStatement 162 = .ok (.getfield 31, 3) := by decide +kernel
theorem dX8_foldStatement_165 : decode cX8_foldStatement 165 = .ok (.iload_n 1, 1) := by decide +kernel
theorem dX8_foldStatement_166 : decode cX8_foldStatement 166 = .ok (.iaload, 1) := by decide +kernel
theorem dX8_foldStatement_167 : decode cX8_foldStatement 167 = .ok (.invokevirtual 290, 3) := by decide +kernel
theorem dX8_foldStatement_170 : decode cX8_foldStatement 170 = .ok (.invokevirtual 293, 3) := by decide +kernel
theorem dX8_foldStatement_173 : decode cX8_foldStatement 173 = .ok (.invokevirtual 332, 3) := by decide +kernel
theorem dX8_foldStatement_176 : decode cX8_foldStatement 176 = .ok (.ireturn, 1) := by decide +kernel
theorem dX8_foldStatement_177 : decode cX8_foldStatement 177 = .ok (.aload_n 0, 1) := by decide +kernel
theorem dX8_foldStatement_178 : decode cX8_foldStatement 178 = .ok (.iload_n 2, 1) := by decide +kernel
theorem dX8_foldStatement_179 : decode cX8_foldStatement 179 = .ok (.iconst 0, 1) := by decide +kernel
theorem dX8_foldStatement_180 : decode cX8_foldStatement 180 = .ok (.invokevirtual 329, 3) := by decide +kernel
theorem dX8_foldStatement_183 : decode cX8_foldStatement 183 = .ok (.ifCond .eq 7, 3) := by decide +kernel
theorem dX8_foldStatement_186 : decode cX8_foldStatement 186 = .ok (.iconst (-1), 1) := by decide +kernel
theorem dX8_foldStatement_187 : decode cX8_foldStatement 187 = .ok (.goto 16, 3) := by decide +kernel
theorem dX8_foldStatement_190 : decode cX8_foldStatement 190 = .ok (.aload_n 0, 1) := by decide +kernel
theorem dX8_foldStatement_191 : decode cX8_foldStatement 191 = .ok (.aload_n 0, 1) := by decide +kernel
theorem dX8_foldStatement_192 : decode cX8_foldStatement 192 = .ok (.bipush 8, 2) := by decide +kernel
theorem dX8_foldStatement_194 : decode cX8_foldStatement 194 = .ok (.iload_n 2, 1) := by decide +kernel
theorem dX8_foldStatement_195 : decode cX8_foldStatement 195 = .ok (.iload_n 3, 1) := by decide +kernel
theorem dX8_foldStatement_196 : decode cX8_foldStatement 196 = .ok (.iconst 0, 1) := by decide +kernel
theorem dX8_foldStatement_197 : decode cX8_foldStatement 197 = .ok (.invokevirtual 293, 3) := by decide +kernel
theorem dX8_foldStatement_200 : decode cX8_foldStatement 200 = .ok (.invokevirtual 332, 3) := by decide +kernel
theorem dX8_foldStatement_203 : decode cX8_foldStatement 203 = .ok (.ireturn, 1) := by decide +kernel
theorem dX8_foldStatement_204 : decode cX8_foldStatement 204 = .ok (.aload_n 0, 1) := by decide +kernel
theorem dX8_foldStatement_205 : decode cX8_foldStatement 205 = .ok (.iload_n 2, 1) := by decide +kernel
theorem dX8_foldStatement_206 : decode cX8_foldStatement 206 = .ok (.iconst 1, 1) := by decide +kernel
theorem dX8_foldStatement_207 : decode cX8_foldStatement 207 = .ok (.invokevirtual 329, 3) := by decide +kernel
theorem dX8_foldStatement_210 : decode cX8_foldStatement 210 = .ok (.ifCond .eq 7, 3) := by decide +kernel
theorem dX8_foldStatement_213 : decode cX8_foldStatement 213 = .ok (.iconst (-1), 1) := by decide +kernel
theorem dX8_foldStatement_214 : decode cX8_foldStatement 214 = .ok (.goto 16, 3) := by decide +kernel
theorem dX8_foldStatement_217 : decode cX8_foldStatement 217 = .ok (.aload_n 0, 1) := by decide +kernel
theorem dX8_foldStatement_218 : decode cX8_foldStatement 218 = .ok (.aload_n 0, 1) := by decide +kernel
theorem dX8_foldStatement_219 : decode cX8_foldStatement 219 = .ok (.bipush 9, 2) := by decide +kernel
theorem dX8_foldStatement_221 : decode cX8_foldStatement 221 = .ok (.iload_n 2, 1) := by decide +kernel
theorem dX8_foldStatement_222 : decode cX8_foldStatement 222 = .ok (.iconst 0, 1) := by decide +kernel
theorem dX8_foldStatement_223 : decode cX8_foldStatement 223 = .ok (.iconst 0, 1) := by decide +kernel
theorem dX8_foldStatement_224 : decode cX8_foldStatement 224 = .ok (.invokevirtual 293, 3) := by decide +kernel
theorem dX8_foldStatement_227 : decode cX8_foldStatement 227 = .ok (.invokevirtual 332, 3) := by decide +kernel
theorem dX8_foldStatement_230 : decode cX8_foldStatement 230 = .ok (.ireturn, 1) := by decide +kernel
theorem dX8_foldStatement_231 : decode cX8_foldStatement 231 = .ok (.aload_n 0, 1) := by decide +kernel
theorem dX8_foldStatement_232 : decode cX8_foldStatement 232 = .ok (.aload_n 0, 1) := by decide +kernel
theorem dX8_foldStatement_233 : decode cX8_foldStatement 233 = .ok (.bipush 10, 2) := by decide +kernel
theorem dX8_foldStatement_235 : decode cX8_foldStatement 235 = .ok (.iload_n 2, 1) := by decide +kernel
theorem dX8_foldStatement_236 : decode cX8_foldStatement 236 = .ok (.iconst 0, 1) := by decide +kernel
theorem dX8_foldStatement_237 : decode cX8_foldStatement 237 = .ok (.iconst 0, 1) := by decide +kernel
theorem dX8_foldStatement_238 : decode cX8_foldStatement 238 = .ok (.invokevirtual 293, 3) := by decide +kernel
theorem dX8_foldStatement_241 : decode cX8_foldStatement 241 = .ok (.invokevirtual 332, 3) := by decide +kernel
theorem dX8_foldStatement_244 : decode cX8_foldStatement 244 = .ok (.ireturn, 1) := by decide +kernel
theorem dX8_single_0 : decode cX8_single 0 = .ok (.aload_n 0, 1) := by decide +kernel
theorem dX8_single_1 : decode cX8_single 1 = .ok (.bipush 11, 2) := by decide +kernel
theorem dX8_single_3 : decode cX8_single 3 = .ok (.iload_n 1, 1) := by decide +kernel
theorem dX8_single_4 : decode cX8_single 4 = .ok (.iconst (-1), 1) := by decide +kernel
theorem dX8_single_5 : decode cX8_single 5 = .ok (.iconst 0, 1) := by decide +kernel
theorem dX8_single_6 : decode cX8_single 6 = .ok (.invokevirtual 293, 3) := by decide +kernel
theorem dX8_single_9 : decode cX8_single 9 = .ok (.ireturn, 1) := by decide +kernel
theorem dX8_join_0 : decode cX8_join 0 = .ok (.iconst 0, 1) := by decide +kernel
theorem dX8_join_1 : decode cX8_join 1 = .ok (.istore_n 3, 1) := by decide +kernel
theorem dX8_join_2 : decode cX8_join 2 = .ok (.iload_n 1, 1) := by decide +kernel
theorem dX8_join_3 : decode cX8_join 3 = .ok (.istore 4, 2) := by decide +kernel
theorem dX8_join_5 : decode cX8_join 5 = .ok (.iload 4, 2) := by decide +kernel
theorem dX8_join_7 : decode cX8_join 7 = .ok (.iconst (-1), 1) := by decide +kernel
theorem dX8_join_8 : decode cX8_join 8 = .ok (.if_icmp .eq 31, 3) := by decide +kernel
theorem dX8_join_11 : decode cX8_join 11 = .ok (.aload_n 0, 1) := by decide +kernel
theorem dX8_join_12 : decode cX8_join 12 = .ok (.getfield 97, 3) := by decide +kernel
theorem dX8_join_15 : decode cX8_join 15 = .ok (.iload_n 3, 1) := by decide +kernel
theorem dX8_join_16 : decode cX8_join 16 = .ok (.aload_n 0, 1) := by decide +kernel
theorem dX8_join_17 : decode cX8_join 17 = .ok (.getfield 79, 3) := by decide +kernel
theorem dX8_join_20 : decode cX8_join 20 = .ok (.iload 4, 2) := by decide +kernel
theorem dX8_join_22 : decode cX8_join 22 = .ok (.iaload, 1) := by decide +kernel
theorem dX8_join_23 : decode cX8_join 23 = .ok (.iastore, 1) := by decide +kernel
theorem dX8_join_24 : decode cX8_join 24 = .ok (.iinc 3 1, 3) := by decide +kernel
theorem dX8_join_27 : decode cX8_join 27 = .ok (.aload_n 0, 1) := by decide +kernel
theorem dX8_join_28 : decode cX8_join 28 = .ok (.getfield 82, 3) := by decide +kernel
theorem dX8_join_31 : decode cX8_join 31 = .ok (.iload 4, 2) := by decide +kernel
theorem dX8_join_33 : decode cX8_join 33 = .ok (.iaload, 1) := by decide +kernel
theorem dX8_join_34 : decode cX8_join 34 = .ok (.istore 4, 2) := by decide +kernel
theorem dX8_join_36 : decode cX8_join 36 = .ok (.goto (-31), 3) := by decide +kernel
theorem dX8_join_39 : decode cX8_join 39 = .ok (.iload_n 2, 1) := by decide +kernel
theorem dX8_join_40 : decode cX8_join 40 = .ok (.istore 4, 2) := by decide +kernel
theorem dX8_join_42 : decode cX8_join 42 = .ok (.iload_n 3, 1) := by decide +kernel
theorem dX8_join_43 : decode cX8_join 43 = .ok (.iconst 1, 1) := by decide +kernel
theorem dX8_join_44 : decode cX8_join 44 = .ok (.isub, 1) := by decide +kernel
theorem dX8_join_45 : decode cX8_join 45 = .ok (.istore 5, 2) := by decide +kernel
theorem dX8_join_47 : decode cX8_join 47 = .ok (.iload 5, 2) := by decide +kernel
theorem dX8_join_49 : decode cX8_join 49 = .ok (.ifCond .lt 48, 3) := by decide +kernel
theorem dX8_join_52 : decode cX8_join 52 = .ok (.aload_n 0, 1) := by decide +kernel
theorem dX8_join_53 : decode cX8_join 53 = .ok (.bipush 11, 2) := by decide +kernel
theorem dX8_join_55 : decode cX8_join 55 = .ok (.aload_n 0, 1) := by decide +kernel
theorem dX8_join_56 : decode cX8_join 56 = .ok (.getfield 97, 3) := by decide +kernel
theorem dX8_join_59 : decode cX8_join 59 = .ok (.iload 5, 2) := by decide +kernel
theorem dX8_join_61 : decode cX8_join 61 = .ok (.iaload, 1) := by decide +kernel
theorem dX8_join_62 : decode cX8_join 62 = .ok (.aload_n 0, 1) := by decide +kernel
theorem dX8_join_63 : decode cX8_join 63 = .ok (.getfield 76, 3) := by decide +kernel
theorem dX8_join_66 : decode cX8_join 66 = .ok (.aload_n 0, 1) := by decide +kernel
theorem dX8_join_67 : decode cX8_join 67 = .ok (.getfield 97, 3) := by decide +kernel
theorem dX8_join_70 : decode cX8_join 70 = .ok (.iload 5, 2) := by decide +kernel
theorem dX8_join_72 : decode cX8_join 72 = .ok (.iaload, 1) := by decide +kernel
theorem dX8_join_73 : decode cX8_join 73 = .ok (.iaload, 1) := by decide +kernel
theorem dX8_join_74 : decode cX8_join 74 = .ok (.bipush 10, 2) := by decide +kernel
theorem dX8_join_76 : decode cX8_join 76 = .ok (.if_icmp .ne 7, 3) := by decide +kernel
theorem dX8_join_79 : decode cX8_join 79 = .ok (.iconst (-1), 1) := by decide +kernel
theorem dX8_join_80 : decode cX8_join 80 = .ok (.goto 5, 3) := by decide +kernel
theorem dX8_join_83 : decode cX8_join 83 = .ok (.iload 4, 2) := by decide +kernel
theorem dX8_join_85 : decode cX8_join 85 = .ok (.iconst 0, 1) := by decide +kernel
theorem dX8_join_86 : decode cX8_join 86 = .ok (.invokevirtual 293, 3) := by decide +kernel
theorem dX8_join_89 : decode cX8_join 89 = .ok (.istore 4, 2) := by decide +kernel
theorem dX8_join_91 : decode cX8_join 91 = .ok (.iinc 5 (-1), 3) := by decide +kernel
theorem dX8_join_94 : decode cX8_join 94 = .ok (.goto (-47), 3) := by decide +kernel
theorem dX8_join_97 : decode cX8_join 97 = .ok (.iload 4, 2) := by decide +kernel
theorem dX8_join_99 : decode cX8_join 99 = .ok (.ireturn, 1) := by decide +kernel
theorem dX8_push2_0 : decode cX8_push2 0 = .ok (.aload_n 0, 1) := by decide +kernel
theorem dX8_push2_1 : decode cX8_push2 1 = .ok (.getfield 104, 3) := by decide +kernel
theorem dX8_push2_4 : decode cX8_push2 4 = .ok (.aload_n 0, 1) := by decide +kernel
theorem dX8_push2_5 : decode cX8_push2 5 = .ok (.getfield 335, 3) := by decide +kernel
theorem dX8_push2_8 : decode cX8_push2 8 = .ok (.iload_n 1, 1) := by decide +kernel
theorem dX8_push2_9 : decode cX8_push2 9 = .ok (.iastore, 1) := by decide +kernel
theorem dX8_push2_10 : decode cX8_push2 10 = .ok (.aload_n 0, 1) := by decide +kernel
theorem dX8_push2_11 : decode cX8_push2 11 = .ok (.dup, 1) := by decide +kernel
theorem dX8_push2_12 : decode cX8_push2 12 = .ok (.getfield 335, 3) := by decide +kernel
theorem dX8_push2_15 : decode cX8_push2 15 = .ok (.iconst 1, 1) := by decide +kernel
theorem dX8_push2_16 : decode cX8_push2 16 = .ok (.iadd, 1) := by decide +kernel
theorem dX8_push2_17 : decode cX8_push2 17 = .ok (.putfield 335, 3) := by decide +kernel
theorem dX8_push2_20 : decode cX8_push2 20 = .ok (.return_, 1) := by decide +kernel
theorem dX8_pop_0 : decode cX8_pop 0 = .ok (.aload_n 0, 1) := by decide +kernel
theorem dX8_pop_1 : decode cX8_pop 1 = .ok (.dup, 1) := by decide +kernel
theorem dX8_pop_2 : decode cX8_pop 2 = .ok (.getfield 335, 3) := by decide +kernel
theorem dX8_pop_5 : decode cX8_pop 5 = .ok (.iconst 1, 1) := by decide +kernel
theorem dX8_pop_6 : decode cX8_pop 6 = .ok (.isub, 1) := by decide +kernel
theorem dX8_pop_7 : decode cX8_pop 7 = .ok (.putfield 335, 3) := by decide +kernel
theorem dX8_pop_10 : decode cX8_pop 10 = .ok (.aload_n 0, 1) := by decide +kernel
theorem dX8_pop_11 : decode cX8_pop 11 = .ok (.getfield 104, 3) := by decide +kernel
theorem dX8_pop_14 : decode cX8_pop 14 = .ok (.aload_n 0, 1) := by decide +kernel
theorem dX8_pop_15 : decode cX8_pop 15 = .ok (.getfield 335, 3) := by decide +kernel
theorem dX8_pop_18 : decode cX8_pop 18 = .ok (.iaload, 1) := by decide +kernel
theorem dX8_pop_19 : decode cX8_pop 19 = .ok (.ireturn, 1) := by decide +kernel
theorem dX8_go_0 : decode cX8_go 0 = .ok (.iconst 0, 1) := by decide +kernel
theorem dX8_go_1 : decode cX8_go 1 = .ok (.istore 4, 2) := by decide +kernel
theorem dX8_go_3 : decode cX8_go 3 = .ok (.iload 4, 2) := by decide +kernel
theorem dX8_go_5 : decode cX8_go 5 = .ok (.bipush 6, 2) := by decide +kernel
theorem dX8_go_7 : decode cX8_go 7 = .ok (.if_icmp .ge 17, 3) := by decide +kernel
theorem dX8_go_10 : decode cX8_go 10 = .ok (.aload_n 0, 1) := by decide +kernel
theorem dX8_go_11 : decode cX8_go 11 = .ok (.getfield 107, 3) := by decide +kernel
theorem dX8_go_14 : decode cX8_go 14 = .ok (.iload 4, 2) := by decide +kernel
theorem dX8_go_16 : decode cX8_go 16 = .ok (.iconst 0, 1) := by decide +kernel
theorem dX8_go_17 : decode cX8_go 17 = .ok (.iastore, 1) := by decide +kernel
theorem dX8_go_18 : decode cX8_go 18 = .ok (.iinc 4 1, 3) := by decide +kernel
theorem dX8_go_21 : decode cX8_go 21 = .ok (.goto (-18), 3) := by decide +kernel
theorem dX8_go_24 : decode cX8_go 24 = .ok (.iconst 0, 1) := by decide +kernel
theorem dX8_go_25 : decode cX8_go 25 = .ok (.istore 4, 2) := by decide +kernel
theorem dX8_go_27 : decode cX8_go 27 = .ok (.iload 4, 2) := by decide +kernel
theorem dX8_go_29 : decode cX8_go 29 = .ok (.bipush 60, 2) := by decide +kernel
theorem dX8_go_31 : decode cX8_go 31 = .ok (.if_icmp .ge 17, 3) := by decide +kernel
theorem dX8_go_34 : decode cX8_go 34 = .ok (.aload_n 0, 1) := by decide +kernel
theorem dX8_go_35 : decode cX8_go 35 = .ok (.getfield 110, 3) := by decide +kernel
theorem dX8_go_38 : decode cX8_go 38 = .ok (.iload 4, 2) := by decide +kernel
theorem dX8_go_40 : decode cX8_go 40 = .ok (.iconst 0, 1) := by decide +kernel
theorem dX8_go_41 : decode cX8_go 41 = .ok (.bastore, 1) := by decide +kernel
theorem dX8_go_42 : decode cX8_go 42 = .ok (.iinc 4 1, 3) := by decide +kernel
theorem dX8_go_45 : decode cX8_go 45 = .ok (.goto (-18), 3) := by decide +kernel
theorem dX8_go_48 : decode cX8_go 48 = .ok (.aload_n 0, 1) := by decide +kernel
theorem dX8_go_49 : decode cX8_go 49 = .ok (.aload_n 0, 1) := by decide +kernel
theorem dX8_go_50 : decode cX8_go 50 = .ok (.getfield 100, 3) := by decide +kernel
theorem dX8_go_53 : decode cX8_go 53 = .ok (.putfield 338, 3) := by decide +kernel
theorem dX8_go_56 : decode cX8_go 56 = .ok (.aload_n 0, 1) := by decide +kernel
theorem dX8_go_57 : decode cX8_go 57 = .ok (.iconst 0, 1) := by decide +kernel
theorem dX8_go_58 : decode cX8_go 58 = .ok (.putfield 335, 3) := by decide +kernel
theorem dX8_go_61 : decode cX8_go 61 = .ok (.aload_n 0, 1) := by decide +kernel
theorem dX8_go_62 : decode cX8_go 62 = .ok (.iconst (-1), 1) := by decide +kernel
theorem dX8_go_63 : decode cX8_go 63 = .ok (.putfield 341, 3) := by decide +kernel
theorem dX8_go_66 : decode cX8_go 66 = .ok (.aload_n 0, 1) := by decide +kernel
theorem dX8_go_67 : decode cX8_go 67 = .ok (.iconst 0, 1) := by decide +kernel
theorem dX8_go_68 : decode cX8_go 68 = .ok (.putfield 344, 3) := by decide +kernel
theorem dX8_go_71 : decode cX8_go 71 = .ok (.aload_n 0, 1) := by decide +kernel
theorem dX8_go_72 : decode cX8_go 72 = .ok (.getfield 165, 3) := by decide +kernel
theorem dX8_go_75 : decode cX8_go 75 = .ok (.istore 4, 2) := by decide +kernel
theorem dX8_go_77 : decode cX8_go 77 = .ok (.aload_n 0, 1) := by decide +kernel
theorem dX8_go_78 : decode cX8_go 78 = .ok (.getfield 341, 3) := by decide +kernel
theorem dX8_go_81 : decode cX8_go 81 = .ok (.iconst (-1), 1) := by decide +kernel
theorem dX8_go_82 : decode cX8_go 82 = .ok (.if_icmp .ne 17, 3) := by decide +kernel
theorem dX8_go_85 : decode cX8_go 85 = .ok (.aload_n 0, 1) := by decide +kernel
theorem dX8_go_86 : decode cX8_go 86 = .ok (.iload 4, 2) := by decide +kernel
theorem dX8_go_88 : decode cX8_go 88 = .ok (.iload_n 1, 1) := by decide +kernel
theorem dX8_go_89 : decode cX8_go 89 = .ok (.iload_n 2, 1) := by decide +kernel
theorem dX8_go_90 : decode cX8_go 90 = .ok (.iload_n 3, 1) := by decide +kernel
theorem dX8_go_91 : decode cX8_go 91 = .ok (.invokevirtual 347, 3) := by decide +kernel
theorem dX8_go_94 : decode cX8_go 94 = .ok (.istore 4, 2) := by decide +kernel
theorem dX8_go_96 : decode cX8_go 96 = .ok (.goto (-19), 3) := by decide +kernel
theorem dX8_go_99 : decode cX8_go 99 = .ok (.aload_n 0, 1) := by decide +kernel
theorem dX8_go_100 : decode cX8_go 100 = .ok (.aload_n 0, 1) := by decide +kernel
theorem dX8_go_101 : decode cX8_go 101 = .ok (.getfield 100, 3) := by decide +kernel
theorem dX8_go_104 : decode cX8_go 104 = .ok (.aload_n 0, 1) := by decide +kernel
theorem dX8_go_105 : decode cX8_go 105 = .ok (.getfield 338, 3) := by decide +kernel
theorem dX8_go_108 : decode cX8_go 108 = .ok (.isub, 1) := by decide +kernel
theorem dX8_go_109 : decode cX8_go 109 = .ok (.putfield 350, 3) := by decide +kernel
theorem dX8_go_112 : decode cX8_go 112 = .ok (.aload_n 0, 1) := by decide +kernel
theorem dX8_go_113 : decode cX8_go 113 = .ok (.getfield 341, 3) := by decide +kernel
theorem dX8_go_116 : decode cX8_go 116 = .ok (.ifCond .eq 8, 3) := by decide +kernel
theorem dX8_go_119 : decode cX8_go 119 = .ok (.aload_n 0, 1) := by decide +kernel
theorem dX8_go_120 : decode cX8_go 120 = .ok (.iconst 0, 1) := by decide +kernel
theorem dX8_go_121 : decode cX8_go 121 = .ok (.putfield 344, 3) := by decide +kernel
theorem dX8_go_124 : decode cX8_go 124 = .ok (.return_, 1) := by decide +kernel
theorem dX8_stop_0 : decode cX8_stop 0 = .ok (.aload_n 0, 1) := by decide +kernel
theorem dX8_stop_1 : decode cX8_stop 1 = .ok (.iload_n 1, 1) := by decide +kernel
theorem dX8_stop_2 : decode cX8_stop 2 = .ok (.putfield 341, 3) := by decide +kernel
theorem dX8_stop_5 : decode cX8_stop 5 = .ok (.iconst 0, 1) := by decide +kernel
theorem dX8_stop_6 : decode cX8_stop 6 = .ok (.ireturn, 1) := by decide +kernel
theorem dX8_execute_0 : decode cX8_execute 0 = .ok (.aload_n 0, 1) := by decide +kernel
theorem dX8_execute_1 : decode cX8_execute 1 = .ok (.getfield 19, 3) := by decide +kernel
theorem dX8_execute_4 : decode cX8_execute 4 = .ok (.iload_n 1, 1) := by decide +kernel
theorem dX8_execute_5 : decode cX8_execute 5 = .ok (.iaload, 1) := by decide +kernel
theorem dX8_execute_6 : decode cX8_execute 6 = .ok (.istore 5, 2) := by decide +kernel
theorem dX8_execute_8 : decode cX8_execute 8 = .ok (.iload_n 2, 1) := by decide +kernel
theorem dX8_execute_9 : decode cX8_execute 9 = .ok (.ifCond .le 23, 3) := by decide +kernel
theorem dX8_execute_12 : decode cX8_execute 12 = .ok (.iload 5, 2) := by decide +kernel
theorem dX8_execute_14 : decode cX8_execute 14 = .ok (.ifCond .lt 18, 3) := by decide +kernel
theorem dX8_execute_17 : decode cX8_execute 17 = .ok (.iload 5, 2) := by decide +kernel
theorem dX8_execute_19 : decode cX8_execute 19 = .ok (.aload_n 0, 1) := by decide +kernel
theorem dX8_execute_20 : decode cX8_execute 20 = .ok (.getfield 61, 3) := by decide +kernel
theorem dX8_execute_23 : decode cX8_execute 23 = .ok (.iload_n 2, 1) := by decide +kernel
theorem dX8_execute_24 : decode cX8_execute 24 = .ok (.iaload, 1) := by decide +kernel
theorem dX8_execute_25 : decode cX8_execute 25 = .ok (.if_icmp .ne 7, 3) := by decide +kernel
theorem dX8_execute_28 : decode cX8_execute 28 = .ok (.iconst 1, 1) := by decide +kernel
theorem dX8_execute_29 : decode cX8_execute 29 = .ok (.goto 4, 3) := by decide +kernel
theorem dX8_execute_32 : decode cX8_execute 32 = .ok (.iconst 0, 1) := by decide +kernel
theorem dX8_execute_33 : decode cX8_execute 33 = .ok (.istore 6, 2) := by decide +kernel
theorem dX8_execute_35 : decode cX8_execute 35 = .ok (.iload 5, 2) := by decide +kernel
theorem dX8_execute_37 : decode cX8_execute 37 = .ok (.ifCond .lt 11, 3) := by decide +kernel
theorem dX8_execute_40 : decode cX8_execute 40 = .ok (.aload_n 0, 1) := by decide +kernel
theorem dX8_execute_41 : decode cX8_execute 41 = .ok (.getfield 110, 3) := by decide +kernel
theorem dX8_execute_44 : decode cX8_execute 44 = .ok (.iload 5, 2) := by decide +kernel
theorem dX8_execute_46 : decode cX8_execute 46 = .ok (.iconst 1, 1) := by decide +kernel
theorem dX8_execute_47 : decode cX8_execute 47 = .ok (.bastore, 1) := by decide +kernel
theorem dX8_execute_48 : decode cX8_execute 48 = .ok (.aload_n 0, 1) := by decide +kernel
theorem dX8_execute_49 : decode cX8_execute 49 = .ok (.getfield 13, 3) := by decide +kernel
theorem dX8_execute_52 : decode cX8_execute 52 = .ok (.iload_n 1, 1) := by decide +kernel
theorem dX8_execute_53 : decode cX8_execute 53 = .ok (.iaload, 1) := by decide +kernel
theorem dX8_execute_54 : decode cX8_execute 54 = .ok (.tableswitch 325 1 15 #[74, 92, 120, 145, 164, 190, 216, 240, 259, 279, 286, 292, 311, 325, 232], 74) := by decide +kernel
theorem dX8_execute_128 : decode cX8_execute 128 = .ok (.iload 6, 2) := by decide +kernel
theorem dX8_execute_130 : decode cX8_execute 130 = .ok (.ifCond .eq 12, 3) := by decide +kernel
theorem dX8_execute_133 : decode cX8_execute 133 = .ok (.aload_n 0, 1) := by decide +kernel
theorem dX8_execute_134 : decode cX8_execute 134 = .ok (.getfield 16, 3) := by decide +kernel
theorem dX8_execute_137 : decode cX8_execute 137 = .ok (.iload_n 1, 1) := by decide +kernel
theorem dX8_execute_138 : decode cX8_execute 138 = .ok (.iaload, 1) := by decide +kernel
theorem dX8_execute_139 : decode cX8_execute 139 = .ok (.goto 6, 3) := by decide +kernel
theorem dX8_execute_142 : decode cX8_execute 142 = .ok (.iload_n 1, 1) := by decide +kernel
theorem dX8_execute_143 : decode cX8_execute 143 = .ok (.iconst 1, 1) := by decide +kernel
theorem dX8_execute_144 : decode cX8_execute 144 = .ok (.iadd, 1) := by decide +kernel
theorem dX8_execute_145 : decode cX8_execute 145 = .ok (.ireturn, 1) := by decide +kernel
theorem dX8_execute_146 : decode cX8_execute 146 = .ok (.aload_n 0, 1) := by decide +kernel
theorem dX8_execute_147 : decode cX8_execute 147 = .ok (.iload 6, 2) := by decide +kernel
theorem dX8_execute_149 : decode cX8_execute 149 = .ok (.ifCond .eq 12, 3) := by decide +kernel
theorem dX8_execute_152 : decode cX8_execute 152 = .ok (.aload_n 0, 1) := by decide +kernel
theorem dX8_execute_153 : decode cX8_execute 153 = .ok (.getfield 67, 3) := by decide +kernel
theorem dX8_execute_156 : decode cX8_execute 156 = .ok (.iload_n 2, 1) := by decide +kernel
theorem dX8_execute_157 : decode cX8_execute 157 = .ok (.iaload, 1) := by decide +kernel
theorem dX8_execute_158 : decode cX8_execute 158 = .ok (.goto 9, 3) := by decide +kernel
theorem dX8_execute_161 : decode cX8_execute 161 = .ok (.aload_n 0, 1) := by decide +kernel
theorem dX8_execute_162 : decode cX8_execute 162 = .ok (.getfield 16, 3) := by decide +kernel
theorem dX8_execute_165 : decode cX8_execute 165 = .ok (.iload_n 1, 1) := by decide +kernel
theorem dX8_execute_166 : decode cX8_execute 166 = .ok (.iaload, 1) := by decide +kernel
theorem dX8_execute_167 : decode cX8_execute 167 = .ok (.invokevirtual 353, 3) := by decide +kernel
theorem dX8_execute_170 : decode cX8_execute 170 = .ok (.iload_n 1, 1) := by decide +kernel
theorem dX8_execute_171 : decode cX8_execute 171 = .ok (.iconst 1, 1) := by decide +kernel
theorem dX8_execute_172 : decode cX8_execute 172 = .ok (.iadd, 1) := by decide +kernel
theorem dX8_execute_173 : decode cX8_execute 173 = .ok (.ireturn, 1) := by decide +kernel
theorem dX8_execute_174 : decode cX8_execute 174 = .ok (.aload_n 0, 1) := by decide +kernel
theorem dX8_execute_175 : decode cX8_execute 175 = .ok (.aload_n 0, 1) := by decide +kernel
theorem dX8_execute_176 : decode cX8_execute 176 = .ok (.getfield 16, 3) := by decide +kernel
theorem dX8_execute_179 : decode cX8_execute 179 = .ok (.iload_n 1, 1) := by decide +kernel
theorem dX8_execute_180 : decode cX8_execute 180 = .ok (.iaload, 1) := by decide +kernel
theorem dX8_execute_181 : decode cX8_execute 181 = .ok (.bipush 120, 2) := by decide +kernel
theorem dX8_execute_183 : decode cX8_execute 183 = .ok (.if_icmp .ne 7, 3) := by decide +kernel
theorem dX8_execute_186 : decode cX8_execute 186 = .ok (.iload_n 3, 1) := by decide +kernel
theorem dX8_execute_187 : decode cX8_execute 187 = .ok (.goto 5, 3) := by decide +kernel
theorem dX8_execute_190 : decode cX8_execute 190 = .ok (.iload 4, 2) := by decide +kernel
theorem dX8_execute_192 : decode cX8_execute 192 = .ok (.invokevirtual 353, 3) := by decide +kernel
theorem dX8_execute_195 : decode cX8_execute 195 = .ok (.iload_n 1, 1) := by decide +kernel
theorem dX8_execute_196 : decode cX8_execute 196 = .ok (.iconst 1, 1) := by decide +kernel
theorem dX8_execute_197 : decode cX8_execute 197 = .ok (.iadd, 1) := by decide +kernel
theorem dX8_execute_198 : decode cX8_execute 198 = .ok (.ireturn, 1) := by decide +kernel
theorem dX8_execute_199 : decode cX8_execute 199 = .ok (.aload_n 0, 1) := by decide +kernel
theorem dX8_execute_200 : decode cX8_execute 200 = .ok (.aload_n 0, 1) := by decide +kernel
theorem dX8_execute_201 : decode cX8_execute 201 = .ok (.getfield 107, 3) := by decide +kernel
theorem dX8_execute_204 : decode cX8_execute 204 = .ok (.aload_n 0, 1) := by decide +kernel
theorem dX8_execute_205 : decode cX8_execute 205 = .ok (.getfield 16, 3) := by decide +kernel
theorem dX8_execute_208 : decode cX8_execute 208 = .ok (.iload_n 1, 1) := by decide +kernel
theorem dX8_execute_209 : decode cX8_execute 209 = .ok (.iaload, 1) := by decide +kernel
theorem dX8_execute_210 : decode cX8_execute 210 = .ok (.iaload, 1) := by decide +kernel
theorem dX8_execute_211 : decode cX8_execute 211 = .ok (.invokevirtual 353, 3) := by decide +kernel
theorem dX8_execute_214 : decode cX8_execute 214 = .ok (.iload_n 1, 1) := by decide +kernel
theorem dX8_execute_215 : decode cX8_execute 215 = .ok (.iconst 1, 1) := by decide +kernel
theorem dX8_execute_216 : decode cX8_execute 216 = .ok (.iadd, 1) := by decide +kernel
theorem dX8_execute_217 : decode cX8_execute 217 = .ok (.ireturn, 1) := by decide +kernel
theorem dX8_execute_218 : decode cX8_execute 218 = .ok (.aload_n 0, 1) := by decide +kernel
theorem dX8_execute_219 : decode cX8_execute 219 = .ok (.iload_n 1, 1) := by decide +kernel
theorem dX8_execute_220 : decode cX8_execute 220 = .ok (.iload 6, 2) := by decide +kernel
theorem dX8_execute_222 : decode cX8_execute 222 = .ok (.ifCond .eq 12, 3) := by decide +kernel
theorem dX8_execute_225 : decode cX8_execute 225 = .ok (.aload_n 0, 1) := by decide +kernel
theorem dX8_execute_226 : decode cX8_execute 226 = .ok (.getfield 67, 3) := by decide +kernel
theorem dX8_execute_229 : decode cX8_execute 229 = .ok (.iload_n 2, 1) := by decide +kernel
theorem dX8_execute_230 : decode cX8_execute 230 = .ok (.iaload, 1) := by decide +kernel
theorem dX8_execute_231 : decode cX8_execute 231 = .ok (.goto 9, 3) := by decide +kernel
theorem dX8_execute_234 : decode cX8_execute 234 = .ok (.aload_n 0, 1) := by decide +kernel
theorem dX8_execute_235 : decode cX8_execute 235 = .ok (.getfield 16, 3) := by decide +kernel
theorem dX8_execute_238 : decode cX8_execute 238 = .ok (.iload_n 1, 1) := by decide +kernel
theorem dX8_execute_239 : decode cX8_execute 239 = .ok (.iaload, 1) := by decide +kernel
theorem dX8_execute_240 : decode cX8_execute 240 = .ok (.invokevirtual 356, 3) := by decide +kernel
theorem dX8_execute_243 : decode cX8_execute 243 = .ok (.ireturn, 1) := by decide +kernel
theorem dX8_execute_244 : decode cX8_execute 244 = .ok (.aload_n 0, 1) := by decide +kernel
theorem dX8_execute_245 : decode cX8_execute 245 = .ok (.iload_n 1, 1) := by decide +kernel
theorem dX8_execute_246 : decode cX8_execute 246 = .ok (.iload 6, 2) := by decide +kernel
theorem dX8_execute_248 : decode cX8_execute 248 = .ok (.ifCond .eq 12, 3) := by decide +kernel
theorem dX8_execute_251 : decode cX8_execute 251 = .ok (.aload_n 0, 1) := by decide +kernel
theorem dX8_execute_252 : decode cX8_execute 252 = .ok (.getfield 67, 3) := by decide +kernel
theorem dX8_execute_255 : decode cX8_execute 255 = .ok (.iload_n 2, 1) := by decide +kernel
theorem dX8_execute_256 : decode cX8_execute 256 = .ok (.iaload, 1) := by decide +kernel
theorem dX8_execute_257 : decode cX8_execute 257 = .ok (.goto 9, 3) := by decide +kernel
theorem dX8_execute_260 : decode cX8_execute 260 = .ok (.aload_n 0, 1) := by decide +kernel
theorem dX8_execute_261 : decode cX8_execute 261 = .ok (.getfield 16, 3) := by decide +kernel
theorem dX8_execute_264 : decode cX8_execute 264 = .ok (.iload_n 1, 1) := by decide +kernel
theorem dX8_execute_265 : decode cX8_execute 265 = .ok (.iaload, 1) := by decide +kernel
theorem dX8_execute_266 : decode cX8_execute 266 = .ok (.invokevirtual 359, 3) := by decide +kernel
theorem dX8_execute_269 : decode cX8_execute 269 = .ok (.ireturn, 1) := by decide +kernel
theorem dX8_execute_270 : decode cX8_execute 270 = .ok (.aload_n 0, 1) := by decide +kernel
theorem dX8_execute_271 : decode cX8_execute 271 = .ok (.iload_n 1, 1) := by decide +kernel
theorem dX8_execute_272 : decode cX8_execute 272 = .ok (.iload 6, 2) := by decide +kernel
theorem dX8_execute_274 : decode cX8_execute 274 = .ok (.ifCond .ne 7, 3) := by decide +kernel
theorem dX8_execute_277 : decode cX8_execute 277 = .ok (.iconst 1, 1) := by decide +kernel
theorem dX8_execute_278 : decode cX8_execute 278 = .ok (.goto 4, 3) := by decide +kernel
theorem dX8_execute_281 : decode cX8_execute 281 = .ok (.iconst 0, 1) := by decide +kernel
theorem dX8_execute_282 : decode cX8_execute 282 = .ok (.invokevirtual 362, 3) := by decide +kernel
theorem dX8_execute_285 : decode cX8_execute 285 = .ok (.ireturn, 1) := by decide +kernel
theorem dX8_execute_286 : decode cX8_execute 286 = .ok (.aload_n 0, 1) := by decide +kernel
theorem dX8_execute_287 : decode cX8_execute 287 = .ok (.iload_n 1, 1) := by decide +kernel
theorem dX8_execute_288 : decode cX8_execute 288 = .ok (.iload 6, 2) := by decide +kernel
theorem dX8_execute_290 : decode cX8_execute 290 = .ok (.invokevirtual 362, 3) := by decide +kernel
theorem dX8_execute_293 : decode cX8_execute 293 = .ok (.ireturn, 1) := by decide +kernel
theorem dX8_execute_294 : decode cX8_execute 294 = .ok (.aload_n 0, 1) := by decide +kernel
theorem dX8_execute_295 : decode cX8_execute 295 = .ok (.getfield 107, 3) := by decide +kernel
theorem dX8_execute_298 : decode cX8_execute 298 = .ok (.aload_n 0, 1) := by decide +kernel
theorem dX8_execute_299 : decode cX8_execute 299 = .ok (.getfield 16, 3) := by decide +kernel
theorem dX8_execute_302 : decode cX8_execute 302 = .ok (.iload_n 1, 1) := by decide +kernel
theorem dX8_execute_303 : decode cX8_execute 303 = .ok (.iaload, 1) := by decide +kernel
theorem dX8_execute_304 : decode cX8_execute 304 = .ok (.aload_n 0, 1) := by decide +kernel
theorem dX8_execute_305 : decode cX8_execute 305 = .ok (.invokevirtual 366, 3) := by decide +kernel
theorem dX8_execute_308 : decode cX8_execute 308 = .ok (.iastore, 1) := by decide +kernel
theorem dX8_execute_309 : decode cX8_execute 309 = .ok (.iload_n 1, 1) := by decide +kernel
theorem dX8_execute_310 : decode cX8_execute 310 = .ok (.iconst 1, 1) := by decide +kernel
theorem dX8_execute_311 : decode cX8_execute 311 = .ok (.iadd, 1) := by decide +kernel
theorem dX8_execute_312 : decode cX8_execute 312 = .ok (.ireturn, 1) := by decide +kernel
theorem dX8_execute_313 : decode cX8_execute 313 = .ok (.aload_n 0, 1) := by decide +kernel
theorem dX8_execute_314 : decode cX8_execute 314 = .ok (.invokevirtual 366, 3) := by decide +kernel
theorem dX8_execute_317 : decode cX8_execute 317 = .ok (.ifCond .ne 12, 3) := by decide +kernel
theorem dX8_execute_320 : decode cX8_execute 320 = .ok (.aload_n 0, 1) := by decide +kernel
theorem dX8_execute_321 : decode cX8_execute 321 = .ok (.getfield 16, 3) := by decide +kernel
theorem dX8_execute_324 : decode cX8_execute 324 = .ok (.iload_n 1, 1) := by decide +kernel
theorem dX8_execute_325 : decode cX8_execute 325 = .ok (.iaload, 1) := by decide +kernel
theorem dX8_execute_326 : decode cX8_execute 326 = .ok (.goto 6, 3) := by decide +kernel
theorem dX8_execute_329 : decode cX8_execute 329 = .ok (.iload_n 1, 1) := by decide +kernel
theorem dX8_execute_330 : decode cX8_execute 330 = .ok (.iconst 1, 1) := by decide +kernel
theorem dX8_execute_331 : decode cX8_execute 331 = .ok (.iadd, 1) := by decide +kernel
theorem dX8_execute_332 : decode cX8_execute 332 = .ok (.ireturn, 1) := by decide +kernel
theorem dX8_execute_333 : decode cX8_execute 333 = .ok (.aload_n 0, 1) := by decide +kernel
theorem dX8_execute_334 : decode cX8_execute 334 = .ok (.getfield 16, 3) := by decide +kernel
theorem dX8_execute_337 : decode cX8_execute 337 = .ok (.iload_n 1, 1) := by decide +kernel
theorem dX8_execute_338 : decode cX8_execute 338 = .ok (.iaload, 1) := by decide +kernel
theorem dX8_execute_339 : decode cX8_execute 339 = .ok (.ireturn, 1) := by decide +kernel
theorem dX8_execute_340 : decode cX8_execute 340 = .ok (.aload_n 0, 1) := by decide +kernel
theorem dX8_execute_341 : decode cX8_execute 341 = .ok (.iload_n 1, 1) := by decide +kernel
theorem dX8_execute_342 : decode cX8_execute 342 = .ok (.invokevirtual 369, 3) := by decide +kernel
theorem dX8_execute_345 : decode cX8_execute 345 = .ok (.ireturn, 1) := by decide +kernel
theorem dX8_execute_346 : decode cX8_execute 346 = .ok (.aload_n 0, 1) := by decide +kernel
theorem dX8_execute_347 : decode cX8_execute 347 = .ok (.invokevirtual 366, 3) := by decide +kernel
theorem dX8_execute_350 : decode cX8_execute 350 = .ok (.ifCond .ne 11, 3) := by decide +kernel
theorem dX8_execute_353 : decode cX8_execute 353 = .ok (.aload_n 0, 1) := by decide +kernel
theorem dX8_execute_354 : decode cX8_execute 354 = .ok (.iconst 2, 1) := by decide +kernel
theorem dX8_execute_355 : decode cX8_execute 355 = .ok (.invokevirtual 372, 3) := by decide +kernel
theorem dX8_execute_358 : decode cX8_execute 358 = .ok (.goto 6, 3) := by decide +kernel
theorem dX8_execute_361 : decode cX8_execute 361 = .ok (.iload_n 1, 1) := by decide +kernel
theorem dX8_execute_362 : decode cX8_execute 362 = .ok (.iconst 1, 1) := by decide +kernel
theorem dX8_execute_363 : decode cX8_execute 363 = .ok (.iadd, 1) := by decide +kernel
theorem dX8_execute_364 : decode cX8_execute 364 = .ok (.ireturn, 1) := by decide +kernel
theorem dX8_execute_365 : decode cX8_execute 365 = .ok (.aload_n 0, 1) := by decide +kernel
theorem dX8_execute_366 : decode cX8_execute 366 = .ok (.aload_n 0, 1) := by decide +kernel
theorem dX8_execute_367 : decode cX8_execute 367 = .ok (.invokevirtual 366, 3) := by decide +kernel
theorem dX8_execute_370 : decode cX8_execute 370 = .ok (.putfield 344, 3) := by decide +kernel
theorem dX8_execute_373 : decode cX8_execute 373 = .ok (.aload_n 0, 1) := by decide +kernel
theorem dX8_execute_374 : decode cX8_execute 374 = .ok (.iconst 0, 1) := by decide +kernel
theorem dX8_execute_375 : decode cX8_execute 375 = .ok (.invokevirtual 372, 3) := by decide +kernel
theorem dX8_execute_378 : decode cX8_execute 378 = .ok (.ireturn, 1) := by decide +kernel
theorem dX8_execute_379 : decode cX8_execute 379 = .ok (.aload_n 0, 1) := by decide +kernel
theorem dX8_execute_380 : decode cX8_execute 380 = .ok (.iconst 0, 1) := by decide +kernel
theorem dX8_execute_381 : decode cX8_execute 381 = .ok (.invokevirtual 372, 3) := by decide +kernel
theorem dX8_execute_384 : decode cX8_execute 384 = .ok (.ireturn, 1) := by decide +kernel
theorem dX8_burn_0 : decode cX8_burn 0 = .ok (.aload_n 0, 1) := by decide +kernel
theorem dX8_burn_1 : decode cX8_burn 1 = .ok (.getfield 338, 3) := by decide +kernel
theorem dX8_burn_4 : decode cX8_burn 4 = .ok (.ifCond .ne 9, 3) := by decide +kernel
theorem dX8_burn_7 : decode cX8_burn 7 = .ok (.aload_n 0, 1) := by decide +kernel
theorem dX8_burn_8 : decode cX8_burn 8 = .ok (.iconst 3, 1) := by decide +kernel
theorem dX8_burn_9 : decode cX8_burn 9 = .ok (.invokevirtual 372, 3) := by decide +kernel
theorem dX8_burn_12 : decode cX8_burn 12 = .ok (.ireturn, 1) := by decide +kernel
theorem dX8_burn_13 : decode cX8_burn 13 = .ok (.aload_n 0, 1) := by decide +kernel
theorem dX8_burn_14 : decode cX8_burn 14 = .ok (.dup, 1) := by decide +kernel
theorem dX8_burn_15 : decode cX8_burn 15 = .ok (.getfield 338, 3) := by decide +kernel
theorem dX8_burn_18 : decode cX8_burn 18 = .ok (.iconst 1, 1) := by decide +kernel
theorem dX8_burn_19 : decode cX8_burn 19 = .ok (.isub, 1) := by decide +kernel
theorem dX8_burn_20 : decode cX8_burn 20 = .ok (.putfield 338, 3) := by decide +kernel
theorem dX8_burn_23 : decode cX8_burn 23 = .ok (.iload_n 1, 1) := by decide +kernel
theorem dX8_burn_24 : decode cX8_burn 24 = .ok (.iconst 1, 1) := by decide +kernel
theorem dX8_burn_25 : decode cX8_burn 25 = .ok (.iadd, 1) := by decide +kernel
theorem dX8_burn_26 : decode cX8_burn 26 = .ok (.ireturn, 1) := by decide +kernel
theorem dX8_calculate_0 : decode cX8_calculate 0 = .ok (.aload_n 0, 1) := by decide +kernel
theorem dX8_calculate_1 : decode cX8_calculate 1 = .ok (.invokevirtual 366, 3) := by decide +kernel
theorem dX8_calculate_4 : decode cX8_calculate 4 = .ok (.istore_n 3, 1) := by decide +kernel
theorem dX8_calculate_5 : decode cX8_calculate 5 = .ok (.aload_n 0, 1) := by decide +kernel
theorem dX8_calculate_6 : decode cX8_calculate 6 = .ok (.invokevirtual 366, 3) := by decide +kernel
theorem dX8_calculate_9 : decode cX8_calculate 9 = .ok (.istore 4, 2) := by decide +kernel
theorem dX8_calculate_11 : decode cX8_calculate 11 = .ok (.iload_n 2, 1) := by decide +kernel
theorem dX8_calculate_12 : decode cX8_calculate 12 = .ok (.iload_n 3, 1) := by decide +kernel
theorem dX8_calculate_13 : decode cX8_calculate 13 = .ok (.invokestatic 312, 3) := by decide +kernel
theorem dX8_calculate_16 : decode cX8_calculate 16 = .ok (.ifCond .eq 9, 3) := by decide +kernel
theorem dX8_calculate_19 : decode cX8_calculate 19 = .ok (.aload_n 0, 1) := by decide +kernel
theorem dX8_calculate_20 : decode cX8_calculate 20 = .ok (.iconst 1, 1) := by decide +kernel
theorem dX8_calculate_21 : decode cX8_calculate 21 = .ok (.invokevirtual 372, 3) := by decide +kernel
theorem dX8_calculate_24 : decode cX8_calculate 24 = .ok (.ireturn, 1) := by decide +kernel
theorem dX8_calculate_25 : decode cX8_calculate 25 = .ok (.aload_n 0, 1) := by decide +kernel
theorem dX8_calculate_26 : decode cX8_calculate 26 = .ok (.iload_n 2, 1) := by decide +kernel
theorem dX8_calculate_27 : decode cX8_calculate 27 = .ok (.iload 4, 2) := by decide +kernel
theorem dX8_calculate_29 : decode cX8_calculate 29 = .ok (.iload_n 3, 1) := by decide +kernel
theorem dX8_calculate_30 : decode cX8_calculate 30 = .ok (.invokestatic 316, 3) := by decide +kernel
theorem dX8_calculate_33 : decode cX8_calculate 33 = .ok (.invokevirtual 353, 3) := by decide +kernel
theorem dX8_calculate_36 : decode cX8_calculate 36 = .ok (.iload_n 1, 1) := by decide +kernel
theorem dX8_calculate_37 : decode cX8_calculate 37 = .ok (.iconst 1, 1) := by decide +kernel
theorem dX8_calculate_38 : decode cX8_calculate 38 = .ok (.iadd, 1) := by decide +kernel
theorem dX8_calculate_39 : decode cX8_calculate 39 = .ok (.ireturn, 1) := by decide +kernel
theorem dX8_compare_0 : decode cX8_compare 0 = .ok (.aload_n 0, 1) := by decide +kernel
theorem dX8_compare_1 : decode cX8_compare 1 = .ok (.invokevirtual 366, 3) := by decide +kernel
theorem dX8_compare_4 : decode cX8_compare 4 = .ok (.istore_n 3, 1) := by decide +kernel
theorem dX8_compare_5 : decode cX8_compare 5 = .ok (.aload_n 0, 1) := by decide +kernel
theorem dX8_compare_6 : decode cX8_compare 6 = .ok (.invokevirtual 366, 3) := by decide +kernel
theorem dX8_compare_9 : decode cX8_compare 9 = .ok (.istore 4, 2) := by decide +kernel
theorem dX8_compare_11 : decode cX8_compare 11 = .ok (.aload_n 0, 1) := by decide +kernel
theorem dX8_compare_12 : decode cX8_compare 12 = .ok (.iload_n 2, 1) := by decide +kernel
theorem dX8_compare_13 : decode cX8_compare 13 = .ok (.iload 4, 2) := by decide +kernel
theorem dX8_compare_15 : decode cX8_compare 15 = .ok (.iload_n 3, 1) := by decide +kernel
theorem dX8_compare_16 : decode cX8_compare 16 = .ok (.invokestatic 322, 3) := by decide +kernel
theorem dX8_compare_19 : decode cX8_compare 19 = .ok (.ifCond .eq 7, 3) := by decide +kernel
theorem dX8_compare_22 : decode cX8_compare 22 = .ok (.iconst 1, 1) := by decide +kernel
theorem dX8_compare_23 : decode cX8_compare 23 = .ok (.goto 4, 3) := by decide +kernel
theorem dX8_compare_26 : decode cX8_compare 26 = .ok (.iconst 0, 1) := by decide +kernel
theorem dX8_compare_27 : decode cX8_compare 27 = .ok (.invokevirtual 353, 3) := by decide +kernel
theorem dX8_compare_30 : decode cX8_compare 30 = .ok (.iload_n 1, 1) := by decide +kernel
theorem dX8_compare_31 : decode cX8_compare 31 = .ok (.iconst 1, 1) := by decide +kernel
theorem dX8_compare_32 : decode cX8_compare 32 = .ok (.iadd, 1) := by decide +kernel
theorem dX8_compare_33 : decode cX8_compare 33 = .ok (.ireturn, 1) := by decide +kernel
theorem dX8_cut_0 : decode cX8_cut 0 = .ok (.aload_n 0, 1) := by decide +kernel
theorem dX8_cut_1 : decode cX8_cut 1 = .ok (.invokevirtual 366, 3) := by decide +kernel
theorem dX8_cut_4 : decode cX8_cut 4 = .ok (.istore_n 3, 1) := by decide +kernel
theorem dX8_cut_5 : decode cX8_cut 5 = .ok (.iload_n 2, 1) := by decide +kernel
theorem dX8_cut_6 : decode cX8_cut 6 = .ok (.iload_n 3, 1) := by decide +kernel
theorem dX8_cut_7 : decode cX8_cut 7 = .ok (.ifCond .ne 7, 3) := by decide +kernel
theorem dX8_cut_10 : decode cX8_cut 10 = .ok (.iconst 1, 1) := by decide +kernel
theorem dX8_cut_11 : decode cX8_cut 11 = .ok (.goto 4, 3) := by decide +kernel
theorem dX8_cut_14 : decode cX8_cut 14 = .ok (.iconst 0, 1) := by decide +kernel
theorem dX8_cut_15 : decode cX8_cut 15 = .ok (.if_icmp .ne 15, 3) := by decide +kernel
theorem dX8_cut_18 : decode cX8_cut 18 = .ok (.aload_n 0, 1) := by decide +kernel
theorem dX8_cut_19 : decode cX8_cut 19 = .ok (.iload_n 3, 1) := by decide +kernel
theorem dX8_cut_20 : decode cX8_cut 20 = .ok (.invokevirtual 353, 3) := by decide +kernel
theorem dX8_cut_23 : decode cX8_cut 23 = .ok (.aload_n 0, 1) := by decide +kernel
theorem dX8_cut_24 : decode cX8_cut 24 = .ok (.getfield 16, 3) := by decide +kernel
theorem dX8_cut_27 : decode cX8_cut 27 = .ok (.iload_n 1, 1) := by decide +kernel
theorem dX8_cut_28 : decode cX8_cut 28 = .ok (.iaload, 1) := by decide +kernel
theorem dX8_cut_29 : decode cX8_cut 29 = .ok (.ireturn, 1) := by decide +kernel
theorem dX8_cut_30 : decode cX8_cut 30 = .ok (.iload_n 1, 1) := by decide +kernel
theorem dX8_cut_31 : decode cX8_cut 31 = .ok (.iconst 1, 1) := by decide +kernel
theorem dX8_cut_32 : decode cX8_cut 32 = .ok (.iadd, 1) := by decide +kernel
theorem dX8_cut_33 : decode cX8_cut 33 = .ok (.ireturn, 1) := by decide +kernel
theorem dX8_run_0 : decode cX8_run 0 = .ok (.aload_n 0, 1) := by decide +kernel
theorem dX8_run_1 : decode cX8_run 1 = .ok (.iconst 0, 1) := by decide +kernel
theorem dX8_run_2 : decode cX8_run 2 = .ok (.putfield 126, 3) := by decide +kernel
theorem dX8_run_5 : decode cX8_run 5 = .ok (.aload_n 0, 1) := by decide +kernel
theorem dX8_run_6 : decode cX8_run 6 = .ok (.getfield 265, 3) := by decide +kernel
theorem dX8_run_9 : decode cX8_run 9 = .ok (.ifCond .ne 9, 3) := by decide +kernel
theorem dX8_run_12 : decode cX8_run 12 = .ok (.aload_n 0, 1) := by decide +kernel
theorem dX8_run_13 : decode cX8_run 13 = .ok (.iconst 1, 1) := by decide +kernel
theorem dX8_run_14 : decode cX8_run 14 = .ok (.invokevirtual 255, 3) := by decide +kernel
theorem dX8_run_17 : decode cX8_run 17 = .ok (.ireturn, 1) := by decide +kernel
theorem dX8_run_18 : decode cX8_run 18 = .ok (.iload_n 1, 1) := by decide +kernel
theorem dX8_run_19 : decode cX8_run 19 = .ok (.ifCond .lt 11, 3) := by decide +kernel
theorem dX8_run_22 : decode cX8_run 22 = .ok (.iload_n 1, 1) := by decide +kernel
theorem dX8_run_23 : decode cX8_run 23 = .ok (.aload_n 0, 1) := by decide +kernel
theorem dX8_run_24 : decode cX8_run 24 = .ok (.getfield 262, 3) := by decide +kernel
theorem dX8_run_27 : decode cX8_run 27 = .ok (.if_icmp .le 9, 3) := by decide +kernel
theorem dX8_run_30 : decode cX8_run 30 = .ok (.aload_n 0, 1) := by decide +kernel
theorem dX8_run_31 : decode cX8_run 31 = .ok (.iconst 2, 1) := by decide +kernel
theorem dX8_run_32 : decode cX8_run 32 = .ok (.invokevirtual 255, 3) := by decide +kernel
theorem dX8_run_35 : decode cX8_run 35 = .ok (.ireturn, 1) := by decide +kernel
theorem dX8_run_36 : decode cX8_run 36 = .ok (.aload_n 0, 1) := by decide +kernel
theorem dX8_run_37 : decode cX8_run 37 = .ok (.iload_n 1, 1) := by decide +kernel
theorem dX8_run_38 : decode cX8_run 38 = .ok (.iload_n 2, 1) := by decide +kernel
theorem dX8_run_39 : decode cX8_run 39 = .ok (.iload_n 3, 1) := by decide +kernel
theorem dX8_run_40 : decode cX8_run 40 = .ok (.invokevirtual 375, 3) := by decide +kernel
theorem dX8_run_43 : decode cX8_run 43 = .ok (.aload_n 0, 1) := by decide +kernel
theorem dX8_run_44 : decode cX8_run 44 = .ok (.aload_n 0, 1) := by decide +kernel
theorem dX8_run_45 : decode cX8_run 45 = .ok (.getfield 344, 3) := by decide +kernel
theorem dX8_run_48 : decode cX8_run 48 = .ok (.putfield 274, 3) := by decide +kernel
theorem dX8_run_51 : decode cX8_run 51 = .ok (.aload_n 0, 1) := by decide +kernel
theorem dX8_run_52 : decode cX8_run 52 = .ok (.aload_n 0, 1) := by decide +kernel
theorem dX8_run_53 : decode cX8_run 53 = .ok (.getfield 350, 3) := by decide +kernel
theorem dX8_run_56 : decode cX8_run 56 = .ok (.putfield 277, 3) := by decide +kernel
theorem dX8_run_59 : decode cX8_run 59 = .ok (.aload_n 0, 1) := by decide +kernel
theorem dX8_run_60 : decode cX8_run 60 = .ok (.getfield 341, 3) := by decide +kernel
theorem dX8_run_63 : decode cX8_run 63 = .ok (.ireturn, 1) := by decide +kernel
theorem dX8_value_0 : decode cX8_value 0 = .ok (.aload_n 0, 1) := by decide +kernel
theorem dX8_value_1 : decode cX8_value 1 = .ok (.iconst 0, 1) := by decide +kernel
theorem dX8_value_2 : decode cX8_value 2 = .ok (.putfield 126, 3) := by decide +kernel
theorem dX8_value_5 : decode cX8_value 5 = .ok (.aload_n 0, 1) := by decide +kernel
theorem dX8_value_6 : decode cX8_value 6 = .ok (.getfield 274, 3) := by decide +kernel
theorem dX8_value_9 : decode cX8_value 9 = .ok (.ireturn, 1) := by decide +kernel
theorem dX8_took_0 : decode cX8_took 0 = .ok (.aload_n 0, 1) := by decide +kernel
theorem dX8_took_1 : decode cX8_took 1 = .ok (.iconst 0, 1) := by decide +kernel
theorem dX8_took_2 : decode cX8_took 2 = .ok (.putfield 126, 3) := by decide +kernel
theorem dX8_took_5 : decode cX8_took 5 = .ok (.aload_n 0, 1) := by decide +kernel
theorem dX8_took_6 : decode cX8_took 6 = .ok (.getfield 277, 3) := by decide +kernel
theorem dX8_took_9 : decode cX8_took 9 = .ok (.ireturn, 1) := by decide +kernel
theorem dX8_test_0 : decode cX8_test 0 = .ok (.aload_n 0, 1) := by decide +kernel
theorem dX8_test_1 : decode cX8_test 1 = .ok (.iconst 0, 1) := by decide +kernel
theorem dX8_test_2 : decode cX8_test 2 = .ok (.putfield 126, 3) := by decide +kernel
theorem dX8_test_5 : decode cX8_test 5 = .ok (.aload_n 0, 1) := by decide +kernel
theorem dX8_test_6 : decode cX8_test 6 = .ok (.getfield 265, 3) := by decide +kernel
theorem dX8_test_9 : decode cX8_test 9 = .ok (.ifCond .eq 12, 3) := by decide +kernel
theorem dX8_test_12 : decode cX8_test 12 = .ok (.aload_n 0, 1) := by decide +kernel
theorem dX8_test_13 : decode cX8_test 13 = .ok (.getfield 268, 3) := by decide +kernel
theorem dX8_test_16 : decode cX8_test 16 = .ok (.bipush 8, 2) := by decide +kernel
theorem dX8_test_18 : decode cX8_test 18 = .ok (.if_icmp .ne 9, 3) := by decide +kernel
theorem dX8_test_21 : decode cX8_test 21 = .ok (.aload_n 0, 1) := by decide +kernel
theorem dX8_test_22 : decode cX8_test 22 = .ok (.iconst 1, 1) := by decide +kernel
theorem dX8_test_23 : decode cX8_test 23 = .ok (.invokevirtual 255, 3) := by decide +kernel
theorem dX8_test_26 : decode cX8_test 26 = .ok (.ireturn, 1) := by decide +kernel
theorem dX8_test_27 : decode cX8_test 27 = .ok (.aload_n 0, 1) := by decide +kernel
theorem dX8_test_28 : decode cX8_test 28 = .ok (.getfield 114, 3) := by decide +kernel
theorem dX8_test_31 : decode cX8_test 31 = .ok (.aload_n 0, 1) := by decide +kernel
theorem dX8_test_32 : decode cX8_test 32 = .ok (.getfield 268, 3) := by decide +kernel
theorem dX8_test_35 : decode cX8_test 35 = .ok (.iload_n 1, 1) := by decide +kernel
theorem dX8_test_36 : decode cX8_test 36 = .ok (.iastore, 1) := by decide +kernel
theorem dX8_test_37 : decode cX8_test 37 = .ok (.aload_n 0, 1) := by decide +kernel
theorem dX8_test_38 : decode cX8_test 38 = .ok (.getfield 117, 3) := by decide +kernel
theorem dX8_test_41 : decode cX8_test 41 = .ok (.aload_n 0, 1) := by decide +kernel
theorem dX8_test_42 : decode cX8_test 42 = .ok (.getfield 268, 3) := by decide +kernel
theorem dX8_test_45 : decode cX8_test 45 = .ok (.iload_n 2, 1) := by decide +kernel
theorem dX8_test_46 : decode cX8_test 46 = .ok (.iastore, 1) := by decide +kernel
theorem dX8_test_47 : decode cX8_test 47 = .ok (.aload_n 0, 1) := by decide +kernel
theorem dX8_test_48 : decode cX8_test 48 = .ok (.dup, 1) := by decide +kernel
theorem dX8_test_49 : decode cX8_test 49 = .ok (.getfield 268, 3) := by decide +kernel
theorem dX8_test_52 : decode cX8_test 52 = .ok (.iconst 1, 1) := by decide +kernel
theorem dX8_test_53 : decode cX8_test 53 = .ok (.iadd, 1) := by decide +kernel
theorem dX8_test_54 : decode cX8_test 54 = .ok (.putfield 268, 3) := by decide +kernel
theorem dX8_test_57 : decode cX8_test 57 = .ok (.aload_n 0, 1) := by decide +kernel
theorem dX8_test_58 : decode cX8_test 58 = .ok (.iconst 0, 1) := by decide +kernel
theorem dX8_test_59 : decode cX8_test 59 = .ok (.putfield 271, 3) := by decide +kernel
theorem dX8_test_62 : decode cX8_test 62 = .ok (.aload_n 0, 1) := by decide +kernel
theorem dX8_test_63 : decode cX8_test 63 = .ok (.getfield 268, 3) := by decide +kernel
theorem dX8_test_66 : decode cX8_test 66 = .ok (.iconst 1, 1) := by decide +kernel
theorem dX8_test_67 : decode cX8_test 67 = .ok (.isub, 1) := by decide +kernel
theorem dX8_test_68 : decode cX8_test 68 = .ok (.ireturn, 1) := by decide +kernel
theorem dX8_fuel_0 : decode cX8_fuel 0 = .ok (.aload_n 0, 1) := by decide +kernel
theorem dX8_fuel_1 : decode cX8_fuel 1 = .ok (.iconst 0, 1) := by decide +kernel
theorem dX8_fuel_2 : decode cX8_fuel 2 = .ok (.putfield 126, 3) := by decide +kernel
theorem dX8_fuel_5 : decode cX8_fuel 5 = .ok (.iload_n 1, 1) := by decide +kernel
theorem dX8_fuel_6 : decode cX8_fuel 6 = .ok (.iconst 1, 1) := by decide +kernel
theorem dX8_fuel_7 : decode cX8_fuel 7 = .ok (.if_icmp .lt 9, 3) := by decide +kernel
theorem dX8_fuel_10 : decode cX8_fuel 10 = .ok (.iload_n 1, 1) := by decide +kernel
theorem dX8_fuel_11 : decode cX8_fuel 11 = .ok (.bipush 50, 2) := by decide +kernel
theorem dX8_fuel_13 : decode cX8_fuel 13 = .ok (.if_icmp .le 5, 3) := by decide +kernel
theorem dX8_fuel_16 : decode cX8_fuel 16 = .ok (.iconst 0, 1) := by decide +kernel
theorem dX8_fuel_17 : decode cX8_fuel 17 = .ok (.ireturn, 1) := by decide +kernel
theorem dX8_fuel_18 : decode cX8_fuel 18 = .ok (.aload_n 0, 1) := by decide +kernel
theorem dX8_fuel_19 : decode cX8_fuel 19 = .ok (.iload_n 1, 1) := by decide +kernel
theorem dX8_fuel_20 : decode cX8_fuel 20 = .ok (.putfield 100, 3) := by decide +kernel
theorem dX8_fuel_23 : decode cX8_fuel 23 = .ok (.aload_n 0, 1) := by decide +kernel
theorem dX8_fuel_24 : decode cX8_fuel 24 = .ok (.iconst 0, 1) := by decide +kernel
theorem dX8_fuel_25 : decode cX8_fuel 25 = .ok (.putfield 271, 3) := by decide +kernel
theorem dX8_fuel_28 : decode cX8_fuel 28 = .ok (.iconst 1, 1) := by decide +kernel
theorem dX8_fuel_29 : decode cX8_fuel 29 = .ok (.ireturn, 1) := by decide +kernel
theorem dX8_matrix_0 : decode cX8_matrix 0 = .ok (.aload_n 0, 1) := by decide +kernel
theorem dX8_matrix_1 : decode cX8_matrix 1 = .ok (.iconst 0, 1) := by decide +kernel
theorem dX8_matrix_2 : decode cX8_matrix 2 = .ok (.putfield 126, 3) := by decide +kernel
theorem dX8_matrix_5 : decode cX8_matrix 5 = .ok (.aload_n 0, 1) := by decide +kernel
theorem dX8_matrix_6 : decode cX8_matrix 6 = .ok (.getfield 265, 3) := by decide +kernel
theorem dX8_matrix_9 : decode cX8_matrix 9 = .ok (.ifCond .ne 9, 3) := by decide +kernel
theorem dX8_matrix_12 : decode cX8_matrix 12 = .ok (.aload_n 0, 1) := by decide +kernel
theorem dX8_matrix_13 : decode cX8_matrix 13 = .ok (.iconst 1, 1) := by decide +kernel
theorem dX8_matrix_14 : decode cX8_matrix 14 = .ok (.invokevirtual 255, 3) := by decide +kernel
theorem dX8_matrix_17 : decode cX8_matrix 17 = .ok (.ireturn, 1) := by decide +kernel
theorem dX8_matrix_18 : decode cX8_matrix 18 = .ok (.iconst 0, 1) := by decide +kernel
theorem dX8_matrix_19 : decode cX8_matrix 19 = .ok (.istore_n 1, 1) := by decide +kernel
theorem dX8_matrix_20 : decode cX8_matrix 20 = .ok (.iconst 0, 1) := by decide +kernel
theorem dX8_matrix_21 : decode cX8_matrix 21 = .ok (.istore_n 2, 1) := by decide +kernel
theorem dX8_matrix_22 : decode cX8_matrix 22 = .ok (.iload_n 2, 1) := by decide +kernel
theorem dX8_matrix_23 : decode cX8_matrix 23 = .ok (.aload_n 0, 1) := by decide +kernel
theorem dX8_matrix_24 : decode cX8_matrix 24 = .ok (.getfield 268, 3) := by decide +kernel
theorem dX8_matrix_27 : decode cX8_matrix 27 = .ok (.if_icmp .ge 193, 3) := by decide +kernel
theorem dX8_matrix_30 : decode cX8_matrix 30 = .ok (.aload_n 0, 1) := by decide +kernel
theorem dX8_matrix_31 : decode cX8_matrix 31 = .ok (.iconst 0, 1) := by decide +kernel
theorem dX8_matrix_32 : decode cX8_matrix 32 = .ok (.aload_n 0, 1) := by decide +kernel
theorem dX8_matrix_33 : decode cX8_matrix 33 = .ok (.getfield 114, 3) := by decide +kernel
theorem dX8_matrix_36 : decode cX8_matrix 36 = .ok (.iload_n 2, 1) := by decide +kernel
theorem dX8_matrix_37 : decode cX8_matrix 37 = .ok (.iaload, 1) := by decide +kernel
theorem dX8_matrix_38 : decode cX8_matrix 38 = .ok (.aload_n 0, 1) := by decide +kernel
theorem dX8_matrix_39 : decode cX8_matrix 39 = .ok (.getfield 117, 3) := by decide +kernel
theorem dX8_matrix_42 : decode cX8_matrix 42 = .ok (.iload_n 2, 1) := by decide +kernel
theorem dX8_matrix_43 : decode cX8_matrix 43 = .ok (.iaload, 1) := by decide +kernel
theorem dX8_matrix_44 : decode cX8_matrix 44 = .ok (.invokevirtual 375, 3) := by decide +kernel
theorem dX8_matrix_47 : decode cX8_matrix 47 = .ok (.aload_n 0, 1) := by decide +kernel
theorem dX8_matrix_48 : decode cX8_matrix 48 = .ok (.getfield 341, 3) := by decide +kernel
theorem dX8_matrix_51 : decode cX8_matrix 51 = .ok (.istore_n 3, 1) := by decide +kernel
theorem dX8_matrix_52 : decode cX8_matrix 52 = .ok (.aload_n 0, 1) := by decide +kernel
theorem dX8_matrix_53 : decode cX8_matrix 53 = .ok (.getfield 344, 3) := by decide +kernel
theorem dX8_matrix_56 : decode cX8_matrix 56 = .ok (.istore 4, 2) := by decide +kernel
theorem dX8_matrix_58 : decode cX8_matrix 58 = .ok (.iconst 0, 1) := by decide +kernel
theorem dX8_matrix_59 : decode cX8_matrix 59 = .ok (.istore 5, 2) := by decide +kernel
theorem dX8_matrix_61 : decode cX8_matrix 61 = .ok (.iload 5, 2) := by decide +kernel
theorem dX8_matrix_63 : decode cX8_matrix 63 = .ok (.bipush 60, 2) := by decide +kernel
theorem dX8_matrix_65 : decode cX8_matrix 65 = .ok (.if_icmp .ge 28, 3) := by decide +kernel
theorem dX8_matrix_68 : decode cX8_matrix 68 = .ok (.aload_n 0, 1) := by decide +kernel
theorem dX8_matrix_69 : decode cX8_matrix 69 = .ok (.getfield 123, 3) := by decide +kernel
theorem dX8_matrix_72 : decode cX8_matrix 72 = .ok (.bipush 60, 2) := by decide +kernel
theorem dX8_matrix_74 : decode cX8_matrix 74 = .ok (.iload_n 2, 1) := by decide +kernel
theorem dX8_matrix_75 : decode cX8_matrix 75 = .ok (.imul, 1) := by decide +kernel
theorem dX8_matrix_76 : decode cX8_matrix 76 = .ok (.iload 5, 2) := by decide +kernel
theorem dX8_matrix_78 : decode cX8_matrix 78 = .ok (.iadd, 1) := by decide +kernel
theorem dX8_matrix_79 : decode cX8_matrix 79 = .ok (.aload_n 0, 1) := by decide +kernel
theorem dX8_matrix_80 : decode cX8_matrix 80 = .ok (.getfield 110, 3) := by decide +kernel
theorem dX8_matrix_83 : decode cX8_matrix 83 = .ok (.iload 5, 2) := by decide +kernel
theorem dX8_matrix_85 : decode cX8_matrix 85 = .ok (.baload, 1) := by decide +kernel
theorem dX8_matrix_86 : decode cX8_matrix 86 = .ok (.bastore, 1) := by decide +kernel
theorem dX8_matrix_87 : decode cX8_matrix 87 = .ok (.iinc 5 1, 3) := by decide +kernel
theorem dX8_matrix_90 : decode cX8_matrix 90 = .ok (.goto (-29), 3) := by decide +kernel
theorem dX8_matrix_93 : decode cX8_matrix 93 = .ok (.iconst 1, 1) := by decide +kernel
theorem dX8_matrix_94 : decode cX8_matrix 94 = .ok (.istore 5, 2) := by decide +kernel
theorem dX8_matrix_96 : decode cX8_matrix 96 = .ok (.iload 5, 2) := by decide +kernel
theorem dX8_matrix_98 : decode cX8_matrix 98 = .ok (.aload_n 0, 1) := by decide +kernel
theorem dX8_matrix_99 : decode cX8_matrix 99 = .ok (.getfield 262, 3) := by decide +kernel
theorem dX8_matrix_102 : decode cX8_matrix 102 = .ok (.if_icmp .gt 112, 3) := by decide +kernel
theorem dX8_matrix_105 : decode cX8_matrix 105 = .ok (.aload_n 0, 1) := by decide +kernel
theorem dX8_matrix_106 : decode cX8_matrix 106 = .ok (.getfield 120, 3) := by decide +kernel
theorem dX8_matrix_109 : decode cX8_matrix 109 = .ok (.bipush 121, 2) := by decide +kernel
theorem dX8_matrix_111 : decode cX8_matrix 111 = .ok (.iload_n 2, 1) := by decide +kernel
theorem dX8_matrix_112 : decode cX8_matrix 112 = .ok (.imul, 1) := by decide +kernel
theorem dX8_matrix_113 : decode cX8_matrix 113 = .ok (.iload 5, 2) := by decide +kernel
theorem dX8_matrix_115 : decode cX8_matrix 115 = .ok (.iadd, 1) := by decide +kernel
theorem dX8_matrix_116 : decode cX8_matrix 116 = .ok (.iconst 0, 1) := by decide +kernel
theorem dX8_matrix_117 : decode cX8_matrix 117 = .ok (.bastore, 1) := by decide +kernel
theorem dX8_matrix_118 : decode cX8_matrix 118 = .ok (.aload_n 0, 1) := by decide +kernel
theorem dX8_matrix_119 : decode cX8_matrix 119 = .ok (.getfield 70, 3) := by decide +kernel
theorem dX8_matrix_122 : decode cX8_matrix 122 = .ok (.iload 5, 2) := by decide +kernel
theorem dX8_matrix_124 : decode cX8_matrix 124 = .ok (.iaload, 1) := by decide +kernel
theorem dX8_matrix_125 : decode cX8_matrix 125 = .ok (.iload 5, 2) := by decide +kernel
theorem dX8_matrix_127 : decode cX8_matrix 127 = .ok (.if_icmp .ne 81, 3) := by decide +kernel
theorem dX8_matrix_130 : decode cX8_matrix 130 = .ok (.aload_n 0, 1) := by decide +kernel
theorem dX8_matrix_131 : decode cX8_matrix 131 = .ok (.getfield 123, 3) := by decide +kernel
theorem dX8_matrix_134 : decode cX8_matrix 134 = .ok (.bipush 60, 2) := by decide +kernel
theorem dX8_matrix_136 : decode cX8_matrix 136 = .ok (.iload_n 2, 1) := by decide +kernel
theorem dX8_matrix_137 : decode cX8_matrix 137 = .ok (.imul, 1) := by decide +kernel
theorem dX8_matrix_138 : decode cX8_matrix 138 = .ok (.aload_n 0, 1) := by decide +kernel
theorem dX8_matrix_139 : decode cX8_matrix 139 = .ok (.getfield 61, 3) := by decide +kernel
theorem dX8_matrix_142 : decode cX8_matrix 142 = .ok (.iload 5, 2) := by decide +kernel
theorem dX8_matrix_144 : decode cX8_matrix 144 = .ok (.iaload, 1) := by decide +kernel
theorem dX8_matrix_145 : decode cX8_matrix 145 = .ok (.iadd, 1) := by decide +kernel
theorem dX8_matrix_146 : decode cX8_matrix 146 = .ok (.baload, 1) := by decide +kernel
theorem dX8_matrix_147 : decode cX8_matrix 147 = .ok (.ifCond .ne 6, 3) := by decide +kernel
theorem dX8_matrix_150 : decode cX8_matrix 150 = .ok (.goto 58, 3) := by decide +kernel
theorem dX8_matrix_153 : decode cX8_matrix 153 = .ok (.aload_n 0, 1) := by decide +kernel
theorem dX8_matrix_154 : decode cX8_matrix 154 = .ok (.iload 5, 2) := by decide +kernel
theorem dX8_matrix_156 : decode cX8_matrix 156 = .ok (.aload_n 0, 1) := by decide +kernel
theorem dX8_matrix_157 : decode cX8_matrix 157 = .ok (.getfield 114, 3) := by decide +kernel
theorem dX8_matrix_160 : decode cX8_matrix 160 = .ok (.iload_n 2, 1) := by decide +kernel
theorem dX8_matrix_161 : decode cX8_matrix 161 = .ok (.iaload, 1) := by decide +kernel
theorem dX8_matrix_162 : decode cX8_matrix 162 = .ok (.aload_n 0, 1) := by decide +kernel
theorem dX8_matrix_163 : decode cX8_matrix 163 = .ok (.getfield 117, 3) := by decide +kernel
theorem dX8_matrix_166 : decode cX8_matrix 166 = .ok (.iload_n 2, 1) := by decide +kernel
theorem dX8_matrix_167 : decode cX8_matrix 167 = .ok (.iaload, 1) := by decide +kernel
theorem dX8_matrix_168 : decode cX8_matrix 168 = .ok (.invokevirtual 375, 3) := by decide +kernel
theorem dX8_matrix_171 : decode cX8_matrix 171 = .ok (.iinc 1 1, 3) := by decide +kernel
theorem dX8_matrix_174 : decode cX8_matrix 174 = .ok (.aload_n 0, 1) := by decide +kernel
theorem dX8_matrix_175 : decode cX8_matrix 175 = .ok (.getfield 120, 3) := by decide +kernel
theorem dX8_matrix_178 : decode cX8_matrix 178 = .ok (.bipush 121, 2) := by decide +kernel
theorem dX8_matrix_180 : decode cX8_matrix 180 = .ok (.iload_n 2, 1) := by decide +kernel
theorem dX8_matrix_181 : decode cX8_matrix 181 = .ok (.imul, 1) := by decide +kernel
theorem dX8_matrix_182 : decode cX8_matrix 182 = .ok (.iload 5, 2) := by decide +kernel
theorem dX8_matrix_184 : decode cX8_matrix 184 = .ok (.iadd, 1) := by decide +kernel
theorem dX8_matrix_185 : decode cX8_matrix 185 = .ok (.aload_n 0, 1) := by decide +kernel
theorem dX8_matrix_186 : decode cX8_matrix 186 = .ok (.getfield 341, 3) := by decide +kernel
theorem dX8_matrix_189 : decode cX8_matrix 189 = .ok (.iload_n 3, 1) := by decide +kernel
theorem dX8_matrix_190 : decode cX8_matrix 190 = .ok (.if_icmp .ne 12, 3) := by decide +kernel
theorem dX8_matrix_193 : decode cX8_matrix 193 = .ok (.aload_n 0, 1) := by decide +kernel
theorem dX8_matrix_194 : decode cX8_matrix 194 = .ok (.getfield 344, 3) := by decide +kernel
theorem dX8_matrix_197 : decode cX8_matrix 197 = .ok (.iload 4, 2) := by decide +kernel
theorem dX8_matrix_199 : decode cX8_matrix 199 = .ok (.if_icmp .eq 7, 3) := by decide +kernel
theorem dX8_matrix_202 : decode cX8_matrix 202 = .ok (.iconst 1, 1) := by decide +kernel
theorem dX8_matrix_203 : decode cX8_matrix 203 = .ok (.goto 4, 3) := by decide +kernel
theorem dX8_matrix_206 : decode cX8_matrix 206 = .ok (.iconst 0, 1) := by decide +kernel
theorem dX8_matrix_207 : decode cX8_matrix 207 = .ok (.bastore, 1) := by decide +kernel
theorem dX8_matrix_208 : decode cX8_matrix 208 = .ok (.iinc 5 1, 3) := by decide +kernel
theorem dX8_matrix_211 : decode cX8_matrix 211 = .ok (.goto (-115), 3) := by decide +kernel
theorem dX8_matrix_214 : decode cX8_matrix 214 = .ok (.iinc 2 1, 3) := by decide +kernel
theorem dX8_matrix_217 : decode cX8_matrix 217 = .ok (.goto (-195), 3) := by decide +kernel
theorem dX8_matrix_220 : decode cX8_matrix 220 = .ok (.aload_n 0, 1) := by decide +kernel
theorem dX8_matrix_221 : decode cX8_matrix 221 = .ok (.iconst 1, 1) := by decide +kernel
theorem dX8_matrix_222 : decode cX8_matrix 222 = .ok (.putfield 271, 3) := by decide +kernel
theorem dX8_matrix_225 : decode cX8_matrix 225 = .ok (.iload_n 1, 1) := by decide +kernel
theorem dX8_matrix_226 : decode cX8_matrix 226 = .ok (.ireturn, 1) := by decide +kernel
theorem dX8_fault_0 : decode cX8_fault 0 = .ok (.aload_n 0, 1) := by decide +kernel
theorem dX8_fault_1 : decode cX8_fault 1 = .ok (.getfield 271, 3) := by decide +kernel
theorem dX8_fault_4 : decode cX8_fault 4 = .ok (.ifCond .ne 7, 3) := by decide +kernel
theorem dX8_fault_7 : decode cX8_fault 7 = .ok (.iconst 1, 1) := by decide +kernel
theorem dX8_fault_8 : decode cX8_fault 8 = .ok (.goto 33, 3) := by decide +kernel
theorem dX8_fault_11 : decode cX8_fault 11 = .ok (.iload_n 1, 1) := by decide +kernel
theorem dX8_fault_12 : decode cX8_fault 12 = .ok (.iconst 1, 1) := by decide +kernel
theorem dX8_fault_13 : decode cX8_fault 13 = .ok (.if_icmp .lt 23, 3) := by decide +kernel
theorem dX8_fault_16 : decode cX8_fault 16 = .ok (.iload_n 1, 1) := by decide +kernel
theorem dX8_fault_17 : decode cX8_fault 17 = .ok (.aload_n 0, 1) := by decide +kernel
theorem dX8_fault_18 : decode cX8_fault 18 = .ok (.getfield 262, 3) := by decide +kernel
theorem dX8_fault_21 : decode cX8_fault 21 = .ok (.if_icmp .gt 15, 3) := by decide +kernel
theorem dX8_fault_24 : decode cX8_fault 24 = .ok (.iload_n 2, 1) := by decide +kernel
theorem dX8_fault_25 : decode cX8_fault 25 = .ok (.ifCond .lt 11, 3) := by decide +kernel
theorem dX8_fault_28 : decode cX8_fault 28 = .ok (.iload_n 2, 1) := by decide +kernel
theorem dX8_fault_29 : decode cX8_fault 29 = .ok (.aload_n 0, 1) := by decide +kernel
theorem dX8_fault_30 : decode cX8_fault 30 = .ok (.getfield 268, 3) := by decide +kernel
theorem dX8_fault_33 : decode cX8_fault 33 = .ok (.if_icmp .lt 7, 3) := by decide +kernel
theorem dX8_fault_36 : decode cX8_fault 36 = .ok (.iconst 2, 1) := by decide +kernel
theorem dX8_fault_37 : decode cX8_fault 37 = .ok (.goto 4, 3) := by decide +kernel
theorem dX8_fault_40 : decode cX8_fault 40 = .ok (.iconst 0, 1) := by decide +kernel
theorem dX8_fault_41 : decode cX8_fault 41 = .ok (.ireturn, 1) := by decide +kernel
theorem dX8_killed_0 : decode cX8_killed 0 = .ok (.aload_n 0, 1) := by decide +kernel
theorem dX8_killed_1 : decode cX8_killed 1 = .ok (.aload_n 0, 1) := by decide +kernel
theorem dX8_killed_2 : decode cX8_killed 2 = .ok (.iload_n 1, 1) := by decide +kernel
theorem dX8_killed_3 : decode cX8_killed 3 = .ok (.iload_n 2, 1) := by decide +kernel
theorem dX8_killed_4 : decode cX8_killed 4 = .ok (.invokevirtual 378, 3) := by decide +kernel
theorem dX8_killed_7 : decode cX8_killed 7 = .ok (.putfield 126, 3) := by decide +kernel
theorem dX8_killed_10 : decode cX8_killed 10 = .ok (.aload_n 0, 1) := by decide +kernel
theorem dX8_killed_11 : decode cX8_killed 11 = .ok (.getfield 126, 3) := by decide +kernel
theorem dX8_killed_14 : decode cX8_killed 14 = .ok (.ifCond .ne 35, 3) := by decide +kernel
theorem dX8_killed_17 : decode cX8_killed 17 = .ok (.aload_n 0, 1) := by decide +kernel
theorem dX8_killed_18 : decode cX8_killed 18 = .ok (.getfield 70, 3) := by decide +kernel
theorem dX8_killed_21 : decode cX8_killed 21 = .ok (.iload_n 1, 1) := by decide +kernel
theorem dX8_killed_22 : decode cX8_killed 22 = .ok (.iaload, 1) := by decide +kernel
theorem dX8_killed_23 : decode cX8_killed 23 = .ok (.ifCond .le 26, 3) := by decide +kernel
theorem dX8_killed_26 : decode cX8_killed 26 = .ok (.aload_n 0, 1) := by decide +kernel
theorem dX8_killed_27 : decode cX8_killed 27 = .ok (.getfield 120, 3) := by decide +kernel
theorem dX8_killed_30 : decode cX8_killed 30 = .ok (.bipush 121, 2) := by decide +kernel
theorem dX8_killed_32 : decode cX8_killed 32 = .ok (.iload_n 2, 1) := by decide +kernel
theorem dX8_killed_33 : decode cX8_killed 33 = .ok (.imul, 1) := by decide +kernel
theorem dX8_killed_34 : decode cX8_killed 34 = .ok (.aload_n 0, 1) := by decide +kernel
theorem dX8_killed_35 : decode cX8_killed 35 = .ok (.getfield 70, 3) := by decide +kernel
theorem dX8_killed_38 : decode cX8_killed 38 = .ok (.iload_n 1, 1) := by decide +kernel
theorem dX8_killed_39 : decode cX8_killed 39 = .ok (.iaload, 1) := by decide +kernel
theorem dX8_killed_40 : decode cX8_killed 40 = .ok (.iadd, 1) := by decide +kernel
theorem dX8_killed_41 : decode cX8_killed 41 = .ok (.baload, 1) := by decide +kernel
theorem dX8_killed_42 : decode cX8_killed 42 = .ok (.ifCond .eq 7, 3) := by decide +kernel
theorem dX8_killed_45 : decode cX8_killed 45 = .ok (.iconst 1, 1) := by decide +kernel
theorem dX8_killed_46 : decode cX8_killed 46 = .ok (.goto 4, 3) := by decide +kernel
theorem dX8_killed_49 : decode cX8_killed 49 = .ok (.iconst 0, 1) := by decide +kernel
theorem dX8_killed_50 : decode cX8_killed 50 = .ok (.ireturn, 1) := by decide +kernel
theorem dX8_reached_0 : decode cX8_reached 0 = .ok (.aload_n 0, 1) := by decide +kernel
theorem dX8_reached_1 : decode cX8_reached 1 = .ok (.aload_n 0, 1) := by decide +kernel
theorem dX8_reached_2 : decode cX8_reached 2 = .ok (.iload_n 1, 1) := by decide +kernel
theorem dX8_reached_3 : decode cX8_reached 3 = .ok (.iload_n 2, 1) := by decide +kernel
theorem dX8_reached_4 : decode cX8_reached 4 = .ok (.invokevirtual 378, 3) := by decide +kernel
theorem dX8_reached_7 : decode cX8_reached 7 = .ok (.putfield 126, 3) := by decide +kernel
theorem dX8_reached_10 : decode cX8_reached 10 = .ok (.aload_n 0, 1) := by decide +kernel
theorem dX8_reached_11 : decode cX8_reached 11 = .ok (.getfield 126, 3) := by decide +kernel
theorem dX8_reached_14 : decode cX8_reached 14 = .ok (.ifCond .ne 26, 3) := by decide +kernel
theorem dX8_reached_17 : decode cX8_reached 17 = .ok (.aload_n 0, 1) := by decide +kernel
theorem dX8_reached_18 : decode cX8_reached 18 = .ok (.getfield 123, 3) := by decide +kernel
theorem dX8_reached_21 : decode cX8_reached 21 = .ok (.bipush 60, 2) := by decide +kernel
theorem dX8_reached_23 : decode cX8_reached 23 = .ok (.iload_n 2, 1) := by decide +kernel
theorem dX8_reached_24 : decode cX8_reached 24 = .ok (.imul, 1) := by decide +kernel
theorem dX8_reached_25 : decode cX8_reached 25 = .ok (.aload_n 0, 1) := by decide +kernel
theorem dX8_reached_26 : decode cX8_reached 26 = .ok (.getfield 61, 3) := by decide +kernel
theorem dX8_reached_29 : decode cX8_reached 29 = .ok (.iload_n 1, 1) := by decide +kernel
theorem dX8_reached_30 : decode cX8_reached 30 = .ok (.iaload, 1) := by decide +kernel
theorem dX8_reached_31 : decode cX8_reached 31 = .ok (.iadd, 1) := by decide +kernel
theorem dX8_reached_32 : decode cX8_reached 32 = .ok (.baload, 1) := by decide +kernel
theorem dX8_reached_33 : decode cX8_reached 33 = .ok (.ifCond .eq 7, 3) := by decide +kernel
theorem dX8_reached_36 : decode cX8_reached 36 = .ok (.iconst 1, 1) := by decide +kernel
theorem dX8_reached_37 : decode cX8_reached 37 = .ok (.goto 4, 3) := by decide +kernel
theorem dX8_reached_40 : decode cX8_reached 40 = .ok (.iconst 0, 1) := by decide +kernel
theorem dX8_reached_41 : decode cX8_reached 41 = .ok (.ireturn, 1) := by decide +kernel
theorem dX8_score_0 : decode cX8_score 0 = .ok (.aload_n 0, 1) := by decide +kernel
theorem dX8_score_1 : decode cX8_score 1 = .ok (.aload_n 0, 1) := by decide +kernel
theorem dX8_score_2 : decode cX8_score 2 = .ok (.getfield 271, 3) := by decide +kernel
theorem dX8_score_5 : decode cX8_score 5 = .ok (.ifCond .ne 7, 3) := by decide +kernel
theorem dX8_score_8 : decode cX8_score 8 = .ok (.iconst 1, 1) := by decide +kernel
theorem dX8_score_9 : decode cX8_score 9 = .ok (.goto 17, 3) := by decide +kernel
theorem dX8_score_12 : decode cX8_score 12 = .ok (.iload_n 1, 1) := by decide +kernel
theorem dX8_score_13 : decode cX8_score 13 = .ok (.ifCond .eq 12, 3) := by decide +kernel
theorem dX8_score_16 : decode cX8_score 16 = .ok (.iload_n 1, 1) := by decide +kernel
theorem dX8_score_17 : decode cX8_score 17 = .ok (.iconst 1, 1) := by decide +kernel
theorem dX8_score_18 : decode cX8_score 18 = .ok (.if_icmp .eq 7, 3) := by decide +kernel
theorem dX8_score_21 : decode cX8_score 21 = .ok (.iconst 2, 1) := by decide +kernel
theorem dX8_score_22 : decode cX8_score 22 = .ok (.goto 4, 3) := by decide +kernel
theorem dX8_score_25 : decode cX8_score 25 = .ok (.iconst 0, 1) := by decide +kernel
theorem dX8_score_26 : decode cX8_score 26 = .ok (.putfield 126, 3) := by decide +kernel
theorem dX8_score_29 : decode cX8_score 29 = .ok (.aload_n 0, 1) := by decide +kernel
theorem dX8_score_30 : decode cX8_score 30 = .ok (.getfield 126, 3) := by decide +kernel
theorem dX8_score_33 : decode cX8_score 33 = .ok (.ifCond .le 5, 3) := by decide +kernel
theorem dX8_score_36 : decode cX8_score 36 = .ok (.iconst 0, 1) := by decide +kernel
theorem dX8_score_37 : decode cX8_score 37 = .ok (.ireturn, 1) := by decide +kernel
theorem dX8_score_38 : decode cX8_score 38 = .ok (.iconst 0, 1) := by decide +kernel
theorem dX8_score_39 : decode cX8_score 39 = .ok (.istore_n 2, 1) := by decide +kernel
theorem dX8_score_40 : decode cX8_score 40 = .ok (.iconst 1, 1) := by decide +kernel
theorem dX8_score_41 : decode cX8_score 41 = .ok (.istore_n 3, 1) := by decide +kernel
theorem dX8_score_42 : decode cX8_score 42 = .ok (.iload_n 3, 1) := by decide +kernel
theorem dX8_score_43 : decode cX8_score 43 = .ok (.aload_n 0, 1) := by decide +kernel
theorem dX8_score_44 : decode cX8_score 44 = .ok (.getfield 262, 3) := by decide +kernel
theorem dX8_score_47 : decode cX8_score 47 = .ok (.if_icmp .gt 83, 3) := by decide +kernel
theorem dX8_score_50 : decode cX8_score 50 = .ok (.iload_n 1, 1) := by decide +kernel
theorem dX8_score_51 : decode cX8_score 51 = .ok (.ifCond .ne 7, 3) := by decide +kernel
theorem dX8_score_54 : decode cX8_score 54 = .ok (.iconst 1, 1) := by decide +kernel
theorem dX8_score_55 : decode cX8_score 55 = .ok (.goto 4, 3) := by decide +kernel
theorem dX8_score_58 : decode cX8_score 58 = .ok (.iconst 0, 1) := by decide +kernel
theorem dX8_score_59 : decode cX8_score 59 = .ok (.istore 4, 2) := by decide +kernel
theorem dX8_score_61 : decode cX8_score 61 = .ok (.iconst 0, 1) := by decide +kernel
theorem dX8_score_62 : decode cX8_score 62 = .ok (.istore 5, 2) := by decide +kernel
theorem dX8_score_64 : decode cX8_score 64 = .ok (.iload 5, 2) := by decide +kernel
theorem dX8_score_66 : decode cX8_score 66 = .ok (.aload_n 0, 1) := by decide +kernel
theorem dX8_score_67 : decode cX8_score 67 = .ok (.getfield 268, 3) := by decide +kernel
theorem dX8_score_70 : decode cX8_score 70 = .ok (.if_icmp .ge 36, 3) := by decide +kernel
theorem dX8_score_73 : decode cX8_score 73 = .ok (.iload 4, 2) := by decide +kernel
theorem dX8_score_75 : decode cX8_score 75 = .ok (.ifCond .ne 18, 3) := by decide +kernel
theorem dX8_score_78 : decode cX8_score 78 = .ok (.aload_n 0, 1) := by decide +kernel
theorem dX8_score_79 : decode cX8_score 79 = .ok (.getfield 120, 3) := by decide +kernel
theorem dX8_score_82 : decode cX8_score 82 = .ok (.bipush 121, 2) := by decide +kernel
theorem dX8_score_84 : decode cX8_score 84 = .ok (.iload 5, 2) := by decide +kernel
theorem dX8_score_86 : decode cX8_score 86 = .ok (.imul, 1) := by decide +kernel
theorem dX8_score_87 : decode cX8_score 87 = .ok (.iload_n 3, 1) := by decide +kernel
theorem dX8_score_88 : decode cX8_score 88 = .ok (.iadd, 1) := by decide +kernel
theorem dX8_score_89 : decode cX8_score 89 = .ok (.baload, 1) := by decide +kernel
theorem dX8_score_90 : decode cX8_score 90 = .ok (.ifCond .eq 7, 3) := by decide +kernel
theorem dX8_score_93 : decode cX8_score 93 = .ok (.iconst 1, 1) := by decide +kernel
theorem dX8_score_94 : decode cX8_score 94 = .ok (.goto 4, 3) := by decide +kernel
theorem dX8_score_97 : decode cX8_score 97 = .ok (.iconst 0, 1) := by decide +kernel
theorem dX8_score_98 : decode cX8_score 98 = .ok (.istore 4, 2) := by decide +kernel
theorem dX8_score_100 : decode cX8_score 100 = .ok (.iinc 5 1, 3) := by decide +kernel
theorem dX8_score_103 : decode cX8_score 103 = .ok (.goto (-39), 3) := by decide +kernel
theorem dX8_score_106 : decode cX8_score 106 = .ok (.aload_n 0, 1) := by decide +kernel
theorem dX8_score_107 : decode cX8_score 107 = .ok (.getfield 70, 3) := by decide +kernel
theorem dX8_score_110 : decode cX8_score 110 = .ok (.iload_n 3, 1) := by decide +kernel
theorem dX8_score_111 : decode cX8_score 111 = .ok (.iaload, 1) := by decide +kernel
theorem dX8_score_112 : decode cX8_score 112 = .ok (.iload_n 3, 1) := by decide +kernel
theorem dX8_score_113 : decode cX8_score 113 = .ok (.if_icmp .ne 11, 3) := by decide +kernel
theorem dX8_score_116 : decode cX8_score 116 = .ok (.iload 4, 2) := by decide +kernel
theorem dX8_score_118 : decode cX8_score 118 = .ok (.ifCond .eq 6, 3) := by decide +kernel
theorem dX8_score_121 : decode cX8_score 121 = .ok (.iinc 2 1, 3) := by decide +kernel
theorem dX8_score_124 : decode cX8_score 124 = .ok (.iinc 3 1, 3) := by decide +kernel
theorem dX8_score_127 : decode cX8_score 127 = .ok (.goto (-85), 3) := by decide +kernel
theorem dX8_score_130 : decode cX8_score 130 = .ok (.iload_n 2, 1) := by decide +kernel
theorem dX8_score_131 : decode cX8_score 131 = .ok (.ireturn, 1) := by decide +kernel
theorem dJ11_isValidCodePoint_9a6ad_0 : decode cJ11_isValidCodePoint_9a6ad 0 = .ok (.iload_n 0, 1) := by decide +kernel
theorem dJ11_isValidCodePoint_9a6ad_1 : decode cJ11_isValidCodePoint_9a6ad 1 = .ok (.bipush 16, 2) := by decide +kernel
theorem dJ11_isValidCodePoint_9a6ad_3 : decode cJ11_isValidCodePoint_9a6ad 3 = .ok (.iushr, 1) := by decide +kernel
theorem dJ11_isValidCodePoint_9a6ad_4 : decode cJ11_isValidCodePoint_9a6ad 4 = .ok (.istore_n 1, 1) := by decide +kernel
theorem dJ11_isValidCodePoint_9a6ad_5 : decode cJ11_isValidCodePoint_9a6ad 5 = .ok (.iload_n 1, 1) := by decide +kernel
theorem dJ11_isValidCodePoint_9a6ad_6 : decode cJ11_isValidCodePoint_9a6ad 6 = .ok (.bipush 17, 2) := by decide +kernel
theorem dJ11_isValidCodePoint_9a6ad_8 : decode cJ11_isValidCodePoint_9a6ad 8 = .ok (.if_icmp .ge 7, 3) := by decide +kernel
theorem dJ11_isValidCodePoint_9a6ad_11 : decode cJ11_isValidCodePoint_9a6ad 11 = .ok (.iconst 1, 1) := by decide +kernel
theorem dJ11_isValidCodePoint_9a6ad_12 : decode cJ11_isValidCodePoint_9a6ad 12 = .ok (.goto 4, 3) := by decide +kernel
theorem dJ11_isValidCodePoint_9a6ad_15 : decode cJ11_isValidCodePoint_9a6ad 15 = .ok (.iconst 0, 1) := by decide +kernel
theorem dJ11_isValidCodePoint_9a6ad_16 : decode cJ11_isValidCodePoint_9a6ad 16 = .ok (.ireturn, 1) := by decide +kernel
theorem dJ11_highSurrogate_5068e_0 : decode cJ11_highSurrogate_5068e 0 = .ok (.iload_n 0, 1) := by decide +kernel
theorem dJ11_highSurrogate_5068e_1 : decode cJ11_highSurrogate_5068e 1 = .ok (.bipush 10, 2) := by decide +kernel
theorem dJ11_highSurrogate_5068e_3 : decode cJ11_highSurrogate_5068e 3 = .ok (.iushr, 1) := by decide +kernel
theorem dJ11_highSurrogate_5068e_4 : decode cJ11_highSurrogate_5068e 4 = .ok (.ldc 110, 2) := by decide +kernel
theorem dJ11_highSurrogate_5068e_6 : decode cJ11_highSurrogate_5068e 6 = .ok (.iadd, 1) := by decide +kernel
theorem dJ11_highSurrogate_5068e_7 : decode cJ11_highSurrogate_5068e 7 = .ok (.i2c, 1) := by decide +kernel
theorem dJ11_highSurrogate_5068e_8 : decode cJ11_highSurrogate_5068e 8 = .ok (.ireturn, 1) := by decide +kernel
theorem dJ11_lowSurrogate_5068e_0 : decode cJ11_lowSurrogate_5068e 0 = .ok (.iload_n 0, 1) := by decide +kernel
theorem dJ11_lowSurrogate_5068e_1 : decode cJ11_lowSurrogate_5068e 1 = .ok (.sipush 1023, 3) := by decide +kernel
theorem dJ11_lowSurrogate_5068e_4 : decode cJ11_lowSurrogate_5068e 4 = .ok (.iand, 1) := by decide +kernel
theorem dJ11_lowSurrogate_5068e_5 : decode cJ11_lowSurrogate_5068e 5 = .ok (.ldc 76, 2) := by decide +kernel
theorem dJ11_lowSurrogate_5068e_7 : decode cJ11_lowSurrogate_5068e 7 = .ok (.iadd, 1) := by decide +kernel
theorem dJ11_lowSurrogate_5068e_8 : decode cJ11_lowSurrogate_5068e 8 = .ok (.i2c, 1) := by decide +kernel
theorem dJ11_lowSurrogate_5068e_9 : decode cJ11_lowSurrogate_5068e 9 = .ok (.ireturn, 1) := by decide +kernel
theorem dJ9_max_7cf53_0 : decode cJ9_max_7cf53 0 = .ok (.iload_n 0, 1) := by decide +kernel
theorem dJ9_max_7cf53_1 : decode cJ9_max_7cf53 1 = .ok (.iload_n 1, 1) := by decide +kernel
theorem dJ9_max_7cf53_2 : decode cJ9_max_7cf53 2 = .ok (.if_icmp .lt 7, 3) := by decide +kernel
theorem dJ9_max_7cf53_5 : decode cJ9_max_7cf53 5 = .ok (.iload_n 0, 1) := by decide +kernel
theorem dJ9_max_7cf53_6 : decode cJ9_max_7cf53 6 = .ok (.goto 4, 3) := by decide +kernel
theorem dJ9_max_7cf53_9 : decode cJ9_max_7cf53 9 = .ok (.iload_n 1, 1) := by decide +kernel
theorem dJ9_max_7cf53_10 : decode cJ9_max_7cf53 10 = .ok (.ireturn, 1) := by decide +kernel
theorem dJ9_min_7cf53_0 : decode cJ9_min_7cf53 0 = .ok (.iload_n 0, 1) := by decide +kernel
theorem dJ9_min_7cf53_1 : decode cJ9_min_7cf53 1 = .ok (.iload_n 1, 1) := by decide +kernel
theorem dJ9_min_7cf53_2 : decode cJ9_min_7cf53 2 = .ok (.if_icmp .gt 7, 3) := by decide +kernel
theorem dJ9_min_7cf53_5 : decode cJ9_min_7cf53 5 = .ok (.iload_n 0, 1) := by decide +kernel
theorem dJ9_min_7cf53_6 : decode cJ9_min_7cf53 6 = .ok (.goto 4, 3) := by decide +kernel
theorem dJ9_min_7cf53_9 : decode cJ9_min_7cf53 9 = .ok (.iload_n 1, 1) := by decide +kernel
theorem dJ9_min_7cf53_10 : decode cJ9_min_7cf53 10 = .ok (.ireturn, 1) := by decide +kernel
theorem dJ0_length_8abf5_0 : decode cJ0_length_8abf5 0 = .ok (.aload_n 0, 1) := by decide +kernel
theorem dJ0_length_8abf5_1 : decode cJ0_length_8abf5 1 = .ok (.getfield 9, 3) := by decide +kernel
theorem dJ0_length_8abf5_4 : decode cJ0_length_8abf5 4 = .ok (.arraylength, 1) := by decide +kernel
theorem dJ0_length_8abf5_5 : decode cJ0_length_8abf5 5 = .ok (.aload_n 0, 1) := by decide +kernel
theorem dJ0_length_8abf5_6 : decode cJ0_length_8abf5 6 = .ok (.invokevirtual 335, 3) := by decide +kernel
theorem dJ0_length_8abf5_9 : decode cJ0_length_8abf5 9 = .ok (.ishr, 1) := by decide +kernel
theorem dJ0_length_8abf5_10 : decode cJ0_length_8abf5 10 = .ok (.ireturn, 1) := by decide +kernel
theorem dJ0_charAt_5068e_0 : decode cJ0_charAt_5068e 0 = .ok (.aload_n 0, 1) := by decide +kernel
theorem dJ0_charAt_5068e_1 : decode cJ0_charAt_5068e 1 = .ok (.invokevirtual 492, 3) := by decide +kernel
theorem dJ0_charAt_5068e_4 : decode cJ0_charAt_5068e 4 = .ok (.ifCond .eq 12, 3) := by decide +kernel
theorem dJ0_charAt_5068e_7 : decode cJ0_charAt_5068e 7 = .ok (.aload_n 0, 1) := by decide +kernel
theorem dJ0_charAt_5068e_8 : decode cJ0_charAt_5068e 8 = .ok (.getfield 9, 3) := by decide +kernel
theorem dJ0_charAt_5068e_11 : decode cJ0_charAt_5068e 11 = .ok (.iload_n 1, 1) := by decide +kernel
theorem dJ0_charAt_5068e_12 : decode cJ0_charAt_5068e 12 = .ok (.invokestatic 495, 3) := by decide +kernel
theorem dJ0_charAt_5068e_15 : decode cJ0_charAt_5068e 15 = .ok (.ireturn, 1) := by decide +kernel
theorem dJ0_charAt_5068e_16 : decode cJ0_charAt_5068e 16 = .ok (.aload_n 0, 1) := by decide +kernel
theorem dJ0_charAt_5068e_17 : decode cJ0_charAt_5068e 17 = .ok (.getfield 9, 3) := by decide +kernel
theorem dJ0_charAt_5068e_20 : decode cJ0_charAt_5068e 20 = .ok (.iload_n 1, 1) := by decide +kernel
theorem dJ0_charAt_5068e_21 : decode cJ0_charAt_5068e 21 = .ok (.invokestatic 498, 3) := by decide +kernel
theorem dJ0_charAt_5068e_24 : decode cJ0_charAt_5068e 24 = .ok (.ireturn, 1) := by decide +kernel
theorem dJ0_indexOf_0f7a4_0 : decode cJ0_indexOf_0f7a4 0 = .ok (.aload_n 0, 1) := by decide +kernel
theorem dJ0_indexOf_0f7a4_1 : decode cJ0_indexOf_0f7a4 1 = .ok (.iload_n 1, 1) := by decide +kernel
theorem dJ0_indexOf_0f7a4_2 : decode cJ0_indexOf_0f7a4 2 = .ok (.iconst 0, 1) := by decide +kernel
theorem dJ0_indexOf_0f7a4_3 : decode cJ0_indexOf_0f7a4 3 = .ok (.invokevirtual 633, 3) := by decide +kernel
theorem dJ0_indexOf_0f7a4_6 : decode cJ0_indexOf_0f7a4 6 = .ok (.ireturn, 1) := by decide +kernel
theorem dJ0_indexOf_7cf53_0 : decode cJ0_indexOf_7cf53 0 = .ok (.aload_n 0, 1) := by decide +kernel
theorem dJ0_indexOf_7cf53_1 : decode cJ0_indexOf_7cf53 1 = .ok (.invokevirtual 492, 3) := by decide +kernel
theorem dJ0_indexOf_7cf53_4 : decode cJ0_indexOf_7cf53 4 = .ok (.ifCond .eq 19, 3) := by decide +kernel
theorem dJ0_indexOf_7cf53_7 : decode cJ0_indexOf_7cf53 7 = .ok (.aload_n 0, 1) := by decide +kernel
theorem dJ0_indexOf_7cf53_8 : decode cJ0_indexOf_7cf53 8 = .ok (.getfield 9, 3) := by decide +kernel
theorem dJ0_indexOf_7cf53_11 : decode cJ0_indexOf_7cf53 11 = .ok (.iload_n 1, 1) := by decide +kernel
theorem dJ0_indexOf_7cf53_12 : decode cJ0_indexOf_7cf53 12 = .ok (.iload_n 2, 1) := by decide +kernel
theorem dJ0_indexOf_7cf53_13 : decode cJ0_indexOf_7cf53 13 = .ok (.aload_n 0, 1) := by decide +kernel
theorem dJ0_indexOf_7cf53_14 : decode cJ0_indexOf_7cf53 14 = .ok (.invokevirtual 505, 3) := by decide +kernel
theorem dJ0_indexOf_7cf53_17 : decode cJ0_indexOf_7cf53 17 = .ok (.invokestatic 637, 3) := by decide +kernel
theorem dJ0_indexOf_7cf53_20 : decode cJ0_indexOf_7cf53 20 = .ok (.goto 16, 3) := by decide +kernel
theorem dJ0_indexOf_7cf53_23 : decode cJ0_indexOf_7cf53 23 = .ok (.aload_n 0, 1) := by decide +kernel
theorem dJ0_indexOf_7cf53_24 : decode cJ0_indexOf_7cf53 24 = .ok (.getfield 9, 3) := by decide +kernel
theorem dJ0_indexOf_7cf53_27 : decode cJ0_indexOf_7cf53 27 = .ok (.iload_n 1, 1) := by decide +kernel
theorem dJ0_indexOf_7cf53_28 : decode cJ0_indexOf_7cf53 28 = .ok (.iload_n 2, 1) := by decide +kernel
theorem dJ0_indexOf_7cf53_29 : decode cJ0_indexOf_7cf53 29 = .ok (.aload_n 0, 1) := by decide +kernel
theorem dJ0_indexOf_7cf53_30 : decode cJ0_indexOf_7cf53 30 = .ok (.invokevirtual 505, 3) := by decide +kernel
theorem dJ0_indexOf_7cf53_33 : decode cJ0_indexOf_7cf53 33 = .ok (.invokestatic 640, 3) := by decide +kernel
theorem dJ0_indexOf_7cf53_36 : decode cJ0_indexOf_7cf53 36 = .ok (.ireturn, 1) := by decide +kernel
theorem dJ0_coder_7d493_0 : decode cJ0_coder_7d493 0 = .ok (.getstatic 38, 3) := by decide +kernel
theorem dJ0_coder_7d493_3 : decode cJ0_coder_7d493 3 = .ok (.ifCond .eq 10, 3) := by decide +kernel
theorem dJ0_coder_7d493_6 : decode cJ0_coder_7d493 6 = .ok (.aload_n 0, 1) := by decide +kernel
theorem dJ0_coder_7d493_7 : decode cJ0_coder_7d493 7 = .ok (.getfield 15, 3) := by decide +kernel
theorem dJ0_coder_7d493_10 : decode cJ0_coder_7d493 10 = .ok (.goto 4, 3) := by decide +kernel
theorem dJ0_coder_7d493_13 : decode cJ0_coder_7d493 13 = .ok (.iconst 1, 1) := by decide +kernel
theorem dJ0_coder_7d493_14 : decode cJ0_coder_7d493 14 = .ok (.ireturn, 1) := by decide +kernel
theorem dJ0_isLatin1_aae02_0 : decode cJ0_isLatin1_aae02 0 = .ok (.getstatic 38, 3) := by decide +kernel
theorem dJ0_isLatin1_aae02_3 : decode cJ0_isLatin1_aae02 3 = .ok (.ifCond .eq 14, 3) := by decide +kernel
theorem dJ0_isLatin1_aae02_6 : decode cJ0_isLatin1_aae02 6 = .ok (.aload_n 0, 1) := by decide +kernel
theorem dJ0_isLatin1_aae02_7 : decode cJ0_isLatin1_aae02 7 = .ok (.getfield 15, 3) := by decide +kernel
theorem dJ0_isLatin1_aae02_10 : decode cJ0_isLatin1_aae02 10 = .ok (.ifCond .ne 7, 3) := by decide +kernel
theorem dJ0_isLatin1_aae02_13 : decode cJ0_isLatin1_aae02 13 = .ok (.iconst 1, 1) := by decide +kernel
theorem dJ0_isLatin1_aae02_14 : decode cJ0_isLatin1_aae02 14 = .ok (.goto 4, 3) := by decide +kernel
theorem dJ0_isLatin1_aae02_17 : decode cJ0_isLatin1_aae02 17 = .ok (.iconst 0, 1) := by decide +kernel
theorem dJ0_isLatin1_aae02_18 : decode cJ0_isLatin1_aae02 18 = .ok (.ireturn, 1) := by decide +kernel
theorem dJ0_checkIndex_df160_0 : decode cJ0_checkIndex_df160 0 = .ok (.iload_n 0, 1) := by decide +kernel
theorem dJ0_checkIndex_df160_1 : decode cJ0_checkIndex_df160 1 = .ok (.iload_n 1, 1) := by decide +kernel
theorem dJ0_checkIndex_df160_2 : decode cJ0_checkIndex_df160 2 = .ok (.getstatic 1053, 3) := by decide +kernel
theorem dJ0_checkIndex_df160_5 : decode cJ0_checkIndex_df160 5 = .ok (.invokestatic 1059, 3) := by decide +kernel
theorem dJ0_checkIndex_df160_8 : decode cJ0_checkIndex_df160 8 = .ok (.pop, 1) := by decide +kernel
theorem dJ0_checkIndex_df160_9 : decode cJ0_checkIndex_df160 9 = .ok (.return_, 1) := by decide +kernel
theorem dJ0_checkBoundsBeginEnd_23922_0 : decode cJ0_checkBoundsBeginEnd_23922 0 = .ok (.iload_n 0, 1) := by decide +kernel
theorem dJ0_checkBoundsBeginEnd_23922_1 : decode cJ0_checkBoundsBeginEnd_23922 1 = .ok (.iload_n 1, 1) := by decide +kernel
theorem dJ0_checkBoundsBeginEnd_23922_2 : decode cJ0_checkBoundsBeginEnd_23922 2 = .ok (.iload_n 2, 1) := by decide +kernel
theorem dJ0_checkBoundsBeginEnd_23922_3 : decode cJ0_checkBoundsBeginEnd_23922 3 = .ok (.getstatic 1053, 3) := by decide +kernel
theorem dJ0_checkBoundsBeginEnd_23922_6 : decode cJ0_checkBoundsBeginEnd_23922 6 = .ok (.invokestatic 1062, 3) := by decide +kernel
theorem dJ0_checkBoundsBeginEnd_23922_9 : decode cJ0_checkBoundsBeginEnd_23922 9 = .ok (.pop, 1) := by decide +kernel
theorem dJ0_checkBoundsBeginEnd_23922_10 : decode cJ0_checkBoundsBeginEnd_23922 10 = .ok (.return_, 1) := by decide +kernel
theorem dJ1_charAt_3b067_0 : decode cJ1_charAt_3b067 0 = .ok (.iload_n 1, 1) := by decide +kernel
theorem dJ1_charAt_3b067_1 : decode cJ1_charAt_3b067 1 = .ok (.aload_n 0, 1) := by decide +kernel
theorem dJ1_charAt_3b067_2 : decode cJ1_charAt_3b067 2 = .ok (.arraylength, 1) := by decide +kernel
theorem dJ1_charAt_3b067_3 : decode cJ1_charAt_3b067 3 = .ok (.invokestatic 9, 3) := by decide +kernel
theorem dJ1_charAt_3b067_6 : decode cJ1_charAt_3b067 6 = .ok (.aload_n 0, 1) := by decide +kernel
theorem dJ1_charAt_3b067_7 : decode cJ1_charAt_3b067 7 = .ok (.iload_n 1, 1) := by decide +kernel
theorem dJ1_charAt_3b067_8 : decode cJ1_charAt_3b067 8 = .ok (.baload, 1) := by decide +kernel
theorem dJ1_charAt_3b067_9 : decode cJ1_charAt_3b067 9 = .ok (.sipush 255, 3) := by decide +kernel
theorem dJ1_charAt_3b067_12 : decode cJ1_charAt_3b067 12 = .ok (.iand, 1) := by decide +kernel
theorem dJ1_charAt_3b067_13 : decode cJ1_charAt_3b067 13 = .ok (.i2c, 1) := by decide +kernel
theorem dJ1_charAt_3b067_14 : decode cJ1_charAt_3b067 14 = .ok (.ireturn, 1) := by decide +kernel
theorem dJ1_canEncode_9a6ad_0 : decode cJ1_canEncode_9a6ad 0 = .ok (.iload_n 0, 1) := by decide +kernel
theorem dJ1_canEncode_9a6ad_1 : decode cJ1_canEncode_9a6ad 1 = .ok (.ifCond .lt 14, 3) := by decide +kernel
theorem dJ1_canEncode_9a6ad_4 : decode cJ1_canEncode_9a6ad 4 = .ok (.iload_n 0, 1) := by decide +kernel
theorem dJ1_canEncode_9a6ad_5 : decode cJ1_canEncode_9a6ad 5 = .ok (.sipush 255, 3) := by decide +kernel
theorem dJ1_canEncode_9a6ad_8 : decode cJ1_canEncode_9a6ad 8 = .ok (.if_icmp .gt 7, 3) := by decide +kernel
theorem dJ1_canEncode_9a6ad_11 : decode cJ1_canEncode_9a6ad 11 = .ok (.iconst 1, 1) := by decide +kernel
theorem dJ1_canEncode_9a6ad_12 : decode cJ1_canEncode_9a6ad 12 = .ok (.goto 4, 3) := by decide +kernel
theorem dJ1_canEncode_9a6ad_15 : decode cJ1_canEncode_9a6ad 15 = .ok (.iconst 0, 1) := by decide +kernel
theorem dJ1_canEncode_9a6ad_16 : decode cJ1_canEncode_9a6ad 16 = .ok (.ireturn, 1) := by decide +kernel
theorem dJ1_indexOf_4cfef_0 : decode cJ1_indexOf_4cfef 0 = .ok (.iload_n 1, 1) := by decide +kernel
theorem dJ1_indexOf_4cfef_1 : decode cJ1_indexOf_4cfef 1 = .ok (.invokestatic 88, 3) := by decide +kernel
theorem dJ1_indexOf_4cfef_4 : decode cJ1_indexOf_4cfef 4 = .ok (.ifCond .ne 5, 3) := by decide +kernel
theorem dJ1_indexOf_4cfef_7 : decode cJ1_indexOf_4cfef 7 = .ok (.iconst (-1), 1) := by decide +kernel
theorem dJ1_indexOf_4cfef_8 : decode cJ1_indexOf_4cfef 8 = .ok (.ireturn, 1) := by decide +kernel
theorem dJ1_indexOf_4cfef_9 : decode cJ1_indexOf_4cfef 9 = .ok (.iload_n 2, 1) := by decide +kernel
theorem dJ1_indexOf_4cfef_10 : decode cJ1_indexOf_4cfef 10 = .ok (.iconst 0, 1) := by decide +kernel
theorem dJ1_indexOf_4cfef_11 : decode cJ1_indexOf_4cfef 11 = .ok (.invokestatic 92, 3) := by decide +kernel
theorem dJ1_indexOf_4cfef_14 : decode cJ1_indexOf_4cfef 14 = .ok (.istore_n 2, 1) := by decide +kernel
theorem dJ1_indexOf_4cfef_15 : decode cJ1_indexOf_4cfef 15 = .ok (.iload_n 3, 1) := by decide +kernel
theorem dJ1_indexOf_4cfef_16 : decode cJ1_indexOf_4cfef 16 = .ok (.aload_n 0, 1) := by decide +kernel
theorem dJ1_indexOf_4cfef_17 : decode cJ1_indexOf_4cfef 17 = .ok (.arraylength, 1) := by decide +kernel
theorem dJ1_indexOf_4cfef_18 : decode cJ1_indexOf_4cfef 18 = .ok (.invokestatic 38, 3) := by decide +kernel
theorem dJ1_indexOf_4cfef_21 : decode cJ1_indexOf_4cfef 21 = .ok (.istore_n 3, 1) := by decide +kernel
theorem dJ1_indexOf_4cfef_22 : decode cJ1_indexOf_4cfef 22 = .ok (.iload_n 2, 1) := by decide +kernel
theorem dJ1_indexOf_4cfef_23 : decode cJ1_indexOf_4cfef 23 = .ok (.iload_n 3, 1) := by decide +kernel
theorem dJ1_indexOf_4cfef_24 : decode cJ1_indexOf_4cfef 24 = .ok (.if_icmp .lt 5, 3) := by decide +kernel
theorem dJ1_indexOf_4cfef_27 : decode cJ1_indexOf_4cfef 27 = .ok (.iconst (-1), 1) := by decide +kernel
theorem dJ1_indexOf_4cfef_28 : decode cJ1_indexOf_4cfef 28 = .ok (.ireturn, 1) := by decide +kernel
theorem dJ1_indexOf_4cfef_29 : decode cJ1_indexOf_4cfef 29 = .ok (.aload_n 0, 1) := by decide +kernel
theorem dJ1_indexOf_4cfef_30 : decode cJ1_indexOf_4cfef 30 = .ok (.iload_n 1, 1) := by decide +kernel
theorem dJ1_indexOf_4cfef_31 : decode cJ1_indexOf_4cfef 31 = .ok (.iload_n 2, 1) := by decide +kernel
theorem dJ1_indexOf_4cfef_32 : decode cJ1_indexOf_4cfef 32 = .ok (.iload_n 3, 1) := by decide +kernel
theorem dJ1_indexOf_4cfef_33 : decode cJ1_indexOf_4cfef 33 = .ok (.invokestatic 95, 3) := by decide +kernel
theorem dJ1_indexOf_4cfef_36 : decode cJ1_indexOf_4cfef 36 = .ok (.ireturn, 1) := by decide +kernel
theorem dJ1_indexOfChar_4cfef_0 : decode cJ1_indexOfChar_4cfef 0 = .ok (.iload_n 1, 1) := by decide +kernel
theorem dJ1_indexOfChar_4cfef_1 : decode cJ1_indexOfChar_4cfef 1 = .ok (.i2b, 1) := by decide +kernel
theorem dJ1_indexOfChar_4cfef_2 : decode cJ1_indexOfChar_4cfef 2 = .ok (.istore 4, 2) := by decide +kernel
theorem dJ1_indexOfChar_4cfef_4 : decode cJ1_indexOfChar_4cfef 4 = .ok (.iload_n 2, 1) := by decide +kernel
theorem dJ1_indexOfChar_4cfef_5 : decode cJ1_indexOfChar_4cfef 5 = .ok (.istore 5, 2) := by decide +kernel
theorem dJ1_indexOfChar_4cfef_7 : decode cJ1_indexOfChar_4cfef 7 = .ok (.iload 5, 2) := by decide +kernel
theorem dJ1_indexOfChar_4cfef_9 : decode cJ1_indexOfChar_4cfef 9 = .ok (.iload_n 3, 1) := by decide +kernel
theorem dJ1_indexOfChar_4cfef_10 : decode cJ1_indexOfChar_4cfef 10 = .ok (.if_icmp .ge 21, 3) := by decide +kernel
theorem dJ1_indexOfChar_4cfef_13 : decode cJ1_indexOfChar_4cfef 13 = .ok (.aload_n 0, 1) := by decide +kernel
theorem dJ1_indexOfChar_4cfef_14 : decode cJ1_indexOfChar_4cfef 14 = .ok (.iload 5, 2) := by decide +kernel
theorem dJ1_indexOfChar_4cfef_16 : decode cJ1_indexOfChar_4cfef 16 = .ok (.baload, 1) := by decide +kernel
theorem dJ1_indexOfChar_4cfef_17 : decode cJ1_indexOfChar_4cfef 17 = .ok (.iload 4, 2) := by decide +kernel
theorem dJ1_indexOfChar_4cfef_19 : decode cJ1_indexOfChar_4cfef 19 = .ok (.if_icmp .ne 6, 3) := by decide +kernel
theorem dJ1_indexOfChar_4cfef_22 : decode cJ1_indexOfChar_4cfef 22 = .ok (.iload 5, 2) := by decide +kernel
theorem dJ1_indexOfChar_4cfef_24 : decode cJ1_indexOfChar_4cfef 24 = .ok (.ireturn, 1) := by decide +kernel
theorem dJ1_indexOfChar_4cfef_25 : decode cJ1_indexOfChar_4cfef 25 = .ok (.iinc 5 1, 3) := by decide +kernel
theorem dJ1_indexOfChar_4cfef_28 : decode cJ1_indexOfChar_4cfef 28 = .ok (.goto (-21), 3) := by decide +kernel
theorem dJ1_indexOfChar_4cfef_31 : decode cJ1_indexOfChar_4cfef 31 = .ok (.iconst (-1), 1) := by decide +kernel
theorem dJ1_indexOfChar_4cfef_32 : decode cJ1_indexOfChar_4cfef 32 = .ok (.ireturn, 1) := by decide +kernel
theorem dJ2_getChar_3b067_0 : decode cJ2_getChar_3b067 0 = .ok (.getstatic 44, 3) := by decide +kernel
theorem dJ2_getChar_3b067_3 : decode cJ2_getChar_3b067 3 = .ok (.ifCond .ne 25, 3) := by decide +kernel
theorem dJ2_getChar_3b067_6 : decode cJ2_getChar_3b067 6 = .ok (.iload_n 1, 1) := by decide +kernel
theorem dJ2_getChar_3b067_7 : decode cJ2_getChar_3b067 7 = .ok (.ifCond .lt 11, 3) := by decide +kernel
theorem dJ2_getChar_3b067_10 : decode cJ2_getChar_3b067 10 = .ok (.iload_n 1, 1) := by decide +kernel
theorem dJ2_getChar_3b067_11 : decode cJ2_getChar_3b067 11 = .ok (.aload_n 0, 1) := by decide +kernel
theorem dJ2_getChar_3b067_12 : decode cJ2_getChar_3b067 12 = .ok (.invokestatic 48, 3) := by decide +kernel
theorem dJ2_getChar_3b067_15 : decode cJ2_getChar_3b067 15 = .ok (.if_icmp .lt 13, 3) := by decide +kernel
theorem dJ2_getChar_3b067_18 : decode cJ2_getChar_3b067 18 = .ok (.new 52, 3) := by decide +kernel
theorem dJ2_getChar_3b067_21 : decode cJ2_getChar_3b067 21 = .ok (.dup, 1) := by decide +kernel
theorem dJ2_getChar_3b067_22 : decode cJ2_getChar_3b067 22 = .ok (.ldc 54, 2) := by decide +kernel
theorem dJ2_getChar_3b067_24 : decode cJ2_getChar_3b067 24 = .ok (.invokespecial 56, 3) := by decide +kernel
theorem dJ2_getChar_3b067_27 : decode cJ2_getChar_3b067 27 = .ok (.athrow, 1) := by decide +kernel
theorem dJ2_getChar_3b067_28 : decode cJ2_getChar_3b067 28 = .ok (.iload_n 1, 1) := by decide +kernel
theorem dJ2_getChar_3b067_29 : decode cJ2_getChar_3b067 29 = .ok (.iconst 1, 1) := by decide +kernel
theorem dJ2_getChar_3b067_30 : decode cJ2_getChar_3b067 30 = .ok (.ishl, 1) := by decide +kernel
theorem dJ2_getChar_3b067_31 : decode cJ2_getChar_3b067 31 = .ok (.istore_n 1, 1) := by decide +kernel
theorem dJ2_getChar_3b067_32 : decode cJ2_getChar_3b067 32 = .ok (.aload_n 0, 1) := by decide +kernel
theorem dJ2_getChar_3b067_33 : decode cJ2_getChar_3b067 33 = .ok (.iload_n 1, 1) := by decide +kernel
theorem dJ2_getChar_3b067_34 : decode cJ2_getChar_3b067 34 = .ok (.iinc 1 1, 3) := by decide +kernel
theorem dJ2_getChar_3b067_37 : decode cJ2_getChar_3b067 37 = .ok (.baload, 1) := by decide +kernel
theorem dJ2_getChar_3b067_38 : decode cJ2_getChar_3b067 38 = .ok (.sipush 255, 3) := by decide +kernel
theorem dJ2_getChar_3b067_41 : decode cJ2_getChar_3b067 41 = .ok (.iand, 1) := by decide +kernel
theorem dJ2_getChar_3b067_42 : decode cJ2_getChar_3b067 42 = .ok (.getstatic 59, 3) := by decide +kernel
theorem dJ2_getChar_3b067_45 : decode cJ2_getChar_3b067 45 = .ok (.ishl, 1) := by decide +kernel
theorem dJ2_getChar_3b067_46 : decode cJ2_getChar_3b067 46 = .ok (.aload_n 0, 1) := by decide +kernel
theorem dJ2_getChar_3b067_47 : decode cJ2_getChar_3b067 47 = .ok (.iload_n 1, 1) := by decide +kernel
theorem dJ2_getChar_3b067_48 : decode cJ2_getChar_3b067 48 = .ok (.baload, 1) := by decide +kernel
theorem dJ2_getChar_3b067_49 : decode cJ2_getChar_3b067 49 = .ok (.sipush 255, 3) := by decide +kernel
theorem dJ2_getChar_3b067_52 : decode cJ2_getChar_3b067 52 = .ok (.iand, 1) := by decide +kernel
theorem dJ2_getChar_3b067_53 : decode cJ2_getChar_3b067 53 = .ok (.getstatic 63, 3) := by decide +kernel
theorem dJ2_getChar_3b067_56 : decode cJ2_getChar_3b067 56 = .ok (.ishl, 1) := by decide +kernel
theorem dJ2_getChar_3b067_57 : decode cJ2_getChar_3b067 57 = .ok (.ior, 1) := by decide +kernel
theorem dJ2_getChar_3b067_58 : decode cJ2_getChar_3b067 58 = .ok (.i2c, 1) := by decide +kernel
theorem dJ2_getChar_3b067_59 : decode cJ2_getChar_3b067 59 = .ok (.ireturn, 1) := by decide +kernel
theorem dJ2_length_9d52b_0 : decode cJ2_length_9d52b 0 = .ok (.aload_n 0, 1) := by decide +kernel
theorem dJ2_length_9d52b_1 : decode cJ2_length_9d52b 1 = .ok (.arraylength, 1) := by decide +kernel
theorem dJ2_length_9d52b_2 : decode cJ2_length_9d52b 2 = .ok (.iconst 1, 1) := by decide +kernel
theorem dJ2_length_9d52b_3 : decode cJ2_length_9d52b 3 = .ok (.ishr, 1) := by decide +kernel
theorem dJ2_length_9d52b_4 : decode cJ2_length_9d52b 4 = .ok (.ireturn, 1) := by decide +kernel
theorem dJ2_indexOf_4cfef_0 : decode cJ2_indexOf_4cfef 0 = .ok (.iload_n 2, 1) := by decide +kernel
theorem dJ2_indexOf_4cfef_1 : decode cJ2_indexOf_4cfef 1 = .ok (.iconst 0, 1) := by decide +kernel
theorem dJ2_indexOf_4cfef_2 : decode cJ2_indexOf_4cfef 2 = .ok (.invokestatic 224, 3) := by decide +kernel
theorem dJ2_indexOf_4cfef_5 : decode cJ2_indexOf_4cfef 5 = .ok (.istore_n 2, 1) := by decide +kernel
theorem dJ2_indexOf_4cfef_6 : decode cJ2_indexOf_4cfef 6 = .ok (.iload_n 3, 1) := by decide +kernel
theorem dJ2_indexOf_4cfef_7 : decode cJ2_indexOf_4cfef 7 = .ok (.aload_n 0, 1) := by decide +kernel
theorem dJ2_indexOf_4cfef_8 : decode cJ2_indexOf_4cfef 8 = .ok (.arraylength, 1) := by decide +kernel
theorem dJ2_indexOf_4cfef_9 : decode cJ2_indexOf_4cfef 9 = .ok (.iconst 1, 1) := by decide +kernel
theorem dJ2_indexOf_4cfef_10 : decode cJ2_indexOf_4cfef 10 = .ok (.ishr, 1) := by decide +kernel
theorem dJ2_indexOf_4cfef_11 : decode cJ2_indexOf_4cfef 11 = .ok (.invokestatic 183, 3) := by decide +kernel
theorem dJ2_indexOf_4cfef_14 : decode cJ2_indexOf_4cfef 14 = .ok (.istore_n 3, 1) := by decide +kernel
theorem dJ2_indexOf_4cfef_15 : decode cJ2_indexOf_4cfef 15 = .ok (.iload_n 2, 1) := by decide +kernel
theorem dJ2_indexOf_4cfef_16 : decode cJ2_indexOf_4cfef 16 = .ok (.iload_n 3, 1) := by decide +kernel
theorem dJ2_indexOf_4cfef_17 : decode cJ2_indexOf_4cfef 17 = .ok (.if_icmp .lt 5, 3) := by decide +kernel
theorem dJ2_indexOf_4cfef_20 : decode cJ2_indexOf_4cfef 20 = .ok (.iconst (-1), 1) := by decide +kernel
theorem dJ2_indexOf_4cfef_21 : decode cJ2_indexOf_4cfef 21 = .ok (.ireturn, 1) := by decide +kernel
theorem dJ2_indexOf_4cfef_22 : decode cJ2_indexOf_4cfef 22 = .ok (.iload_n 1, 1) := by decide +kernel
theorem dJ2_indexOf_4cfef_23 : decode cJ2_indexOf_4cfef 23 = .ok (.ldc 227, 2) := by decide +kernel
theorem dJ2_indexOf_4cfef_25 : decode cJ2_indexOf_4cfef 25 = .ok (.if_icmp .ge 11, 3) := by decide +kernel
theorem dJ2_indexOf_4cfef_28 : decode cJ2_indexOf_4cfef 28 = .ok (.aload_n 0, 1) := by decide +kernel
theorem dJ2_indexOf_4cfef_29 : decode cJ2_indexOf_4cfef 29 = .ok (.iload_n 1, 1) := by decide +kernel
theorem dJ2_indexOf_4cfef_30 : decode cJ2_indexOf_4cfef 30 = .ok (.iload_n 2, 1) := by decide +kernel
theorem dJ2_indexOf_4cfef_31 : decode cJ2_indexOf_4cfef 31 = .ok (.iload_n 3, 1) := by decide +kernel
theorem dJ2_indexOf_4cfef_32 : decode cJ2_indexOf_4cfef 32 = .ok (.invokestatic 228, 3) := by decide +kernel
theorem dJ2_indexOf_4cfef_35 : decode cJ2_indexOf_4cfef 35 = .ok (.ireturn, 1) := by decide +kernel
theorem dJ2_indexOf_4cfef_36 : decode cJ2_indexOf_4cfef 36 = .ok (.aload_n 0, 1) := by decide +kernel
theorem dJ2_indexOf_4cfef_37 : decode cJ2_indexOf_4cfef 37 = .ok (.iload_n 1, 1) := by decide +kernel
theorem dJ2_indexOf_4cfef_38 : decode cJ2_indexOf_4cfef 38 = .ok (.iload_n 2, 1) := by decide +kernel
theorem dJ2_indexOf_4cfef_39 : decode cJ2_indexOf_4cfef 39 = .ok (.iload_n 3, 1) := by decide +kernel
theorem dJ2_indexOf_4cfef_40 : decode cJ2_indexOf_4cfef 40 = .ok (.invokestatic 232, 3) := by decide +kernel
theorem dJ2_indexOf_4cfef_43 : decode cJ2_indexOf_4cfef 43 = .ok (.ireturn, 1) := by decide +kernel
theorem dJ2_indexOfChar_4cfef_0 : decode cJ2_indexOfChar_4cfef 0 = .ok (.iload_n 2, 1) := by decide +kernel
theorem dJ2_indexOfChar_4cfef_1 : decode cJ2_indexOfChar_4cfef 1 = .ok (.iload_n 3, 1) := by decide +kernel
theorem dJ2_indexOfChar_4cfef_2 : decode cJ2_indexOfChar_4cfef 2 = .ok (.aload_n 0, 1) := by decide +kernel
theorem dJ2_indexOfChar_4cfef_3 : decode cJ2_indexOfChar_4cfef 3 = .ok (.invokestatic 96, 3) := by decide +kernel
theorem dJ2_indexOfChar_4cfef_6 : decode cJ2_indexOfChar_4cfef 6 = .ok (.aload_n 0, 1) := by decide +kernel
theorem dJ2_indexOfChar_4cfef_7 : decode cJ2_indexOfChar_4cfef 7 = .ok (.iload_n 1, 1) := by decide +kernel
theorem dJ2_indexOfChar_4cfef_8 : decode cJ2_indexOfChar_4cfef 8 = .ok (.iload_n 2, 1) := by decide +kernel
theorem dJ2_indexOfChar_4cfef_9 : decode cJ2_indexOfChar_4cfef 9 = .ok (.iload_n 3, 1) := by decide +kernel
theorem dJ2_indexOfChar_4cfef_10 : decode cJ2_indexOfChar_4cfef 10 = .ok (.invokestatic 244, 3) := by decide +kernel
theorem dJ2_indexOfChar_4cfef_13 : decode cJ2_indexOfChar_4cfef 13 = .ok (.ireturn, 1) := by decide +kernel
theorem dJ2_indexOfCharUnsafe_4cfef_0 : decode cJ2_indexOfCharUnsafe_4cfef 0 = .ok (.iload_n 2, 1) := by decide +kernel
theorem dJ2_indexOfCharUnsafe_4cfef_1 : decode cJ2_indexOfCharUnsafe_4cfef 1 = .ok (.istore 4, 2) := by decide +kernel
theorem dJ2_indexOfCharUnsafe_4cfef_3 : decode cJ2_indexOfCharUnsafe_4cfef 3 = .ok (.iload 4, 2) := by decide +kernel
theorem dJ2_indexOfCharUnsafe_4cfef_5 : decode cJ2_indexOfCharUnsafe_4cfef 5 = .ok (.iload_n 3, 1) := by decide +kernel
theorem dJ2_indexOfCharUnsafe_4cfef_6 : decode cJ2_indexOfCharUnsafe_4cfef 6 = .ok (.if_icmp .ge 22, 3) := by decide +kernel
theorem dJ2_indexOfCharUnsafe_4cfef_9 : decode cJ2_indexOfCharUnsafe_4cfef 9 = .ok (.aload_n 0, 1) := by decide +kernel
theorem dJ2_indexOfCharUnsafe_4cfef_10 : decode cJ2_indexOfCharUnsafe_4cfef 10 = .ok (.iload 4, 2) := by decide +kernel
theorem dJ2_indexOfCharUnsafe_4cfef_12 : decode cJ2_indexOfCharUnsafe_4cfef 12 = .ok (.invokestatic 71, 3) := by decide +kernel
theorem dJ2_indexOfCharUnsafe_4cfef_15 : decode cJ2_indexOfCharUnsafe_4cfef 15 = .ok (.iload_n 1, 1) := by decide +kernel
theorem dJ2_indexOfCharUnsafe_4cfef_16 : decode cJ2_indexOfCharUnsafe_4cfef 16 = .ok (.if_icmp .ne 6, 3) := by decide +kernel
theorem dJ2_indexOfCharUnsafe_4cfef_19 : decode cJ2_indexOfCharUnsafe_4cfef 19 = .ok (.iload 4, 2) := by decide +kernel
theorem dJ2_indexOfCharUnsafe_4cfef_21 : decode cJ2_indexOfCharUnsafe_4cfef 21 = .ok (.ireturn, 1) := by decide +kernel
theorem dJ2_indexOfCharUnsafe_4cfef_22 : decode cJ2_indexOfCharUnsafe_4cfef 22 = .ok (.iinc 4 1, 3) := by decide +kernel
theorem dJ2_indexOfCharUnsafe_4cfef_25 : decode cJ2_indexOfCharUnsafe_4cfef 25 = .ok (.goto (-22), 3) := by decide +kernel
theorem dJ2_indexOfCharUnsafe_4cfef_28 : decode cJ2_indexOfCharUnsafe_4cfef 28 = .ok (.iconst (-1), 1) := by decide +kernel
theorem dJ2_indexOfCharUnsafe_4cfef_29 : decode cJ2_indexOfCharUnsafe_4cfef 29 = .ok (.ireturn, 1) := by decide +kernel
theorem dJ2_indexOfSupplementary_4cfef_0 : decode cJ2_indexOfSupplementary_4cfef 0 = .ok (.iload_n 1, 1) := by decide +kernel
theorem dJ2_indexOfSupplementary_4cfef_1 : decode cJ2_indexOfSupplementary_4cfef 1 = .ok (.invokestatic 164, 3) := by decide +kernel
theorem dJ2_indexOfSupplementary_4cfef_4 : decode cJ2_indexOfSupplementary_4cfef 4 = .ok (.ifCond .eq 65, 3) := by decide +kernel
theorem dJ2_indexOfSupplementary_4cfef_7 : decode cJ2_indexOfSupplementary_4cfef 7 = .ok (.iload_n 1, 1) := by decide +kernel
theorem dJ2_indexOfSupplementary_4cfef_8 : decode cJ2_indexOfSupplementary_4cfef 8 = .ok (.invokestatic 157, 3) := by decide +kernel
theorem dJ2_indexOfSupplementary_4cfef_11 : decode cJ2_indexOfSupplementary_4cfef 11 = .ok (.istore 4, 2) := by decide +kernel
theorem dJ2_indexOfSupplementary_4cfef_13 : decode cJ2_indexOfSupplementary_4cfef 13 = .ok (.iload_n 1, 1) := by decide +kernel
theorem dJ2_indexOfSupplementary_4cfef_14 : decode cJ2_indexOfSupplementary_4cfef 14 = .ok (.invokestatic 161, 3) := by decide +kernel
theorem dJ2_indexOfSupplementary_4cfef_17 : decode cJ2_indexOfSupplementary_4cfef 17 = .ok (.istore 5, 2) := by decide +kernel
theorem dJ2_indexOfSupplementary_4cfef_19 : decode cJ2_indexOfSupplementary_4cfef 19 = .ok (.iload_n 2, 1) := by decide +kernel
theorem dJ2_indexOfSupplementary_4cfef_20 : decode cJ2_indexOfSupplementary_4cfef 20 = .ok (.iload_n 3, 1) := by decide +kernel
theorem dJ2_indexOfSupplementary_4cfef_21 : decode cJ2_indexOfSupplementary_4cfef 21 = .ok (.aload_n 0, 1) := by decide +kernel
theorem dJ2_indexOfSupplementary_4cfef_22 : decode cJ2_indexOfSupplementary_4cfef 22 = .ok (.invokestatic 96, 3) := by decide +kernel
theorem dJ2_indexOfSupplementary_4cfef_25 : decode cJ2_indexOfSupplementary_4cfef 25 = .ok (.iload_n 2, 1) := by decide +kernel
theorem dJ2_indexOfSupplementary_4cfef_26 : decode cJ2_indexOfSupplementary_4cfef 26 = .ok (.istore 6, 2) := by decide +kernel
theorem dJ2_indexOfSupplementary_4cfef_28 : decode cJ2_indexOfSupplementary_4cfef 28 = .ok (.iload 6, 2) := by decide +kernel
theorem dJ2_indexOfSupplementary_4cfef_30 : decode cJ2_indexOfSupplementary_4cfef 30 = .ok (.iload_n 3, 1) := by decide +kernel
theorem dJ2_indexOfSupplementary_4cfef_31 : decode cJ2_indexOfSupplementary_4cfef 31 = .ok (.iconst 1, 1) := by decide +kernel
theorem dJ2_indexOfSupplementary_4cfef_32 : decode cJ2_indexOfSupplementary_4cfef 32 = .ok (.isub, 1) := by decide +kernel
theorem dJ2_indexOfSupplementary_4cfef_33 : decode cJ2_indexOfSupplementary_4cfef 33 = .ok (.if_icmp .ge 36, 3) := by decide +kernel
theorem dJ2_indexOfSupplementary_4cfef_36 : decode cJ2_indexOfSupplementary_4cfef 36 = .ok (.aload_n 0, 1) := by decide +kernel
theorem dJ2_indexOfSupplementary_4cfef_37 : decode cJ2_indexOfSupplementary_4cfef 37 = .ok (.iload 6, 2) := by decide +kernel
theorem dJ2_indexOfSupplementary_4cfef_39 : decode cJ2_indexOfSupplementary_4cfef 39 = .ok (.invokestatic 71, 3) := by decide +kernel
theorem dJ2_indexOfSupplementary_4cfef_42 : decode cJ2_indexOfSupplementary_4cfef 42 = .ok (.iload 4, 2) := by decide +kernel
theorem dJ2_indexOfSupplementary_4cfef_44 : decode cJ2_indexOfSupplementary_4cfef 44 = .ok (.if_icmp .ne 19, 3) := by decide +kernel
theorem dJ2_indexOfSupplementary_4cfef_47 : decode cJ2_indexOfSupplementary_4cfef 47 = .ok (.aload_n 0, 1) := by decide +kernel
theorem dJ2_indexOfSupplementary_4cfef_48 : decode cJ2_indexOfSupplementary_4cfef 48 = .ok (.iload 6, 2) := by decide +kernel
theorem dJ2_indexOfSupplementary_4cfef_50 : decode cJ2_indexOfSupplementary_4cfef 50 = .ok (.iconst 1, 1) := by decide +kernel
theorem dJ2_indexOfSupplementary_4cfef_51 : decode cJ2_indexOfSupplementary_4cfef 51 = .ok (.iadd, 1) := by decide +kernel
theorem dJ2_indexOfSupplementary_4cfef_52 : decode cJ2_indexOfSupplementary_4cfef 52 = .ok (.invokestatic 71, 3) := by decide +kernel
theorem dJ2_indexOfSupplementary_4cfef_55 : decode cJ2_indexOfSupplementary_4cfef 55 = .ok (.iload 5, 2) := by decide +kernel
theorem dJ2_indexOfSupplementary_4cfef_57 : decode cJ2_indexOfSupplementary_4cfef 57 = .ok (.if_icmp .ne 6, 3) := by decide +kernel
theorem dJ2_indexOfSupplementary_4cfef_60 : decode cJ2_indexOfSupplementary_4cfef 60 = .ok (.iload 6, 2) := by decide +kernel
theorem dJ2_indexOfSupplementary_4cfef_62 : decode cJ2_indexOfSupplementary_4cfef 62 = .ok (.ireturn, 1) := by decide +kernel
theorem dJ2_indexOfSupplementary_4cfef_63 : decode cJ2_indexOfSupplementary_4cfef 63 = .ok (.iinc 6 1, 3) := by decide +kernel
theorem dJ2_indexOfSupplementary_4cfef_66 : decode cJ2_indexOfSupplementary_4cfef 66 = .ok (.goto (-38), 3) := by decide +kernel
theorem dJ2_indexOfSupplementary_4cfef_69 : decode cJ2_indexOfSupplementary_4cfef 69 = .ok (.iconst (-1), 1) := by decide +kernel
theorem dJ2_indexOfSupplementary_4cfef_70 : decode cJ2_indexOfSupplementary_4cfef 70 = .ok (.ireturn, 1) := by decide +kernel
theorem dJ2_charAt_3b067_0 : decode cJ2_charAt_3b067 0 = .ok (.iload_n 1, 1) := by decide +kernel
theorem dJ2_charAt_3b067_1 : decode cJ2_charAt_3b067 1 = .ok (.aload_n 0, 1) := by decide +kernel
theorem dJ2_charAt_3b067_2 : decode cJ2_charAt_3b067 2 = .ok (.invokestatic 67, 3) := by decide +kernel
theorem dJ2_charAt_3b067_5 : decode cJ2_charAt_3b067 5 = .ok (.aload_n 0, 1) := by decide +kernel
theorem dJ2_charAt_3b067_6 : decode cJ2_charAt_3b067 6 = .ok (.iload_n 1, 1) := by decide +kernel
theorem dJ2_charAt_3b067_7 : decode cJ2_charAt_3b067 7 = .ok (.invokestatic 71, 3) := by decide +kernel
theorem dJ2_charAt_3b067_10 : decode cJ2_charAt_3b067 10 = .ok (.ireturn, 1) := by decide +kernel
theorem dJ2_checkIndex_2214a_0 : decode cJ2_checkIndex_2214a 0 = .ok (.iload_n 0, 1) := by decide +kernel
theorem dJ2_checkIndex_2214a_1 : decode cJ2_checkIndex_2214a 1 = .ok (.aload_n 1, 1) := by decide +kernel
theorem dJ2_checkIndex_2214a_2 : decode cJ2_checkIndex_2214a 2 = .ok (.invokestatic 48, 3) := by decide +kernel
theorem dJ2_checkIndex_2214a_5 : decode cJ2_checkIndex_2214a 5 = .ok (.invokestatic 414, 3) := by decide +kernel
theorem dJ2_checkIndex_2214a_8 : decode cJ2_checkIndex_2214a 8 = .ok (.return_, 1) := by decide +kernel
theorem dJ2_checkBoundsBeginEnd_d044e_0 : decode cJ2_checkBoundsBeginEnd_d044e 0 = .ok (.iload_n 0, 1) := by decide +kernel
theorem dJ2_checkBoundsBeginEnd_d044e_1 : decode cJ2_checkBoundsBeginEnd_d044e 1 = .ok (.iload_n 1, 1) := by decide +kernel
theorem dJ2_checkBoundsBeginEnd_d044e_2 : decode cJ2_checkBoundsBeginEnd_d044e 2 = .ok (.aload_n 2, 1) := by decide +kernel
theorem dJ2_checkBoundsBeginEnd_d044e_3 : decode cJ2_checkBoundsBeginEnd_d044e 3 = .ok (.invokestatic 48, 3) := by decide +kernel
theorem dJ2_checkBoundsBeginEnd_d044e_6 : decode cJ2_checkBoundsBeginEnd_d044e 6 = .ok (.invokestatic 241, 3) := by decide +kernel
theorem dJ2_checkBoundsBeginEnd_d044e_9 : decode cJ2_checkBoundsBeginEnd_d044e 9 = .ok (.return_, 1) := by decide +kernel
theorem dJ7_fill_53178_0 : decode cJ7_fill_53178 0 = .ok (.iconst 0, 1) := by decide +kernel
theorem dJ7_fill_53178_1 : decode cJ7_fill_53178 1 = .ok (.istore_n 2, 1) := by decide +kernel
theorem dJ7_fill_53178_2 : decode cJ7_fill_53178 2 = .ok (.aload_n 0, 1) := by decide +kernel
theorem dJ7_fill_53178_3 : decode cJ7_fill_53178 3 = .ok (.arraylength, 1) := by decide +kernel
theorem dJ7_fill_53178_4 : decode cJ7_fill_53178 4 = .ok (.istore_n 3, 1) := by decide +kernel
theorem dJ7_fill_53178_5 : decode cJ7_fill_53178 5 = .ok (.iload_n 2, 1) := by decide +kernel
theorem dJ7_fill_53178_6 : decode cJ7_fill_53178 6 = .ok (.iload_n 3, 1) := by decide +kernel
theorem dJ7_fill_53178_7 : decode cJ7_fill_53178 7 = .ok (.if_icmp .ge 13, 3) := by decide +kernel
theorem dJ7_fill_53178_10 : decode cJ7_fill_53178 10 = .ok (.aload_n 0, 1) := by decide +kernel
theorem dJ7_fill_53178_11 : decode cJ7_fill_53178 11 = .ok (.iload_n 2, 1) := by decide +kernel
theorem dJ7_fill_53178_12 : decode cJ7_fill_53178 12 = .ok (.iload_n 1, 1) := by decide +kernel
theorem dJ7_fill_53178_13 : decode cJ7_fill_53178 13 = .ok (.iastore, 1) := by decide +kernel
theorem dJ7_fill_53178_14 : decode cJ7_fill_53178 14 = .ok (.iinc 2 1, 3) := by decide +kernel
theorem dJ7_fill_53178_17 : decode cJ7_fill_53178 17 = .ok (.goto (-12), 3) := by decide +kernel
theorem dJ7_fill_53178_20 : decode cJ7_fill_53178 20 = .ok (.return_, 1) := by decide +kernel
theorem dJ3_checkIndex_8e157_0 : decode cJ3_checkIndex_8e157 0 = .ok (.iload_n 0, 1) := by decide +kernel
theorem dJ3_checkIndex_8e157_1 : decode cJ3_checkIndex_8e157 1 = .ok (.ifCond .lt 8, 3) := by decide +kernel
theorem dJ3_checkIndex_8e157_4 : decode cJ3_checkIndex_8e157 4 = .ok (.iload_n 0, 1) := by decide +kernel
theorem dJ3_checkIndex_8e157_5 : decode cJ3_checkIndex_8e157 5 = .ok (.iload_n 1, 1) := by decide +kernel
theorem dJ3_checkIndex_8e157_6 : decode cJ3_checkIndex_8e157 6 = .ok (.if_icmp .lt 10, 3) := by decide +kernel
theorem dJ3_checkIndex_8e157_9 : decode cJ3_checkIndex_8e157 9 = .ok (.aload_n 2, 1) := by decide +kernel
theorem dJ3_checkIndex_8e157_10 : decode cJ3_checkIndex_8e157 10 = .ok (.iload_n 0, 1) := by decide +kernel
theorem dJ3_checkIndex_8e157_11 : decode cJ3_checkIndex_8e157 11 = .ok (.iload_n 1, 1) := by decide +kernel
theorem dJ3_checkIndex_8e157_12 : decode cJ3_checkIndex_8e157 12 = .ok (.invokestatic 95, 3) := by decide +kernel
theorem dJ3_checkIndex_8e157_15 : decode cJ3_checkIndex_8e157 15 = .ok (.athrow, 1) := by decide +kernel
theorem dJ3_checkIndex_8e157_16 : decode cJ3_checkIndex_8e157 16 = .ok (.iload_n 0, 1) := by decide +kernel
theorem dJ3_checkIndex_8e157_17 : decode cJ3_checkIndex_8e157 17 = .ok (.ireturn, 1) := by decide +kernel
theorem dJ3_checkFromToIndex_8c36e_0 : decode cJ3_checkFromToIndex_8c36e 0 = .ok (.iload_n 0, 1) := by decide +kernel
theorem dJ3_checkFromToIndex_8c36e_1 : decode cJ3_checkFromToIndex_8c36e 1 = .ok (.ifCond .lt 13, 3) := by decide +kernel
theorem dJ3_checkFromToIndex_8c36e_4 : decode cJ3_checkFromToIndex_8c36e 4 = .ok (.iload_n 0, 1) := by decide +kernel
theorem dJ3_checkFromToIndex_8c36e_5 : decode cJ3_checkFromToIndex_8c36e 5 = .ok (.iload_n 1, 1) := by decide +kernel
theorem dJ3_checkFromToIndex_8c36e_6 : decode cJ3_checkFromToIndex_8c36e 6 = .ok (.if_icmp .gt 8, 3) := by decide +kernel
theorem dJ3_checkFromToIndex_8c36e_9 : decode cJ3_checkFromToIndex_8c36e 9 = .ok (.iload_n 1, 1) := by decide +kernel
theorem dJ3_checkFromToIndex_8c36e_10 : decode cJ3_checkFromToIndex_8c36e 10 = .ok (.iload_n 2, 1) := by decide +kernel
theorem dJ3_checkFromToIndex_8c36e_11 : decode cJ3_checkFromToIndex_8c36e 11 = .ok (.if_icmp .le 11, 3) := by decide +kernel
theorem dJ3_checkFromToIndex_8c36e_14 : decode cJ3_checkFromToIndex_8c36e 14 = .ok (.aload_n 3, 1) := by decide +kernel
theorem dJ3_checkFromToIndex_8c36e_15 : decode cJ3_checkFromToIndex_8c36e 15 = .ok (.iload_n 0, 1) := by decide +kernel
theorem dJ3_checkFromToIndex_8c36e_16 : decode cJ3_checkFromToIndex_8c36e 16 = .ok (.iload_n 1, 1) := by decide +kernel
theorem dJ3_checkFromToIndex_8c36e_17 : decode cJ3_checkFromToIndex_8c36e 17 = .ok (.iload_n 2, 1) := by decide +kernel
theorem dJ3_checkFromToIndex_8c36e_18 : decode cJ3_checkFromToIndex_8c36e 18 = .ok (.invokestatic 99, 3) := by decide +kernel
theorem dJ3_checkFromToIndex_8c36e_21 : decode cJ3_checkFromToIndex_8c36e 21 = .ok (.athrow, 1) := by decide +kernel
theorem dJ3_checkFromToIndex_8c36e_22 : decode cJ3_checkFromToIndex_8c36e 22 = .ok (.iload_n 0, 1) := by decide +kernel
theorem dJ3_checkFromToIndex_8c36e_23 : decode cJ3_checkFromToIndex_8c36e 23 = .ok (.ireturn, 1) := by decide +kernel
theorem dL_compile_0 : decode cL_compile 0 = .ok (.aload_n 1, 1) := by decide +kernel
theorem dL_compile_1 : decode cL_compile 1 = .ok (.iconst 0, 1) := by decide +kernel
theorem dL_compile_2 : decode cL_compile 2 = .ok (.aload_n 0, 1) := by decide +kernel
theorem dL_compile_3 : decode cL_compile 3 = .ok (.invokevirtual 7, 3) := by decide +kernel
theorem dL_compile_6 : decode cL_compile 6 = .ok (.i2l, 1) := by decide +kernel
theorem dL_compile_7 : decode cL_compile 7 = .ok (.lastore, 1) := by decide +kernel
theorem dL_compile_8 : decode cL_compile 8 = .ok (.goto 9, 3) := by decide +kernel
theorem dL_compile_11 : decode cL_compile 11 = .ok (.astore_n 2, 1) := by decide +kernel
theorem dL_compile_12 : decode cL_compile 12 = .ok (.iconst 1, 1) := by decide +kernel
theorem dL_compile_13 : decode cL_compile 13 = .ok (.ireturn, 1) := by decide +kernel
theorem dL_compile_14 : decode cL_compile 14 = .ok (.astore_n 2, 1) := by decide +kernel
theorem dL_compile_15 : decode cL_compile 15 = .ok (.iconst 2, 1) := by decide +kernel
theorem dL_compile_16 : decode cL_compile 16 = .ok (.ireturn, 1) := by decide +kernel
theorem dL_compile_17 : decode cL_compile 17 = .ok (.iconst 0, 1) := by decide +kernel
theorem dL_compile_18 : decode cL_compile 18 = .ok (.ireturn, 1) := by decide +kernel
theorem dL_mutant_0 : decode cL_mutant 0 = .ok (.aload_n 3, 1) := by decide +kernel
theorem dL_mutant_1 : decode cL_mutant 1 = .ok (.iconst 0, 1) := by decide +kernel
theorem dL_mutant_2 : decode cL_mutant 2 = .ok (.aload_n 0, 1) := by decide +kernel
theorem dL_mutant_3 : decode cL_mutant 3 = .ok (.iload_n 1, 1) := by decide +kernel
theorem dL_mutant_4 : decode cL_mutant 4 = .ok (.iload_n 2, 1) := by decide +kernel
theorem dL_mutant_5 : decode cL_mutant 5 = .ok (.invokevirtual 17, 3) := by decide +kernel
theorem dL_mutant_8 : decode cL_mutant 8 = .ok (.i2l, 1) := by decide +kernel
theorem dL_mutant_9 : decode cL_mutant 9 = .ok (.lastore, 1) := by decide +kernel
theorem dL_mutant_10 : decode cL_mutant 10 = .ok (.goto 15, 3) := by decide +kernel
theorem dL_mutant_13 : decode cL_mutant 13 = .ok (.astore 4, 2) := by decide +kernel
theorem dL_mutant_15 : decode cL_mutant 15 = .ok (.iconst 1, 1) := by decide +kernel
theorem dL_mutant_16 : decode cL_mutant 16 = .ok (.ireturn, 1) := by decide +kernel
theorem dL_mutant_17 : decode cL_mutant 17 = .ok (.astore 4, 2) := by decide +kernel
theorem dL_mutant_19 : decode cL_mutant 19 = .ok (.iconst 2, 1) := by decide +kernel
theorem dL_mutant_20 : decode cL_mutant 20 = .ok (.ireturn, 1) := by decide +kernel
theorem dL_mutant_21 : decode cL_mutant 21 = .ok (.astore 4, 2) := by decide +kernel
theorem dL_mutant_23 : decode cL_mutant 23 = .ok (.iconst 3, 1) := by decide +kernel
theorem dL_mutant_24 : decode cL_mutant 24 = .ok (.ireturn, 1) := by decide +kernel
theorem dL_mutant_25 : decode cL_mutant 25 = .ok (.iconst 0, 1) := by decide +kernel
theorem dL_mutant_26 : decode cL_mutant 26 = .ok (.ireturn, 1) := by decide +kernel
theorem dL_test_0 : decode cL_test 0 = .ok (.aload_n 3, 1) := by decide +kernel
theorem dL_test_1 : decode cL_test 1 = .ok (.iconst 0, 1) := by decide +kernel
theorem dL_test_2 : decode cL_test 2 = .ok (.aload_n 0, 1) := by decide +kernel
theorem dL_test_3 : decode cL_test 3 = .ok (.iload_n 1, 1) := by decide +kernel
theorem dL_test_4 : decode cL_test 4 = .ok (.iload_n 2, 1) := by decide +kernel
theorem dL_test_5 : decode cL_test 5 = .ok (.invokevirtual 23, 3) := by decide +kernel
theorem dL_test_8 : decode cL_test 8 = .ok (.i2l, 1) := by decide +kernel
theorem dL_test_9 : decode cL_test 9 = .ok (.lastore, 1) := by decide +kernel
theorem dL_test_10 : decode cL_test 10 = .ok (.goto 7, 3) := by decide +kernel
theorem dL_test_13 : decode cL_test 13 = .ok (.astore 4, 2) := by decide +kernel
theorem dL_test_15 : decode cL_test 15 = .ok (.iconst 1, 1) := by decide +kernel
theorem dL_test_16 : decode cL_test 16 = .ok (.ireturn, 1) := by decide +kernel
theorem dL_test_17 : decode cL_test 17 = .ok (.iconst 0, 1) := by decide +kernel
theorem dL_test_18 : decode cL_test 18 = .ok (.ireturn, 1) := by decide +kernel
theorem dL_run_0 : decode cL_run 0 = .ok (.aload 4, 2) := by decide +kernel
theorem dL_run_2 : decode cL_run 2 = .ok (.iconst 0, 1) := by decide +kernel
theorem dL_run_3 : decode cL_run 3 = .ok (.aload_n 0, 1) := by decide +kernel
theorem dL_run_4 : decode cL_run 4 = .ok (.iload_n 1, 1) := by decide +kernel
theorem dL_run_5 : decode cL_run 5 = .ok (.iload_n 2, 1) := by decide +kernel
theorem dL_run_6 : decode cL_run 6 = .ok (.iload_n 3, 1) := by decide +kernel
theorem dL_run_7 : decode cL_run 7 = .ok (.invokevirtual 26, 3) := by decide +kernel
theorem dL_run_10 : decode cL_run 10 = .ok (.i2l, 1) := by decide +kernel
theorem dL_run_11 : decode cL_run 11 = .ok (.lastore, 1) := by decide +kernel
theorem dL_run_12 : decode cL_run 12 = .ok (.goto 11, 3) := by decide +kernel
theorem dL_run_15 : decode cL_run 15 = .ok (.astore 5, 2) := by decide +kernel
theorem dL_run_17 : decode cL_run 17 = .ok (.iconst 1, 1) := by decide +kernel
theorem dL_run_18 : decode cL_run 18 = .ok (.ireturn, 1) := by decide +kernel
theorem dL_run_19 : decode cL_run 19 = .ok (.astore 5, 2) := by decide +kernel
theorem dL_run_21 : decode cL_run 21 = .ok (.iconst 2, 1) := by decide +kernel
theorem dL_run_22 : decode cL_run 22 = .ok (.ireturn, 1) := by decide +kernel
theorem dL_run_23 : decode cL_run 23 = .ok (.iconst 0, 1) := by decide +kernel
theorem dL_run_24 : decode cL_run 24 = .ok (.ireturn, 1) := by decide +kernel
theorem dL_matrix_0 : decode cL_matrix 0 = .ok (.aload_n 1, 1) := by decide +kernel
theorem dL_matrix_1 : decode cL_matrix 1 = .ok (.iconst 0, 1) := by decide +kernel
theorem dL_matrix_2 : decode cL_matrix 2 = .ok (.aload_n 0, 1) := by decide +kernel
theorem dL_matrix_3 : decode cL_matrix 3 = .ok (.invokevirtual 30, 3) := by decide +kernel
theorem dL_matrix_6 : decode cL_matrix 6 = .ok (.i2l, 1) := by decide +kernel
theorem dL_matrix_7 : decode cL_matrix 7 = .ok (.lastore, 1) := by decide +kernel
theorem dL_matrix_8 : decode cL_matrix 8 = .ok (.goto 6, 3) := by decide +kernel
theorem dL_matrix_11 : decode cL_matrix 11 = .ok (.astore_n 2, 1) := by decide +kernel
theorem dL_matrix_12 : decode cL_matrix 12 = .ok (.iconst 1, 1) := by decide +kernel
theorem dL_matrix_13 : decode cL_matrix 13 = .ok (.ireturn, 1) := by decide +kernel
theorem dL_matrix_14 : decode cL_matrix 14 = .ok (.iconst 0, 1) := by decide +kernel
theorem dL_matrix_15 : decode cL_matrix 15 = .ok (.ireturn, 1) := by decide +kernel
theorem dL_killed_0 : decode cL_killed 0 = .ok (.aload_n 3, 1) := by decide +kernel
theorem dL_killed_1 : decode cL_killed 1 = .ok (.iconst 0, 1) := by decide +kernel
theorem dL_killed_2 : decode cL_killed 2 = .ok (.aload_n 0, 1) := by decide +kernel
theorem dL_killed_3 : decode cL_killed 3 = .ok (.iload_n 1, 1) := by decide +kernel
theorem dL_killed_4 : decode cL_killed 4 = .ok (.iload_n 2, 1) := by decide +kernel
theorem dL_killed_5 : decode cL_killed 5 = .ok (.invokevirtual 33, 3) := by decide +kernel
theorem dL_killed_8 : decode cL_killed 8 = .ok (.ifCond .eq 7, 3) := by decide +kernel
theorem dL_killed_11 : decode cL_killed 11 = .ok (.lconst 1, 1) := by decide +kernel
theorem dL_killed_12 : decode cL_killed 12 = .ok (.goto 4, 3) := by decide +kernel
theorem dL_killed_15 : decode cL_killed 15 = .ok (.lconst 0, 1) := by decide +kernel
theorem dL_killed_16 : decode cL_killed 16 = .ok (.lastore, 1) := by decide +kernel
theorem dL_killed_17 : decode cL_killed 17 = .ok (.goto 11, 3) := by decide +kernel
theorem dL_killed_20 : decode cL_killed 20 = .ok (.astore 4, 2) := by decide +kernel
theorem dL_killed_22 : decode cL_killed 22 = .ok (.iconst 1, 1) := by decide +kernel
theorem dL_killed_23 : decode cL_killed 23 = .ok (.ireturn, 1) := by decide +kernel
theorem dL_killed_24 : decode cL_killed 24 = .ok (.astore 4, 2) := by decide +kernel
theorem dL_killed_26 : decode cL_killed 26 = .ok (.iconst 2, 1) := by decide +kernel
theorem dL_killed_27 : decode cL_killed 27 = .ok (.ireturn, 1) := by decide +kernel
theorem dL_killed_28 : decode cL_killed 28 = .ok (.iconst 0, 1) := by decide +kernel
theorem dL_killed_29 : decode cL_killed 29 = .ok (.ireturn, 1) := by decide +kernel
theorem dL_reached_0 : decode cL_reached 0 = .ok (.aload_n 3, 1) := by decide +kernel
theorem dL_reached_1 : decode cL_reached 1 = .ok (.iconst 0, 1) := by decide +kernel
theorem dL_reached_2 : decode cL_reached 2 = .ok (.aload_n 0, 1) := by decide +kernel
theorem dL_reached_3 : decode cL_reached 3 = .ok (.iload_n 1, 1) := by decide +kernel
theorem dL_reached_4 : decode cL_reached 4 = .ok (.iload_n 2, 1) := by decide +kernel
theorem dL_reached_5 : decode cL_reached 5 = .ok (.invokevirtual 37, 3) := by decide +kernel
theorem dL_reached_8 : decode cL_reached 8 = .ok (.ifCond .eq 7, 3) := by decide +kernel
theorem dL_reached_11 : decode cL_reached 11 = .ok (.lconst 1, 1) := by decide +kernel
theorem dL_reached_12 : decode cL_reached 12 = .ok (.goto 4, 3) := by decide +kernel
theorem dL_reached_15 : decode cL_reached 15 = .ok (.lconst 0, 1) := by decide +kernel
theorem dL_reached_16 : decode cL_reached 16 = .ok (.lastore, 1) := by decide +kernel
theorem dL_reached_17 : decode cL_reached 17 = .ok (.goto 11, 3) := by decide +kernel
theorem dL_reached_20 : decode cL_reached 20 = .ok (.astore 4, 2) := by decide +kernel
theorem dL_reached_22 : decode cL_reached 22 = .ok (.iconst 1, 1) := by decide +kernel
theorem dL_reached_23 : decode cL_reached 23 = .ok (.ireturn, 1) := by decide +kernel
theorem dL_reached_24 : decode cL_reached 24 = .ok (.astore 4, 2) := by decide +kernel
theorem dL_reached_26 : decode cL_reached 26 = .ok (.iconst 2, 1) := by decide +kernel
theorem dL_reached_27 : decode cL_reached 27 = .ok (.ireturn, 1) := by decide +kernel
theorem dL_reached_28 : decode cL_reached 28 = .ok (.iconst 0, 1) := by decide +kernel
theorem dL_reached_29 : decode cL_reached 29 = .ok (.ireturn, 1) := by decide +kernel
theorem dL_score_0 : decode cL_score 0 = .ok (.aload_n 2, 1) := by decide +kernel
theorem dL_score_1 : decode cL_score 1 = .ok (.iconst 0, 1) := by decide +kernel
theorem dL_score_2 : decode cL_score 2 = .ok (.aload_n 0, 1) := by decide +kernel
theorem dL_score_3 : decode cL_score 3 = .ok (.iload_n 1, 1) := by decide +kernel
theorem dL_score_4 : decode cL_score 4 = .ok (.invokevirtual 40, 3) := by decide +kernel
theorem dL_score_7 : decode cL_score 7 = .ok (.i2l, 1) := by decide +kernel
theorem dL_score_8 : decode cL_score 8 = .ok (.lastore, 1) := by decide +kernel
theorem dL_score_9 : decode cL_score 9 = .ok (.goto 9, 3) := by decide +kernel
theorem dL_score_12 : decode cL_score 12 = .ok (.astore_n 3, 1) := by decide +kernel
theorem dL_score_13 : decode cL_score 13 = .ok (.iconst 1, 1) := by decide +kernel
theorem dL_score_14 : decode cL_score 14 = .ok (.ireturn, 1) := by decide +kernel
theorem dL_score_15 : decode cL_score 15 = .ok (.astore_n 3, 1) := by decide +kernel
theorem dL_score_16 : decode cL_score 16 = .ok (.iconst 2, 1) := by decide +kernel
theorem dL_score_17 : decode cL_score 17 = .ok (.ireturn, 1) := by decide +kernel
theorem dL_score_18 : decode cL_score 18 = .ok (.iconst 0, 1) := by decide +kernel
theorem dL_score_19 : decode cL_score 19 = .ok (.ireturn, 1) := by decide +kernel
theorem dL_law_0 : decode cL_law 0 = .ok (.new 8, 3) := by decide +kernel
theorem dL_law_3 : decode cL_law 3 = .ok (.dup, 1) := by decide +kernel
theorem dL_law_4 : decode cL_law 4 = .ok (.invokespecial 44, 3) := by decide +kernel
theorem dL_law_7 : decode cL_law 7 = .ok (.astore_n 1, 1) := by decide +kernel
theorem dL_law_8 : decode cL_law 8 = .ok (.new 45, 3) := by decide +kernel
theorem dL_law_11 : decode cL_law 11 = .ok (.dup, 1) := by decide +kernel
theorem dL_law_12 : decode cL_law 12 = .ok (.invokespecial 47, 3) := by decide +kernel
theorem dL_law_15 : decode cL_law 15 = .ok (.astore_n 2, 1) := by decide +kernel
theorem dL_law_16 : decode cL_law 16 = .ok (.iconst 1, 1) := by decide +kernel
theorem dL_law_17 : decode cL_law 17 = .ok (.newarray .long, 2) := by decide +kernel
theorem dL_law_19 : decode cL_law 19 = .ok (.astore_n 3, 1) := by decide +kernel
theorem dL_law_20 : decode cL_law 20 = .ok (.iconst 0, 1) := by decide +kernel
theorem dL_law_21 : decode cL_law 21 = .ok (.istore 4, 2) := by decide +kernel
theorem dL_law_23 : decode cL_law 23 = .ok (.iload 4, 2) := by decide +kernel
theorem dL_law_25 : decode cL_law 25 = .ok (.aload_n 0, 1) := by decide +kernel
theorem dL_law_26 : decode cL_law 26 = .ok (.arraylength, 1) := by decide +kernel
theorem dL_law_27 : decode cL_law 27 = .ok (.iconst 4, 1) := by decide +kernel
theorem dL_law_28 : decode cL_law 28 = .ok (.isub, 1) := by decide +kernel
theorem dL_law_29 : decode cL_law 29 = .ok (.if_icmp .gt 680, 3) := by decide +kernel
theorem dL_law_32 : decode cL_law 32 = .ok (.aload_n 0, 1) := by decide +kernel
theorem dL_law_33 : decode cL_law 33 = .ok (.iload 4, 2) := by decide +kernel
theorem dL_law_35 : decode cL_law 35 = .ok (.iaload, 1) := by decide +kernel
theorem dL_law_36 : decode cL_law 36 = .ok (.bipush 15, 2) := by decide +kernel
theorem dL_law_38 : decode cL_law 38 = .ok (.iand, 1) := by decide +kernel
theorem dL_law_39 : decode cL_law 39 = .ok (.tableswitch 664 0 12 #[65, 92, 103, 147, 215, 283, 308, 388, 401, 414, 458, 533, 608], 65) := by decide +kernel
theorem dL_law_104 : decode cL_law 104 = .ok (.aload_n 1, 1) := by decide +kernel
theorem dL_law_105 : decode cL_law 105 = .ok (.aload_n 0, 1) := by decide +kernel
theorem dL_law_106 : decode cL_law 106 = .ok (.iload 4, 2) := by decide +kernel
theorem dL_law_108 : decode cL_law 108 = .ok (.iconst 1, 1) := by decide +kernel
theorem dL_law_109 : decode cL_law 109 = .ok (.iadd, 1) := by decide +kernel
theorem dL_law_110 : decode cL_law 110 = .ok (.iaload, 1) := by decide +kernel
theorem dL_law_111 : decode cL_law 111 = .ok (.i2c, 1) := by decide +kernel
theorem dL_law_112 : decode cL_law 112 = .ok (.invokevirtual 48, 3) := by decide +kernel
theorem dL_law_115 : decode cL_law 115 = .ok (.aload_n 2, 1) := by decide +kernel
theorem dL_law_116 : decode cL_law 116 = .ok (.aload_n 0, 1) := by decide +kernel
theorem dL_law_117 : decode cL_law 117 = .ok (.iload 4, 2) := by decide +kernel
theorem dL_law_119 : decode cL_law 119 = .ok (.iconst 1, 1) := by decide +kernel
theorem dL_law_120 : decode cL_law 120 = .ok (.iadd, 1) := by decide +kernel
theorem dL_law_121 : decode cL_law 121 = .ok (.iaload, 1) := by decide +kernel
theorem dL_law_122 : decode cL_law 122 = .ok (.i2c, 1) := by decide +kernel
theorem dL_law_123 : decode cL_law 123 = .ok (.invokevirtual 52, 3) := by decide +kernel
theorem dL_law_126 : decode cL_law 126 = .ok (.if_icmp .eq 577, 3) := by decide +kernel
theorem dL_law_129 : decode cL_law 129 = .ok (.iconst 0, 1) := by decide +kernel
theorem dL_law_130 : decode cL_law 130 = .ok (.ireturn, 1) := by decide +kernel
theorem dL_law_131 : decode cL_law 131 = .ok (.aload_n 1, 1) := by decide +kernel
theorem dL_law_132 : decode cL_law 132 = .ok (.invokevirtual 53, 3) := by decide +kernel
theorem dL_law_135 : decode cL_law 135 = .ok (.aload_n 2, 1) := by decide +kernel
theorem dL_law_136 : decode cL_law 136 = .ok (.invokevirtual 56, 3) := by decide +kernel
theorem dL_law_139 : decode cL_law 139 = .ok (.goto 564, 3) := by decide +kernel
theorem dL_law_142 : decode cL_law 142 = .ok (.aload_n 1, 1) := by decide +kernel
theorem dL_law_143 : decode cL_law 143 = .ok (.aload_n 3, 1) := by decide +kernel
theorem dL_law_144 : decode cL_law 144 = .ok (.invokestatic 57, 3) := by decide +kernel
theorem dL_law_147 : decode cL_law 147 = .ok (.istore 5, 2) := by decide +kernel
theorem dL_law_149 : decode cL_law 149 = .ok (.aload_n 2, 1) := by decide +kernel
theorem dL_law_150 : decode cL_law 150 = .ok (.invokevirtual 62, 3) := by decide +kernel
theorem dL_law_153 : decode cL_law 153 = .ok (.istore 6, 2) := by decide +kernel
theorem dL_law_155 : decode cL_law 155 = .ok (.aload_n 2, 1) := by decide +kernel
theorem dL_law_156 : decode cL_law 156 = .ok (.invokevirtual 63, 3) := by decide +kernel
theorem dL_law_159 : decode cL_law 159 = .ok (.iload 5, 2) := by decide +kernel
theorem dL_law_161 : decode cL_law 161 = .ok (.if_icmp .eq 5, 3) := by decide +kernel
theorem dL_law_164 : decode cL_law 164 = .ok (.iconst 0, 1) := by decide +kernel
theorem dL_law_165 : decode cL_law 165 = .ok (.ireturn, 1) := by decide +kernel
theorem dL_law_166 : decode cL_law 166 = .ok (.iload 5, 2) := by decide +kernel
theorem dL_law_168 : decode cL_law 168 = .ok (.ifCond .ne 15, 3) := by decide +kernel
theorem dL_law_171 : decode cL_law 171 = .ok (.aload_n 3, 1) := by decide +kernel
theorem dL_law_172 : decode cL_law 172 = .ok (.iconst 0, 1) := by decide +kernel
theorem dL_law_173 : decode cL_law 173 = .ok (.laload, 1) := by decide +kernel
theorem dL_law_174 : decode cL_law 174 = .ok (.iload 6, 2) := by decide +kernel
theorem dL_law_176 : decode cL_law 176 = .ok (.i2l, 1) := by decide +kernel
theorem dL_law_177 : decode cL_law 177 = .ok (.lcmp, 1) := by decide +kernel
theorem dL_law_178 : decode cL_law 178 = .ok (.ifCond .eq 5, 3) := by decide +kernel
theorem dL_law_181 : decode cL_law 181 = .ok (.iconst 0, 1) := by decide +kernel
theorem dL_law_182 : decode cL_law 182 = .ok (.ireturn, 1) := by decide +kernel
theorem dL_law_183 : decode cL_law 183 = .ok (.goto 520, 3) := by decide +kernel
theorem dL_law_186 : decode cL_law 186 = .ok (.aload_n 1, 1) := by decide +kernel
theorem dL_law_187 : decode cL_law 187 = .ok (.aload_n 0, 1) := by decide +kernel
theorem dL_law_188 : decode cL_law 188 = .ok (.iload 4, 2) := by decide +kernel
theorem dL_law_190 : decode cL_law 190 = .ok (.iconst 1, 1) := by decide +kernel
theorem dL_law_191 : decode cL_law 191 = .ok (.iadd, 1) := by decide +kernel
theorem dL_law_192 : decode cL_law 192 = .ok (.iaload, 1) := by decide +kernel
theorem dL_law_193 : decode cL_law 193 = .ok (.aload_n 0, 1) := by decide +kernel
theorem dL_law_194 : decode cL_law 194 = .ok (.iload 4, 2) := by decide +kernel
theorem dL_law_196 : decode cL_law 196 = .ok (.iconst 2, 1) := by decide +kernel
theorem dL_law_197 : decode cL_law 197 = .ok (.iadd, 1) := by decide +kernel
theorem dL_law_198 : decode cL_law 198 = .ok (.iaload, 1) := by decide +kernel
theorem dL_law_199 : decode cL_law 199 = .ok (.aload_n 3, 1) := by decide +kernel
theorem dL_law_200 : decode cL_law 200 = .ok (.invokestatic 66, 3) := by decide +kernel
theorem dL_law_203 : decode cL_law 203 = .ok (.istore 5, 2) := by decide +kernel
theorem dL_law_205 : decode cL_law 205 = .ok (.aload_n 2, 1) := by decide +kernel
theorem dL_law_206 : decode cL_law 206 = .ok (.aload_n 0, 1) := by decide +kernel
theorem dL_law_207 : decode cL_law 207 = .ok (.iload 4, 2) := by decide +kernel
theorem dL_law_209 : decode cL_law 209 = .ok (.iconst 1, 1) := by decide +kernel
theorem dL_law_210 : decode cL_law 210 = .ok (.iadd, 1) := by decide +kernel
theorem dL_law_211 : decode cL_law 211 = .ok (.iaload, 1) := by decide +kernel
theorem dL_law_212 : decode cL_law 212 = .ok (.aload_n 0, 1) := by decide +kernel
theorem dL_law_213 : decode cL_law 213 = .ok (.iload 4, 2) := by decide +kernel
theorem dL_law_215 : decode cL_law 215 = .ok (.iconst 2, 1) := by decide +kernel
theorem dL_law_216 : decode cL_law 216 = .ok (.iadd, 1) := by decide +kernel
theorem dL_law_217 : decode cL_law 217 = .ok (.iaload, 1) := by decide +kernel
theorem dL_law_218 : decode cL_law 218 = .ok (.invokevirtual 69, 3) := by decide +kernel
theorem dL_law_221 : decode cL_law 221 = .ok (.istore 6, 2) := by decide +kernel
theorem dL_law_223 : decode cL_law 223 = .ok (.aload_n 2, 1) := by decide +kernel
theorem dL_law_224 : decode cL_law 224 = .ok (.invokevirtual 63, 3) := by decide +kernel
theorem dL_law_227 : decode cL_law 227 = .ok (.iload 5, 2) := by decide +kernel
theorem dL_law_229 : decode cL_law 229 = .ok (.if_icmp .eq 5, 3) := by decide +kernel
theorem dL_law_232 : decode cL_law 232 = .ok (.iconst 0, 1) := by decide +kernel
theorem dL_law_233 : decode cL_law 233 = .ok (.ireturn, 1) := by decide +kernel
theorem dL_law_234 : decode cL_law 234 = .ok (.iload 5, 2) := by decide +kernel
theorem dL_law_236 : decode cL_law 236 = .ok (.ifCond .ne 15, 3) := by decide +kernel
theorem dL_law_239 : decode cL_law 239 = .ok (.aload_n 3, 1) := by decide +kernel
theorem dL_law_240 : decode cL_law 240 = .ok (.iconst 0, 1) := by decide +kernel
theorem dL_law_241 : decode cL_law 241 = .ok (.laload, 1) := by decide +kernel
theorem dL_law_242 : decode cL_law 242 = .ok (.iload 6, 2) := by decide +kernel
theorem dL_law_244 : decode cL_law 244 = .ok (.i2l, 1) := by decide +kernel
theorem dL_law_245 : decode cL_law 245 = .ok (.lcmp, 1) := by decide +kernel
theorem dL_law_246 : decode cL_law 246 = .ok (.ifCond .eq 5, 3) := by decide +kernel
theorem dL_law_249 : decode cL_law 249 = .ok (.iconst 0, 1) := by decide +kernel
theorem dL_law_250 : decode cL_law 250 = .ok (.ireturn, 1) := by decide +kernel
theorem dL_law_251 : decode cL_law 251 = .ok (.goto 452, 3) := by decide +kernel
theorem dL_law_254 : decode cL_law 254 = .ok (.aload_n 1, 1) := by decide +kernel
theorem dL_law_255 : decode cL_law 255 = .ok (.aload_n 0, 1) := by decide +kernel
theorem dL_law_256 : decode cL_law 256 = .ok (.iload 4, 2) := by decide +kernel
theorem dL_law_258 : decode cL_law 258 = .ok (.iconst 1, 1) := by decide +kernel
theorem dL_law_259 : decode cL_law 259 = .ok (.iadd, 1) := by decide +kernel
theorem dL_law_260 : decode cL_law 260 = .ok (.iaload, 1) := by decide +kernel
theorem dL_law_261 : decode cL_law 261 = .ok (.aload_n 0, 1) := by decide +kernel
theorem dL_law_262 : decode cL_law 262 = .ok (.iload 4, 2) := by decide +kernel
theorem dL_law_264 : decode cL_law 264 = .ok (.iconst 2, 1) := by decide +kernel
theorem dL_law_265 : decode cL_law 265 = .ok (.iadd, 1) := by decide +kernel
theorem dL_law_266 : decode cL_law 266 = .ok (.iaload, 1) := by decide +kernel
theorem dL_law_267 : decode cL_law 267 = .ok (.aload_n 3, 1) := by decide +kernel
theorem dL_law_268 : decode cL_law 268 = .ok (.invokestatic 70, 3) := by decide +kernel
theorem dL_law_271 : decode cL_law 271 = .ok (.istore 5, 2) := by decide +kernel
theorem dL_law_273 : decode cL_law 273 = .ok (.aload_n 2, 1) := by decide +kernel
theorem dL_law_274 : decode cL_law 274 = .ok (.aload_n 0, 1) := by decide +kernel
theorem dL_law_275 : decode cL_law 275 = .ok (.iload 4, 2) := by decide +kernel
theorem dL_law_277 : decode cL_law 277 = .ok (.iconst 1, 1) := by decide +kernel
theorem dL_law_278 : decode cL_law 278 = .ok (.iadd, 1) := by decide +kernel
theorem dL_law_279 : decode cL_law 279 = .ok (.iaload, 1) := by decide +kernel
theorem dL_law_280 : decode cL_law 280 = .ok (.aload_n 0, 1) := by decide +kernel
theorem dL_law_281 : decode cL_law 281 = .ok (.iload 4, 2) := by decide +kernel
theorem dL_law_283 : decode cL_law 283 = .ok (.iconst 2, 1) := by decide +kernel
theorem dL_law_284 : decode cL_law 284 = .ok (.iadd, 1) := by decide +kernel
theorem dL_law_285 : decode cL_law 285 = .ok (.iaload, 1) := by decide +kernel
theorem dL_law_286 : decode cL_law 286 = .ok (.invokevirtual 72, 3) := by decide +kernel
theorem dL_law_289 : decode cL_law 289 = .ok (.istore 6, 2) := by decide +kernel
theorem dL_law_291 : decode cL_law 291 = .ok (.aload_n 2, 1) := by decide +kernel
theorem dL_law_292 : decode cL_law 292 = .ok (.invokevirtual 63, 3) := by decide +kernel
theorem dL_law_295 : decode cL_law 295 = .ok (.iload 5, 2) := by decide +kernel
theorem dL_law_297 : decode cL_law 297 = .ok (.if_icmp .eq 5, 3) := by decide +kernel
theorem dL_law_300 : decode cL_law 300 = .ok (.iconst 0, 1) := by decide +kernel
theorem dL_law_301 : decode cL_law 301 = .ok (.ireturn, 1) := by decide +kernel
theorem dL_law_302 : decode cL_law 302 = .ok (.iload 5, 2) := by decide +kernel
theorem dL_law_304 : decode cL_law 304 = .ok (.ifCond .ne 15, 3) := by decide +kernel
theorem dL_law_307 : decode cL_law 307 = .ok (.aload_n 3, 1) := by decide +kernel
theorem dL_law_308 : decode cL_law 308 = .ok (.iconst 0, 1) := by decide +kernel
theorem dL_law_309 : decode cL_law 309 = .ok (.laload, 1) := by decide +kernel
theorem dL_law_310 : decode cL_law 310 = .ok (.iload 6, 2) := by decide +kernel
theorem dL_law_312 : decode cL_law 312 = .ok (.i2l, 1) := by decide +kernel
theorem dL_law_313 : decode cL_law 313 = .ok (.lcmp, 1) := by decide +kernel
theorem dL_law_314 : decode cL_law 314 = .ok (.ifCond .eq 5, 3) := by decide +kernel
theorem dL_law_317 : decode cL_law 317 = .ok (.iconst 0, 1) := by decide +kernel
theorem dL_law_318 : decode cL_law 318 = .ok (.ireturn, 1) := by decide +kernel
theorem dL_law_319 : decode cL_law 319 = .ok (.goto 384, 3) := by decide +kernel
theorem dL_law_322 : decode cL_law 322 = .ok (.aload_n 1, 1) := by decide +kernel
theorem dL_law_323 : decode cL_law 323 = .ok (.aload_n 0, 1) := by decide +kernel
theorem dL_law_324 : decode cL_law 324 = .ok (.iload 4, 2) := by decide +kernel
theorem dL_law_326 : decode cL_law 326 = .ok (.iconst 1, 1) := by decide +kernel
theorem dL_law_327 : decode cL_law 327 = .ok (.iadd, 1) := by decide +kernel
theorem dL_law_328 : decode cL_law 328 = .ok (.iaload, 1) := by decide +kernel
theorem dL_law_329 : decode cL_law 329 = .ok (.invokevirtual 73, 3) := by decide +kernel
theorem dL_law_332 : decode cL_law 332 = .ok (.aload_n 2, 1) := by decide +kernel
theorem dL_law_333 : decode cL_law 333 = .ok (.aload_n 0, 1) := by decide +kernel
theorem dL_law_334 : decode cL_law 334 = .ok (.iload 4, 2) := by decide +kernel
theorem dL_law_336 : decode cL_law 336 = .ok (.iconst 1, 1) := by decide +kernel
theorem dL_law_337 : decode cL_law 337 = .ok (.iadd, 1) := by decide +kernel
theorem dL_law_338 : decode cL_law 338 = .ok (.iaload, 1) := by decide +kernel
theorem dL_law_339 : decode cL_law 339 = .ok (.invokevirtual 77, 3) := by decide +kernel
theorem dL_law_342 : decode cL_law 342 = .ok (.if_icmp .eq 361, 3) := by decide +kernel
theorem dL_law_345 : decode cL_law 345 = .ok (.iconst 0, 1) := by decide +kernel
theorem dL_law_346 : decode cL_law 346 = .ok (.ireturn, 1) := by decide +kernel
theorem dL_law_347 : decode cL_law 347 = .ok (.aload_n 1, 1) := by decide +kernel
theorem dL_law_348 : decode cL_law 348 = .ok (.aload_n 0, 1) := by decide +kernel
theorem dL_law_349 : decode cL_law 349 = .ok (.iload 4, 2) := by decide +kernel
theorem dL_law_351 : decode cL_law 351 = .ok (.iconst 1, 1) := by decide +kernel
theorem dL_law_352 : decode cL_law 352 = .ok (.iadd, 1) := by decide +kernel
theorem dL_law_353 : decode cL_law 353 = .ok (.iaload, 1) := by decide +kernel
theorem dL_law_354 : decode cL_law 354 = .ok (.aload_n 0, 1) := by decide +kernel
theorem dL_law_355 : decode cL_law 355 = .ok (.iload 4, 2) := by decide +kernel
theorem dL_law_357 : decode cL_law 357 = .ok (.iconst 2, 1) := by decide +kernel
theorem dL_law_358 : decode cL_law 358 = .ok (.iadd, 1) := by decide +kernel
theorem dL_law_359 : decode cL_law 359 = .ok (.iaload, 1) := by decide +kernel
theorem dL_law_360 : decode cL_law 360 = .ok (.aload_n 0, 1) := by decide +kernel
theorem dL_law_361 : decode cL_law 361 = .ok (.iload 4, 2) := by decide +kernel
theorem dL_law_363 : decode cL_law 363 = .ok (.iconst 3, 1) := by decide +kernel
theorem dL_law_364 : decode cL_law 364 = .ok (.iadd, 1) := by decide +kernel
theorem dL_law_365 : decode cL_law 365 = .ok (.iaload, 1) := by decide +kernel
theorem dL_law_366 : decode cL_law 366 = .ok (.aload_n 3, 1) := by decide +kernel
theorem dL_law_367 : decode cL_law 367 = .ok (.invokestatic 78, 3) := by decide +kernel
theorem dL_law_370 : decode cL_law 370 = .ok (.istore 5, 2) := by decide +kernel
theorem dL_law_372 : decode cL_law 372 = .ok (.aload_n 2, 1) := by decide +kernel
theorem dL_law_373 : decode cL_law 373 = .ok (.aload_n 0, 1) := by decide +kernel
theorem dL_law_374 : decode cL_law 374 = .ok (.iload 4, 2) := by decide +kernel
theorem dL_law_376 : decode cL_law 376 = .ok (.iconst 1, 1) := by decide +kernel
theorem dL_law_377 : decode cL_law 377 = .ok (.iadd, 1) := by decide +kernel
theorem dL_law_378 : decode cL_law 378 = .ok (.iaload, 1) := by decide +kernel
theorem dL_law_379 : decode cL_law 379 = .ok (.aload_n 0, 1) := by decide +kernel
theorem dL_law_380 : decode cL_law 380 = .ok (.iload 4, 2) := by decide +kernel
theorem dL_law_382 : decode cL_law 382 = .ok (.iconst 2, 1) := by decide +kernel
theorem dL_law_383 : decode cL_law 383 = .ok (.iadd, 1) := by decide +kernel
theorem dL_law_384 : decode cL_law 384 = .ok (.iaload, 1) := by decide +kernel
theorem dL_law_385 : decode cL_law 385 = .ok (.aload_n 0, 1) := by decide +kernel
theorem dL_law_386 : decode cL_law 386 = .ok (.iload 4, 2) := by decide +kernel
theorem dL_law_388 : decode cL_law 388 = .ok (.iconst 3, 1) := by decide +kernel
theorem dL_law_389 : decode cL_law 389 = .ok (.iadd, 1) := by decide +kernel
theorem dL_law_390 : decode cL_law 390 = .ok (.iaload, 1) := by decide +kernel
theorem dL_law_391 : decode cL_law 391 = .ok (.invokevirtual 81, 3) := by decide +kernel
theorem dL_law_394 : decode cL_law 394 = .ok (.istore 6, 2) := by decide +kernel
theorem dL_law_396 : decode cL_law 396 = .ok (.aload_n 2, 1) := by decide +kernel
theorem dL_law_397 : decode cL_law 397 = .ok (.invokevirtual 63, 3) := by decide +kernel
theorem dL_law_400 : decode cL_law 400 = .ok (.iload 5, 2) := by decide +kernel
theorem dL_law_402 : decode cL_law 402 = .ok (.if_icmp .eq 5, 3) := by decide +kernel
theorem dL_law_405 : decode cL_law 405 = .ok (.iconst 0, 1) := by decide +kernel
theorem dL_law_406 : decode cL_law 406 = .ok (.ireturn, 1) := by decide +kernel
theorem dL_law_407 : decode cL_law 407 = .ok (.iload 5, 2) := by decide +kernel
theorem dL_law_409 : decode cL_law 409 = .ok (.ifCond .ne 15, 3) := by decide +kernel
theorem dL_law_412 : decode cL_law 412 = .ok (.aload_n 3, 1) := by decide +kernel
theorem dL_law_413 : decode cL_law 413 = .ok (.iconst 0, 1) := by decide +kernel
theorem dL_law_414 : decode cL_law 414 = .ok (.laload, 1) := by decide +kernel
theorem dL_law_415 : decode cL_law 415 = .ok (.iload 6, 2) := by decide +kernel
theorem dL_law_417 : decode cL_law 417 = .ok (.i2l, 1) := by decide +kernel
theorem dL_law_418 : decode cL_law 418 = .ok (.lcmp, 1) := by decide +kernel
theorem dL_law_419 : decode cL_law 419 = .ok (.ifCond .eq 5, 3) := by decide +kernel
theorem dL_law_422 : decode cL_law 422 = .ok (.iconst 0, 1) := by decide +kernel
theorem dL_law_423 : decode cL_law 423 = .ok (.ireturn, 1) := by decide +kernel
theorem dL_law_424 : decode cL_law 424 = .ok (.goto 279, 3) := by decide +kernel
theorem dL_law_427 : decode cL_law 427 = .ok (.aload_n 1, 1) := by decide +kernel
theorem dL_law_428 : decode cL_law 428 = .ok (.invokevirtual 82, 3) := by decide +kernel
theorem dL_law_431 : decode cL_law 431 = .ok (.aload_n 2, 1) := by decide +kernel
theorem dL_law_432 : decode cL_law 432 = .ok (.invokevirtual 85, 3) := by decide +kernel
theorem dL_law_435 : decode cL_law 435 = .ok (.if_icmp .eq 268, 3) := by decide +kernel
theorem dL_law_438 : decode cL_law 438 = .ok (.iconst 0, 1) := by decide +kernel
theorem dL_law_439 : decode cL_law 439 = .ok (.ireturn, 1) := by decide +kernel
theorem dL_law_440 : decode cL_law 440 = .ok (.aload_n 1, 1) := by decide +kernel
theorem dL_law_441 : decode cL_law 441 = .ok (.invokevirtual 86, 3) := by decide +kernel
theorem dL_law_444 : decode cL_law 444 = .ok (.aload_n 2, 1) := by decide +kernel
theorem dL_law_445 : decode cL_law 445 = .ok (.invokevirtual 89, 3) := by decide +kernel
theorem dL_law_448 : decode cL_law 448 = .ok (.if_icmp .eq 255, 3) := by decide +kernel
theorem dL_law_451 : decode cL_law 451 = .ok (.iconst 0, 1) := by decide +kernel
theorem dL_law_452 : decode cL_law 452 = .ok (.ireturn, 1) := by decide +kernel
theorem dL_law_453 : decode cL_law 453 = .ok (.aload_n 1, 1) := by decide +kernel
theorem dL_law_454 : decode cL_law 454 = .ok (.aload_n 3, 1) := by decide +kernel
theorem dL_law_455 : decode cL_law 455 = .ok (.invokestatic 90, 3) := by decide +kernel
theorem dL_law_458 : decode cL_law 458 = .ok (.istore 5, 2) := by decide +kernel
theorem dL_law_460 : decode cL_law 460 = .ok (.aload_n 2, 1) := by decide +kernel
theorem dL_law_461 : decode cL_law 461 = .ok (.invokevirtual 92, 3) := by decide +kernel
theorem dL_law_464 : decode cL_law 464 = .ok (.istore 6, 2) := by decide +kernel
theorem dL_law_466 : decode cL_law 466 = .ok (.aload_n 2, 1) := by decide +kernel
theorem dL_law_467 : decode cL_law 467 = .ok (.invokevirtual 63, 3) := by decide +kernel
theorem dL_law_470 : decode cL_law 470 = .ok (.iload 5, 2) := by decide +kernel
theorem dL_law_472 : decode cL_law 472 = .ok (.if_icmp .eq 5, 3) := by decide +kernel
theorem dL_law_475 : decode cL_law 475 = .ok (.iconst 0, 1) := by decide +kernel
theorem dL_law_476 : decode cL_law 476 = .ok (.ireturn, 1) := by decide +kernel
theorem dL_law_477 : decode cL_law 477 = .ok (.iload 5, 2) := by decide +kernel
theorem dL_law_479 : decode cL_law 479 = .ok (.ifCond .ne 15, 3) := by decide +kernel
theorem dL_law_482 : decode cL_law 482 = .ok (.aload_n 3, 1) := by decide +kernel
theorem dL_law_483 : decode cL_law 483 = .ok (.iconst 0, 1) := by decide +kernel
theorem dL_law_484 : decode cL_law 484 = .ok (.laload, 1) := by decide +kernel
theorem dL_law_485 : decode cL_law 485 = .ok (.iload 6, 2) := by decide +kernel
theorem dL_law_487 : decode cL_law 487 = .ok (.i2l, 1) := by decide +kernel
theorem dL_law_488 : decode cL_law 488 = .ok (.lcmp, 1) := by decide +kernel
theorem dL_law_489 : decode cL_law 489 = .ok (.ifCond .eq 5, 3) := by decide +kernel
theorem dL_law_492 : decode cL_law 492 = .ok (.iconst 0, 1) := by decide +kernel
theorem dL_law_493 : decode cL_law 493 = .ok (.ireturn, 1) := by decide +kernel
theorem dL_law_494 : decode cL_law 494 = .ok (.goto 209, 3) := by decide +kernel
theorem dL_law_497 : decode cL_law 497 = .ok (.aload_n 1, 1) := by decide +kernel
theorem dL_law_498 : decode cL_law 498 = .ok (.aload_n 0, 1) := by decide +kernel
theorem dL_law_499 : decode cL_law 499 = .ok (.iload 4, 2) := by decide +kernel
theorem dL_law_501 : decode cL_law 501 = .ok (.iconst 1, 1) := by decide +kernel
theorem dL_law_502 : decode cL_law 502 = .ok (.iadd, 1) := by decide +kernel
theorem dL_law_503 : decode cL_law 503 = .ok (.iaload, 1) := by decide +kernel
theorem dL_law_504 : decode cL_law 504 = .ok (.aload_n 0, 1) := by decide +kernel
theorem dL_law_505 : decode cL_law 505 = .ok (.iload 4, 2) := by decide +kernel
theorem dL_law_507 : decode cL_law 507 = .ok (.iconst 2, 1) := by decide +kernel
theorem dL_law_508 : decode cL_law 508 = .ok (.iadd, 1) := by decide +kernel
theorem dL_law_509 : decode cL_law 509 = .ok (.iaload, 1) := by decide +kernel
theorem dL_law_510 : decode cL_law 510 = .ok (.aload_n 3, 1) := by decide +kernel
theorem dL_law_511 : decode cL_law 511 = .ok (.invokestatic 93, 3) := by decide +kernel
theorem dL_law_514 : decode cL_law 514 = .ok (.istore 5, 2) := by decide +kernel
theorem dL_law_516 : decode cL_law 516 = .ok (.aload_n 2, 1) := by decide +kernel
theorem dL_law_517 : decode cL_law 517 = .ok (.aload_n 0, 1) := by decide +kernel
theorem dL_law_518 : decode cL_law 518 = .ok (.iload 4, 2) := by decide +kernel
theorem dL_law_520 : decode cL_law 520 = .ok (.iconst 1, 1) := by decide +kernel
theorem dL_law_521 : decode cL_law 521 = .ok (.iadd, 1) := by decide +kernel
theorem dL_law_522 : decode cL_law 522 = .ok (.iaload, 1) := by decide +kernel
theorem dL_law_523 : decode cL_law 523 = .ok (.aload_n 0, 1) := by decide +kernel
theorem dL_law_524 : decode cL_law 524 = .ok (.iload 4, 2) := by decide +kernel
theorem dL_law_526 : decode cL_law 526 = .ok (.iconst 2, 1) := by decide +kernel
theorem dL_law_527 : decode cL_law 527 = .ok (.iadd, 1) := by decide +kernel
theorem dL_law_528 : decode cL_law 528 = .ok (.iaload, 1) := by decide +kernel
theorem dL_law_529 : decode cL_law 529 = .ok (.invokevirtual 95, 3) := by decide +kernel
theorem dL_law_532 : decode cL_law 532 = .ok (.istore 6, 2) := by decide +kernel
theorem dL_law_534 : decode cL_law 534 = .ok (.aload_n 2, 1) := by decide +kernel
theorem dL_law_535 : decode cL_law 535 = .ok (.invokevirtual 63, 3) := by decide +kernel
theorem dL_law_538 : decode cL_law 538 = .ok (.iload 5, 2) := by decide +kernel
theorem dL_law_540 : decode cL_law 540 = .ok (.if_icmp .eq 5, 3) := by decide +kernel
theorem dL_law_543 : decode cL_law 543 = .ok (.iconst 0, 1) := by decide +kernel
theorem dL_law_544 : decode cL_law 544 = .ok (.ireturn, 1) := by decide +kernel
theorem dL_law_545 : decode cL_law 545 = .ok (.iload 5, 2) := by decide +kernel
theorem dL_law_547 : decode cL_law 547 = .ok (.ifCond .ne 22, 3) := by decide +kernel
theorem dL_law_550 : decode cL_law 550 = .ok (.aload_n 3, 1) := by decide +kernel
theorem dL_law_551 : decode cL_law 551 = .ok (.iconst 0, 1) := by decide +kernel
theorem dL_law_552 : decode cL_law 552 = .ok (.laload, 1) := by decide +kernel
theorem dL_law_553 : decode cL_law 553 = .ok (.iload 6, 2) := by decide +kernel
theorem dL_law_555 : decode cL_law 555 = .ok (.ifCond .eq 7, 3) := by decide +kernel
theorem dL_law_558 : decode cL_law 558 = .ok (.lconst 1, 1) := by decide +kernel
theorem dL_law_559 : decode cL_law 559 = .ok (.goto 4, 3) := by decide +kernel
theorem dL_law_562 : decode cL_law 562 = .ok (.lconst 0, 1) := by decide +kernel
theorem dL_law_563 : decode cL_law 563 = .ok (.lcmp, 1) := by decide +kernel
theorem dL_law_564 : decode cL_law 564 = .ok (.ifCond .eq 5, 3) := by decide +kernel
theorem dL_law_567 : decode cL_law 567 = .ok (.iconst 0, 1) := by decide +kernel
theorem dL_law_568 : decode cL_law 568 = .ok (.ireturn, 1) := by decide +kernel
theorem dL_law_569 : decode cL_law 569 = .ok (.goto 134, 3) := by decide +kernel
theorem dL_law_572 : decode cL_law 572 = .ok (.aload_n 1, 1) := by decide +kernel
theorem dL_law_573 : decode cL_law 573 = .ok (.aload_n 0, 1) := by decide +kernel
theorem dL_law_574 : decode cL_law 574 = .ok (.iload 4, 2) := by decide +kernel
theorem dL_law_576 : decode cL_law 576 = .ok (.iconst 1, 1) := by decide +kernel
theorem dL_law_577 : decode cL_law 577 = .ok (.iadd, 1) := by decide +kernel
theorem dL_law_578 : decode cL_law 578 = .ok (.iaload, 1) := by decide +kernel
theorem dL_law_579 : decode cL_law 579 = .ok (.aload_n 0, 1) := by decide +kernel
theorem dL_law_580 : decode cL_law 580 = .ok (.iload 4, 2) := by decide +kernel
theorem dL_law_582 : decode cL_law 582 = .ok (.iconst 2, 1) := by decide +kernel
theorem dL_law_583 : decode cL_law 583 = .ok (.iadd, 1) := by decide +kernel
theorem dL_law_584 : decode cL_law 584 = .ok (.iaload, 1) := by decide +kernel
theorem dL_law_585 : decode cL_law 585 = .ok (.aload_n 3, 1) := by decide +kernel
theorem dL_law_586 : decode cL_law 586 = .ok (.invokestatic 96, 3) := by decide +kernel
theorem dL_law_589 : decode cL_law 589 = .ok (.istore 5, 2) := by decide +kernel
theorem dL_law_591 : decode cL_law 591 = .ok (.aload_n 2, 1) := by decide +kernel
theorem dL_law_592 : decode cL_law 592 = .ok (.aload_n 0, 1) := by decide +kernel
theorem dL_law_593 : decode cL_law 593 = .ok (.iload 4, 2) := by decide +kernel
theorem dL_law_595 : decode cL_law 595 = .ok (.iconst 1, 1) := by decide +kernel
theorem dL_law_596 : decode cL_law 596 = .ok (.iadd, 1) := by decide +kernel
theorem dL_law_597 : decode cL_law 597 = .ok (.iaload, 1) := by decide +kernel
theorem dL_law_598 : decode cL_law 598 = .ok (.aload_n 0, 1) := by decide +kernel
theorem dL_law_599 : decode cL_law 599 = .ok (.iload 4, 2) := by decide +kernel
theorem dL_law_601 : decode cL_law 601 = .ok (.iconst 2, 1) := by decide +kernel
theorem dL_law_602 : decode cL_law 602 = .ok (.iadd, 1) := by decide +kernel
theorem dL_law_603 : decode cL_law 603 = .ok (.iaload, 1) := by decide +kernel
theorem dL_law_604 : decode cL_law 604 = .ok (.invokevirtual 98, 3) := by decide +kernel
theorem dL_law_607 : decode cL_law 607 = .ok (.istore 6, 2) := by decide +kernel
theorem dL_law_609 : decode cL_law 609 = .ok (.aload_n 2, 1) := by decide +kernel
theorem dL_law_610 : decode cL_law 610 = .ok (.invokevirtual 63, 3) := by decide +kernel
theorem dL_law_613 : decode cL_law 613 = .ok (.iload 5, 2) := by decide +kernel
theorem dL_law_615 : decode cL_law 615 = .ok (.if_icmp .eq 5, 3) := by decide +kernel
theorem dL_law_618 : decode cL_law 618 = .ok (.iconst 0, 1) := by decide +kernel
theorem dL_law_619 : decode cL_law 619 = .ok (.ireturn, 1) := by decide +kernel
theorem dL_law_620 : decode cL_law 620 = .ok (.iload 5, 2) := by decide +kernel
theorem dL_law_622 : decode cL_law 622 = .ok (.ifCond .ne 22, 3) := by decide +kernel
theorem dL_law_625 : decode cL_law 625 = .ok (.aload_n 3, 1) := by decide +kernel
theorem dL_law_626 : decode cL_law 626 = .ok (.iconst 0, 1) := by decide +kernel
theorem dL_law_627 : decode cL_law 627 = .ok (.laload, 1) := by decide +kernel
theorem dL_law_628 : decode cL_law 628 = .ok (.iload 6, 2) := by decide +kernel
theorem dL_law_630 : decode cL_law 630 = .ok (.ifCond .eq 7, 3) := by decide +kernel
theorem dL_law_633 : decode cL_law 633 = .ok (.lconst 1, 1) := by decide +kernel
theorem dL_law_634 : decode cL_law 634 = .ok (.goto 4, 3) := by decide +kernel
theorem dL_law_637 : decode cL_law 637 = .ok (.lconst 0, 1) := by decide +kernel
theorem dL_law_638 : decode cL_law 638 = .ok (.lcmp, 1) := by decide +kernel
theorem dL_law_639 : decode cL_law 639 = .ok (.ifCond .eq 5, 3) := by decide +kernel
theorem dL_law_642 : decode cL_law 642 = .ok (.iconst 0, 1) := by decide +kernel
theorem dL_law_643 : decode cL_law 643 = .ok (.ireturn, 1) := by decide +kernel
theorem dL_law_644 : decode cL_law 644 = .ok (.goto 59, 3) := by decide +kernel
theorem dL_law_647 : decode cL_law 647 = .ok (.aload_n 1, 1) := by decide +kernel
theorem dL_law_648 : decode cL_law 648 = .ok (.aload_n 0, 1) := by decide +kernel
theorem dL_law_649 : decode cL_law 649 = .ok (.iload 4, 2) := by decide +kernel
theorem dL_law_651 : decode cL_law 651 = .ok (.iconst 1, 1) := by decide +kernel
theorem dL_law_652 : decode cL_law 652 = .ok (.iadd, 1) := by decide +kernel
theorem dL_law_653 : decode cL_law 653 = .ok (.iaload, 1) := by decide +kernel
theorem dL_law_654 : decode cL_law 654 = .ok (.aload_n 3, 1) := by decide +kernel
theorem dL_law_655 : decode cL_law 655 = .ok (.invokestatic 99, 3) := by decide +kernel
theorem dL_law_658 : decode cL_law 658 = .ok (.istore 5, 2) := by decide +kernel
theorem dL_law_660 : decode cL_law 660 = .ok (.aload_n 2, 1) := by decide +kernel
theorem dL_law_661 : decode cL_law 661 = .ok (.aload_n 0, 1) := by decide +kernel
theorem dL_law_662 : decode cL_law 662 = .ok (.iload 4, 2) := by decide +kernel
theorem dL_law_664 : decode cL_law 664 = .ok (.iconst 1, 1) := by decide +kernel
theorem dL_law_665 : decode cL_law 665 = .ok (.iadd, 1) := by decide +kernel
theorem dL_law_666 : decode cL_law 666 = .ok (.iaload, 1) := by decide +kernel
theorem dL_law_667 : decode cL_law 667 = .ok (.invokevirtual 102, 3) := by decide +kernel
theorem dL_law_670 : decode cL_law 670 = .ok (.istore 6, 2) := by decide +kernel
theorem dL_law_672 : decode cL_law 672 = .ok (.aload_n 2, 1) := by decide +kernel
theorem dL_law_673 : decode cL_law 673 = .ok (.invokevirtual 63, 3) := by decide +kernel
theorem dL_law_676 : decode cL_law 676 = .ok (.iload 5, 2) := by decide +kernel
theorem dL_law_678 : decode cL_law 678 = .ok (.if_icmp .eq 5, 3) := by decide +kernel
theorem dL_law_681 : decode cL_law 681 = .ok (.iconst 0, 1) := by decide +kernel
theorem dL_law_682 : decode cL_law 682 = .ok (.ireturn, 1) := by decide +kernel
theorem dL_law_683 : decode cL_law 683 = .ok (.iload 5, 2) := by decide +kernel
theorem dL_law_685 : decode cL_law 685 = .ok (.ifCond .ne 15, 3) := by decide +kernel
theorem dL_law_688 : decode cL_law 688 = .ok (.aload_n 3, 1) := by decide +kernel
theorem dL_law_689 : decode cL_law 689 = .ok (.iconst 0, 1) := by decide +kernel
theorem dL_law_690 : decode cL_law 690 = .ok (.laload, 1) := by decide +kernel
theorem dL_law_691 : decode cL_law 691 = .ok (.iload 6, 2) := by decide +kernel
theorem dL_law_693 : decode cL_law 693 = .ok (.i2l, 1) := by decide +kernel
theorem dL_law_694 : decode cL_law 694 = .ok (.lcmp, 1) := by decide +kernel
theorem dL_law_695 : decode cL_law 695 = .ok (.ifCond .eq 5, 3) := by decide +kernel
theorem dL_law_698 : decode cL_law 698 = .ok (.iconst 0, 1) := by decide +kernel
theorem dL_law_699 : decode cL_law 699 = .ok (.ireturn, 1) := by decide +kernel
theorem dL_law_700 : decode cL_law 700 = .ok (.goto 3, 3) := by decide +kernel
theorem dL_law_703 : decode cL_law 703 = .ok (.iinc 4 4, 3) := by decide +kernel
theorem dL_law_706 : decode cL_law 706 = .ok (.goto (-683), 3) := by decide +kernel
theorem dL_law_709 : decode cL_law 709 = .ok (.iconst 1, 1) := by decide +kernel
theorem dL_law_710 : decode cL_law 710 = .ok (.ireturn, 1) := by decide +kernel
