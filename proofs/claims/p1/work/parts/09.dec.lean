theorem dX9_has_0 : decode cX9_has 0 = .ok (.iload_n 0, 1) := by decide +kernel
theorem dX9_has_1 : decode cX9_has 1 = .ok (.iload_n 1, 1) := by decide +kernel
theorem dX9_has_2 : decode cX9_has 2 = .ok (.ishr, 1) := by decide +kernel
theorem dX9_has_3 : decode cX9_has 3 = .ok (.iconst 1, 1) := by decide +kernel
theorem dX9_has_4 : decode cX9_has 4 = .ok (.iand, 1) := by decide +kernel
theorem dX9_has_5 : decode cX9_has 5 = .ok (.ifCond .eq 7, 3) := by decide +kernel
theorem dX9_has_8 : decode cX9_has 8 = .ok (.iconst 1, 1) := by decide +kernel
theorem dX9_has_9 : decode cX9_has 9 = .ok (.goto 4, 3) := by decide +kernel
theorem dX9_has_12 : decode cX9_has 12 = .ok (.iconst 0, 1) := by decide +kernel
theorem dX9_has_13 : decode cX9_has 13 = .ok (.ireturn, 1) := by decide +kernel
theorem dX4_rest_0 : decode cX4_rest 0 = .ok (.aload_n 0, 1) := by decide +kernel
theorem dX4_rest_1 : decode cX4_rest 1 = .ok (.iconst 0, 1) := by decide +kernel
theorem dX4_rest_2 : decode cX4_rest 2 = .ok (.putfield 49, 3) := by decide +kernel
theorem dX4_rest_5 : decode cX4_rest 5 = .ok (.aload_n 0, 1) := by decide +kernel
theorem dX4_rest_6 : decode cX4_rest 6 = .ok (.iconst 0, 1) := by decide +kernel
theorem dX4_rest_7 : decode cX4_rest 7 = .ok (.putfield 52, 3) := by decide +kernel
theorem dX4_rest_10 : decode cX4_rest 10 = .ok (.aload_n 0, 1) := by decide +kernel
theorem dX4_rest_11 : decode cX4_rest 11 = .ok (.iconst 0, 1) := by decide +kernel
theorem dX4_rest_12 : decode cX4_rest 12 = .ok (.putfield 55, 3) := by decide +kernel
theorem dX4_rest_15 : decode cX4_rest 15 = .ok (.aload_n 0, 1) := by decide +kernel
theorem dX4_rest_16 : decode cX4_rest 16 = .ok (.iconst 0, 1) := by decide +kernel
theorem dX4_rest_17 : decode cX4_rest 17 = .ok (.putfield 58, 3) := by decide +kernel
theorem dX4_rest_20 : decode cX4_rest 20 = .ok (.return_, 1) := by decide +kernel
theorem dX4_firstWaiter_0 : decode cX4_firstWaiter 0 = .ok (.iconst (-1), 1) := by decide +kernel
theorem dX4_firstWaiter_1 : decode cX4_firstWaiter 1 = .ok (.istore_n 1, 1) := by decide +kernel
theorem dX4_firstWaiter_2 : decode cX4_firstWaiter 2 = .ok (.iconst 0, 1) := by decide +kernel
theorem dX4_firstWaiter_3 : decode cX4_firstWaiter 3 = .ok (.istore_n 2, 1) := by decide +kernel
theorem dX4_firstWaiter_4 : decode cX4_firstWaiter 4 = .ok (.iload_n 2, 1) := by decide +kernel
theorem dX4_firstWaiter_5 : decode cX4_firstWaiter 5 = .ok (.bipush 16, 2) := by decide +kernel
theorem dX4_firstWaiter_7 : decode cX4_firstWaiter 7 = .ok (.if_icmp .ge 42, 3) := by decide +kernel
theorem dX4_firstWaiter_10 : decode cX4_firstWaiter 10 = .ok (.aload_n 0, 1) := by decide +kernel
theorem dX4_firstWaiter_11 : decode cX4_firstWaiter 11 = .ok (.getfield 64, 3) := by decide +kernel
theorem dX4_firstWaiter_14 : decode cX4_firstWaiter 14 = .ok (.iload_n 2, 1) := by decide +kernel
theorem dX4_firstWaiter_15 : decode cX4_firstWaiter 15 = .ok (.invokestatic 77, 3) := by decide +kernel
theorem dX4_firstWaiter_18 : decode cX4_firstWaiter 18 = .ok (.ifCond .eq 25, 3) := by decide +kernel
theorem dX4_firstWaiter_21 : decode cX4_firstWaiter 21 = .ok (.iload_n 1, 1) := by decide +kernel
theorem dX4_firstWaiter_22 : decode cX4_firstWaiter 22 = .ok (.iconst (-1), 1) := by decide +kernel
theorem dX4_firstWaiter_23 : decode cX4_firstWaiter 23 = .ok (.if_icmp .eq 18, 3) := by decide +kernel
theorem dX4_firstWaiter_26 : decode cX4_firstWaiter 26 = .ok (.aload_n 0, 1) := by decide +kernel
theorem dX4_firstWaiter_27 : decode cX4_firstWaiter 27 = .ok (.getfield 18, 3) := by decide +kernel
theorem dX4_firstWaiter_30 : decode cX4_firstWaiter 30 = .ok (.iload_n 2, 1) := by decide +kernel
theorem dX4_firstWaiter_31 : decode cX4_firstWaiter 31 = .ok (.iaload, 1) := by decide +kernel
theorem dX4_firstWaiter_32 : decode cX4_firstWaiter 32 = .ok (.aload_n 0, 1) := by decide +kernel
theorem dX4_firstWaiter_33 : decode cX4_firstWaiter 33 = .ok (.getfield 18, 3) := by decide +kernel
theorem dX4_firstWaiter_36 : decode cX4_firstWaiter 36 = .ok (.iload_n 1, 1) := by decide +kernel
theorem dX4_firstWaiter_37 : decode cX4_firstWaiter 37 = .ok (.iaload, 1) := by decide +kernel
theorem dX4_firstWaiter_38 : decode cX4_firstWaiter 38 = .ok (.if_icmp .ge 5, 3) := by decide +kernel
theorem dX4_firstWaiter_41 : decode cX4_firstWaiter 41 = .ok (.iload_n 2, 1) := by decide +kernel
theorem dX4_firstWaiter_42 : decode cX4_firstWaiter 42 = .ok (.istore_n 1, 1) := by decide +kernel
theorem dX4_firstWaiter_43 : decode cX4_firstWaiter 43 = .ok (.iinc 2 1, 3) := by decide +kernel
theorem dX4_firstWaiter_46 : decode cX4_firstWaiter 46 = .ok (.goto (-42), 3) := by decide +kernel
theorem dX4_firstWaiter_49 : decode cX4_firstWaiter 49 = .ok (.iload_n 1, 1) := by decide +kernel
theorem dX4_firstWaiter_50 : decode cX4_firstWaiter 50 = .ok (.ireturn, 1) := by decide +kernel
theorem dJ9_min_7cf53_0 : decode cJ9_min_7cf53 0 = .ok (.iload_n 0, 1) := by decide +kernel
theorem dJ9_min_7cf53_1 : decode cJ9_min_7cf53 1 = .ok (.iload_n 1, 1) := by decide +kernel
theorem dJ9_min_7cf53_2 : decode cJ9_min_7cf53 2 = .ok (.if_icmp .gt 7, 3) := by decide +kernel
theorem dJ9_min_7cf53_5 : decode cJ9_min_7cf53 5 = .ok (.iload_n 0, 1) := by decide +kernel
theorem dJ9_min_7cf53_6 : decode cJ9_min_7cf53 6 = .ok (.goto 4, 3) := by decide +kernel
theorem dJ9_min_7cf53_9 : decode cJ9_min_7cf53 9 = .ok (.iload_n 1, 1) := by decide +kernel
theorem dJ9_min_7cf53_10 : decode cJ9_min_7cf53 10 = .ok (.ireturn, 1) := by decide +kernel
theorem dJ7_copyOf_59c91_0 : decode cJ7_copyOf_59c91 0 = .ok (.iload_n 1, 1) := by decide +kernel
theorem dJ7_copyOf_59c91_1 : decode cJ7_copyOf_59c91 1 = .ok (.aload_n 0, 1) := by decide +kernel
theorem dJ7_copyOf_59c91_2 : decode cJ7_copyOf_59c91 2 = .ok (.arraylength, 1) := by decide +kernel
theorem dJ7_copyOf_59c91_3 : decode cJ7_copyOf_59c91 3 = .ok (.if_icmp .ne 11, 3) := by decide +kernel
theorem dJ7_copyOf_59c91_6 : decode cJ7_copyOf_59c91 6 = .ok (.aload_n 0, 1) := by decide +kernel
theorem dJ7_copyOf_59c91_7 : decode cJ7_copyOf_59c91 7 = .ok (.invokevirtual 316, 3) := by decide +kernel
theorem dJ7_copyOf_59c91_10 : decode cJ7_copyOf_59c91 10 = .ok (.checkcast 317, 3) := by decide +kernel
theorem dJ7_copyOf_59c91_13 : decode cJ7_copyOf_59c91 13 = .ok (.areturn, 1) := by decide +kernel
theorem dJ7_copyOf_59c91_14 : decode cJ7_copyOf_59c91 14 = .ok (.iload_n 1, 1) := by decide +kernel
theorem dJ7_copyOf_59c91_15 : decode cJ7_copyOf_59c91 15 = .ok (.newarray .int, 2) := by decide +kernel
theorem dJ7_copyOf_59c91_17 : decode cJ7_copyOf_59c91 17 = .ok (.astore_n 2, 1) := by decide +kernel
theorem dJ7_copyOf_59c91_18 : decode cJ7_copyOf_59c91 18 = .ok (.aload_n 0, 1) := by decide +kernel
theorem dJ7_copyOf_59c91_19 : decode cJ7_copyOf_59c91 19 = .ok (.iconst 0, 1) := by decide +kernel
theorem dJ7_copyOf_59c91_20 : decode cJ7_copyOf_59c91 20 = .ok (.aload_n 2, 1) := by decide +kernel
theorem dJ7_copyOf_59c91_21 : decode cJ7_copyOf_59c91 21 = .ok (.iconst 0, 1) := by decide +kernel
theorem dJ7_copyOf_59c91_22 : decode cJ7_copyOf_59c91 22 = .ok (.aload_n 0, 1) := by decide +kernel
theorem dJ7_copyOf_59c91_23 : decode cJ7_copyOf_59c91 23 = .ok (.arraylength, 1) := by decide +kernel
theorem dJ7_copyOf_59c91_24 : decode cJ7_copyOf_59c91 24 = .ok (.iload_n 1, 1) := by decide +kernel
theorem dJ7_copyOf_59c91_25 : decode cJ7_copyOf_59c91 25 = .ok (.invokestatic 304, 3) := by decide +kernel
theorem dJ7_copyOf_59c91_28 : decode cJ7_copyOf_59c91 28 = .ok (.invokestatic 150, 3) := by decide +kernel
theorem dJ7_copyOf_59c91_31 : decode cJ7_copyOf_59c91 31 = .ok (.aload_n 2, 1) := by decide +kernel
theorem dJ7_copyOf_59c91_32 : decode cJ7_copyOf_59c91 32 = .ok (.areturn, 1) := by decide +kernel
theorem dX5_put_0 : decode cX5_put 0 = .ok (.aload_n 0, 1) := by decide +kernel
theorem dX5_put_1 : decode cX5_put 1 = .ok (.getfield 40, 3) := by decide +kernel
theorem dX5_put_4 : decode cX5_put 4 = .ok (.ldc 43, 2) := by decide +kernel
theorem dX5_put_6 : decode cX5_put 6 = .ok (.if_icmp .lt 4, 3) := by decide +kernel
theorem dX5_put_9 : decode cX5_put 9 = .ok (.return_, 1) := by decide +kernel
theorem dX5_put_10 : decode cX5_put 10 = .ok (.aload_n 0, 1) := by decide +kernel
theorem dX5_put_11 : decode cX5_put 11 = .ok (.getfield 36, 3) := by decide +kernel
theorem dX5_put_14 : decode cX5_put 14 = .ok (.iconst (-1), 1) := by decide +kernel
theorem dX5_put_15 : decode cX5_put 15 = .ok (.if_icmp .ne 66, 3) := by decide +kernel
theorem dX5_put_18 : decode cX5_put 18 = .ok (.aload_n 0, 1) := by decide +kernel
theorem dX5_put_19 : decode cX5_put 19 = .ok (.getfield 44, 3) := by decide +kernel
theorem dX5_put_22 : decode cX5_put 22 = .ok (.aload_n 0, 1) := by decide +kernel
theorem dX5_put_23 : decode cX5_put 23 = .ok (.getfield 27, 3) := by decide +kernel
theorem dX5_put_26 : decode cX5_put 26 = .ok (.arraylength, 1) := by decide +kernel
theorem dX5_put_27 : decode cX5_put 27 = .ok (.if_icmp .lt 54, 3) := by decide +kernel
theorem dX5_put_30 : decode cX5_put 30 = .ok (.aload_n 0, 1) := by decide +kernel
theorem dX5_put_31 : decode cX5_put 31 = .ok (.aload_n 0, 1) := by decide +kernel
theorem dX5_put_32 : decode cX5_put 32 = .ok (.getfield 27, 3) := by decide +kernel
theorem dX5_put_35 : decode cX5_put 35 = .ok (.aload_n 0, 1) := by decide +kernel
theorem dX5_put_36 : decode cX5_put 36 = .ok (.getfield 44, 3) := by decide +kernel
theorem dX5_put_39 : decode cX5_put 39 = .ok (.iconst 2, 1) := by decide +kernel
theorem dX5_put_40 : decode cX5_put 40 = .ok (.imul, 1) := by decide +kernel
theorem dX5_put_41 : decode cX5_put 41 = .ok (.invokestatic 47, 3) := by decide +kernel
theorem dX5_put_44 : decode cX5_put 44 = .ok (.putfield 27, 3) := by decide +kernel
theorem dX5_put_47 : decode cX5_put 47 = .ok (.aload_n 0, 1) := by decide +kernel
theorem dX5_put_48 : decode cX5_put 48 = .ok (.aload_n 0, 1) := by decide +kernel
theorem dX5_put_49 : decode cX5_put 49 = .ok (.getfield 30, 3) := by decide +kernel
theorem dX5_put_52 : decode cX5_put 52 = .ok (.aload_n 0, 1) := by decide +kernel
theorem dX5_put_53 : decode cX5_put 53 = .ok (.getfield 44, 3) := by decide +kernel
theorem dX5_put_56 : decode cX5_put 56 = .ok (.iconst 2, 1) := by decide +kernel
theorem dX5_put_57 : decode cX5_put 57 = .ok (.imul, 1) := by decide +kernel
theorem dX5_put_58 : decode cX5_put 58 = .ok (.invokestatic 47, 3) := by decide +kernel
theorem dX5_put_61 : decode cX5_put 61 = .ok (.putfield 30, 3) := by decide +kernel
theorem dX5_put_64 : decode cX5_put 64 = .ok (.aload_n 0, 1) := by decide +kernel
theorem dX5_put_65 : decode cX5_put 65 = .ok (.aload_n 0, 1) := by decide +kernel
theorem dX5_put_66 : decode cX5_put 66 = .ok (.getfield 33, 3) := by decide +kernel
theorem dX5_put_69 : decode cX5_put 69 = .ok (.aload_n 0, 1) := by decide +kernel
theorem dX5_put_70 : decode cX5_put 70 = .ok (.getfield 44, 3) := by decide +kernel
theorem dX5_put_73 : decode cX5_put 73 = .ok (.iconst 2, 1) := by decide +kernel
theorem dX5_put_74 : decode cX5_put 74 = .ok (.imul, 1) := by decide +kernel
theorem dX5_put_75 : decode cX5_put 75 = .ok (.invokestatic 47, 3) := by decide +kernel
theorem dX5_put_78 : decode cX5_put 78 = .ok (.putfield 33, 3) := by decide +kernel
theorem dX5_put_81 : decode cX5_put 81 = .ok (.aload_n 0, 1) := by decide +kernel
theorem dX5_put_82 : decode cX5_put 82 = .ok (.getfield 36, 3) := by decide +kernel
theorem dX5_put_85 : decode cX5_put 85 = .ok (.iconst (-1), 1) := by decide +kernel
theorem dX5_put_86 : decode cX5_put 86 = .ok (.if_icmp .ne 17, 3) := by decide +kernel
theorem dX5_put_89 : decode cX5_put 89 = .ok (.aload_n 0, 1) := by decide +kernel
theorem dX5_put_90 : decode cX5_put 90 = .ok (.dup, 1) := by decide +kernel
theorem dX5_put_91 : decode cX5_put 91 = .ok (.getfield 44, 3) := by decide +kernel
theorem dX5_put_94 : decode cX5_put 94 = .ok (.dup_x1, 1) := by decide +kernel
theorem dX5_put_95 : decode cX5_put 95 = .ok (.iconst 1, 1) := by decide +kernel
theorem dX5_put_96 : decode cX5_put 96 = .ok (.iadd, 1) := by decide +kernel
theorem dX5_put_97 : decode cX5_put 97 = .ok (.putfield 44, 3) := by decide +kernel
theorem dX5_put_100 : decode cX5_put 100 = .ok (.goto 7, 3) := by decide +kernel
theorem dX5_put_103 : decode cX5_put 103 = .ok (.aload_n 0, 1) := by decide +kernel
theorem dX5_put_104 : decode cX5_put 104 = .ok (.getfield 36, 3) := by decide +kernel
theorem dX5_put_107 : decode cX5_put 107 = .ok (.istore 5, 2) := by decide +kernel
theorem dX5_put_109 : decode cX5_put 109 = .ok (.iload 5, 2) := by decide +kernel
theorem dX5_put_111 : decode cX5_put 111 = .ok (.aload_n 0, 1) := by decide +kernel
theorem dX5_put_112 : decode cX5_put 112 = .ok (.getfield 36, 3) := by decide +kernel
theorem dX5_put_115 : decode cX5_put 115 = .ok (.if_icmp .ne 14, 3) := by decide +kernel
theorem dX5_put_118 : decode cX5_put 118 = .ok (.aload_n 0, 1) := by decide +kernel
theorem dX5_put_119 : decode cX5_put 119 = .ok (.aload_n 0, 1) := by decide +kernel
theorem dX5_put_120 : decode cX5_put 120 = .ok (.getfield 33, 3) := by decide +kernel
theorem dX5_put_123 : decode cX5_put 123 = .ok (.iload 5, 2) := by decide +kernel
theorem dX5_put_125 : decode cX5_put 125 = .ok (.iaload, 1) := by decide +kernel
theorem dX5_put_126 : decode cX5_put 126 = .ok (.putfield 36, 3) := by decide +kernel
theorem dX5_put_129 : decode cX5_put 129 = .ok (.aload_n 0, 1) := by decide +kernel
theorem dX5_put_130 : decode cX5_put 130 = .ok (.getfield 27, 3) := by decide +kernel
theorem dX5_put_133 : decode cX5_put 133 = .ok (.iload 5, 2) := by decide +kernel
theorem dX5_put_135 : decode cX5_put 135 = .ok (.iload 4, 2) := by decide +kernel
theorem dX5_put_137 : decode cX5_put 137 = .ok (.iconst 3, 1) := by decide +kernel
theorem dX5_put_138 : decode cX5_put 138 = .ok (.ishl, 1) := by decide +kernel
theorem dX5_put_139 : decode cX5_put 139 = .ok (.iload_n 1, 1) := by decide +kernel
theorem dX5_put_140 : decode cX5_put 140 = .ok (.ior, 1) := by decide +kernel
theorem dX5_put_141 : decode cX5_put 141 = .ok (.iastore, 1) := by decide +kernel
theorem dX5_put_142 : decode cX5_put 142 = .ok (.aload_n 0, 1) := by decide +kernel
theorem dX5_put_143 : decode cX5_put 143 = .ok (.getfield 30, 3) := by decide +kernel
theorem dX5_put_146 : decode cX5_put 146 = .ok (.iload 5, 2) := by decide +kernel
theorem dX5_put_148 : decode cX5_put 148 = .ok (.aload_n 0, 1) := by decide +kernel
theorem dX5_put_149 : decode cX5_put 149 = .ok (.getfield 53, 3) := by decide +kernel
theorem dX5_put_152 : decode cX5_put 152 = .ok (.iastore, 1) := by decide +kernel
theorem dX5_put_153 : decode cX5_put 153 = .ok (.aload_n 0, 1) := by decide +kernel
theorem dX5_put_154 : decode cX5_put 154 = .ok (.getfield 33, 3) := by decide +kernel
theorem dX5_put_157 : decode cX5_put 157 = .ok (.iload 5, 2) := by decide +kernel
theorem dX5_put_159 : decode cX5_put 159 = .ok (.iconst (-1), 1) := by decide +kernel
theorem dX5_put_160 : decode cX5_put 160 = .ok (.iastore, 1) := by decide +kernel
theorem dX5_put_161 : decode cX5_put 161 = .ok (.iload_n 2, 1) := by decide +kernel
theorem dX5_put_162 : decode cX5_put 162 = .ok (.bipush 16, 2) := by decide +kernel
theorem dX5_put_164 : decode cX5_put 164 = .ok (.imul, 1) := by decide +kernel
theorem dX5_put_165 : decode cX5_put 165 = .ok (.iload_n 3, 1) := by decide +kernel
theorem dX5_put_166 : decode cX5_put 166 = .ok (.iadd, 1) := by decide +kernel
theorem dX5_put_167 : decode cX5_put 167 = .ok (.istore 6, 2) := by decide +kernel
theorem dX5_put_169 : decode cX5_put 169 = .ok (.aload_n 0, 1) := by decide +kernel
theorem dX5_put_170 : decode cX5_put 170 = .ok (.getfield 18, 3) := by decide +kernel
theorem dX5_put_173 : decode cX5_put 173 = .ok (.iload 6, 2) := by decide +kernel
theorem dX5_put_175 : decode cX5_put 175 = .ok (.iaload, 1) := by decide +kernel
theorem dX5_put_176 : decode cX5_put 176 = .ok (.ifCond .ne 15, 3) := by decide +kernel
theorem dX5_put_179 : decode cX5_put 179 = .ok (.aload_n 0, 1) := by decide +kernel
theorem dX5_put_180 : decode cX5_put 180 = .ok (.getfield 9, 3) := by decide +kernel
theorem dX5_put_183 : decode cX5_put 183 = .ok (.iload 6, 2) := by decide +kernel
theorem dX5_put_185 : decode cX5_put 185 = .ok (.iload 5, 2) := by decide +kernel
theorem dX5_put_187 : decode cX5_put 187 = .ok (.iastore, 1) := by decide +kernel
theorem dX5_put_188 : decode cX5_put 188 = .ok (.goto 17, 3) := by decide +kernel
theorem dX5_put_191 : decode cX5_put 191 = .ok (.aload_n 0, 1) := by decide +kernel
theorem dX5_put_192 : decode cX5_put 192 = .ok (.getfield 33, 3) := by decide +kernel
theorem dX5_put_195 : decode cX5_put 195 = .ok (.aload_n 0, 1) := by decide +kernel
theorem dX5_put_196 : decode cX5_put 196 = .ok (.getfield 15, 3) := by decide +kernel
theorem dX5_put_199 : decode cX5_put 199 = .ok (.iload 6, 2) := by decide +kernel
theorem dX5_put_201 : decode cX5_put 201 = .ok (.iaload, 1) := by decide +kernel
theorem dX5_put_202 : decode cX5_put 202 = .ok (.iload 5, 2) := by decide +kernel
theorem dX5_put_204 : decode cX5_put 204 = .ok (.iastore, 1) := by decide +kernel
theorem dX5_put_205 : decode cX5_put 205 = .ok (.aload_n 0, 1) := by decide +kernel
theorem dX5_put_206 : decode cX5_put 206 = .ok (.getfield 15, 3) := by decide +kernel
theorem dX5_put_209 : decode cX5_put 209 = .ok (.iload 6, 2) := by decide +kernel
theorem dX5_put_211 : decode cX5_put 211 = .ok (.iload 5, 2) := by decide +kernel
theorem dX5_put_213 : decode cX5_put 213 = .ok (.iastore, 1) := by decide +kernel
theorem dX5_put_214 : decode cX5_put 214 = .ok (.aload_n 0, 1) := by decide +kernel
theorem dX5_put_215 : decode cX5_put 215 = .ok (.getfield 18, 3) := by decide +kernel
theorem dX5_put_218 : decode cX5_put 218 = .ok (.iload 6, 2) := by decide +kernel
theorem dX5_put_220 : decode cX5_put 220 = .ok (.dup2, 1) := by decide +kernel
theorem dX5_put_221 : decode cX5_put 221 = .ok (.iaload, 1) := by decide +kernel
theorem dX5_put_222 : decode cX5_put 222 = .ok (.iconst 1, 1) := by decide +kernel
theorem dX5_put_223 : decode cX5_put 223 = .ok (.iadd, 1) := by decide +kernel
theorem dX5_put_224 : decode cX5_put 224 = .ok (.iastore, 1) := by decide +kernel
theorem dX5_put_225 : decode cX5_put 225 = .ok (.aload_n 0, 1) := by decide +kernel
theorem dX5_put_226 : decode cX5_put 226 = .ok (.getfield 21, 3) := by decide +kernel
theorem dX5_put_229 : decode cX5_put 229 = .ok (.iload_n 2, 1) := by decide +kernel
theorem dX5_put_230 : decode cX5_put 230 = .ok (.dup2, 1) := by decide +kernel
theorem dX5_put_231 : decode cX5_put 231 = .ok (.iaload, 1) := by decide +kernel
theorem dX5_put_232 : decode cX5_put 232 = .ok (.iconst 1, 1) := by decide +kernel
theorem dX5_put_233 : decode cX5_put 233 = .ok (.iload_n 3, 1) := by decide +kernel
theorem dX5_put_234 : decode cX5_put 234 = .ok (.ishl, 1) := by decide +kernel
theorem dX5_put_235 : decode cX5_put 235 = .ok (.ior, 1) := by decide +kernel
theorem dX5_put_236 : decode cX5_put 236 = .ok (.iastore, 1) := by decide +kernel
theorem dX5_put_237 : decode cX5_put 237 = .ok (.aload_n 0, 1) := by decide +kernel
theorem dX5_put_238 : decode cX5_put 238 = .ok (.getfield 24, 3) := by decide +kernel
theorem dX5_put_241 : decode cX5_put 241 = .ok (.iload_n 1, 1) := by decide +kernel
theorem dX5_put_242 : decode cX5_put 242 = .ok (.dup2, 1) := by decide +kernel
theorem dX5_put_243 : decode cX5_put 243 = .ok (.iaload, 1) := by decide +kernel
theorem dX5_put_244 : decode cX5_put 244 = .ok (.iconst 1, 1) := by decide +kernel
theorem dX5_put_245 : decode cX5_put 245 = .ok (.iadd, 1) := by decide +kernel
theorem dX5_put_246 : decode cX5_put 246 = .ok (.iastore, 1) := by decide +kernel
theorem dX5_put_247 : decode cX5_put 247 = .ok (.aload_n 0, 1) := by decide +kernel
theorem dX5_put_248 : decode cX5_put 248 = .ok (.dup, 1) := by decide +kernel
theorem dX5_put_249 : decode cX5_put 249 = .ok (.getfield 40, 3) := by decide +kernel
theorem dX5_put_252 : decode cX5_put 252 = .ok (.iconst 1, 1) := by decide +kernel
theorem dX5_put_253 : decode cX5_put 253 = .ok (.iadd, 1) := by decide +kernel
theorem dX5_put_254 : decode cX5_put 254 = .ok (.putfield 40, 3) := by decide +kernel
theorem dX5_put_257 : decode cX5_put 257 = .ok (.return_, 1) := by decide +kernel
