theorem d_M_choose_185 : decode b_M_choose 185 = .ok (.istore_n 3, 1) := by decide +kernel
theorem d_M_choose_186 : decode b_M_choose 186 = .ok (.aload_n 0, 1) := by decide +kernel
theorem d_M_choose_187 : decode b_M_choose 187 = .ok (.getfield 40, 3) := by decide +kernel
theorem d_M_choose_190 : decode b_M_choose 190 = .ok (.sipush 6561, 3) := by decide +kernel
theorem d_M_choose_193 : decode b_M_choose 193 = .ok (.iload_n 1, 1) := by decide +kernel
theorem d_M_choose_194 : decode b_M_choose 194 = .ok (.imul, 1) := by decide +kernel
theorem d_M_choose_195 : decode b_M_choose 195 = .ok (.iload_n 2, 1) := by decide +kernel
theorem d_M_choose_196 : decode b_M_choose 196 = .ok (.iadd, 1) := by decide +kernel
theorem d_M_choose_197 : decode b_M_choose 197 = .ok (.iload 7, 2) := by decide +kernel
theorem d_M_choose_199 : decode b_M_choose 199 = .ok (.iastore, 1) := by decide +kernel
theorem d_M_choose_200 : decode b_M_choose 200 = .ok (.aload_n 0, 1) := by decide +kernel
theorem d_M_choose_201 : decode b_M_choose 201 = .ok (.getfield 43, 3) := by decide +kernel
theorem d_M_choose_204 : decode b_M_choose 204 = .ok (.sipush 6561, 3) := by decide +kernel
theorem d_M_choose_207 : decode b_M_choose 207 = .ok (.iload_n 1, 1) := by decide +kernel
theorem d_M_choose_208 : decode b_M_choose 208 = .ok (.imul, 1) := by decide +kernel
theorem d_M_choose_209 : decode b_M_choose 209 = .ok (.iload_n 2, 1) := by decide +kernel
theorem d_M_choose_210 : decode b_M_choose 210 = .ok (.iadd, 1) := by decide +kernel
theorem d_M_choose_211 : decode b_M_choose 211 = .ok (.iload 8, 2) := by decide +kernel
theorem d_M_choose_213 : decode b_M_choose 213 = .ok (.iastore, 1) := by decide +kernel
theorem d_M_choose_214 : decode b_M_choose 214 = .ok (.iinc 4 1, 3) := by decide +kernel
theorem d_M_choose_217 : decode b_M_choose 217 = .ok (.goto (-212), 3) := by decide +kernel
theorem d_M_choose_220 : decode b_M_choose 220 = .ok (.aload_n 0, 1) := by decide +kernel
theorem d_M_choose_221 : decode b_M_choose 221 = .ok (.getfield 37, 3) := by decide +kernel
theorem d_M_choose_224 : decode b_M_choose 224 = .ok (.sipush 6561, 3) := by decide +kernel
theorem d_M_choose_227 : decode b_M_choose 227 = .ok (.iload_n 1, 1) := by decide +kernel
theorem d_M_choose_228 : decode b_M_choose 228 = .ok (.imul, 1) := by decide +kernel
theorem d_M_choose_229 : decode b_M_choose 229 = .ok (.iload_n 2, 1) := by decide +kernel
theorem d_M_choose_230 : decode b_M_choose 230 = .ok (.iadd, 1) := by decide +kernel
theorem d_M_choose_231 : decode b_M_choose 231 = .ok (.iload_n 3, 1) := by decide +kernel
theorem d_M_choose_232 : decode b_M_choose 232 = .ok (.iastore, 1) := by decide +kernel
theorem d_M_choose_233 : decode b_M_choose 233 = .ok (.return_, 1) := by decide +kernel
theorem d_M_workOut_0 : decode b_M_workOut 0 = .ok (.aload_n 0, 1) := by decide +kernel
theorem d_M_workOut_1 : decode b_M_workOut 1 = .ok (.iload_n 1, 1) := by decide +kernel
theorem d_M_workOut_2 : decode b_M_workOut 2 = .ok (.invokevirtual 112, 3) := by decide +kernel
theorem d_M_workOut_5 : decode b_M_workOut 5 = .ok (.ifCond .ne 29, 3) := by decide +kernel
theorem d_M_workOut_8 : decode b_M_workOut 8 = .ok (.aload_n 0, 1) := by decide +kernel
theorem d_M_workOut_9 : decode b_M_workOut 9 = .ok (.getfield 31, 3) := by decide +kernel
theorem d_M_workOut_12 : decode b_M_workOut 12 = .ok (.iload_n 1, 1) := by decide +kernel
theorem d_M_workOut_13 : decode b_M_workOut 13 = .ok (.aload_n 0, 1) := by decide +kernel
theorem d_M_workOut_14 : decode b_M_workOut 14 = .ok (.getfield 22, 3) := by decide +kernel
theorem d_M_workOut_17 : decode b_M_workOut 17 = .ok (.aload_n 0, 1) := by decide +kernel
theorem d_M_workOut_18 : decode b_M_workOut 18 = .ok (.iload_n 1, 1) := by decide +kernel
theorem d_M_workOut_19 : decode b_M_workOut 19 = .ok (.invokevirtual 116, 3) := by decide +kernel
theorem d_M_workOut_22 : decode b_M_workOut 22 = .ok (.iaload, 1) := by decide +kernel
theorem d_M_workOut_23 : decode b_M_workOut 23 = .ok (.iastore, 1) := by decide +kernel
theorem d_M_workOut_24 : decode b_M_workOut 24 = .ok (.aload_n 0, 1) := by decide +kernel
theorem d_M_workOut_25 : decode b_M_workOut 25 = .ok (.getfield 34, 3) := by decide +kernel
theorem d_M_workOut_28 : decode b_M_workOut 28 = .ok (.iload_n 1, 1) := by decide +kernel
theorem d_M_workOut_29 : decode b_M_workOut 29 = .ok (.iconst 1, 1) := by decide +kernel
theorem d_M_workOut_30 : decode b_M_workOut 30 = .ok (.iastore, 1) := by decide +kernel
theorem d_M_workOut_31 : decode b_M_workOut 31 = .ok (.goto 78, 3) := by decide +kernel
theorem d_M_workOut_34 : decode b_M_workOut 34 = .ok (.aload_n 0, 1) := by decide +kernel
theorem d_M_workOut_35 : decode b_M_workOut 35 = .ok (.iload_n 1, 1) := by decide +kernel
theorem d_M_workOut_36 : decode b_M_workOut 36 = .ok (.invokevirtual 120, 3) := by decide +kernel
theorem d_M_workOut_39 : decode b_M_workOut 39 = .ok (.istore_n 2, 1) := by decide +kernel
theorem d_M_workOut_40 : decode b_M_workOut 40 = .ok (.aload_n 0, 1) := by decide +kernel
theorem d_M_workOut_41 : decode b_M_workOut 41 = .ok (.iload_n 1, 1) := by decide +kernel
theorem d_M_workOut_42 : decode b_M_workOut 42 = .ok (.iload_n 2, 1) := by decide +kernel
theorem d_M_workOut_43 : decode b_M_workOut 43 = .ok (.iconst 0, 1) := by decide +kernel
theorem d_M_workOut_44 : decode b_M_workOut 44 = .ok (.invokevirtual 108, 3) := by decide +kernel
theorem d_M_workOut_47 : decode b_M_workOut 47 = .ok (.istore_n 3, 1) := by decide +kernel
theorem d_M_workOut_48 : decode b_M_workOut 48 = .ok (.aload_n 0, 1) := by decide +kernel
theorem d_M_workOut_49 : decode b_M_workOut 49 = .ok (.iload_n 1, 1) := by decide +kernel
theorem d_M_workOut_50 : decode b_M_workOut 50 = .ok (.iload_n 2, 1) := by decide +kernel
theorem d_M_workOut_51 : decode b_M_workOut 51 = .ok (.iconst 1, 1) := by decide +kernel
theorem d_M_workOut_52 : decode b_M_workOut 52 = .ok (.invokevirtual 108, 3) := by decide +kernel
theorem d_M_workOut_55 : decode b_M_workOut 55 = .ok (.istore 4, 2) := by decide +kernel
theorem d_M_workOut_57 : decode b_M_workOut 57 = .ok (.aload_n 0, 1) := by decide +kernel
theorem d_M_workOut_58 : decode b_M_workOut 58 = .ok (.getfield 31, 3) := by decide +kernel
theorem d_M_workOut_61 : decode b_M_workOut 61 = .ok (.iload_n 1, 1) := by decide +kernel
theorem d_M_workOut_62 : decode b_M_workOut 62 = .ok (.aload_n 0, 1) := by decide +kernel
theorem d_M_workOut_63 : decode b_M_workOut 63 = .ok (.getfield 31, 3) := by decide +kernel
theorem d_M_workOut_66 : decode b_M_workOut 66 = .ok (.iload_n 3, 1) := by decide +kernel
theorem d_M_workOut_67 : decode b_M_workOut 67 = .ok (.iaload, 1) := by decide +kernel
theorem d_M_workOut_68 : decode b_M_workOut 68 = .ok (.aload_n 0, 1) := by decide +kernel
theorem d_M_workOut_69 : decode b_M_workOut 69 = .ok (.getfield 31, 3) := by decide +kernel
theorem d_M_workOut_72 : decode b_M_workOut 72 = .ok (.iload 4, 2) := by decide +kernel
theorem d_M_workOut_74 : decode b_M_workOut 74 = .ok (.iaload, 1) := by decide +kernel
theorem d_M_workOut_75 : decode b_M_workOut 75 = .ok (.if_icmp .ne 12, 3) := by decide +kernel
theorem d_M_workOut_78 : decode b_M_workOut 78 = .ok (.aload_n 0, 1) := by decide +kernel
theorem d_M_workOut_79 : decode b_M_workOut 79 = .ok (.getfield 31, 3) := by decide +kernel
theorem d_M_workOut_82 : decode b_M_workOut 82 = .ok (.iload_n 3, 1) := by decide +kernel
theorem d_M_workOut_83 : decode b_M_workOut 83 = .ok (.iaload, 1) := by decide +kernel
theorem d_M_workOut_84 : decode b_M_workOut 84 = .ok (.goto 4, 3) := by decide +kernel
theorem d_M_workOut_87 : decode b_M_workOut 87 = .ok (.iconst (-1), 1) := by decide +kernel
theorem d_M_workOut_88 : decode b_M_workOut 88 = .ok (.iastore, 1) := by decide +kernel
theorem d_M_workOut_89 : decode b_M_workOut 89 = .ok (.aload_n 0, 1) := by decide +kernel
theorem d_M_workOut_90 : decode b_M_workOut 90 = .ok (.getfield 34, 3) := by decide +kernel
theorem d_M_workOut_93 : decode b_M_workOut 93 = .ok (.iload_n 1, 1) := by decide +kernel
theorem d_M_workOut_94 : decode b_M_workOut 94 = .ok (.aload_n 0, 1) := by decide +kernel
theorem d_M_workOut_95 : decode b_M_workOut 95 = .ok (.getfield 34, 3) := by decide +kernel
theorem d_M_workOut_98 : decode b_M_workOut 98 = .ok (.iload_n 3, 1) := by decide +kernel
theorem d_M_workOut_99 : decode b_M_workOut 99 = .ok (.iaload, 1) := by decide +kernel
theorem d_M_workOut_100 : decode b_M_workOut 100 = .ok (.aload_n 0, 1) := by decide +kernel
theorem d_M_workOut_101 : decode b_M_workOut 101 = .ok (.getfield 34, 3) := by decide +kernel
theorem d_M_workOut_104 : decode b_M_workOut 104 = .ok (.iload 4, 2) := by decide +kernel
theorem d_M_workOut_106 : decode b_M_workOut 106 = .ok (.iaload, 1) := by decide +kernel
theorem d_M_workOut_107 : decode b_M_workOut 107 = .ok (.iadd, 1) := by decide +kernel
theorem d_M_workOut_108 : decode b_M_workOut 108 = .ok (.iastore, 1) := by decide +kernel
theorem d_M_workOut_109 : decode b_M_workOut 109 = .ok (.iconst 0, 1) := by decide +kernel
theorem d_M_workOut_110 : decode b_M_workOut 110 = .ok (.istore_n 2, 1) := by decide +kernel
theorem d_M_workOut_111 : decode b_M_workOut 111 = .ok (.iload_n 2, 1) := by decide +kernel
theorem d_M_workOut_112 : decode b_M_workOut 112 = .ok (.iconst 3, 1) := by decide +kernel
theorem d_M_workOut_113 : decode b_M_workOut 113 = .ok (.if_icmp .ge 63, 3) := by decide +kernel
theorem d_M_workOut_116 : decode b_M_workOut 116 = .ok (.aload_n 0, 1) := by decide +kernel
theorem d_M_workOut_117 : decode b_M_workOut 117 = .ok (.getfield 37, 3) := by decide +kernel
theorem d_M_workOut_120 : decode b_M_workOut 120 = .ok (.sipush 6561, 3) := by decide +kernel
theorem d_M_workOut_123 : decode b_M_workOut 123 = .ok (.iload_n 2, 1) := by decide +kernel
theorem d_M_workOut_124 : decode b_M_workOut 124 = .ok (.imul, 1) := by decide +kernel
theorem d_M_workOut_125 : decode b_M_workOut 125 = .ok (.iload_n 1, 1) := by decide +kernel
theorem d_M_workOut_126 : decode b_M_workOut 126 = .ok (.iadd, 1) := by decide +kernel
theorem d_M_workOut_127 : decode b_M_workOut 127 = .ok (.iconst (-1), 1) := by decide +kernel
theorem d_M_workOut_128 : decode b_M_workOut 128 = .ok (.iastore, 1) := by decide +kernel
theorem d_M_workOut_129 : decode b_M_workOut 129 = .ok (.aload_n 0, 1) := by decide +kernel
theorem d_M_workOut_130 : decode b_M_workOut 130 = .ok (.getfield 40, 3) := by decide +kernel
theorem d_M_workOut_133 : decode b_M_workOut 133 = .ok (.sipush 6561, 3) := by decide +kernel
theorem d_M_workOut_136 : decode b_M_workOut 136 = .ok (.iload_n 2, 1) := by decide +kernel
theorem d_M_workOut_137 : decode b_M_workOut 137 = .ok (.imul, 1) := by decide +kernel
theorem d_M_workOut_138 : decode b_M_workOut 138 = .ok (.iload_n 1, 1) := by decide +kernel
theorem d_M_workOut_139 : decode b_M_workOut 139 = .ok (.iadd, 1) := by decide +kernel
theorem d_M_workOut_140 : decode b_M_workOut 140 = .ok (.iconst 0, 1) := by decide +kernel
theorem d_M_workOut_141 : decode b_M_workOut 141 = .ok (.iastore, 1) := by decide +kernel
theorem d_M_workOut_142 : decode b_M_workOut 142 = .ok (.aload_n 0, 1) := by decide +kernel
theorem d_M_workOut_143 : decode b_M_workOut 143 = .ok (.getfield 43, 3) := by decide +kernel
theorem d_M_workOut_146 : decode b_M_workOut 146 = .ok (.sipush 6561, 3) := by decide +kernel
theorem d_M_workOut_149 : decode b_M_workOut 149 = .ok (.iload_n 2, 1) := by decide +kernel
theorem d_M_workOut_150 : decode b_M_workOut 150 = .ok (.imul, 1) := by decide +kernel
theorem d_M_workOut_151 : decode b_M_workOut 151 = .ok (.iload_n 1, 1) := by decide +kernel
theorem d_M_workOut_152 : decode b_M_workOut 152 = .ok (.iadd, 1) := by decide +kernel
theorem d_M_workOut_153 : decode b_M_workOut 153 = .ok (.iconst 0, 1) := by decide +kernel
theorem d_M_workOut_154 : decode b_M_workOut 154 = .ok (.iastore, 1) := by decide +kernel
theorem d_M_workOut_155 : decode b_M_workOut 155 = .ok (.aload_n 0, 1) := by decide +kernel
theorem d_M_workOut_156 : decode b_M_workOut 156 = .ok (.getfield 31, 3) := by decide +kernel
theorem d_M_workOut_159 : decode b_M_workOut 159 = .ok (.iload_n 1, 1) := by decide +kernel
theorem d_M_workOut_160 : decode b_M_workOut 160 = .ok (.iaload, 1) := by decide +kernel
theorem d_M_workOut_161 : decode b_M_workOut 161 = .ok (.ifCond .ge 9, 3) := by decide +kernel
theorem d_M_workOut_164 : decode b_M_workOut 164 = .ok (.aload_n 0, 1) := by decide +kernel
theorem d_M_workOut_165 : decode b_M_workOut 165 = .ok (.iload_n 2, 1) := by decide +kernel
theorem d_M_workOut_166 : decode b_M_workOut 166 = .ok (.iload_n 1, 1) := by decide +kernel
theorem d_M_workOut_167 : decode b_M_workOut 167 = .ok (.invokevirtual 123, 3) := by decide +kernel
theorem d_M_workOut_170 : decode b_M_workOut 170 = .ok (.iinc 2 1, 3) := by decide +kernel
theorem d_M_workOut_173 : decode b_M_workOut 173 = .ok (.goto (-62), 3) := by decide +kernel
theorem d_M_workOut_176 : decode b_M_workOut 176 = .ok (.return_, 1) := by decide +kernel
theorem d_M_allWords_0 : decode b_M_allWords 0 = .ok (.aload_n 0, 1) := by decide +kernel
theorem d_M_allWords_1 : decode b_M_allWords 1 = .ok (.getfield 46, 3) := by decide +kernel
theorem d_M_allWords_4 : decode b_M_allWords 4 = .ok (.aload_n 0, 1) := by decide +kernel
theorem d_M_allWords_5 : decode b_M_allWords 5 = .ok (.getfield 76, 3) := by decide +kernel
theorem d_M_allWords_8 : decode b_M_allWords 8 = .ok (.iaload, 1) := by decide +kernel
theorem d_M_allWords_9 : decode b_M_allWords 9 = .ok (.iconst 1, 1) := by decide +kernel
theorem d_M_allWords_10 : decode b_M_allWords 10 = .ok (.isub, 1) := by decide +kernel
theorem d_M_allWords_11 : decode b_M_allWords 11 = .ok (.ireturn, 1) := by decide +kernel
theorem d_M_makeAnew_0 : decode b_M_makeAnew 0 = .ok (.aload_n 0, 1) := by decide +kernel
theorem d_M_makeAnew_1 : decode b_M_makeAnew 1 = .ok (.invokevirtual 127, 3) := by decide +kernel
theorem d_M_makeAnew_4 : decode b_M_makeAnew 4 = .ok (.iconst 0, 1) := by decide +kernel
theorem d_M_makeAnew_5 : decode b_M_makeAnew 5 = .ok (.istore_n 1, 1) := by decide +kernel
theorem d_M_makeAnew_6 : decode b_M_makeAnew 6 = .ok (.iload_n 1, 1) := by decide +kernel
theorem d_M_makeAnew_7 : decode b_M_makeAnew 7 = .ok (.aload_n 0, 1) := by decide +kernel
theorem d_M_makeAnew_8 : decode b_M_makeAnew 8 = .ok (.getfield 46, 3) := by decide +kernel
theorem d_M_makeAnew_11 : decode b_M_makeAnew 11 = .ok (.aload_n 0, 1) := by decide +kernel
theorem d_M_makeAnew_12 : decode b_M_makeAnew 12 = .ok (.getfield 76, 3) := by decide +kernel
theorem d_M_makeAnew_15 : decode b_M_makeAnew 15 = .ok (.iaload, 1) := by decide +kernel
theorem d_M_makeAnew_16 : decode b_M_makeAnew 16 = .ok (.if_icmp .ge 14, 3) := by decide +kernel
theorem d_M_makeAnew_19 : decode b_M_makeAnew 19 = .ok (.aload_n 0, 1) := by decide +kernel
theorem d_M_makeAnew_20 : decode b_M_makeAnew 20 = .ok (.iload_n 1, 1) := by decide +kernel
theorem d_M_makeAnew_21 : decode b_M_makeAnew 21 = .ok (.invokevirtual 130, 3) := by decide +kernel
theorem d_M_makeAnew_24 : decode b_M_makeAnew 24 = .ok (.iinc 1 1, 3) := by decide +kernel
theorem d_M_makeAnew_27 : decode b_M_makeAnew 27 = .ok (.goto (-21), 3) := by decide +kernel
theorem d_M_makeAnew_30 : decode b_M_makeAnew 30 = .ok (.aload_n 0, 1) := by decide +kernel
theorem d_M_makeAnew_31 : decode b_M_makeAnew 31 = .ok (.invokevirtual 133, 3) := by decide +kernel
theorem d_M_makeAnew_34 : decode b_M_makeAnew 34 = .ok (.return_, 1) := by decide +kernel
theorem d_M_isLeaf_0 : decode b_M_isLeaf 0 = .ok (.aload_n 0, 1) := by decide +kernel
theorem d_M_isLeaf_1 : decode b_M_isLeaf 1 = .ok (.getfield 31, 3) := by decide +kernel
theorem d_M_isLeaf_4 : decode b_M_isLeaf 4 = .ok (.aload_n 0, 1) := by decide +kernel
theorem d_M_isLeaf_5 : decode b_M_isLeaf 5 = .ok (.getfield 49, 3) := by decide +kernel
theorem d_M_isLeaf_8 : decode b_M_isLeaf 8 = .ok (.iload_n 1, 1) := by decide +kernel
theorem d_M_isLeaf_9 : decode b_M_isLeaf 9 = .ok (.iaload, 1) := by decide +kernel
theorem d_M_isLeaf_10 : decode b_M_isLeaf 10 = .ok (.iaload, 1) := by decide +kernel
theorem d_M_isLeaf_11 : decode b_M_isLeaf 11 = .ok (.ifCond .lt 7, 3) := by decide +kernel
theorem d_M_isLeaf_14 : decode b_M_isLeaf 14 = .ok (.iconst 1, 1) := by decide +kernel
theorem d_M_isLeaf_15 : decode b_M_isLeaf 15 = .ok (.goto 4, 3) := by decide +kernel
theorem d_M_isLeaf_18 : decode b_M_isLeaf 18 = .ok (.iconst 0, 1) := by decide +kernel
theorem d_M_isLeaf_19 : decode b_M_isLeaf 19 = .ok (.ireturn, 1) := by decide +kernel
theorem d_M_makeTree_0 : decode b_M_makeTree 0 = .ok (.iconst 0, 1) := by decide +kernel
theorem d_M_makeTree_1 : decode b_M_makeTree 1 = .ok (.istore_n 1, 1) := by decide +kernel
theorem d_M_makeTree_2 : decode b_M_makeTree 2 = .ok (.iload_n 1, 1) := by decide +kernel
theorem d_M_makeTree_3 : decode b_M_makeTree 3 = .ok (.bipush 16, 2) := by decide +kernel
theorem d_M_makeTree_5 : decode b_M_makeTree 5 = .ok (.if_icmp .ge 16, 3) := by decide +kernel
theorem d_M_makeTree_8 : decode b_M_makeTree 8 = .ok (.aload_n 0, 1) := by decide +kernel
theorem d_M_makeTree_9 : decode b_M_makeTree 9 = .ok (.getfield 67, 3) := by decide +kernel
theorem d_M_makeTree_12 : decode b_M_makeTree 12 = .ok (.iload_n 1, 1) := by decide +kernel
theorem d_M_makeTree_13 : decode b_M_makeTree 13 = .ok (.iconst (-1), 1) := by decide +kernel
theorem d_M_makeTree_14 : decode b_M_makeTree 14 = .ok (.iastore, 1) := by decide +kernel
theorem d_M_makeTree_15 : decode b_M_makeTree 15 = .ok (.iinc 1 1, 3) := by decide +kernel
theorem d_M_makeTree_18 : decode b_M_makeTree 18 = .ok (.goto (-16), 3) := by decide +kernel
theorem d_M_makeTree_21 : decode b_M_makeTree 21 = .ok (.aload_n 0, 1) := by decide +kernel
theorem d_M_makeTree_22 : decode b_M_makeTree 22 = .ok (.iconst 0, 1) := by decide +kernel
theorem d_M_makeTree_23 : decode b_M_makeTree 23 = .ok (.putfield 136, 3) := by decide +kernel
theorem d_M_makeTree_26 : decode b_M_makeTree 26 = .ok (.iconst 1, 1) := by decide +kernel
theorem d_M_makeTree_27 : decode b_M_makeTree 27 = .ok (.istore_n 1, 1) := by decide +kernel
theorem d_M_makeTree_28 : decode b_M_makeTree 28 = .ok (.aload_n 0, 1) := by decide +kernel
theorem d_M_makeTree_29 : decode b_M_makeTree 29 = .ok (.getfield 58, 3) := by decide +kernel
theorem d_M_makeTree_32 : decode b_M_makeTree 32 = .ok (.iconst 0, 1) := by decide +kernel
theorem d_M_makeTree_33 : decode b_M_makeTree 33 = .ok (.aload_n 0, 1) := by decide +kernel
theorem d_M_makeTree_34 : decode b_M_makeTree 34 = .ok (.invokevirtual 139, 3) := by decide +kernel
theorem d_M_makeTree_37 : decode b_M_makeTree 37 = .ok (.iastore, 1) := by decide +kernel
theorem d_M_makeTree_38 : decode b_M_makeTree 38 = .ok (.aload_n 0, 1) := by decide +kernel
theorem d_M_makeTree_39 : decode b_M_makeTree 39 = .ok (.getfield 61, 3) := by decide +kernel
theorem d_M_makeTree_42 : decode b_M_makeTree 42 = .ok (.iconst 0, 1) := by decide +kernel
theorem d_M_makeTree_43 : decode b_M_makeTree 43 = .ok (.iconst (-1), 1) := by decide +kernel
theorem d_M_makeTree_44 : decode b_M_makeTree 44 = .ok (.iastore, 1) := by decide +kernel
theorem d_M_makeTree_45 : decode b_M_makeTree 45 = .ok (.iload_n 1, 1) := by decide +kernel
theorem d_M_makeTree_46 : decode b_M_makeTree 46 = .ok (.ifCond .le 176, 3) := by decide +kernel
theorem d_M_makeTree_49 : decode b_M_makeTree 49 = .ok (.iinc 1 (-1), 3) := by decide +kernel
theorem d_M_makeTree_52 : decode b_M_makeTree 52 = .ok (.aload_n 0, 1) := by decide +kernel
theorem d_M_makeTree_53 : decode b_M_makeTree 53 = .ok (.getfield 58, 3) := by decide +kernel
theorem d_M_makeTree_56 : decode b_M_makeTree 56 = .ok (.iload_n 1, 1) := by decide +kernel
theorem d_M_makeTree_57 : decode b_M_makeTree 57 = .ok (.iaload, 1) := by decide +kernel
theorem d_M_makeTree_58 : decode b_M_makeTree 58 = .ok (.istore_n 2, 1) := by decide +kernel
theorem d_M_makeTree_59 : decode b_M_makeTree 59 = .ok (.aload_n 0, 1) := by decide +kernel
theorem d_M_makeTree_60 : decode b_M_makeTree 60 = .ok (.getfield 61, 3) := by decide +kernel
theorem d_M_makeTree_63 : decode b_M_makeTree 63 = .ok (.iload_n 1, 1) := by decide +kernel
theorem d_M_makeTree_64 : decode b_M_makeTree 64 = .ok (.iaload, 1) := by decide +kernel
theorem d_M_makeTree_65 : decode b_M_makeTree 65 = .ok (.istore_n 3, 1) := by decide +kernel
theorem d_M_makeTree_66 : decode b_M_makeTree 66 = .ok (.aload_n 0, 1) := by decide +kernel
theorem d_M_makeTree_67 : decode b_M_makeTree 67 = .ok (.getfield 136, 3) := by decide +kernel
theorem d_M_makeTree_70 : decode b_M_makeTree 70 = .ok (.istore 4, 2) := by decide +kernel
theorem d_M_makeTree_72 : decode b_M_makeTree 72 = .ok (.aload_n 0, 1) := by decide +kernel
theorem d_M_makeTree_73 : decode b_M_makeTree 73 = .ok (.dup, 1) := by decide +kernel
theorem d_M_makeTree_74 : decode b_M_makeTree 74 = .ok (.getfield 136, 3) := by decide +kernel
theorem d_M_makeTree_77 : decode b_M_makeTree 77 = .ok (.iconst 1, 1) := by decide +kernel
theorem d_M_makeTree_78 : decode b_M_makeTree 78 = .ok (.iadd, 1) := by decide +kernel
theorem d_M_makeTree_79 : decode b_M_makeTree 79 = .ok (.putfield 136, 3) := by decide +kernel
theorem d_M_makeTree_82 : decode b_M_makeTree 82 = .ok (.aload_n 0, 1) := by decide +kernel
theorem d_M_makeTree_83 : decode b_M_makeTree 83 = .ok (.getfield 49, 3) := by decide +kernel
theorem d_M_makeTree_86 : decode b_M_makeTree 86 = .ok (.iload 4, 2) := by decide +kernel
theorem d_M_makeTree_88 : decode b_M_makeTree 88 = .ok (.iload_n 2, 1) := by decide +kernel
theorem d_M_makeTree_89 : decode b_M_makeTree 89 = .ok (.iastore, 1) := by decide +kernel
theorem d_M_makeTree_90 : decode b_M_makeTree 90 = .ok (.aload_n 0, 1) := by decide +kernel
theorem d_M_makeTree_91 : decode b_M_makeTree 91 = .ok (.getfield 52, 3) := by decide +kernel
theorem d_M_makeTree_94 : decode b_M_makeTree 94 = .ok (.iload 4, 2) := by decide +kernel
theorem d_M_makeTree_96 : decode b_M_makeTree 96 = .ok (.iconst (-1), 1) := by decide +kernel
theorem d_M_makeTree_97 : decode b_M_makeTree 97 = .ok (.iastore, 1) := by decide +kernel
theorem d_M_makeTree_98 : decode b_M_makeTree 98 = .ok (.aload_n 0, 1) := by decide +kernel
theorem d_M_makeTree_99 : decode b_M_makeTree 99 = .ok (.getfield 55, 3) := by decide +kernel
theorem d_M_makeTree_102 : decode b_M_makeTree 102 = .ok (.iload 4, 2) := by decide +kernel
theorem d_M_makeTree_104 : decode b_M_makeTree 104 = .ok (.iconst (-1), 1) := by decide +kernel
theorem d_M_makeTree_105 : decode b_M_makeTree 105 = .ok (.iastore, 1) := by decide +kernel
theorem d_M_makeTree_106 : decode b_M_makeTree 106 = .ok (.iload_n 3, 1) := by decide +kernel
theorem d_M_makeTree_107 : decode b_M_makeTree 107 = .ok (.ifCond .lt 23, 3) := by decide +kernel
theorem d_M_makeTree_110 : decode b_M_makeTree 110 = .ok (.aload_n 0, 1) := by decide +kernel
theorem d_M_makeTree_111 : decode b_M_makeTree 111 = .ok (.getfield 52, 3) := by decide +kernel
theorem d_M_makeTree_114 : decode b_M_makeTree 114 = .ok (.iload_n 3, 1) := by decide +kernel
theorem d_M_makeTree_115 : decode b_M_makeTree 115 = .ok (.iaload, 1) := by decide +kernel
theorem d_M_makeTree_116 : decode b_M_makeTree 116 = .ok (.ifCond .ge 14, 3) := by decide +kernel
theorem d_M_makeTree_119 : decode b_M_makeTree 119 = .ok (.aload_n 0, 1) := by decide +kernel
theorem d_M_makeTree_120 : decode b_M_makeTree 120 = .ok (.getfield 52, 3) := by decide +kernel
theorem d_M_makeTree_123 : decode b_M_makeTree 123 = .ok (.iload_n 3, 1) := by decide +kernel
theorem d_M_makeTree_124 : decode b_M_makeTree 124 = .ok (.iload 4, 2) := by decide +kernel
theorem d_M_makeTree_126 : decode b_M_makeTree 126 = .ok (.iastore, 1) := by decide +kernel
theorem d_M_makeTree_127 : decode b_M_makeTree 127 = .ok (.goto 15, 3) := by decide +kernel
theorem d_M_makeTree_130 : decode b_M_makeTree 130 = .ok (.iload_n 3, 1) := by decide +kernel
theorem d_M_makeTree_131 : decode b_M_makeTree 131 = .ok (.ifCond .lt 11, 3) := by decide +kernel
theorem d_M_makeTree_134 : decode b_M_makeTree 134 = .ok (.aload_n 0, 1) := by decide +kernel
theorem d_M_makeTree_135 : decode b_M_makeTree 135 = .ok (.getfield 55, 3) := by decide +kernel
theorem d_M_makeTree_138 : decode b_M_makeTree 138 = .ok (.iload_n 3, 1) := by decide +kernel
theorem d_M_makeTree_139 : decode b_M_makeTree 139 = .ok (.iload 4, 2) := by decide +kernel
theorem d_M_makeTree_141 : decode b_M_makeTree 141 = .ok (.iastore, 1) := by decide +kernel
theorem d_M_makeTree_142 : decode b_M_makeTree 142 = .ok (.aload_n 0, 1) := by decide +kernel
theorem d_M_makeTree_143 : decode b_M_makeTree 143 = .ok (.iload 4, 2) := by decide +kernel
theorem d_M_makeTree_145 : decode b_M_makeTree 145 = .ok (.invokevirtual 143, 3) := by decide +kernel
theorem d_M_makeTree_148 : decode b_M_makeTree 148 = .ok (.ifCond .ne 71, 3) := by decide +kernel
theorem d_M_makeTree_151 : decode b_M_makeTree 151 = .ok (.aload_n 0, 1) := by decide +kernel
theorem d_M_makeTree_152 : decode b_M_makeTree 152 = .ok (.getfield 37, 3) := by decide +kernel
theorem d_M_makeTree_155 : decode b_M_makeTree 155 = .ok (.sipush 6561, 3) := by decide +kernel
theorem d_M_makeTree_158 : decode b_M_makeTree 158 = .ok (.aload_n 0, 1) := by decide +kernel
theorem d_M_makeTree_159 : decode b_M_makeTree 159 = .ok (.getfield 146, 3) := by decide +kernel
theorem d_M_makeTree_162 : decode b_M_makeTree 162 = .ok (.imul, 1) := by decide +kernel
theorem d_M_makeTree_163 : decode b_M_makeTree 163 = .ok (.iload_n 2, 1) := by decide +kernel
theorem d_M_makeTree_164 : decode b_M_makeTree 164 = .ok (.iadd, 1) := by decide +kernel
theorem d_M_makeTree_165 : decode b_M_makeTree 165 = .ok (.iaload, 1) := by decide +kernel
theorem d_M_makeTree_166 : decode b_M_makeTree 166 = .ok (.istore 5, 2) := by decide +kernel
theorem d_M_makeTree_168 : decode b_M_makeTree 168 = .ok (.aload_n 0, 1) := by decide +kernel
theorem d_M_makeTree_169 : decode b_M_makeTree 169 = .ok (.getfield 58, 3) := by decide +kernel
theorem d_M_makeTree_172 : decode b_M_makeTree 172 = .ok (.iload_n 1, 1) := by decide +kernel
theorem d_M_makeTree_173 : decode b_M_makeTree 173 = .ok (.aload_n 0, 1) := by decide +kernel
theorem d_M_makeTree_174 : decode b_M_makeTree 174 = .ok (.iload_n 2, 1) := by decide +kernel
theorem d_M_makeTree_175 : decode b_M_makeTree 175 = .ok (.iload 5, 2) := by decide +kernel
theorem d_M_makeTree_177 : decode b_M_makeTree 177 = .ok (.iconst 1, 1) := by decide +kernel
theorem d_M_makeTree_178 : decode b_M_makeTree 178 = .ok (.invokevirtual 108, 3) := by decide +kernel
theorem d_M_makeTree_181 : decode b_M_makeTree 181 = .ok (.iastore, 1) := by decide +kernel
theorem d_M_makeTree_182 : decode b_M_makeTree 182 = .ok (.aload_n 0, 1) := by decide +kernel
theorem d_M_makeTree_183 : decode b_M_makeTree 183 = .ok (.getfield 61, 3) := by decide +kernel
theorem d_M_makeTree_186 : decode b_M_makeTree 186 = .ok (.iload_n 1, 1) := by decide +kernel
theorem d_M_makeTree_187 : decode b_M_makeTree 187 = .ok (.iload 4, 2) := by decide +kernel
theorem d_M_makeTree_189 : decode b_M_makeTree 189 = .ok (.iastore, 1) := by decide +kernel
theorem d_M_makeTree_190 : decode b_M_makeTree 190 = .ok (.aload_n 0, 1) := by decide +kernel
theorem d_M_makeTree_191 : decode b_M_makeTree 191 = .ok (.getfield 58, 3) := by decide +kernel
theorem d_M_makeTree_194 : decode b_M_makeTree 194 = .ok (.iload_n 1, 1) := by decide +kernel
theorem d_M_makeTree_195 : decode b_M_makeTree 195 = .ok (.iconst 1, 1) := by decide +kernel
theorem d_M_makeTree_196 : decode b_M_makeTree 196 = .ok (.iadd, 1) := by decide +kernel
theorem d_M_makeTree_197 : decode b_M_makeTree 197 = .ok (.aload_n 0, 1) := by decide +kernel
theorem d_M_makeTree_198 : decode b_M_makeTree 198 = .ok (.iload_n 2, 1) := by decide +kernel
theorem d_M_makeTree_199 : decode b_M_makeTree 199 = .ok (.iload 5, 2) := by decide +kernel
theorem d_M_makeTree_201 : decode b_M_makeTree 201 = .ok (.iconst 0, 1) := by decide +kernel
theorem d_M_makeTree_202 : decode b_M_makeTree 202 = .ok (.invokevirtual 108, 3) := by decide +kernel
theorem d_M_makeTree_205 : decode b_M_makeTree 205 = .ok (.iastore, 1) := by decide +kernel
theorem d_M_makeTree_206 : decode b_M_makeTree 206 = .ok (.aload_n 0, 1) := by decide +kernel
theorem d_M_makeTree_207 : decode b_M_makeTree 207 = .ok (.getfield 61, 3) := by decide +kernel
theorem d_M_makeTree_210 : decode b_M_makeTree 210 = .ok (.iload_n 1, 1) := by decide +kernel
theorem d_M_makeTree_211 : decode b_M_makeTree 211 = .ok (.iconst 1, 1) := by decide +kernel
theorem d_M_makeTree_212 : decode b_M_makeTree 212 = .ok (.iadd, 1) := by decide +kernel
theorem d_M_makeTree_213 : decode b_M_makeTree 213 = .ok (.iload 4, 2) := by decide +kernel
theorem d_M_makeTree_215 : decode b_M_makeTree 215 = .ok (.iastore, 1) := by decide +kernel
theorem d_M_makeTree_216 : decode b_M_makeTree 216 = .ok (.iinc 1 2, 3) := by decide +kernel
theorem d_M_makeTree_219 : decode b_M_makeTree 219 = .ok (.goto (-174), 3) := by decide +kernel
theorem d_M_makeTree_222 : decode b_M_makeTree 222 = .ok (.return_, 1) := by decide +kernel
theorem d_M_leafOf_0 : decode b_M_leafOf 0 = .ok (.iconst 0, 1) := by decide +kernel
theorem d_M_leafOf_1 : decode b_M_leafOf 1 = .ok (.istore_n 2, 1) := by decide +kernel
theorem d_M_leafOf_2 : decode b_M_leafOf 2 = .ok (.aload_n 0, 1) := by decide +kernel
theorem d_M_leafOf_3 : decode b_M_leafOf 3 = .ok (.iload_n 2, 1) := by decide +kernel
theorem d_M_leafOf_4 : decode b_M_leafOf 4 = .ok (.invokevirtual 143, 3) := by decide +kernel
theorem d_M_leafOf_7 : decode b_M_leafOf 7 = .ok (.ifCond .ne 49, 3) := by decide +kernel
theorem d_M_leafOf_10 : decode b_M_leafOf 10 = .ok (.iload_n 1, 1) := by decide +kernel
theorem d_M_leafOf_11 : decode b_M_leafOf 11 = .ok (.aload_n 0, 1) := by decide +kernel
theorem d_M_leafOf_12 : decode b_M_leafOf 12 = .ok (.getfield 37, 3) := by decide +kernel
theorem d_M_leafOf_15 : decode b_M_leafOf 15 = .ok (.sipush 6561, 3) := by decide +kernel
theorem d_M_leafOf_18 : decode b_M_leafOf 18 = .ok (.aload_n 0, 1) := by decide +kernel
theorem d_M_leafOf_19 : decode b_M_leafOf 19 = .ok (.getfield 146, 3) := by decide +kernel
theorem d_M_leafOf_22 : decode b_M_leafOf 22 = .ok (.imul, 1) := by decide +kernel
theorem d_M_leafOf_23 : decode b_M_leafOf 23 = .ok (.aload_n 0, 1) := by decide +kernel
theorem d_M_leafOf_24 : decode b_M_leafOf 24 = .ok (.getfield 49, 3) := by decide +kernel
theorem d_M_leafOf_27 : decode b_M_leafOf 27 = .ok (.iload_n 2, 1) := by decide +kernel
theorem d_M_leafOf_28 : decode b_M_leafOf 28 = .ok (.iaload, 1) := by decide +kernel
theorem d_M_leafOf_29 : decode b_M_leafOf 29 = .ok (.iadd, 1) := by decide +kernel
theorem d_M_leafOf_30 : decode b_M_leafOf 30 = .ok (.iaload, 1) := by decide +kernel
theorem d_M_leafOf_31 : decode b_M_leafOf 31 = .ok (.ishr, 1) := by decide +kernel
theorem d_M_leafOf_32 : decode b_M_leafOf 32 = .ok (.iconst 1, 1) := by decide +kernel
theorem d_M_leafOf_33 : decode b_M_leafOf 33 = .ok (.iand, 1) := by decide +kernel
theorem d_M_leafOf_34 : decode b_M_leafOf 34 = .ok (.ifCond .ne 12, 3) := by decide +kernel
theorem d_M_leafOf_37 : decode b_M_leafOf 37 = .ok (.aload_n 0, 1) := by decide +kernel
theorem d_M_leafOf_38 : decode b_M_leafOf 38 = .ok (.getfield 52, 3) := by decide +kernel
theorem d_M_leafOf_41 : decode b_M_leafOf 41 = .ok (.iload_n 2, 1) := by decide +kernel
theorem d_M_leafOf_42 : decode b_M_leafOf 42 = .ok (.iaload, 1) := by decide +kernel
theorem d_M_leafOf_43 : decode b_M_leafOf 43 = .ok (.goto 9, 3) := by decide +kernel
theorem d_M_leafOf_46 : decode b_M_leafOf 46 = .ok (.aload_n 0, 1) := by decide +kernel
theorem d_M_leafOf_47 : decode b_M_leafOf 47 = .ok (.getfield 55, 3) := by decide +kernel
theorem d_M_leafOf_50 : decode b_M_leafOf 50 = .ok (.iload_n 2, 1) := by decide +kernel
theorem d_M_leafOf_51 : decode b_M_leafOf 51 = .ok (.iaload, 1) := by decide +kernel
theorem d_M_leafOf_52 : decode b_M_leafOf 52 = .ok (.istore_n 2, 1) := by decide +kernel
theorem d_M_leafOf_53 : decode b_M_leafOf 53 = .ok (.goto (-51), 3) := by decide +kernel
theorem d_M_leafOf_56 : decode b_M_leafOf 56 = .ok (.iload_n 2, 1) := by decide +kernel
theorem d_M_leafOf_57 : decode b_M_leafOf 57 = .ok (.ireturn, 1) := by decide +kernel
theorem d_M_depthOf_0 : decode b_M_depthOf 0 = .ok (.iconst 0, 1) := by decide +kernel
theorem d_M_depthOf_1 : decode b_M_depthOf 1 = .ok (.istore_n 2, 1) := by decide +kernel
theorem d_M_depthOf_2 : decode b_M_depthOf 2 = .ok (.iconst 0, 1) := by decide +kernel
theorem d_M_depthOf_3 : decode b_M_depthOf 3 = .ok (.istore_n 3, 1) := by decide +kernel
theorem d_M_depthOf_4 : decode b_M_depthOf 4 = .ok (.aload_n 0, 1) := by decide +kernel
theorem d_M_depthOf_5 : decode b_M_depthOf 5 = .ok (.iload_n 2, 1) := by decide +kernel
theorem d_M_depthOf_6 : decode b_M_depthOf 6 = .ok (.invokevirtual 143, 3) := by decide +kernel
theorem d_M_depthOf_9 : decode b_M_depthOf 9 = .ok (.ifCond .ne 52, 3) := by decide +kernel
theorem d_M_depthOf_12 : decode b_M_depthOf 12 = .ok (.iload_n 1, 1) := by decide +kernel
theorem d_M_depthOf_13 : decode b_M_depthOf 13 = .ok (.aload_n 0, 1) := by decide +kernel
theorem d_M_depthOf_14 : decode b_M_depthOf 14 = .ok (.getfield 37, 3) := by decide +kernel
theorem d_M_depthOf_17 : decode b_M_depthOf 17 = .ok (.sipush 6561, 3) := by decide +kernel
theorem d_M_depthOf_20 : decode b_M_depthOf 20 = .ok (.aload_n 0, 1) := by decide +kernel
theorem d_M_depthOf_21 : decode b_M_depthOf 21 = .ok (.getfield 146, 3) := by decide +kernel
theorem d_M_depthOf_24 : decode b_M_depthOf 24 = .ok (.imul, 1) := by decide +kernel
theorem d_M_depthOf_25 : decode b_M_depthOf 25 = .ok (.aload_n 0, 1) := by decide +kernel
theorem d_M_depthOf_26 : decode b_M_depthOf 26 = .ok (.getfield 49, 3) := by decide +kernel
theorem d_M_depthOf_29 : decode b_M_depthOf 29 = .ok (.iload_n 2, 1) := by decide +kernel
theorem d_M_depthOf_30 : decode b_M_depthOf 30 = .ok (.iaload, 1) := by decide +kernel
theorem d_M_depthOf_31 : decode b_M_depthOf 31 = .ok (.iadd, 1) := by decide +kernel
theorem d_M_depthOf_32 : decode b_M_depthOf 32 = .ok (.iaload, 1) := by decide +kernel
theorem d_M_depthOf_33 : decode b_M_depthOf 33 = .ok (.ishr, 1) := by decide +kernel
theorem d_M_depthOf_34 : decode b_M_depthOf 34 = .ok (.iconst 1, 1) := by decide +kernel
theorem d_M_depthOf_35 : decode b_M_depthOf 35 = .ok (.iand, 1) := by decide +kernel
theorem d_M_depthOf_36 : decode b_M_depthOf 36 = .ok (.ifCond .ne 12, 3) := by decide +kernel
theorem d_M_depthOf_39 : decode b_M_depthOf 39 = .ok (.aload_n 0, 1) := by decide +kernel
theorem d_M_depthOf_40 : decode b_M_depthOf 40 = .ok (.getfield 52, 3) := by decide +kernel
theorem d_M_depthOf_43 : decode b_M_depthOf 43 = .ok (.iload_n 2, 1) := by decide +kernel
theorem d_M_depthOf_44 : decode b_M_depthOf 44 = .ok (.iaload, 1) := by decide +kernel
theorem d_M_depthOf_45 : decode b_M_depthOf 45 = .ok (.goto 9, 3) := by decide +kernel
theorem d_M_depthOf_48 : decode b_M_depthOf 48 = .ok (.aload_n 0, 1) := by decide +kernel
theorem d_M_depthOf_49 : decode b_M_depthOf 49 = .ok (.getfield 55, 3) := by decide +kernel
theorem d_M_depthOf_52 : decode b_M_depthOf 52 = .ok (.iload_n 2, 1) := by decide +kernel
theorem d_M_depthOf_53 : decode b_M_depthOf 53 = .ok (.iaload, 1) := by decide +kernel
theorem d_M_depthOf_54 : decode b_M_depthOf 54 = .ok (.istore_n 2, 1) := by decide +kernel
theorem d_M_depthOf_55 : decode b_M_depthOf 55 = .ok (.iinc 3 1, 3) := by decide +kernel
theorem d_M_depthOf_58 : decode b_M_depthOf 58 = .ok (.goto (-54), 3) := by decide +kernel
theorem d_M_depthOf_61 : decode b_M_depthOf 61 = .ok (.iload_n 3, 1) := by decide +kernel
theorem d_M_depthOf_62 : decode b_M_depthOf 62 = .ok (.ireturn, 1) := by decide +kernel
theorem d_M_encoding_0 : decode b_M_encoding 0 = .ok (.aload_n 0, 1) := by decide +kernel
theorem d_M_encoding_1 : decode b_M_encoding 1 = .ok (.iconst 0, 1) := by decide +kernel
theorem d_M_encoding_2 : decode b_M_encoding 2 = .ok (.putfield 83, 3) := by decide +kernel
theorem d_M_encoding_5 : decode b_M_encoding 5 = .ok (.aload_n 0, 1) := by decide +kernel
theorem d_M_encoding_6 : decode b_M_encoding 6 = .ok (.iload_n 1, 1) := by decide +kernel
theorem d_M_encoding_7 : decode b_M_encoding 7 = .ok (.invokevirtual 149, 3) := by decide +kernel
theorem d_M_encoding_10 : decode b_M_encoding 10 = .ok (.ifCond .eq 31, 3) := by decide +kernel
theorem d_M_encoding_13 : decode b_M_encoding 13 = .ok (.iload_n 2, 1) := by decide +kernel
theorem d_M_encoding_14 : decode b_M_encoding 14 = .ok (.iload_n 1, 1) := by decide +kernel
theorem d_M_encoding_15 : decode b_M_encoding 15 = .ok (.iconst (-1), 1) := by decide +kernel
theorem d_M_encoding_16 : decode b_M_encoding 16 = .ok (.ixor, 1) := by decide +kernel
theorem d_M_encoding_17 : decode b_M_encoding 17 = .ok (.iand, 1) := by decide +kernel
theorem d_M_encoding_18 : decode b_M_encoding 18 = .ok (.ifCond .ne 23, 3) := by decide +kernel
theorem d_M_encoding_21 : decode b_M_encoding 21 = .ok (.iload_n 3, 1) := by decide +kernel
theorem d_M_encoding_22 : decode b_M_encoding 22 = .ok (.iconst 1, 1) := by decide +kernel
theorem d_M_encoding_23 : decode b_M_encoding 23 = .ok (.iconst 3, 1) := by decide +kernel
theorem d_M_encoding_24 : decode b_M_encoding 24 = .ok (.invokestatic 86, 3) := by decide +kernel
theorem d_M_encoding_27 : decode b_M_encoding 27 = .ok (.ifCond .eq 14, 3) := by decide +kernel
theorem d_M_encoding_30 : decode b_M_encoding 30 = .ok (.iload 4, 2) := by decide +kernel
theorem d_M_encoding_32 : decode b_M_encoding 32 = .ok (.iconst (-1), 1) := by decide +kernel
theorem d_M_encoding_33 : decode b_M_encoding 33 = .ok (.bipush 7, 2) := by decide +kernel
theorem d_M_encoding_35 : decode b_M_encoding 35 = .ok (.invokestatic 86, 3) := by decide +kernel
theorem d_M_encoding_38 : decode b_M_encoding 38 = .ok (.ifCond .ne 9, 3) := by decide +kernel
theorem d_M_encoding_41 : decode b_M_encoding 41 = .ok (.aload_n 0, 1) := by decide +kernel
theorem d_M_encoding_42 : decode b_M_encoding 42 = .ok (.iconst 1, 1) := by decide +kernel
theorem d_M_encoding_43 : decode b_M_encoding 43 = .ok (.invokevirtual 152, 3) := by decide +kernel
theorem d_M_encoding_46 : decode b_M_encoding 46 = .ok (.ireturn, 1) := by decide +kernel
theorem d_M_encoding_47 : decode b_M_encoding 47 = .ok (.aload_n 0, 1) := by decide +kernel
theorem d_M_encoding_48 : decode b_M_encoding 48 = .ok (.getfield 90, 3) := by decide +kernel
theorem d_M_encoding_51 : decode b_M_encoding 51 = .ok (.bipush 14, 2) := by decide +kernel
theorem d_M_encoding_53 : decode b_M_encoding 53 = .ok (.if_icmp .ne 9, 3) := by decide +kernel
theorem d_M_encoding_56 : decode b_M_encoding 56 = .ok (.aload_n 0, 1) := by decide +kernel
theorem d_M_encoding_57 : decode b_M_encoding 57 = .ok (.iconst 2, 1) := by decide +kernel
theorem d_M_encoding_58 : decode b_M_encoding 58 = .ok (.invokevirtual 152, 3) := by decide +kernel
theorem d_M_encoding_61 : decode b_M_encoding 61 = .ok (.ireturn, 1) := by decide +kernel
theorem d_M_encoding_62 : decode b_M_encoding 62 = .ok (.aload_n 0, 1) := by decide +kernel
theorem d_M_encoding_63 : decode b_M_encoding 63 = .ok (.getfield 7, 3) := by decide +kernel
theorem d_M_encoding_66 : decode b_M_encoding 66 = .ok (.aload_n 0, 1) := by decide +kernel
theorem d_M_encoding_67 : decode b_M_encoding 67 = .ok (.getfield 90, 3) := by decide +kernel
theorem d_M_encoding_70 : decode b_M_encoding 70 = .ok (.iload_n 1, 1) := by decide +kernel
theorem d_M_encoding_71 : decode b_M_encoding 71 = .ok (.iastore, 1) := by decide +kernel
theorem d_M_encoding_72 : decode b_M_encoding 72 = .ok (.aload_n 0, 1) := by decide +kernel
theorem d_M_encoding_73 : decode b_M_encoding 73 = .ok (.getfield 13, 3) := by decide +kernel
theorem d_M_encoding_76 : decode b_M_encoding 76 = .ok (.aload_n 0, 1) := by decide +kernel
theorem d_M_encoding_77 : decode b_M_encoding 77 = .ok (.getfield 90, 3) := by decide +kernel
theorem d_M_encoding_80 : decode b_M_encoding 80 = .ok (.iload_n 2, 1) := by decide +kernel
theorem d_M_encoding_81 : decode b_M_encoding 81 = .ok (.iastore, 1) := by decide +kernel
theorem d_M_encoding_82 : decode b_M_encoding 82 = .ok (.aload_n 0, 1) := by decide +kernel
theorem d_M_encoding_83 : decode b_M_encoding 83 = .ok (.getfield 16, 3) := by decide +kernel
theorem d_M_encoding_86 : decode b_M_encoding 86 = .ok (.aload_n 0, 1) := by decide +kernel
theorem d_M_encoding_87 : decode b_M_encoding 87 = .ok (.getfield 90, 3) := by decide +kernel
theorem d_M_encoding_90 : decode b_M_encoding 90 = .ok (.iload_n 3, 1) := by decide +kernel
theorem d_M_encoding_91 : decode b_M_encoding 91 = .ok (.iastore, 1) := by decide +kernel
theorem d_M_encoding_92 : decode b_M_encoding 92 = .ok (.aload_n 0, 1) := by decide +kernel
theorem d_M_encoding_93 : decode b_M_encoding 93 = .ok (.getfield 19, 3) := by decide +kernel
theorem d_M_encoding_96 : decode b_M_encoding 96 = .ok (.aload_n 0, 1) := by decide +kernel
theorem d_M_encoding_97 : decode b_M_encoding 97 = .ok (.getfield 90, 3) := by decide +kernel
theorem d_M_encoding_100 : decode b_M_encoding 100 = .ok (.iload 4, 2) := by decide +kernel
theorem d_M_encoding_102 : decode b_M_encoding 102 = .ok (.iastore, 1) := by decide +kernel
theorem d_M_encoding_103 : decode b_M_encoding 103 = .ok (.aload_n 0, 1) := by decide +kernel
theorem d_M_encoding_104 : decode b_M_encoding 104 = .ok (.dup, 1) := by decide +kernel
theorem d_M_encoding_105 : decode b_M_encoding 105 = .ok (.getfield 90, 3) := by decide +kernel
theorem d_M_encoding_108 : decode b_M_encoding 108 = .ok (.iconst 1, 1) := by decide +kernel
theorem d_M_encoding_109 : decode b_M_encoding 109 = .ok (.iadd, 1) := by decide +kernel
theorem d_M_encoding_110 : decode b_M_encoding 110 = .ok (.putfield 90, 3) := by decide +kernel
theorem d_M_encoding_113 : decode b_M_encoding 113 = .ok (.aload_n 0, 1) := by decide +kernel
theorem d_M_encoding_114 : decode b_M_encoding 114 = .ok (.invokevirtual 80, 3) := by decide +kernel
theorem d_M_encoding_117 : decode b_M_encoding 117 = .ok (.aload_n 0, 1) := by decide +kernel
theorem d_M_encoding_118 : decode b_M_encoding 118 = .ok (.getfield 90, 3) := by decide +kernel
theorem d_M_encoding_121 : decode b_M_encoding 121 = .ok (.iconst 1, 1) := by decide +kernel
theorem d_M_encoding_122 : decode b_M_encoding 122 = .ok (.isub, 1) := by decide +kernel
theorem d_M_encoding_123 : decode b_M_encoding 123 = .ok (.ireturn, 1) := by decide +kernel
theorem d_M_kind_0 : decode b_M_kind 0 = .ok (.aload_n 0, 1) := by decide +kernel
theorem d_M_kind_1 : decode b_M_kind 1 = .ok (.iconst 0, 1) := by decide +kernel
theorem d_M_kind_2 : decode b_M_kind 2 = .ok (.putfield 83, 3) := by decide +kernel
theorem d_M_kind_5 : decode b_M_kind 5 = .ok (.iload_n 1, 1) := by decide +kernel
theorem d_M_kind_6 : decode b_M_kind 6 = .ok (.iconst 0, 1) := by decide +kernel
theorem d_M_kind_7 : decode b_M_kind 7 = .ok (.iconst 2, 1) := by decide +kernel
theorem d_M_kind_8 : decode b_M_kind 8 = .ok (.invokestatic 86, 3) := by decide +kernel
theorem d_M_kind_11 : decode b_M_kind 11 = .ok (.ifCond .ne 9, 3) := by decide +kernel
theorem d_M_kind_14 : decode b_M_kind 14 = .ok (.aload_n 0, 1) := by decide +kernel
theorem d_M_kind_15 : decode b_M_kind 15 = .ok (.iconst 1, 1) := by decide +kernel
theorem d_M_kind_16 : decode b_M_kind 16 = .ok (.invokevirtual 152, 3) := by decide +kernel
theorem d_M_kind_19 : decode b_M_kind 19 = .ok (.ireturn, 1) := by decide +kernel
theorem d_M_kind_20 : decode b_M_kind 20 = .ok (.aload_n 0, 1) := by decide +kernel
theorem d_M_kind_21 : decode b_M_kind 21 = .ok (.getfield 146, 3) := by decide +kernel
theorem d_M_kind_24 : decode b_M_kind 24 = .ok (.istore_n 2, 1) := by decide +kernel
theorem d_M_kind_25 : decode b_M_kind 25 = .ok (.aload_n 0, 1) := by decide +kernel
theorem d_M_kind_26 : decode b_M_kind 26 = .ok (.iload_n 1, 1) := by decide +kernel
theorem d_M_kind_27 : decode b_M_kind 27 = .ok (.putfield 146, 3) := by decide +kernel
theorem d_M_kind_30 : decode b_M_kind 30 = .ok (.aload_n 0, 1) := by decide +kernel
theorem d_M_kind_31 : decode b_M_kind 31 = .ok (.invokevirtual 133, 3) := by decide +kernel
theorem d_M_kind_34 : decode b_M_kind 34 = .ok (.iload_n 2, 1) := by decide +kernel
theorem d_M_kind_35 : decode b_M_kind 35 = .ok (.ireturn, 1) := by decide +kernel
theorem d_M_holds_0 : decode b_M_holds 0 = .ok (.aload_n 0, 1) := by decide +kernel
theorem d_M_holds_1 : decode b_M_holds 1 = .ok (.getfield 19, 3) := by decide +kernel
theorem d_M_holds_4 : decode b_M_holds 4 = .ok (.iload_n 1, 1) := by decide +kernel
theorem d_M_holds_5 : decode b_M_holds 5 = .ok (.iaload, 1) := by decide +kernel
theorem d_M_holds_6 : decode b_M_holds 6 = .ok (.ifCond .lt 17, 3) := by decide +kernel
theorem d_M_holds_9 : decode b_M_holds 9 = .ok (.iload_n 2, 1) := by decide +kernel
theorem d_M_holds_10 : decode b_M_holds 10 = .ok (.aload_n 0, 1) := by decide +kernel
theorem d_M_holds_11 : decode b_M_holds 11 = .ok (.getfield 19, 3) := by decide +kernel
theorem d_M_holds_14 : decode b_M_holds 14 = .ok (.iload_n 1, 1) := by decide +kernel
theorem d_M_holds_15 : decode b_M_holds 15 = .ok (.iaload, 1) := by decide +kernel
theorem d_M_holds_16 : decode b_M_holds 16 = .ok (.ishr, 1) := by decide +kernel
theorem d_M_holds_17 : decode b_M_holds 17 = .ok (.iconst 1, 1) := by decide +kernel
theorem d_M_holds_18 : decode b_M_holds 18 = .ok (.iand, 1) := by decide +kernel
theorem d_M_holds_19 : decode b_M_holds 19 = .ok (.iconst 1, 1) := by decide +kernel
theorem d_M_holds_20 : decode b_M_holds 20 = .ok (.if_icmp .ne 7, 3) := by decide +kernel
theorem d_M_holds_23 : decode b_M_holds 23 = .ok (.iconst 1, 1) := by decide +kernel
theorem d_M_holds_24 : decode b_M_holds 24 = .ok (.goto 4, 3) := by decide +kernel
theorem d_M_holds_27 : decode b_M_holds 27 = .ok (.iconst 0, 1) := by decide +kernel
theorem d_M_holds_28 : decode b_M_holds 28 = .ok (.ireturn, 1) := by decide +kernel
theorem d_M_answerOf_0 : decode b_M_answerOf 0 = .ok (.iconst 0, 1) := by decide +kernel
theorem d_M_answerOf_1 : decode b_M_answerOf 1 = .ok (.istore_n 3, 1) := by decide +kernel
theorem d_M_answerOf_2 : decode b_M_answerOf 2 = .ok (.iload_n 3, 1) := by decide +kernel
theorem d_M_answerOf_3 : decode b_M_answerOf 3 = .ok (.aload_n 0, 1) := by decide +kernel
theorem d_M_answerOf_4 : decode b_M_answerOf 4 = .ok (.getfield 25, 3) := by decide +kernel
theorem d_M_answerOf_7 : decode b_M_answerOf 7 = .ok (.iload_n 1, 1) := by decide +kernel
theorem d_M_answerOf_8 : decode b_M_answerOf 8 = .ok (.iaload, 1) := by decide +kernel
theorem d_M_answerOf_9 : decode b_M_answerOf 9 = .ok (.if_icmp .ge 40, 3) := by decide +kernel
theorem d_M_answerOf_12 : decode b_M_answerOf 12 = .ok (.aload_n 0, 1) := by decide +kernel
theorem d_M_answerOf_13 : decode b_M_answerOf 13 = .ok (.aload_n 0, 1) := by decide +kernel
theorem d_M_answerOf_14 : decode b_M_answerOf 14 = .ok (.getfield 28, 3) := by decide +kernel
theorem d_M_answerOf_17 : decode b_M_answerOf 17 = .ok (.bipush 14, 2) := by decide +kernel
theorem d_M_answerOf_19 : decode b_M_answerOf 19 = .ok (.iload_n 1, 1) := by decide +kernel
theorem d_M_answerOf_20 : decode b_M_answerOf 20 = .ok (.imul, 1) := by decide +kernel
theorem d_M_answerOf_21 : decode b_M_answerOf 21 = .ok (.iload_n 3, 1) := by decide +kernel
theorem d_M_answerOf_22 : decode b_M_answerOf 22 = .ok (.iadd, 1) := by decide +kernel
theorem d_M_answerOf_23 : decode b_M_answerOf 23 = .ok (.iaload, 1) := by decide +kernel
theorem d_M_answerOf_24 : decode b_M_answerOf 24 = .ok (.iload_n 2, 1) := by decide +kernel
theorem d_M_answerOf_25 : decode b_M_answerOf 25 = .ok (.invokevirtual 155, 3) := by decide +kernel
theorem d_M_answerOf_28 : decode b_M_answerOf 28 = .ok (.ifCond .eq 15, 3) := by decide +kernel
theorem d_M_answerOf_31 : decode b_M_answerOf 31 = .ok (.aload_n 0, 1) := by decide +kernel
theorem d_M_answerOf_32 : decode b_M_answerOf 32 = .ok (.getfield 28, 3) := by decide +kernel
theorem d_M_answerOf_35 : decode b_M_answerOf 35 = .ok (.bipush 14, 2) := by decide +kernel
theorem d_M_answerOf_37 : decode b_M_answerOf 37 = .ok (.iload_n 1, 1) := by decide +kernel
theorem d_M_answerOf_38 : decode b_M_answerOf 38 = .ok (.imul, 1) := by decide +kernel
theorem d_M_answerOf_39 : decode b_M_answerOf 39 = .ok (.iload_n 3, 1) := by decide +kernel
theorem d_M_answerOf_40 : decode b_M_answerOf 40 = .ok (.iadd, 1) := by decide +kernel
theorem d_M_answerOf_41 : decode b_M_answerOf 41 = .ok (.iaload, 1) := by decide +kernel
theorem d_M_answerOf_42 : decode b_M_answerOf 42 = .ok (.ireturn, 1) := by decide +kernel
theorem d_M_answerOf_43 : decode b_M_answerOf 43 = .ok (.iinc 3 1, 3) := by decide +kernel
theorem d_M_answerOf_46 : decode b_M_answerOf 46 = .ok (.goto (-44), 3) := by decide +kernel
theorem d_M_answerOf_49 : decode b_M_answerOf 49 = .ok (.iconst (-1), 1) := by decide +kernel
theorem d_M_answerOf_50 : decode b_M_answerOf 50 = .ok (.ireturn, 1) := by decide +kernel
theorem d_M_isRight_0 : decode b_M_isRight 0 = .ok (.aload_n 0, 1) := by decide +kernel
theorem d_M_isRight_1 : decode b_M_isRight 1 = .ok (.aload_n 0, 1) := by decide +kernel
theorem d_M_isRight_2 : decode b_M_isRight 2 = .ok (.iload_n 1, 1) := by decide +kernel
theorem d_M_isRight_3 : decode b_M_isRight 3 = .ok (.invokevirtual 149, 3) := by decide +kernel
theorem d_M_isRight_6 : decode b_M_isRight 6 = .ok (.ifCond .eq 18, 3) := by decide +kernel
theorem d_M_isRight_9 : decode b_M_isRight 9 = .ok (.iload_n 2, 1) := by decide +kernel
theorem d_M_isRight_10 : decode b_M_isRight 10 = .ok (.iconst 0, 1) := by decide +kernel
theorem d_M_isRight_11 : decode b_M_isRight 11 = .ok (.sipush 255, 3) := by decide +kernel
theorem d_M_isRight_14 : decode b_M_isRight 14 = .ok (.invokestatic 86, 3) := by decide +kernel
theorem d_M_isRight_17 : decode b_M_isRight 17 = .ok (.ifCond .eq 7, 3) := by decide +kernel
theorem d_M_isRight_20 : decode b_M_isRight 20 = .ok (.iconst 0, 1) := by decide +kernel
theorem d_M_isRight_21 : decode b_M_isRight 21 = .ok (.goto 4, 3) := by decide +kernel
theorem d_M_isRight_24 : decode b_M_isRight 24 = .ok (.iconst 1, 1) := by decide +kernel
theorem d_M_isRight_25 : decode b_M_isRight 25 = .ok (.putfield 83, 3) := by decide +kernel
theorem d_M_isRight_28 : decode b_M_isRight 28 = .ok (.aload_n 0, 1) := by decide +kernel
theorem d_M_isRight_29 : decode b_M_isRight 29 = .ok (.getfield 83, 3) := by decide +kernel
theorem d_M_isRight_32 : decode b_M_isRight 32 = .ok (.ifCond .ne 7, 3) := by decide +kernel
theorem d_M_isRight_35 : decode b_M_isRight 35 = .ok (.iconst 1, 1) := by decide +kernel
theorem d_M_isRight_36 : decode b_M_isRight 36 = .ok (.goto 4, 3) := by decide +kernel
theorem d_M_isRight_39 : decode b_M_isRight 39 = .ok (.iconst 0, 1) := by decide +kernel
theorem d_M_isRight_40 : decode b_M_isRight 40 = .ok (.ireturn, 1) := by decide +kernel
theorem d_M_tried_0 : decode b_M_tried 0 = .ok (.aload_n 0, 1) := by decide +kernel
theorem d_M_tried_1 : decode b_M_tried 1 = .ok (.iload_n 1, 1) := by decide +kernel
theorem d_M_tried_2 : decode b_M_tried 2 = .ok (.iload_n 2, 1) := by decide +kernel
theorem d_M_tried_3 : decode b_M_tried 3 = .ok (.invokevirtual 158, 3) := by decide +kernel
theorem d_M_tried_6 : decode b_M_tried 6 = .ok (.ifCond .eq 12, 3) := by decide +kernel
theorem d_M_tried_9 : decode b_M_tried 9 = .ok (.aload_n 0, 1) := by decide +kernel
theorem d_M_tried_10 : decode b_M_tried 10 = .ok (.iload_n 1, 1) := by decide +kernel
theorem d_M_tried_11 : decode b_M_tried 11 = .ok (.iload_n 2, 1) := by decide +kernel
theorem d_M_tried_12 : decode b_M_tried 12 = .ok (.invokevirtual 161, 3) := by decide +kernel
theorem d_M_tried_15 : decode b_M_tried 15 = .ok (.goto 4, 3) := by decide +kernel
theorem d_M_tried_18 : decode b_M_tried 18 = .ok (.iconst 0, 1) := by decide +kernel
theorem d_M_tried_19 : decode b_M_tried 19 = .ok (.ireturn, 1) := by decide +kernel
theorem d_M_find_0 : decode b_M_find 0 = .ok (.iload_n 1, 1) := by decide +kernel
theorem d_M_find_1 : decode b_M_find 1 = .ok (.bipush 15, 2) := by decide +kernel
theorem d_M_find_3 : decode b_M_find 3 = .ok (.iand, 1) := by decide +kernel
theorem d_M_find_4 : decode b_M_find 4 = .ok (.istore_n 3, 1) := by decide +kernel
theorem d_M_find_5 : decode b_M_find 5 = .ok (.aload_n 0, 1) := by decide +kernel
theorem d_M_find_6 : decode b_M_find 6 = .ok (.getfield 67, 3) := by decide +kernel
theorem d_M_find_9 : decode b_M_find 9 = .ok (.iload_n 3, 1) := by decide +kernel
theorem d_M_find_10 : decode b_M_find 10 = .ok (.iaload, 1) := by decide +kernel
theorem d_M_find_11 : decode b_M_find 11 = .ok (.iload_n 1, 1) := by decide +kernel
theorem d_M_find_12 : decode b_M_find 12 = .ok (.if_icmp .ne 30, 3) := by decide +kernel
theorem d_M_find_15 : decode b_M_find 15 = .ok (.aload_n 0, 1) := by decide +kernel
theorem d_M_find_16 : decode b_M_find 16 = .ok (.getfield 70, 3) := by decide +kernel
theorem d_M_find_19 : decode b_M_find 19 = .ok (.iload_n 3, 1) := by decide +kernel
theorem d_M_find_20 : decode b_M_find 20 = .ok (.iaload, 1) := by decide +kernel
theorem d_M_find_21 : decode b_M_find 21 = .ok (.iload_n 2, 1) := by decide +kernel
theorem d_M_find_22 : decode b_M_find 22 = .ok (.if_icmp .ne 20, 3) := by decide +kernel
theorem d_M_find_25 : decode b_M_find 25 = .ok (.aload_n 0, 1) := by decide +kernel
theorem d_M_find_26 : decode b_M_find 26 = .ok (.dup, 1) := by decide +kernel
theorem d_M_find_27 : decode b_M_find 27 = .ok (.getfield 164, 3) := by decide +kernel
theorem d_M_find_30 : decode b_M_find 30 = .ok (.iconst 1, 1) := by decide +kernel
theorem d_M_find_31 : decode b_M_find 31 = .ok (.iadd, 1) := by decide +kernel
theorem d_M_find_32 : decode b_M_find 32 = .ok (.putfield 164, 3) := by decide +kernel
theorem d_M_find_35 : decode b_M_find 35 = .ok (.aload_n 0, 1) := by decide +kernel
theorem d_M_find_36 : decode b_M_find 36 = .ok (.getfield 73, 3) := by decide +kernel
theorem d_M_find_39 : decode b_M_find 39 = .ok (.iload_n 3, 1) := by decide +kernel
theorem d_M_find_40 : decode b_M_find 40 = .ok (.iaload, 1) := by decide +kernel
theorem d_M_find_41 : decode b_M_find 41 = .ok (.ireturn, 1) := by decide +kernel
theorem d_M_find_42 : decode b_M_find 42 = .ok (.aload_n 0, 1) := by decide +kernel
theorem d_M_find_43 : decode b_M_find 43 = .ok (.dup, 1) := by decide +kernel
theorem d_M_find_44 : decode b_M_find 44 = .ok (.getfield 167, 3) := by decide +kernel
theorem d_M_find_47 : decode b_M_find 47 = .ok (.iconst 1, 1) := by decide +kernel
theorem d_M_find_48 : decode b_M_find 48 = .ok (.iadd, 1) := by decide +kernel
theorem d_M_find_49 : decode b_M_find 49 = .ok (.putfield 167, 3) := by decide +kernel
theorem d_M_find_52 : decode b_M_find 52 = .ok (.aload_n 0, 1) := by decide +kernel
theorem d_M_find_53 : decode b_M_find 53 = .ok (.dup, 1) := by decide +kernel
theorem d_M_find_54 : decode b_M_find 54 = .ok (.getfield 170, 3) := by decide +kernel
theorem d_M_find_57 : decode b_M_find 57 = .ok (.aload_n 0, 1) := by decide +kernel
theorem d_M_find_58 : decode b_M_find 58 = .ok (.iload_n 1, 1) := by decide +kernel
theorem d_M_find_59 : decode b_M_find 59 = .ok (.invokevirtual 173, 3) := by decide +kernel
theorem d_M_find_62 : decode b_M_find 62 = .ok (.iadd, 1) := by decide +kernel
theorem d_M_find_63 : decode b_M_find 63 = .ok (.putfield 170, 3) := by decide +kernel
theorem d_M_find_66 : decode b_M_find 66 = .ok (.aload_n 0, 1) := by decide +kernel
theorem d_M_find_67 : decode b_M_find 67 = .ok (.getfield 67, 3) := by decide +kernel
theorem d_M_find_70 : decode b_M_find 70 = .ok (.iload_n 3, 1) := by decide +kernel
theorem d_M_find_71 : decode b_M_find 71 = .ok (.iload_n 1, 1) := by decide +kernel
theorem d_M_find_72 : decode b_M_find 72 = .ok (.iastore, 1) := by decide +kernel
theorem d_M_find_73 : decode b_M_find 73 = .ok (.aload_n 0, 1) := by decide +kernel
theorem d_M_find_74 : decode b_M_find 74 = .ok (.getfield 70, 3) := by decide +kernel
theorem d_M_find_77 : decode b_M_find 77 = .ok (.iload_n 3, 1) := by decide +kernel
theorem d_M_find_78 : decode b_M_find 78 = .ok (.iload_n 2, 1) := by decide +kernel
theorem d_M_find_79 : decode b_M_find 79 = .ok (.iastore, 1) := by decide +kernel
theorem d_M_find_80 : decode b_M_find 80 = .ok (.aload_n 0, 1) := by decide +kernel
theorem d_M_find_81 : decode b_M_find 81 = .ok (.getfield 73, 3) := by decide +kernel
theorem d_M_find_84 : decode b_M_find 84 = .ok (.iload_n 3, 1) := by decide +kernel
theorem d_M_find_85 : decode b_M_find 85 = .ok (.aload_n 0, 1) := by decide +kernel
theorem d_M_find_86 : decode b_M_find 86 = .ok (.aload_n 0, 1) := by decide +kernel
theorem d_M_find_87 : decode b_M_find 87 = .ok (.getfield 31, 3) := by decide +kernel
theorem d_M_find_90 : decode b_M_find 90 = .ok (.aload_n 0, 1) := by decide +kernel
theorem d_M_find_91 : decode b_M_find 91 = .ok (.getfield 49, 3) := by decide +kernel
theorem d_M_find_94 : decode b_M_find 94 = .ok (.aload_n 0, 1) := by decide +kernel
theorem d_M_find_95 : decode b_M_find 95 = .ok (.iload_n 1, 1) := by decide +kernel
theorem d_M_find_96 : decode b_M_find 96 = .ok (.invokevirtual 176, 3) := by decide +kernel
theorem d_M_find_99 : decode b_M_find 99 = .ok (.iaload, 1) := by decide +kernel
theorem d_M_find_100 : decode b_M_find 100 = .ok (.iaload, 1) := by decide +kernel
theorem d_M_find_101 : decode b_M_find 101 = .ok (.iload_n 2, 1) := by decide +kernel
theorem d_M_find_102 : decode b_M_find 102 = .ok (.invokevirtual 161, 3) := by decide +kernel
theorem d_M_find_105 : decode b_M_find 105 = .ok (.iastore, 1) := by decide +kernel
theorem d_M_find_106 : decode b_M_find 106 = .ok (.aload_n 0, 1) := by decide +kernel
theorem d_M_find_107 : decode b_M_find 107 = .ok (.getfield 73, 3) := by decide +kernel
theorem d_M_find_110 : decode b_M_find 110 = .ok (.iload_n 3, 1) := by decide +kernel
theorem d_M_find_111 : decode b_M_find 111 = .ok (.iaload, 1) := by decide +kernel
theorem d_M_find_112 : decode b_M_find 112 = .ok (.ireturn, 1) := by decide +kernel
theorem d_M_decode_0 : decode b_M_decode 0 = .ok (.aload_n 0, 1) := by decide +kernel
theorem d_M_decode_1 : decode b_M_decode 1 = .ok (.iload_n 1, 1) := by decide +kernel
theorem d_M_decode_2 : decode b_M_decode 2 = .ok (.iload_n 2, 1) := by decide +kernel
theorem d_M_decode_3 : decode b_M_decode 3 = .ok (.invokevirtual 158, 3) := by decide +kernel
theorem d_M_decode_6 : decode b_M_decode 6 = .ok (.ifCond .eq 12, 3) := by decide +kernel
theorem d_M_decode_9 : decode b_M_decode 9 = .ok (.aload_n 0, 1) := by decide +kernel
theorem d_M_decode_10 : decode b_M_decode 10 = .ok (.iload_n 1, 1) := by decide +kernel
theorem d_M_decode_11 : decode b_M_decode 11 = .ok (.iload_n 2, 1) := by decide +kernel
theorem d_M_decode_12 : decode b_M_decode 12 = .ok (.invokevirtual 179, 3) := by decide +kernel
theorem d_M_decode_15 : decode b_M_decode 15 = .ok (.goto 4, 3) := by decide +kernel
theorem d_M_decode_18 : decode b_M_decode 18 = .ok (.iconst 0, 1) := by decide +kernel
theorem d_M_decode_19 : decode b_M_decode 19 = .ok (.ireturn, 1) := by decide +kernel
theorem d_M_tests_0 : decode b_M_tests 0 = .ok (.aload_n 0, 1) := by decide +kernel
theorem d_M_tests_1 : decode b_M_tests 1 = .ok (.iload_n 1, 1) := by decide +kernel
theorem d_M_tests_2 : decode b_M_tests 2 = .ok (.iconst 0, 1) := by decide +kernel
theorem d_M_tests_3 : decode b_M_tests 3 = .ok (.invokevirtual 158, 3) := by decide +kernel
theorem d_M_tests_6 : decode b_M_tests 6 = .ok (.ifCond .eq 11, 3) := by decide +kernel
theorem d_M_tests_9 : decode b_M_tests 9 = .ok (.aload_n 0, 1) := by decide +kernel
theorem d_M_tests_10 : decode b_M_tests 10 = .ok (.iload_n 1, 1) := by decide +kernel
theorem d_M_tests_11 : decode b_M_tests 11 = .ok (.invokevirtual 173, 3) := by decide +kernel
theorem d_M_tests_14 : decode b_M_tests 14 = .ok (.goto 4, 3) := by decide +kernel
theorem d_M_tests_17 : decode b_M_tests 17 = .ok (.iconst 0, 1) := by decide +kernel
theorem d_M_tests_18 : decode b_M_tests 18 = .ok (.ireturn, 1) := by decide +kernel
theorem d_M_node_0 : decode b_M_node 0 = .ok (.aload_n 0, 1) := by decide +kernel
theorem d_M_node_1 : decode b_M_node 1 = .ok (.iconst 0, 1) := by decide +kernel
theorem d_M_node_2 : decode b_M_node 2 = .ok (.putfield 83, 3) := by decide +kernel
theorem d_M_node_5 : decode b_M_node 5 = .ok (.iload_n 1, 1) := by decide +kernel
theorem d_M_node_6 : decode b_M_node 6 = .ok (.iconst 0, 1) := by decide +kernel
theorem d_M_node_7 : decode b_M_node 7 = .ok (.aload_n 0, 1) := by decide +kernel
theorem d_M_node_8 : decode b_M_node 8 = .ok (.getfield 136, 3) := by decide +kernel
theorem d_M_node_11 : decode b_M_node 11 = .ok (.iconst 1, 1) := by decide +kernel
theorem d_M_node_12 : decode b_M_node 12 = .ok (.isub, 1) := by decide +kernel
theorem d_M_node_13 : decode b_M_node 13 = .ok (.invokestatic 86, 3) := by decide +kernel
theorem d_M_node_16 : decode b_M_node 16 = .ok (.ifCond .eq 12, 3) := by decide +kernel
theorem d_M_node_19 : decode b_M_node 19 = .ok (.iload_n 2, 1) := by decide +kernel
theorem d_M_node_20 : decode b_M_node 20 = .ok (.iconst 0, 1) := by decide +kernel
theorem d_M_node_21 : decode b_M_node 21 = .ok (.iconst 4, 1) := by decide +kernel
theorem d_M_node_22 : decode b_M_node 22 = .ok (.invokestatic 86, 3) := by decide +kernel
theorem d_M_node_25 : decode b_M_node 25 = .ok (.ifCond .ne 9, 3) := by decide +kernel
theorem d_M_node_28 : decode b_M_node 28 = .ok (.aload_n 0, 1) := by decide +kernel
theorem d_M_node_29 : decode b_M_node 29 = .ok (.iconst 1, 1) := by decide +kernel
theorem d_M_node_30 : decode b_M_node 30 = .ok (.invokevirtual 152, 3) := by decide +kernel
theorem d_M_node_33 : decode b_M_node 33 = .ok (.ireturn, 1) := by decide +kernel
theorem d_M_node_34 : decode b_M_node 34 = .ok (.iload_n 2, 1) := by decide +kernel
theorem d_M_node_35 : decode b_M_node 35 = .ok (.tableswitch 88 0 3 #[29, 62, 69, 76], 29) := by decide +kernel
theorem d_M_node_64 : decode b_M_node 64 = .ok (.aload_n 0, 1) := by decide +kernel
theorem d_M_node_65 : decode b_M_node 65 = .ok (.iload_n 1, 1) := by decide +kernel
theorem d_M_node_66 : decode b_M_node 66 = .ok (.invokevirtual 143, 3) := by decide +kernel
theorem d_M_node_69 : decode b_M_node 69 = .ok (.ifCond .eq 7, 3) := by decide +kernel
theorem d_M_node_72 : decode b_M_node 72 = .ok (.iconst (-1), 1) := by decide +kernel
theorem d_M_node_73 : decode b_M_node 73 = .ok (.goto 23, 3) := by decide +kernel
theorem d_M_node_76 : decode b_M_node 76 = .ok (.aload_n 0, 1) := by decide +kernel
theorem d_M_node_77 : decode b_M_node 77 = .ok (.getfield 37, 3) := by decide +kernel
theorem d_M_node_80 : decode b_M_node 80 = .ok (.sipush 6561, 3) := by decide +kernel
theorem d_M_node_83 : decode b_M_node 83 = .ok (.aload_n 0, 1) := by decide +kernel
theorem d_M_node_84 : decode b_M_node 84 = .ok (.getfield 146, 3) := by decide +kernel
theorem d_M_node_87 : decode b_M_node 87 = .ok (.imul, 1) := by decide +kernel
theorem d_M_node_88 : decode b_M_node 88 = .ok (.aload_n 0, 1) := by decide +kernel
theorem d_M_node_89 : decode b_M_node 89 = .ok (.getfield 49, 3) := by decide +kernel
theorem d_M_node_92 : decode b_M_node 92 = .ok (.iload_n 1, 1) := by decide +kernel
theorem d_M_node_93 : decode b_M_node 93 = .ok (.iaload, 1) := by decide +kernel
theorem d_M_node_94 : decode b_M_node 94 = .ok (.iadd, 1) := by decide +kernel
theorem d_M_node_95 : decode b_M_node 95 = .ok (.iaload, 1) := by decide +kernel
theorem d_M_node_96 : decode b_M_node 96 = .ok (.ireturn, 1) := by decide +kernel
theorem d_M_node_97 : decode b_M_node 97 = .ok (.aload_n 0, 1) := by decide +kernel
theorem d_M_node_98 : decode b_M_node 98 = .ok (.getfield 52, 3) := by decide +kernel
theorem d_M_node_101 : decode b_M_node 101 = .ok (.iload_n 1, 1) := by decide +kernel
theorem d_M_node_102 : decode b_M_node 102 = .ok (.iaload, 1) := by decide +kernel
theorem d_M_node_103 : decode b_M_node 103 = .ok (.ireturn, 1) := by decide +kernel
theorem d_M_node_104 : decode b_M_node 104 = .ok (.aload_n 0, 1) := by decide +kernel
theorem d_M_node_105 : decode b_M_node 105 = .ok (.getfield 55, 3) := by decide +kernel
theorem d_M_node_108 : decode b_M_node 108 = .ok (.iload_n 1, 1) := by decide +kernel
theorem d_M_node_109 : decode b_M_node 109 = .ok (.iaload, 1) := by decide +kernel
theorem d_M_node_110 : decode b_M_node 110 = .ok (.ireturn, 1) := by decide +kernel
theorem d_M_node_111 : decode b_M_node 111 = .ok (.aload_n 0, 1) := by decide +kernel
theorem d_M_node_112 : decode b_M_node 112 = .ok (.getfield 34, 3) := by decide +kernel
theorem d_M_node_115 : decode b_M_node 115 = .ok (.aload_n 0, 1) := by decide +kernel
theorem d_M_node_116 : decode b_M_node 116 = .ok (.getfield 49, 3) := by decide +kernel
theorem d_M_node_119 : decode b_M_node 119 = .ok (.iload_n 1, 1) := by decide +kernel
theorem d_M_node_120 : decode b_M_node 120 = .ok (.iaload, 1) := by decide +kernel
theorem d_M_node_121 : decode b_M_node 121 = .ok (.iaload, 1) := by decide +kernel
theorem d_M_node_122 : decode b_M_node 122 = .ok (.ireturn, 1) := by decide +kernel
theorem d_M_node_123 : decode b_M_node 123 = .ok (.aload_n 0, 1) := by decide +kernel
theorem d_M_node_124 : decode b_M_node 124 = .ok (.iload_n 1, 1) := by decide +kernel
theorem d_M_node_125 : decode b_M_node 125 = .ok (.invokevirtual 143, 3) := by decide +kernel
theorem d_M_node_128 : decode b_M_node 128 = .ok (.ifCond .eq 22, 3) := by decide +kernel
theorem d_M_node_131 : decode b_M_node 131 = .ok (.aload_n 0, 1) := by decide +kernel
theorem d_M_node_132 : decode b_M_node 132 = .ok (.getfield 25, 3) := by decide +kernel
theorem d_M_node_135 : decode b_M_node 135 = .ok (.aload_n 0, 1) := by decide +kernel
theorem d_M_node_136 : decode b_M_node 136 = .ok (.getfield 31, 3) := by decide +kernel
theorem d_M_node_139 : decode b_M_node 139 = .ok (.aload_n 0, 1) := by decide +kernel
theorem d_M_node_140 : decode b_M_node 140 = .ok (.getfield 49, 3) := by decide +kernel
theorem d_M_node_143 : decode b_M_node 143 = .ok (.iload_n 1, 1) := by decide +kernel
theorem d_M_node_144 : decode b_M_node 144 = .ok (.iaload, 1) := by decide +kernel
theorem d_M_node_145 : decode b_M_node 145 = .ok (.iaload, 1) := by decide +kernel
theorem d_M_node_146 : decode b_M_node 146 = .ok (.iaload, 1) := by decide +kernel
theorem d_M_node_147 : decode b_M_node 147 = .ok (.goto 4, 3) := by decide +kernel
theorem d_M_node_150 : decode b_M_node 150 = .ok (.iconst 0, 1) := by decide +kernel
theorem d_M_node_151 : decode b_M_node 151 = .ok (.ireturn, 1) := by decide +kernel
theorem d_M_listed_0 : decode b_M_listed 0 = .ok (.aload_n 0, 1) := by decide +kernel
theorem d_M_listed_1 : decode b_M_listed 1 = .ok (.iconst 0, 1) := by decide +kernel
theorem d_M_listed_2 : decode b_M_listed 2 = .ok (.putfield 83, 3) := by decide +kernel
theorem d_M_listed_5 : decode b_M_listed 5 = .ok (.iload_n 1, 1) := by decide +kernel
theorem d_M_listed_6 : decode b_M_listed 6 = .ok (.iconst 0, 1) := by decide +kernel
theorem d_M_listed_7 : decode b_M_listed 7 = .ok (.aload_n 0, 1) := by decide +kernel
theorem d_M_listed_8 : decode b_M_listed 8 = .ok (.getfield 136, 3) := by decide +kernel
theorem d_M_listed_11 : decode b_M_listed 11 = .ok (.iconst 1, 1) := by decide +kernel
theorem d_M_listed_12 : decode b_M_listed 12 = .ok (.isub, 1) := by decide +kernel
theorem d_M_listed_13 : decode b_M_listed 13 = .ok (.invokestatic 86, 3) := by decide +kernel
theorem d_M_listed_16 : decode b_M_listed 16 = .ok (.ifCond .ne 9, 3) := by decide +kernel
theorem d_M_listed_19 : decode b_M_listed 19 = .ok (.aload_n 0, 1) := by decide +kernel
theorem d_M_listed_20 : decode b_M_listed 20 = .ok (.iconst 1, 1) := by decide +kernel
theorem d_M_listed_21 : decode b_M_listed 21 = .ok (.invokevirtual 152, 3) := by decide +kernel
theorem d_M_listed_24 : decode b_M_listed 24 = .ok (.ireturn, 1) := by decide +kernel
theorem d_M_listed_25 : decode b_M_listed 25 = .ok (.aload_n 0, 1) := by decide +kernel
theorem d_M_listed_26 : decode b_M_listed 26 = .ok (.iload_n 1, 1) := by decide +kernel
theorem d_M_listed_27 : decode b_M_listed 27 = .ok (.invokevirtual 143, 3) := by decide +kernel
theorem d_M_listed_30 : decode b_M_listed 30 = .ok (.ifCond .eq 29, 3) := by decide +kernel
theorem d_M_listed_33 : decode b_M_listed 33 = .ok (.iload_n 2, 1) := by decide +kernel
theorem d_M_listed_34 : decode b_M_listed 34 = .ok (.iconst 0, 1) := by decide +kernel
theorem d_M_listed_35 : decode b_M_listed 35 = .ok (.aload_n 0, 1) := by decide +kernel
theorem d_M_listed_36 : decode b_M_listed 36 = .ok (.getfield 25, 3) := by decide +kernel
theorem d_M_listed_39 : decode b_M_listed 39 = .ok (.aload_n 0, 1) := by decide +kernel
theorem d_M_listed_40 : decode b_M_listed 40 = .ok (.getfield 31, 3) := by decide +kernel
theorem d_M_listed_43 : decode b_M_listed 43 = .ok (.aload_n 0, 1) := by decide +kernel
theorem d_M_listed_44 : decode b_M_listed 44 = .ok (.getfield 49, 3) := by decide +kernel
theorem d_M_listed_47 : decode b_M_listed 47 = .ok (.iload_n 1, 1) := by decide +kernel
theorem d_M_listed_48 : decode b_M_listed 48 = .ok (.iaload, 1) := by decide +kernel
theorem d_M_listed_49 : decode b_M_listed 49 = .ok (.iaload, 1) := by decide +kernel
theorem d_M_listed_50 : decode b_M_listed 50 = .ok (.iaload, 1) := by decide +kernel
theorem d_M_listed_51 : decode b_M_listed 51 = .ok (.iconst 1, 1) := by decide +kernel
theorem d_M_listed_52 : decode b_M_listed 52 = .ok (.isub, 1) := by decide +kernel
theorem d_M_listed_53 : decode b_M_listed 53 = .ok (.invokestatic 86, 3) := by decide +kernel
theorem d_M_listed_56 : decode b_M_listed 56 = .ok (.ifCond .ne 9, 3) := by decide +kernel
theorem d_M_listed_59 : decode b_M_listed 59 = .ok (.aload_n 0, 1) := by decide +kernel
theorem d_M_listed_60 : decode b_M_listed 60 = .ok (.iconst 1, 1) := by decide +kernel
theorem d_M_listed_61 : decode b_M_listed 61 = .ok (.invokevirtual 152, 3) := by decide +kernel
theorem d_M_listed_64 : decode b_M_listed 64 = .ok (.ireturn, 1) := by decide +kernel
theorem d_M_listed_65 : decode b_M_listed 65 = .ok (.aload_n 0, 1) := by decide +kernel
theorem d_M_listed_66 : decode b_M_listed 66 = .ok (.getfield 28, 3) := by decide +kernel
theorem d_M_listed_69 : decode b_M_listed 69 = .ok (.bipush 14, 2) := by decide +kernel
theorem d_M_listed_71 : decode b_M_listed 71 = .ok (.aload_n 0, 1) := by decide +kernel
theorem d_M_listed_72 : decode b_M_listed 72 = .ok (.getfield 31, 3) := by decide +kernel
theorem d_M_listed_75 : decode b_M_listed 75 = .ok (.aload_n 0, 1) := by decide +kernel
theorem d_M_listed_76 : decode b_M_listed 76 = .ok (.getfield 49, 3) := by decide +kernel
theorem d_M_listed_79 : decode b_M_listed 79 = .ok (.iload_n 1, 1) := by decide +kernel
theorem d_M_listed_80 : decode b_M_listed 80 = .ok (.iaload, 1) := by decide +kernel
theorem d_M_listed_81 : decode b_M_listed 81 = .ok (.iaload, 1) := by decide +kernel
theorem d_M_listed_82 : decode b_M_listed 82 = .ok (.imul, 1) := by decide +kernel
theorem d_M_listed_83 : decode b_M_listed 83 = .ok (.iload_n 2, 1) := by decide +kernel
theorem d_M_listed_84 : decode b_M_listed 84 = .ok (.iadd, 1) := by decide +kernel
theorem d_M_listed_85 : decode b_M_listed 85 = .ok (.iaload, 1) := by decide +kernel
theorem d_M_listed_86 : decode b_M_listed 86 = .ok (.ireturn, 1) := by decide +kernel
theorem d_M_cost_0 : decode b_M_cost 0 = .ok (.aload_n 0, 1) := by decide +kernel
theorem d_M_cost_1 : decode b_M_cost 1 = .ok (.iconst 0, 1) := by decide +kernel
theorem d_M_cost_2 : decode b_M_cost 2 = .ok (.putfield 83, 3) := by decide +kernel
theorem d_M_cost_5 : decode b_M_cost 5 = .ok (.iload_n 1, 1) := by decide +kernel
theorem d_M_cost_6 : decode b_M_cost 6 = .ok (.iconst 0, 1) := by decide +kernel
theorem d_M_cost_7 : decode b_M_cost 7 = .ok (.iconst 2, 1) := by decide +kernel
theorem d_M_cost_8 : decode b_M_cost 8 = .ok (.invokestatic 86, 3) := by decide +kernel
theorem d_M_cost_11 : decode b_M_cost 11 = .ok (.ifCond .eq 12, 3) := by decide +kernel
theorem d_M_cost_14 : decode b_M_cost 14 = .ok (.iload_n 2, 1) := by decide +kernel
theorem d_M_cost_15 : decode b_M_cost 15 = .ok (.iconst 0, 1) := by decide +kernel
theorem d_M_cost_16 : decode b_M_cost 16 = .ok (.iconst 1, 1) := by decide +kernel
theorem d_M_cost_17 : decode b_M_cost 17 = .ok (.invokestatic 86, 3) := by decide +kernel
theorem d_M_cost_20 : decode b_M_cost 20 = .ok (.ifCond .ne 9, 3) := by decide +kernel
theorem d_M_cost_23 : decode b_M_cost 23 = .ok (.aload_n 0, 1) := by decide +kernel
theorem d_M_cost_24 : decode b_M_cost 24 = .ok (.iconst 1, 1) := by decide +kernel
theorem d_M_cost_25 : decode b_M_cost 25 = .ok (.invokevirtual 152, 3) := by decide +kernel
theorem d_M_cost_28 : decode b_M_cost 28 = .ok (.ireturn, 1) := by decide +kernel
theorem d_M_cost_29 : decode b_M_cost 29 = .ok (.iload_n 2, 1) := by decide +kernel
theorem d_M_cost_30 : decode b_M_cost 30 = .ok (.ifCond .ne 21, 3) := by decide +kernel
theorem d_M_cost_33 : decode b_M_cost 33 = .ok (.aload_n 0, 1) := by decide +kernel
theorem d_M_cost_34 : decode b_M_cost 34 = .ok (.getfield 40, 3) := by decide +kernel
theorem d_M_cost_37 : decode b_M_cost 37 = .ok (.sipush 6561, 3) := by decide +kernel
theorem d_M_cost_40 : decode b_M_cost 40 = .ok (.iload_n 1, 1) := by decide +kernel
theorem d_M_cost_41 : decode b_M_cost 41 = .ok (.imul, 1) := by decide +kernel
theorem d_M_cost_42 : decode b_M_cost 42 = .ok (.aload_n 0, 1) := by decide +kernel
theorem d_M_cost_43 : decode b_M_cost 43 = .ok (.invokevirtual 139, 3) := by decide +kernel
theorem d_M_cost_46 : decode b_M_cost 46 = .ok (.iadd, 1) := by decide +kernel
theorem d_M_cost_47 : decode b_M_cost 47 = .ok (.iaload, 1) := by decide +kernel
theorem d_M_cost_48 : decode b_M_cost 48 = .ok (.goto 18, 3) := by decide +kernel
theorem d_M_cost_51 : decode b_M_cost 51 = .ok (.aload_n 0, 1) := by decide +kernel
theorem d_M_cost_52 : decode b_M_cost 52 = .ok (.getfield 43, 3) := by decide +kernel
theorem d_M_cost_55 : decode b_M_cost 55 = .ok (.sipush 6561, 3) := by decide +kernel
theorem d_M_cost_58 : decode b_M_cost 58 = .ok (.iload_n 1, 1) := by decide +kernel
theorem d_M_cost_59 : decode b_M_cost 59 = .ok (.imul, 1) := by decide +kernel
theorem d_M_cost_60 : decode b_M_cost 60 = .ok (.aload_n 0, 1) := by decide +kernel
theorem d_M_cost_61 : decode b_M_cost 61 = .ok (.invokevirtual 139, 3) := by decide +kernel
theorem d_M_cost_64 : decode b_M_cost 64 = .ok (.iadd, 1) := by decide +kernel
theorem d_M_cost_65 : decode b_M_cost 65 = .ok (.iaload, 1) := by decide +kernel
theorem d_M_cost_66 : decode b_M_cost 66 = .ok (.ireturn, 1) := by decide +kernel
theorem d_M_feed_0 : decode b_M_feed 0 = .ok (.aload_n 0, 1) := by decide +kernel
theorem d_M_feed_1 : decode b_M_feed 1 = .ok (.iconst 0, 1) := by decide +kernel
theorem d_M_feed_2 : decode b_M_feed 2 = .ok (.putfield 83, 3) := by decide +kernel
theorem d_M_feed_5 : decode b_M_feed 5 = .ok (.aload_n 0, 1) := by decide +kernel
theorem d_M_feed_6 : decode b_M_feed 6 = .ok (.iload_n 1, 1) := by decide +kernel
theorem d_M_feed_7 : decode b_M_feed 7 = .ok (.invokevirtual 149, 3) := by decide +kernel
theorem d_M_feed_10 : decode b_M_feed 10 = .ok (.ifCond .ne 9, 3) := by decide +kernel
theorem d_M_feed_13 : decode b_M_feed 13 = .ok (.aload_n 0, 1) := by decide +kernel
theorem d_M_feed_14 : decode b_M_feed 14 = .ok (.iconst 1, 1) := by decide +kernel
theorem d_M_feed_15 : decode b_M_feed 15 = .ok (.invokevirtual 152, 3) := by decide +kernel
theorem d_M_feed_18 : decode b_M_feed 18 = .ok (.ireturn, 1) := by decide +kernel
theorem d_M_feed_19 : decode b_M_feed 19 = .ok (.aload_n 0, 1) := by decide +kernel
theorem d_M_feed_20 : decode b_M_feed 20 = .ok (.getfield 182, 3) := by decide +kernel
theorem d_M_feed_23 : decode b_M_feed 23 = .ok (.bipush 64, 2) := by decide +kernel
theorem d_M_feed_25 : decode b_M_feed 25 = .ok (.if_icmp .ne 9, 3) := by decide +kernel
theorem d_M_feed_28 : decode b_M_feed 28 = .ok (.aload_n 0, 1) := by decide +kernel
theorem d_M_feed_29 : decode b_M_feed 29 = .ok (.iconst 2, 1) := by decide +kernel
theorem d_M_feed_30 : decode b_M_feed 30 = .ok (.invokevirtual 152, 3) := by decide +kernel
theorem d_M_feed_33 : decode b_M_feed 33 = .ok (.ireturn, 1) := by decide +kernel
theorem d_M_feed_34 : decode b_M_feed 34 = .ok (.aload_n 0, 1) := by decide +kernel
theorem d_M_feed_35 : decode b_M_feed 35 = .ok (.getfield 64, 3) := by decide +kernel
theorem d_M_feed_38 : decode b_M_feed 38 = .ok (.aload_n 0, 1) := by decide +kernel
theorem d_M_feed_39 : decode b_M_feed 39 = .ok (.getfield 182, 3) := by decide +kernel
theorem d_M_feed_42 : decode b_M_feed 42 = .ok (.iload_n 1, 1) := by decide +kernel
theorem d_M_feed_43 : decode b_M_feed 43 = .ok (.iastore, 1) := by decide +kernel
theorem d_M_feed_44 : decode b_M_feed 44 = .ok (.aload_n 0, 1) := by decide +kernel
theorem d_M_feed_45 : decode b_M_feed 45 = .ok (.dup, 1) := by decide +kernel
theorem d_M_feed_46 : decode b_M_feed 46 = .ok (.getfield 182, 3) := by decide +kernel
theorem d_M_feed_49 : decode b_M_feed 49 = .ok (.iconst 1, 1) := by decide +kernel
theorem d_M_feed_50 : decode b_M_feed 50 = .ok (.iadd, 1) := by decide +kernel
theorem d_M_feed_51 : decode b_M_feed 51 = .ok (.putfield 182, 3) := by decide +kernel
theorem d_M_feed_54 : decode b_M_feed 54 = .ok (.aload_n 0, 1) := by decide +kernel
theorem d_M_feed_55 : decode b_M_feed 55 = .ok (.getfield 182, 3) := by decide +kernel
theorem d_M_feed_58 : decode b_M_feed 58 = .ok (.ireturn, 1) := by decide +kernel
theorem d_M_take_0 : decode b_M_take 0 = .ok (.aload_n 0, 1) := by decide +kernel
theorem d_M_take_1 : decode b_M_take 1 = .ok (.iconst 0, 1) := by decide +kernel
theorem d_M_take_2 : decode b_M_take 2 = .ok (.putfield 83, 3) := by decide +kernel
theorem d_M_take_5 : decode b_M_take 5 = .ok (.iload_n 1, 1) := by decide +kernel
theorem d_M_take_6 : decode b_M_take 6 = .ok (.iconst 0, 1) := by decide +kernel
theorem d_M_take_7 : decode b_M_take 7 = .ok (.sipush 255, 3) := by decide +kernel
theorem d_M_take_10 : decode b_M_take 10 = .ok (.invokestatic 86, 3) := by decide +kernel
theorem d_M_take_13 : decode b_M_take 13 = .ok (.ifCond .ne 9, 3) := by decide +kernel
theorem d_M_take_16 : decode b_M_take 16 = .ok (.aload_n 0, 1) := by decide +kernel
theorem d_M_take_17 : decode b_M_take 17 = .ok (.iconst 1, 1) := by decide +kernel
theorem d_M_take_18 : decode b_M_take 18 = .ok (.invokevirtual 152, 3) := by decide +kernel
theorem d_M_take_21 : decode b_M_take 21 = .ok (.ireturn, 1) := by decide +kernel
theorem d_M_take_22 : decode b_M_take 22 = .ok (.aload_n 0, 1) := by decide +kernel
theorem d_M_take_23 : decode b_M_take 23 = .ok (.getfield 182, 3) := by decide +kernel
theorem d_M_take_26 : decode b_M_take 26 = .ok (.ifCond .ne 9, 3) := by decide +kernel
theorem d_M_take_29 : decode b_M_take 29 = .ok (.aload_n 0, 1) := by decide +kernel
theorem d_M_take_30 : decode b_M_take 30 = .ok (.iconst 2, 1) := by decide +kernel
theorem d_M_take_31 : decode b_M_take 31 = .ok (.invokevirtual 152, 3) := by decide +kernel
theorem d_M_take_34 : decode b_M_take 34 = .ok (.ireturn, 1) := by decide +kernel
theorem d_M_take_35 : decode b_M_take 35 = .ok (.aload_n 0, 1) := by decide +kernel
theorem d_M_take_36 : decode b_M_take 36 = .ok (.aload_n 0, 1) := by decide +kernel
theorem d_M_take_37 : decode b_M_take 37 = .ok (.getfield 64, 3) := by decide +kernel
theorem d_M_take_40 : decode b_M_take 40 = .ok (.iconst 0, 1) := by decide +kernel
theorem d_M_take_41 : decode b_M_take 41 = .ok (.iaload, 1) := by decide +kernel
theorem d_M_take_42 : decode b_M_take 42 = .ok (.iload_n 1, 1) := by decide +kernel
theorem d_M_take_43 : decode b_M_take 43 = .ok (.invokevirtual 179, 3) := by decide +kernel
theorem d_M_take_46 : decode b_M_take 46 = .ok (.istore_n 2, 1) := by decide +kernel
theorem d_M_take_47 : decode b_M_take 47 = .ok (.iload_n 2, 1) := by decide +kernel
theorem d_M_take_48 : decode b_M_take 48 = .ok (.ifCond .ge 7, 3) := by decide +kernel
theorem d_M_take_51 : decode b_M_take 51 = .ok (.iconst 1, 1) := by decide +kernel
theorem d_M_take_52 : decode b_M_take 52 = .ok (.goto 9, 3) := by decide +kernel
theorem d_M_take_55 : decode b_M_take 55 = .ok (.aload_n 0, 1) := by decide +kernel
theorem d_M_take_56 : decode b_M_take 56 = .ok (.getfield 16, 3) := by decide +kernel
theorem d_M_take_59 : decode b_M_take 59 = .ok (.iload_n 2, 1) := by decide +kernel
theorem d_M_take_60 : decode b_M_take 60 = .ok (.iaload, 1) := by decide +kernel
theorem d_M_take_61 : decode b_M_take 61 = .ok (.istore_n 3, 1) := by decide +kernel
theorem d_M_take_62 : decode b_M_take 62 = .ok (.iload_n 3, 1) := by decide +kernel
theorem d_M_take_63 : decode b_M_take 63 = .ok (.aload_n 0, 1) := by decide +kernel
theorem d_M_take_64 : decode b_M_take 64 = .ok (.getfield 182, 3) := by decide +kernel
theorem d_M_take_67 : decode b_M_take 67 = .ok (.if_icmp .le 6, 3) := by decide +kernel
theorem d_M_take_70 : decode b_M_take 70 = .ok (.bipush (-2), 2) := by decide +kernel
theorem d_M_take_72 : decode b_M_take 72 = .ok (.ireturn, 1) := by decide +kernel
theorem d_M_take_73 : decode b_M_take 73 = .ok (.aload_n 0, 1) := by decide +kernel
theorem d_M_take_74 : decode b_M_take 74 = .ok (.dup, 1) := by decide +kernel
theorem d_M_take_75 : decode b_M_take 75 = .ok (.getfield 182, 3) := by decide +kernel
theorem d_M_take_78 : decode b_M_take 78 = .ok (.iload_n 3, 1) := by decide +kernel
theorem d_M_take_79 : decode b_M_take 79 = .ok (.isub, 1) := by decide +kernel
theorem d_M_take_80 : decode b_M_take 80 = .ok (.putfield 182, 3) := by decide +kernel
theorem d_M_take_83 : decode b_M_take 83 = .ok (.iconst 0, 1) := by decide +kernel
theorem d_M_take_84 : decode b_M_take 84 = .ok (.istore 4, 2) := by decide +kernel
theorem d_M_take_86 : decode b_M_take 86 = .ok (.iload 4, 2) := by decide +kernel
theorem d_M_take_88 : decode b_M_take 88 = .ok (.aload_n 0, 1) := by decide +kernel
theorem d_M_take_89 : decode b_M_take 89 = .ok (.getfield 182, 3) := by decide +kernel
theorem d_M_take_92 : decode b_M_take 92 = .ok (.if_icmp .ge 25, 3) := by decide +kernel
theorem d_M_take_95 : decode b_M_take 95 = .ok (.aload_n 0, 1) := by decide +kernel
theorem d_M_take_96 : decode b_M_take 96 = .ok (.getfield 64, 3) := by decide +kernel
theorem d_M_take_99 : decode b_M_take 99 = .ok (.iload 4, 2) := by decide +kernel
theorem d_M_take_101 : decode b_M_take 101 = .ok (.aload_n 0, 1) := by decide +kernel
theorem d_M_take_102 : decode b_M_take 102 = .ok (.getfield 64, 3) := by decide +kernel
theorem d_M_take_105 : decode b_M_take 105 = .ok (.iload 4, 2) := by decide +kernel
theorem d_M_take_107 : decode b_M_take 107 = .ok (.iload_n 3, 1) := by decide +kernel
theorem d_M_take_108 : decode b_M_take 108 = .ok (.iadd, 1) := by decide +kernel
theorem d_M_take_109 : decode b_M_take 109 = .ok (.iaload, 1) := by decide +kernel
theorem d_M_take_110 : decode b_M_take 110 = .ok (.iastore, 1) := by decide +kernel
theorem d_M_take_111 : decode b_M_take 111 = .ok (.iinc 4 1, 3) := by decide +kernel
theorem d_M_take_114 : decode b_M_take 114 = .ok (.goto (-28), 3) := by decide +kernel
theorem d_M_take_117 : decode b_M_take 117 = .ok (.aload_n 0, 1) := by decide +kernel
theorem d_M_take_118 : decode b_M_take 118 = .ok (.dup, 1) := by decide +kernel
theorem d_M_take_119 : decode b_M_take 119 = .ok (.getfield 185, 3) := by decide +kernel
theorem d_M_take_122 : decode b_M_take 122 = .ok (.iconst 1, 1) := by decide +kernel
theorem d_M_take_123 : decode b_M_take 123 = .ok (.iadd, 1) := by decide +kernel
theorem d_M_take_124 : decode b_M_take 124 = .ok (.putfield 185, 3) := by decide +kernel
theorem d_M_take_127 : decode b_M_take 127 = .ok (.iload_n 2, 1) := by decide +kernel
theorem d_M_take_128 : decode b_M_take 128 = .ok (.ireturn, 1) := by decide +kernel
theorem d_M_whole_0 : decode b_M_whole 0 = .ok (.aload_n 0, 1) := by decide +kernel
theorem d_M_whole_1 : decode b_M_whole 1 = .ok (.iconst 0, 1) := by decide +kernel
theorem d_M_whole_2 : decode b_M_whole 2 = .ok (.putfield 83, 3) := by decide +kernel
theorem d_M_whole_5 : decode b_M_whole 5 = .ok (.iconst 1, 1) := by decide +kernel
theorem d_M_whole_6 : decode b_M_whole 6 = .ok (.istore_n 1, 1) := by decide +kernel
theorem d_M_whole_7 : decode b_M_whole 7 = .ok (.iconst 0, 1) := by decide +kernel
theorem d_M_whole_8 : decode b_M_whole 8 = .ok (.istore_n 2, 1) := by decide +kernel
theorem d_M_whole_9 : decode b_M_whole 9 = .ok (.iload_n 2, 1) := by decide +kernel
theorem d_M_whole_10 : decode b_M_whole 10 = .ok (.iconst 1, 1) := by decide +kernel
theorem d_M_whole_11 : decode b_M_whole 11 = .ok (.aload_n 0, 1) := by decide +kernel
theorem d_M_whole_12 : decode b_M_whole 12 = .ok (.getfield 76, 3) := by decide +kernel
theorem d_M_whole_15 : decode b_M_whole 15 = .ok (.ishl, 1) := by decide +kernel
theorem d_M_whole_16 : decode b_M_whole 16 = .ok (.if_icmp .ge 28, 3) := by decide +kernel
theorem d_M_whole_19 : decode b_M_whole 19 = .ok (.iload_n 1, 1) := by decide +kernel
theorem d_M_whole_20 : decode b_M_whole 20 = .ok (.ifCond .eq 16, 3) := by decide +kernel
theorem d_M_whole_23 : decode b_M_whole 23 = .ok (.aload_n 0, 1) := by decide +kernel
theorem d_M_whole_24 : decode b_M_whole 24 = .ok (.getfield 25, 3) := by decide +kernel
theorem d_M_whole_27 : decode b_M_whole 27 = .ok (.iload_n 2, 1) := by decide +kernel
theorem d_M_whole_28 : decode b_M_whole 28 = .ok (.iaload, 1) := by decide +kernel
theorem d_M_whole_29 : decode b_M_whole 29 = .ok (.ifCond .le 7, 3) := by decide +kernel
theorem d_M_whole_32 : decode b_M_whole 32 = .ok (.iconst 1, 1) := by decide +kernel
theorem d_M_whole_33 : decode b_M_whole 33 = .ok (.goto 4, 3) := by decide +kernel
theorem d_M_whole_36 : decode b_M_whole 36 = .ok (.iconst 0, 1) := by decide +kernel
theorem d_M_whole_37 : decode b_M_whole 37 = .ok (.istore_n 1, 1) := by decide +kernel
theorem d_M_whole_38 : decode b_M_whole 38 = .ok (.iinc 2 1, 3) := by decide +kernel
theorem d_M_whole_41 : decode b_M_whole 41 = .ok (.goto (-32), 3) := by decide +kernel
theorem d_M_whole_44 : decode b_M_whole 44 = .ok (.iload_n 1, 1) := by decide +kernel
theorem d_M_whole_45 : decode b_M_whole 45 = .ok (.ireturn, 1) := by decide +kernel
theorem d_M_isIn_0 : decode b_M_isIn 0 = .ok (.aload_n 0, 1) := by decide +kernel
theorem d_M_isIn_1 : decode b_M_isIn 1 = .ok (.getfield 7, 3) := by decide +kernel
theorem d_M_isIn_4 : decode b_M_isIn 4 = .ok (.iload_n 2, 1) := by decide +kernel
theorem d_M_isIn_5 : decode b_M_isIn 5 = .ok (.iaload, 1) := by decide +kernel
theorem d_M_isIn_6 : decode b_M_isIn 6 = .ok (.aload_n 0, 1) := by decide +kernel
theorem d_M_isIn_7 : decode b_M_isIn 7 = .ok (.getfield 7, 3) := by decide +kernel
theorem d_M_isIn_10 : decode b_M_isIn 10 = .ok (.iload_n 1, 1) := by decide +kernel
theorem d_M_isIn_11 : decode b_M_isIn 11 = .ok (.iaload, 1) := by decide +kernel
theorem d_M_isIn_12 : decode b_M_isIn 12 = .ok (.iconst (-1), 1) := by decide +kernel
theorem d_M_isIn_13 : decode b_M_isIn 13 = .ok (.ixor, 1) := by decide +kernel
theorem d_M_isIn_14 : decode b_M_isIn 14 = .ok (.iand, 1) := by decide +kernel
theorem d_M_isIn_15 : decode b_M_isIn 15 = .ok (.ifCond .ne 29, 3) := by decide +kernel
theorem d_M_isIn_18 : decode b_M_isIn 18 = .ok (.aload_n 0, 1) := by decide +kernel
theorem d_M_isIn_19 : decode b_M_isIn 19 = .ok (.getfield 13, 3) := by decide +kernel
theorem d_M_isIn_22 : decode b_M_isIn 22 = .ok (.iload_n 1, 1) := by decide +kernel
theorem d_M_isIn_23 : decode b_M_isIn 23 = .ok (.iaload, 1) := by decide +kernel
theorem d_M_isIn_24 : decode b_M_isIn 24 = .ok (.aload_n 0, 1) := by decide +kernel
theorem d_M_isIn_25 : decode b_M_isIn 25 = .ok (.getfield 7, 3) := by decide +kernel
theorem d_M_isIn_28 : decode b_M_isIn 28 = .ok (.iload_n 2, 1) := by decide +kernel
theorem d_M_isIn_29 : decode b_M_isIn 29 = .ok (.iaload, 1) := by decide +kernel
theorem d_M_isIn_30 : decode b_M_isIn 30 = .ok (.iand, 1) := by decide +kernel
theorem d_M_isIn_31 : decode b_M_isIn 31 = .ok (.aload_n 0, 1) := by decide +kernel
theorem d_M_isIn_32 : decode b_M_isIn 32 = .ok (.getfield 13, 3) := by decide +kernel
theorem d_M_isIn_35 : decode b_M_isIn 35 = .ok (.iload_n 2, 1) := by decide +kernel
theorem d_M_isIn_36 : decode b_M_isIn 36 = .ok (.iaload, 1) := by decide +kernel
theorem d_M_isIn_37 : decode b_M_isIn 37 = .ok (.if_icmp .ne 7, 3) := by decide +kernel
theorem d_M_isIn_40 : decode b_M_isIn 40 = .ok (.iconst 1, 1) := by decide +kernel
theorem d_M_isIn_41 : decode b_M_isIn 41 = .ok (.goto 4, 3) := by decide +kernel
theorem d_M_isIn_44 : decode b_M_isIn 44 = .ok (.iconst 0, 1) := by decide +kernel
theorem d_M_isIn_45 : decode b_M_isIn 45 = .ok (.ireturn, 1) := by decide +kernel
