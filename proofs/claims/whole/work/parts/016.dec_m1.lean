theorem dX10_logs_124 : decode cX10_logs 124 = .ok (.iastore, 1) := by decide +kernel
theorem dX10_logs_125 : decode cX10_logs 125 = .ok (.aload_n 0, 1) := by decide +kernel
theorem dX10_logs_126 : decode cX10_logs 126 = .ok (.getfield 17, 3) := by decide +kernel
theorem dX10_logs_129 : decode cX10_logs 129 = .ok (.aload_n 0, 1) := by decide +kernel
theorem dX10_logs_130 : decode cX10_logs 130 = .ok (.getfield 41, 3) := by decide +kernel
theorem dX10_logs_133 : decode cX10_logs 133 = .ok (.sipush 548, 3) := by decide +kernel
theorem dX10_logs_136 : decode cX10_logs 136 = .ok (.iadd, 1) := by decide +kernel
theorem dX10_logs_137 : decode cX10_logs 137 = .ok (.iconst 2, 1) := by decide +kernel
theorem dX10_logs_138 : decode cX10_logs 138 = .ok (.iadd, 1) := by decide +kernel
theorem dX10_logs_139 : decode cX10_logs 139 = .ok (.aload_n 0, 1) := by decide +kernel
theorem dX10_logs_140 : decode cX10_logs 140 = .ok (.getfield 112, 3) := by decide +kernel
theorem dX10_logs_143 : decode cX10_logs 143 = .ok (.iconst 1, 1) := by decide +kernel
theorem dX10_logs_144 : decode cX10_logs 144 = .ok (.isub, 1) := by decide +kernel
theorem dX10_logs_145 : decode cX10_logs 145 = .ok (.iastore, 1) := by decide +kernel
theorem dX10_logs_146 : decode cX10_logs 146 = .ok (.aload_n 0, 1) := by decide +kernel
theorem dX10_logs_147 : decode cX10_logs 147 = .ok (.getfield 17, 3) := by decide +kernel
theorem dX10_logs_150 : decode cX10_logs 150 = .ok (.aload_n 0, 1) := by decide +kernel
theorem dX10_logs_151 : decode cX10_logs 151 = .ok (.getfield 41, 3) := by decide +kernel
theorem dX10_logs_154 : decode cX10_logs 154 = .ok (.sipush 548, 3) := by decide +kernel
theorem dX10_logs_157 : decode cX10_logs 157 = .ok (.iadd, 1) := by decide +kernel
theorem dX10_logs_158 : decode cX10_logs 158 = .ok (.iconst 3, 1) := by decide +kernel
theorem dX10_logs_159 : decode cX10_logs 159 = .ok (.iadd, 1) := by decide +kernel
theorem dX10_logs_160 : decode cX10_logs 160 = .ok (.iload_n 3, 1) := by decide +kernel
theorem dX10_logs_161 : decode cX10_logs 161 = .ok (.iastore, 1) := by decide +kernel
theorem dX10_logs_162 : decode cX10_logs 162 = .ok (.aload_n 0, 1) := by decide +kernel
theorem dX10_logs_163 : decode cX10_logs 163 = .ok (.getfield 17, 3) := by decide +kernel
theorem dX10_logs_166 : decode cX10_logs 166 = .ok (.aload_n 0, 1) := by decide +kernel
theorem dX10_logs_167 : decode cX10_logs 167 = .ok (.getfield 41, 3) := by decide +kernel
theorem dX10_logs_170 : decode cX10_logs 170 = .ok (.sipush 548, 3) := by decide +kernel
theorem dX10_logs_173 : decode cX10_logs 173 = .ok (.iadd, 1) := by decide +kernel
theorem dX10_logs_174 : decode cX10_logs 174 = .ok (.iconst 4, 1) := by decide +kernel
theorem dX10_logs_175 : decode cX10_logs 175 = .ok (.iadd, 1) := by decide +kernel
theorem dX10_logs_176 : decode cX10_logs 176 = .ok (.iload 4, 2) := by decide +kernel
theorem dX10_logs_178 : decode cX10_logs 178 = .ok (.iastore, 1) := by decide +kernel
theorem dX10_logs_179 : decode cX10_logs 179 = .ok (.return_, 1) := by decide +kernel
theorem dX10_done_0 : decode cX10_done 0 = .ok (.iconst 0, 1) := by decide +kernel
theorem dX10_done_1 : decode cX10_done 1 = .ok (.istore_n 2, 1) := by decide +kernel
theorem dX10_done_2 : decode cX10_done 2 = .ok (.iload_n 2, 1) := by decide +kernel
theorem dX10_done_3 : decode cX10_done 3 = .ok (.aload_n 0, 1) := by decide +kernel
theorem dX10_done_4 : decode cX10_done 4 = .ok (.getfield 109, 3) := by decide +kernel
theorem dX10_done_7 : decode cX10_done 7 = .ok (.if_icmp .ge 232, 3) := by decide +kernel
theorem dX10_done_10 : decode cX10_done 10 = .ok (.iload_n 2, 1) := by decide +kernel
theorem dX10_done_11 : decode cX10_done 11 = .ok (.bipush 100, 2) := by decide +kernel
theorem dX10_done_13 : decode cX10_done 13 = .ok (.if_icmp .ge 226, 3) := by decide +kernel
theorem dX10_done_16 : decode cX10_done 16 = .ok (.aload_n 0, 1) := by decide +kernel
theorem dX10_done_17 : decode cX10_done 17 = .ok (.getfield 28, 3) := by decide +kernel
theorem dX10_done_20 : decode cX10_done 20 = .ok (.iconst 5, 1) := by decide +kernel
theorem dX10_done_21 : decode cX10_done 21 = .ok (.iload_n 2, 1) := by decide +kernel
theorem dX10_done_22 : decode cX10_done 22 = .ok (.imul, 1) := by decide +kernel
theorem dX10_done_23 : decode cX10_done 23 = .ok (.iaload, 1) := by decide +kernel
theorem dX10_done_24 : decode cX10_done 24 = .ok (.istore_n 3, 1) := by decide +kernel
theorem dX10_done_25 : decode cX10_done 25 = .ok (.aload_n 0, 1) := by decide +kernel
theorem dX10_done_26 : decode cX10_done 26 = .ok (.getfield 28, 3) := by decide +kernel
theorem dX10_done_29 : decode cX10_done 29 = .ok (.iconst 5, 1) := by decide +kernel
theorem dX10_done_30 : decode cX10_done 30 = .ok (.iload_n 2, 1) := by decide +kernel
theorem dX10_done_31 : decode cX10_done 31 = .ok (.imul, 1) := by decide +kernel
theorem dX10_done_32 : decode cX10_done 32 = .ok (.iconst 1, 1) := by decide +kernel
theorem dX10_done_33 : decode cX10_done 33 = .ok (.iadd, 1) := by decide +kernel
theorem dX10_done_34 : decode cX10_done 34 = .ok (.iaload, 1) := by decide +kernel
theorem dX10_done_35 : decode cX10_done 35 = .ok (.istore 4, 2) := by decide +kernel
theorem dX10_done_37 : decode cX10_done 37 = .ok (.iload_n 3, 1) := by decide +kernel
theorem dX10_done_38 : decode cX10_done 38 = .ok (.iconst 5, 1) := by decide +kernel
theorem dX10_done_39 : decode cX10_done 39 = .ok (.if_icmp .eq 9, 3) := by decide +kernel
theorem dX10_done_42 : decode cX10_done 42 = .ok (.iload_n 3, 1) := by decide +kernel
theorem dX10_done_43 : decode cX10_done 43 = .ok (.bipush 6, 2) := by decide +kernel
theorem dX10_done_45 : decode cX10_done 45 = .ok (.if_icmp .ne 7, 3) := by decide +kernel
theorem dX10_done_48 : decode cX10_done 48 = .ok (.iconst 0, 1) := by decide +kernel
theorem dX10_done_49 : decode cX10_done 49 = .ok (.goto 13, 3) := by decide +kernel
theorem dX10_done_52 : decode cX10_done 52 = .ok (.aload_n 0, 1) := by decide +kernel
theorem dX10_done_53 : decode cX10_done 53 = .ok (.getfield 28, 3) := by decide +kernel
theorem dX10_done_56 : decode cX10_done 56 = .ok (.iconst 5, 1) := by decide +kernel
theorem dX10_done_57 : decode cX10_done 57 = .ok (.iload_n 2, 1) := by decide +kernel
theorem dX10_done_58 : decode cX10_done 58 = .ok (.imul, 1) := by decide +kernel
theorem dX10_done_59 : decode cX10_done 59 = .ok (.iconst 2, 1) := by decide +kernel
theorem dX10_done_60 : decode cX10_done 60 = .ok (.iadd, 1) := by decide +kernel
theorem dX10_done_61 : decode cX10_done 61 = .ok (.iaload, 1) := by decide +kernel
theorem dX10_done_62 : decode cX10_done 62 = .ok (.istore 5, 2) := by decide +kernel
theorem dX10_done_64 : decode cX10_done 64 = .ok (.aload_n 0, 1) := by decide +kernel
theorem dX10_done_65 : decode cX10_done 65 = .ok (.aload_n 0, 1) := by decide +kernel
theorem dX10_done_66 : decode cX10_done 66 = .ok (.getfield 28, 3) := by decide +kernel
theorem dX10_done_69 : decode cX10_done 69 = .ok (.iconst 5, 1) := by decide +kernel
theorem dX10_done_70 : decode cX10_done 70 = .ok (.iload_n 2, 1) := by decide +kernel
theorem dX10_done_71 : decode cX10_done 71 = .ok (.imul, 1) := by decide +kernel
theorem dX10_done_72 : decode cX10_done 72 = .ok (.iconst 4, 1) := by decide +kernel
theorem dX10_done_73 : decode cX10_done 73 = .ok (.iadd, 1) := by decide +kernel
theorem dX10_done_74 : decode cX10_done 74 = .ok (.iaload, 1) := by decide +kernel
theorem dX10_done_75 : decode cX10_done 75 = .ok (.iconst 1, 1) := by decide +kernel
theorem dX10_done_76 : decode cX10_done 76 = .ok (.iadd, 1) := by decide +kernel
theorem dX10_done_77 : decode cX10_done 77 = .ok (.putfield 112, 3) := by decide +kernel
theorem dX10_done_80 : decode cX10_done 80 = .ok (.aload_n 0, 1) := by decide +kernel
theorem dX10_done_81 : decode cX10_done 81 = .ok (.getfield 112, 3) := by decide +kernel
theorem dX10_done_84 : decode cX10_done 84 = .ok (.iconst 1, 1) := by decide +kernel
theorem dX10_done_85 : decode cX10_done 85 = .ok (.isub, 1) := by decide +kernel
theorem dX10_done_86 : decode cX10_done 86 = .ok (.aload_n 0, 1) := by decide +kernel
theorem dX10_done_87 : decode cX10_done 87 = .ok (.getfield 17, 3) := by decide +kernel
theorem dX10_done_90 : decode cX10_done 90 = .ok (.aload_n 0, 1) := by decide +kernel
theorem dX10_done_91 : decode cX10_done 91 = .ok (.getfield 41, 3) := by decide +kernel
theorem dX10_done_94 : decode cX10_done 94 = .ok (.bipush 17, 2) := by decide +kernel
theorem dX10_done_96 : decode cX10_done 96 = .ok (.iadd, 1) := by decide +kernel
theorem dX10_done_97 : decode cX10_done 97 = .ok (.iaload, 1) := by decide +kernel
theorem dX10_done_98 : decode cX10_done 98 = .ok (.if_icmp .le 21, 3) := by decide +kernel
theorem dX10_done_101 : decode cX10_done 101 = .ok (.aload_n 0, 1) := by decide +kernel
theorem dX10_done_102 : decode cX10_done 102 = .ok (.getfield 17, 3) := by decide +kernel
theorem dX10_done_105 : decode cX10_done 105 = .ok (.aload_n 0, 1) := by decide +kernel
theorem dX10_done_106 : decode cX10_done 106 = .ok (.getfield 41, 3) := by decide +kernel
theorem dX10_done_109 : decode cX10_done 109 = .ok (.bipush 17, 2) := by decide +kernel
theorem dX10_done_111 : decode cX10_done 111 = .ok (.iadd, 1) := by decide +kernel
theorem dX10_done_112 : decode cX10_done 112 = .ok (.aload_n 0, 1) := by decide +kernel
theorem dX10_done_113 : decode cX10_done 113 = .ok (.getfield 112, 3) := by decide +kernel
theorem dX10_done_116 : decode cX10_done 116 = .ok (.iconst 1, 1) := by decide +kernel
theorem dX10_done_117 : decode cX10_done 117 = .ok (.isub, 1) := by decide +kernel
theorem dX10_done_118 : decode cX10_done 118 = .ok (.iastore, 1) := by decide +kernel
theorem dX10_done_119 : decode cX10_done 119 = .ok (.iconst 0, 1) := by decide +kernel
theorem dX10_done_120 : decode cX10_done 120 = .ok (.istore 6, 2) := by decide +kernel
theorem dX10_done_122 : decode cX10_done 122 = .ok (.iconst 0, 1) := by decide +kernel
theorem dX10_done_123 : decode cX10_done 123 = .ok (.istore 7, 2) := by decide +kernel
theorem dX10_done_125 : decode cX10_done 125 = .ok (.iload 7, 2) := by decide +kernel
theorem dX10_done_127 : decode cX10_done 127 = .ok (.aload_n 0, 1) := by decide +kernel
theorem dX10_done_128 : decode cX10_done 128 = .ok (.getfield 17, 3) := by decide +kernel
theorem dX10_done_131 : decode cX10_done 131 = .ok (.aload_n 0, 1) := by decide +kernel
theorem dX10_done_132 : decode cX10_done 132 = .ok (.getfield 41, 3) := by decide +kernel
theorem dX10_done_135 : decode cX10_done 135 = .ok (.bipush 7, 2) := by decide +kernel
theorem dX10_done_137 : decode cX10_done 137 = .ok (.iadd, 1) := by decide +kernel
theorem dX10_done_138 : decode cX10_done 138 = .ok (.iaload, 1) := by decide +kernel
theorem dX10_done_139 : decode cX10_done 139 = .ok (.if_icmp .ge 75, 3) := by decide +kernel
theorem dX10_done_142 : decode cX10_done 142 = .ok (.aload_n 0, 1) := by decide +kernel
theorem dX10_done_143 : decode cX10_done 143 = .ok (.iload 7, 2) := by decide +kernel
theorem dX10_done_145 : decode cX10_done 145 = .ok (.iload_n 3, 1) := by decide +kernel
theorem dX10_done_146 : decode cX10_done 146 = .ok (.iload 4, 2) := by decide +kernel
theorem dX10_done_148 : decode cX10_done 148 = .ok (.invokevirtual 150, 3) := by decide +kernel
theorem dX10_done_151 : decode cX10_done 151 = .ok (.ifCond .ne 6, 3) := by decide +kernel
theorem dX10_done_154 : decode cX10_done 154 = .ok (.goto 54, 3) := by decide +kernel
theorem dX10_done_157 : decode cX10_done 157 = .ok (.iinc 6 1, 3) := by decide +kernel
theorem dX10_done_160 : decode cX10_done 160 = .ok (.aload_n 0, 1) := by decide +kernel
theorem dX10_done_161 : decode cX10_done 161 = .ok (.getfield 17, 3) := by decide +kernel
theorem dX10_done_164 : decode cX10_done 164 = .ok (.aload_n 0, 1) := by decide +kernel
theorem dX10_done_165 : decode cX10_done 165 = .ok (.iload 7, 2) := by decide +kernel
theorem dX10_done_167 : decode cX10_done 167 = .ok (.invokevirtual 115, 3) := by decide +kernel
theorem dX10_done_170 : decode cX10_done 170 = .ok (.bipush 7, 2) := by decide +kernel
theorem dX10_done_172 : decode cX10_done 172 = .ok (.iadd, 1) := by decide +kernel
theorem dX10_done_173 : decode cX10_done 173 = .ok (.dup2, 1) := by decide +kernel
theorem dX10_done_174 : decode cX10_done 174 = .ok (.iaload, 1) := by decide +kernel
theorem dX10_done_175 : decode cX10_done 175 = .ok (.iconst 1, 1) := by decide +kernel
theorem dX10_done_176 : decode cX10_done 176 = .ok (.iadd, 1) := by decide +kernel
theorem dX10_done_177 : decode cX10_done 177 = .ok (.iastore, 1) := by decide +kernel
theorem dX10_done_178 : decode cX10_done 178 = .ok (.aload_n 0, 1) := by decide +kernel
theorem dX10_done_179 : decode cX10_done 179 = .ok (.getfield 17, 3) := by decide +kernel
theorem dX10_done_182 : decode cX10_done 182 = .ok (.aload_n 0, 1) := by decide +kernel
theorem dX10_done_183 : decode cX10_done 183 = .ok (.iload 7, 2) := by decide +kernel
theorem dX10_done_185 : decode cX10_done 185 = .ok (.invokevirtual 115, 3) := by decide +kernel
theorem dX10_done_188 : decode cX10_done 188 = .ok (.bipush 8, 2) := by decide +kernel
theorem dX10_done_190 : decode cX10_done 190 = .ok (.iadd, 1) := by decide +kernel
theorem dX10_done_191 : decode cX10_done 191 = .ok (.dup2, 1) := by decide +kernel
theorem dX10_done_192 : decode cX10_done 192 = .ok (.iaload, 1) := by decide +kernel
theorem dX10_done_193 : decode cX10_done 193 = .ok (.aload_n 0, 1) := by decide +kernel
theorem dX10_done_194 : decode cX10_done 194 = .ok (.iload 7, 2) := by decide +kernel
theorem dX10_done_196 : decode cX10_done 196 = .ok (.iload 4, 2) := by decide +kernel
theorem dX10_done_198 : decode cX10_done 198 = .ok (.iload 5, 2) := by decide +kernel
theorem dX10_done_200 : decode cX10_done 200 = .ok (.invokevirtual 153, 3) := by decide +kernel
theorem dX10_done_203 : decode cX10_done 203 = .ok (.invokestatic 57, 3) := by decide +kernel
theorem dX10_done_206 : decode cX10_done 206 = .ok (.iadd, 1) := by decide +kernel
theorem dX10_done_207 : decode cX10_done 207 = .ok (.iastore, 1) := by decide +kernel
theorem dX10_done_208 : decode cX10_done 208 = .ok (.iinc 7 1, 3) := by decide +kernel
theorem dX10_done_211 : decode cX10_done 211 = .ok (.goto (-86), 3) := by decide +kernel
theorem dX10_done_214 : decode cX10_done 214 = .ok (.aload_n 0, 1) := by decide +kernel
theorem dX10_done_215 : decode cX10_done 215 = .ok (.iload_n 3, 1) := by decide +kernel
theorem dX10_done_216 : decode cX10_done 216 = .ok (.iload 4, 2) := by decide +kernel
theorem dX10_done_218 : decode cX10_done 218 = .ok (.aload_n 0, 1) := by decide +kernel
theorem dX10_done_219 : decode cX10_done 219 = .ok (.getfield 28, 3) := by decide +kernel
theorem dX10_done_222 : decode cX10_done 222 = .ok (.iconst 5, 1) := by decide +kernel
theorem dX10_done_223 : decode cX10_done 223 = .ok (.iload_n 2, 1) := by decide +kernel
theorem dX10_done_224 : decode cX10_done 224 = .ok (.imul, 1) := by decide +kernel
theorem dX10_done_225 : decode cX10_done 225 = .ok (.iconst 3, 1) := by decide +kernel
theorem dX10_done_226 : decode cX10_done 226 = .ok (.iadd, 1) := by decide +kernel
theorem dX10_done_227 : decode cX10_done 227 = .ok (.iaload, 1) := by decide +kernel
theorem dX10_done_228 : decode cX10_done 228 = .ok (.iload 6, 2) := by decide +kernel
theorem dX10_done_230 : decode cX10_done 230 = .ok (.invokevirtual 156, 3) := by decide +kernel
theorem dX10_done_233 : decode cX10_done 233 = .ok (.iinc 2 1, 3) := by decide +kernel
theorem dX10_done_236 : decode cX10_done 236 = .ok (.goto (-234), 3) := by decide +kernel
theorem dX10_done_239 : decode cX10_done 239 = .ok (.aload_n 0, 1) := by decide +kernel
theorem dX10_done_240 : decode cX10_done 240 = .ok (.getfield 109, 3) := by decide +kernel
theorem dX10_done_243 : decode cX10_done 243 = .ok (.bipush 100, 2) := by decide +kernel
theorem dX10_done_245 : decode cX10_done 245 = .ok (.if_icmp .le 25, 3) := by decide +kernel
theorem dX10_done_248 : decode cX10_done 248 = .ok (.aload_n 0, 1) := by decide +kernel
theorem dX10_done_249 : decode cX10_done 249 = .ok (.getfield 17, 3) := by decide +kernel
theorem dX10_done_252 : decode cX10_done 252 = .ok (.aload_n 0, 1) := by decide +kernel
theorem dX10_done_253 : decode cX10_done 253 = .ok (.getfield 41, 3) := by decide +kernel
theorem dX10_done_256 : decode cX10_done 256 = .ok (.bipush 13, 2) := by decide +kernel
theorem dX10_done_258 : decode cX10_done 258 = .ok (.iadd, 1) := by decide +kernel
theorem dX10_done_259 : decode cX10_done 259 = .ok (.dup2, 1) := by decide +kernel
theorem dX10_done_260 : decode cX10_done 260 = .ok (.iaload, 1) := by decide +kernel
theorem dX10_done_261 : decode cX10_done 261 = .ok (.aload_n 0, 1) := by decide +kernel
theorem dX10_done_262 : decode cX10_done 262 = .ok (.getfield 109, 3) := by decide +kernel
theorem dX10_done_265 : decode cX10_done 265 = .ok (.bipush 100, 2) := by decide +kernel
theorem dX10_done_267 : decode cX10_done 267 = .ok (.isub, 1) := by decide +kernel
theorem dX10_done_268 : decode cX10_done 268 = .ok (.iadd, 1) := by decide +kernel
theorem dX10_done_269 : decode cX10_done 269 = .ok (.iastore, 1) := by decide +kernel
theorem dX10_done_270 : decode cX10_done 270 = .ok (.iload_n 1, 1) := by decide +kernel
theorem dX10_done_271 : decode cX10_done 271 = .ok (.ireturn, 1) := by decide +kernel
theorem dX10_uses_0 : decode cX10_uses 0 = .ok (.aload_n 0, 1) := by decide +kernel
theorem dX10_uses_1 : decode cX10_uses 1 = .ok (.getfield 17, 3) := by decide +kernel
theorem dX10_uses_4 : decode cX10_uses 4 = .ok (.aload_n 0, 1) := by decide +kernel
theorem dX10_uses_5 : decode cX10_uses 5 = .ok (.getfield 41, 3) := by decide +kernel
theorem dX10_uses_8 : decode cX10_uses 8 = .ok (.iconst 4, 1) := by decide +kernel
theorem dX10_uses_9 : decode cX10_uses 9 = .ok (.iadd, 1) := by decide +kernel
theorem dX10_uses_10 : decode cX10_uses 10 = .ok (.dup2, 1) := by decide +kernel
theorem dX10_uses_11 : decode cX10_uses 11 = .ok (.iaload, 1) := by decide +kernel
theorem dX10_uses_12 : decode cX10_uses 12 = .ok (.iconst 1, 1) := by decide +kernel
theorem dX10_uses_13 : decode cX10_uses 13 = .ok (.iadd, 1) := by decide +kernel
theorem dX10_uses_14 : decode cX10_uses 14 = .ok (.iastore, 1) := by decide +kernel
theorem dX10_uses_15 : decode cX10_uses 15 = .ok (.aload_n 0, 1) := by decide +kernel
theorem dX10_uses_16 : decode cX10_uses 16 = .ok (.iload_n 1, 1) := by decide +kernel
theorem dX10_uses_17 : decode cX10_uses 17 = .ok (.iconst 4, 1) := by decide +kernel
theorem dX10_uses_18 : decode cX10_uses 18 = .ok (.aload_n 0, 1) := by decide +kernel
theorem dX10_uses_19 : decode cX10_uses 19 = .ok (.getfield 17, 3) := by decide +kernel
theorem dX10_uses_22 : decode cX10_uses 22 = .ok (.aload_n 0, 1) := by decide +kernel
theorem dX10_uses_23 : decode cX10_uses 23 = .ok (.getfield 41, 3) := by decide +kernel
theorem dX10_uses_26 : decode cX10_uses 26 = .ok (.iconst 4, 1) := by decide +kernel
theorem dX10_uses_27 : decode cX10_uses 27 = .ok (.iadd, 1) := by decide +kernel
theorem dX10_uses_28 : decode cX10_uses 28 = .ok (.iaload, 1) := by decide +kernel
theorem dX10_uses_29 : decode cX10_uses 29 = .ok (.invokevirtual 121, 3) := by decide +kernel
theorem dX10_uses_32 : decode cX10_uses 32 = .ok (.aload_n 0, 1) := by decide +kernel
theorem dX10_uses_33 : decode cX10_uses 33 = .ok (.iload_n 1, 1) := by decide +kernel
theorem dX10_uses_34 : decode cX10_uses 34 = .ok (.iconst 3, 1) := by decide +kernel
theorem dX10_uses_35 : decode cX10_uses 35 = .ok (.ldc 159, 2) := by decide +kernel
theorem dX10_uses_37 : decode cX10_uses 37 = .ok (.aload_n 0, 1) := by decide +kernel
theorem dX10_uses_38 : decode cX10_uses 38 = .ok (.iload_n 1, 1) := by decide +kernel
theorem dX10_uses_39 : decode cX10_uses 39 = .ok (.iconst 3, 1) := by decide +kernel
theorem dX10_uses_40 : decode cX10_uses 40 = .ok (.invokevirtual 44, 3) := by decide +kernel
theorem dX10_uses_43 : decode cX10_uses 43 = .ok (.iconst 1, 1) := by decide +kernel
theorem dX10_uses_44 : decode cX10_uses 44 = .ok (.iadd, 1) := by decide +kernel
theorem dX10_uses_45 : decode cX10_uses 45 = .ok (.invokestatic 7, 3) := by decide +kernel
theorem dX10_uses_48 : decode cX10_uses 48 = .ok (.invokevirtual 121, 3) := by decide +kernel
theorem dX10_uses_51 : decode cX10_uses 51 = .ok (.aload_n 0, 1) := by decide +kernel
theorem dX10_uses_52 : decode cX10_uses 52 = .ok (.getfield 17, 3) := by decide +kernel
theorem dX10_uses_55 : decode cX10_uses 55 = .ok (.aload_n 0, 1) := by decide +kernel
theorem dX10_uses_56 : decode cX10_uses 56 = .ok (.getfield 41, 3) := by decide +kernel
theorem dX10_uses_59 : decode cX10_uses 59 = .ok (.iconst 4, 1) := by decide +kernel
theorem dX10_uses_60 : decode cX10_uses 60 = .ok (.iadd, 1) := by decide +kernel
theorem dX10_uses_61 : decode cX10_uses 61 = .ok (.iaload, 1) := by decide +kernel
theorem dX10_uses_62 : decode cX10_uses 62 = .ok (.aload_n 0, 1) := by decide +kernel
theorem dX10_uses_63 : decode cX10_uses 63 = .ok (.getfield 17, 3) := by decide +kernel
theorem dX10_uses_66 : decode cX10_uses 66 = .ok (.aload_n 0, 1) := by decide +kernel
theorem dX10_uses_67 : decode cX10_uses 67 = .ok (.getfield 41, 3) := by decide +kernel
theorem dX10_uses_70 : decode cX10_uses 70 = .ok (.bipush 6, 2) := by decide +kernel
theorem dX10_uses_72 : decode cX10_uses 72 = .ok (.iadd, 1) := by decide +kernel
theorem dX10_uses_73 : decode cX10_uses 73 = .ok (.iaload, 1) := by decide +kernel
theorem dX10_uses_74 : decode cX10_uses 74 = .ok (.irem, 1) := by decide +kernel
theorem dX10_uses_75 : decode cX10_uses 75 = .ok (.ifCond .eq 4, 3) := by decide +kernel
theorem dX10_uses_78 : decode cX10_uses 78 = .ok (.return_, 1) := by decide +kernel
theorem dX10_uses_79 : decode cX10_uses 79 = .ok (.aload_n 0, 1) := by decide +kernel
theorem dX10_uses_80 : decode cX10_uses 80 = .ok (.getfield 17, 3) := by decide +kernel
theorem dX10_uses_83 : decode cX10_uses 83 = .ok (.aload_n 0, 1) := by decide +kernel
theorem dX10_uses_84 : decode cX10_uses 84 = .ok (.getfield 41, 3) := by decide +kernel
theorem dX10_uses_87 : decode cX10_uses 87 = .ok (.bipush 15, 2) := by decide +kernel
theorem dX10_uses_89 : decode cX10_uses 89 = .ok (.iadd, 1) := by decide +kernel
theorem dX10_uses_90 : decode cX10_uses 90 = .ok (.dup2, 1) := by decide +kernel
theorem dX10_uses_91 : decode cX10_uses 91 = .ok (.iaload, 1) := by decide +kernel
theorem dX10_uses_92 : decode cX10_uses 92 = .ok (.iconst 1, 1) := by decide +kernel
theorem dX10_uses_93 : decode cX10_uses 93 = .ok (.iadd, 1) := by decide +kernel
theorem dX10_uses_94 : decode cX10_uses 94 = .ok (.iastore, 1) := by decide +kernel
theorem dX10_uses_95 : decode cX10_uses 95 = .ok (.iconst 0, 1) := by decide +kernel
theorem dX10_uses_96 : decode cX10_uses 96 = .ok (.istore_n 2, 1) := by decide +kernel
theorem dX10_uses_97 : decode cX10_uses 97 = .ok (.iload_n 2, 1) := by decide +kernel
theorem dX10_uses_98 : decode cX10_uses 98 = .ok (.aload_n 0, 1) := by decide +kernel
theorem dX10_uses_99 : decode cX10_uses 99 = .ok (.getfield 17, 3) := by decide +kernel
theorem dX10_uses_102 : decode cX10_uses 102 = .ok (.aload_n 0, 1) := by decide +kernel
theorem dX10_uses_103 : decode cX10_uses 103 = .ok (.getfield 41, 3) := by decide +kernel
theorem dX10_uses_106 : decode cX10_uses 106 = .ok (.iconst 0, 1) := by decide +kernel
theorem dX10_uses_107 : decode cX10_uses 107 = .ok (.iadd, 1) := by decide +kernel
theorem dX10_uses_108 : decode cX10_uses 108 = .ok (.iaload, 1) := by decide +kernel
theorem dX10_uses_109 : decode cX10_uses 109 = .ok (.if_icmp .ge 37, 3) := by decide +kernel
theorem dX10_uses_112 : decode cX10_uses 112 = .ok (.aload_n 0, 1) := by decide +kernel
theorem dX10_uses_113 : decode cX10_uses 113 = .ok (.iload_n 2, 1) := by decide +kernel
theorem dX10_uses_114 : decode cX10_uses 114 = .ok (.iconst 3, 1) := by decide +kernel
theorem dX10_uses_115 : decode cX10_uses 115 = .ok (.aload_n 0, 1) := by decide +kernel
theorem dX10_uses_116 : decode cX10_uses 116 = .ok (.iload_n 2, 1) := by decide +kernel
theorem dX10_uses_117 : decode cX10_uses 117 = .ok (.iconst 3, 1) := by decide +kernel
theorem dX10_uses_118 : decode cX10_uses 118 = .ok (.invokevirtual 44, 3) := by decide +kernel
theorem dX10_uses_121 : decode cX10_uses 121 = .ok (.iconst 2, 1) := by decide +kernel
theorem dX10_uses_122 : decode cX10_uses 122 = .ok (.if_icmp .ge 7, 3) := by decide +kernel
theorem dX10_uses_125 : decode cX10_uses 125 = .ok (.iconst 1, 1) := by decide +kernel
theorem dX10_uses_126 : decode cX10_uses 126 = .ok (.goto 11, 3) := by decide +kernel
theorem dX10_uses_129 : decode cX10_uses 129 = .ok (.aload_n 0, 1) := by decide +kernel
theorem dX10_uses_130 : decode cX10_uses 130 = .ok (.iload_n 2, 1) := by decide +kernel
theorem dX10_uses_131 : decode cX10_uses 131 = .ok (.iconst 3, 1) := by decide +kernel
theorem dX10_uses_132 : decode cX10_uses 132 = .ok (.invokevirtual 44, 3) := by decide +kernel
theorem dX10_uses_135 : decode cX10_uses 135 = .ok (.iconst 2, 1) := by decide +kernel
theorem dX10_uses_136 : decode cX10_uses 136 = .ok (.idiv, 1) := by decide +kernel
theorem dX10_uses_137 : decode cX10_uses 137 = .ok (.invokevirtual 121, 3) := by decide +kernel
theorem dX10_uses_140 : decode cX10_uses 140 = .ok (.iinc 2 1, 3) := by decide +kernel
theorem dX10_uses_143 : decode cX10_uses 143 = .ok (.goto (-46), 3) := by decide +kernel
theorem dX10_uses_146 : decode cX10_uses 146 = .ok (.return_, 1) := by decide +kernel
theorem dX10_isRejected_0 : decode cX10_isRejected 0 = .ok (.iload_n 2, 1) := by decide +kernel
theorem dX10_isRejected_1 : decode cX10_isRejected 1 = .ok (.aload_n 0, 1) := by decide +kernel
theorem dX10_isRejected_2 : decode cX10_isRejected 2 = .ok (.iload_n 1, 1) := by decide +kernel
theorem dX10_isRejected_3 : decode cX10_isRejected 3 = .ok (.invokevirtual 127, 3) := by decide +kernel
theorem dX10_isRejected_6 : decode cX10_isRejected 6 = .ok (.iadd, 1) := by decide +kernel
theorem dX10_isRejected_7 : decode cX10_isRejected 7 = .ok (.aload_n 0, 1) := by decide +kernel
theorem dX10_isRejected_8 : decode cX10_isRejected 8 = .ok (.getfield 17, 3) := by decide +kernel
theorem dX10_isRejected_11 : decode cX10_isRejected 11 = .ok (.aload_n 0, 1) := by decide +kernel
theorem dX10_isRejected_12 : decode cX10_isRejected 12 = .ok (.getfield 41, 3) := by decide +kernel
theorem dX10_isRejected_15 : decode cX10_isRejected 15 = .ok (.iconst 1, 1) := by decide +kernel
theorem dX10_isRejected_16 : decode cX10_isRejected 16 = .ok (.iadd, 1) := by decide +kernel
theorem dX10_isRejected_17 : decode cX10_isRejected 17 = .ok (.iaload, 1) := by decide +kernel
theorem dX10_isRejected_18 : decode cX10_isRejected 18 = .ok (.if_icmp .gt 37, 3) := by decide +kernel
theorem dX10_isRejected_21 : decode cX10_isRejected 21 = .ok (.aload_n 0, 1) := by decide +kernel
theorem dX10_isRejected_22 : decode cX10_isRejected 22 = .ok (.getfield 17, 3) := by decide +kernel
theorem dX10_isRejected_25 : decode cX10_isRejected 25 = .ok (.aload_n 0, 1) := by decide +kernel
theorem dX10_isRejected_26 : decode cX10_isRejected 26 = .ok (.getfield 41, 3) := by decide +kernel
theorem dX10_isRejected_29 : decode cX10_isRejected 29 = .ok (.iconst 0, 1) := by decide +kernel
theorem dX10_isRejected_30 : decode cX10_isRejected 30 = .ok (.iadd, 1) := by decide +kernel
theorem dX10_isRejected_31 : decode cX10_isRejected 31 = .ok (.iaload, 1) := by decide +kernel
theorem dX10_isRejected_32 : decode cX10_isRejected 32 = .ok (.bipush 60, 2) := by decide +kernel
theorem dX10_isRejected_34 : decode cX10_isRejected 34 = .ok (.if_icmp .ne 25, 3) := by decide +kernel
theorem dX10_isRejected_37 : decode cX10_isRejected 37 = .ok (.aload_n 0, 1) := by decide +kernel
theorem dX10_isRejected_38 : decode cX10_isRejected 38 = .ok (.invokevirtual 160, 3) := by decide +kernel
theorem dX10_isRejected_41 : decode cX10_isRejected 41 = .ok (.bipush 60, 2) := by decide +kernel
theorem dX10_isRejected_43 : decode cX10_isRejected 43 = .ok (.if_icmp .ne 16, 3) := by decide +kernel
theorem dX10_isRejected_46 : decode cX10_isRejected 46 = .ok (.aload_n 0, 1) := by decide +kernel
theorem dX10_isRejected_47 : decode cX10_isRejected 47 = .ok (.iload_n 1, 1) := by decide +kernel
theorem dX10_isRejected_48 : decode cX10_isRejected 48 = .ok (.invokevirtual 118, 3) := by decide +kernel
theorem dX10_isRejected_51 : decode cX10_isRejected 51 = .ok (.iconst (-1), 1) := by decide +kernel
theorem dX10_isRejected_52 : decode cX10_isRejected 52 = .ok (.if_icmp .ne 7, 3) := by decide +kernel
theorem dX10_isRejected_55 : decode cX10_isRejected 55 = .ok (.iconst 1, 1) := by decide +kernel
theorem dX10_isRejected_56 : decode cX10_isRejected 56 = .ok (.goto 4, 3) := by decide +kernel
theorem dX10_isRejected_59 : decode cX10_isRejected 59 = .ok (.iconst 0, 1) := by decide +kernel
theorem dX10_isRejected_60 : decode cX10_isRejected 60 = .ok (.ireturn, 1) := by decide +kernel
theorem dX10_learns_0 : decode cX10_learns 0 = .ok (.iconst 0, 1) := by decide +kernel
theorem dX10_learns_1 : decode cX10_learns 1 = .ok (.istore_n 3, 1) := by decide +kernel
theorem dX10_learns_2 : decode cX10_learns 2 = .ok (.iload_n 3, 1) := by decide +kernel
theorem dX10_learns_3 : decode cX10_learns 3 = .ok (.iconst 2, 1) := by decide +kernel
theorem dX10_learns_4 : decode cX10_learns 4 = .ok (.if_icmp .ge 76, 3) := by decide +kernel
theorem dX10_learns_7 : decode cX10_learns 7 = .ok (.aload_n 0, 1) := by decide +kernel
theorem dX10_learns_8 : decode cX10_learns 8 = .ok (.iload_n 3, 1) := by decide +kernel
theorem dX10_learns_9 : decode cX10_learns 9 = .ok (.iload_n 1, 1) := by decide +kernel
theorem dX10_learns_10 : decode cX10_learns 10 = .ok (.invokevirtual 82, 3) := by decide +kernel
theorem dX10_learns_13 : decode cX10_learns 13 = .ok (.iconst (-1), 1) := by decide +kernel
theorem dX10_learns_14 : decode cX10_learns 14 = .ok (.if_icmp .ne 6, 3) := by decide +kernel
theorem dX10_learns_17 : decode cX10_learns 17 = .ok (.goto 57, 3) := by decide +kernel
theorem dX10_learns_20 : decode cX10_learns 20 = .ok (.aload_n 0, 1) := by decide +kernel
theorem dX10_learns_21 : decode cX10_learns 21 = .ok (.getfield 17, 3) := by decide +kernel
theorem dX10_learns_24 : decode cX10_learns 24 = .ok (.aload_n 0, 1) := by decide +kernel
theorem dX10_learns_25 : decode cX10_learns 25 = .ok (.getfield 41, 3) := by decide +kernel
theorem dX10_learns_28 : decode cX10_learns 28 = .ok (.iconst 3, 1) := by decide +kernel
theorem dX10_learns_29 : decode cX10_learns 29 = .ok (.iadd, 1) := by decide +kernel
theorem dX10_learns_30 : decode cX10_learns 30 = .ok (.aload_n 0, 1) := by decide +kernel
theorem dX10_learns_31 : decode cX10_learns 31 = .ok (.getfield 17, 3) := by decide +kernel
theorem dX10_learns_34 : decode cX10_learns 34 = .ok (.aload_n 0, 1) := by decide +kernel
theorem dX10_learns_35 : decode cX10_learns 35 = .ok (.getfield 41, 3) := by decide +kernel
theorem dX10_learns_38 : decode cX10_learns 38 = .ok (.iconst 3, 1) := by decide +kernel
theorem dX10_learns_39 : decode cX10_learns 39 = .ok (.iadd, 1) := by decide +kernel
theorem dX10_learns_40 : decode cX10_learns 40 = .ok (.iaload, 1) := by decide +kernel
theorem dX10_learns_41 : decode cX10_learns 41 = .ok (.iload_n 3, 1) := by decide +kernel
theorem dX10_learns_42 : decode cX10_learns 42 = .ok (.ifCond .ne 7, 3) := by decide +kernel
theorem dX10_learns_45 : decode cX10_learns 45 = .ok (.iload_n 2, 1) := by decide +kernel
theorem dX10_learns_46 : decode cX10_learns 46 = .ok (.goto 5, 3) := by decide +kernel
theorem dX10_learns_49 : decode cX10_learns 49 = .ok (.iload_n 2, 1) := by decide +kernel
theorem dX10_learns_50 : decode cX10_learns 50 = .ok (.ineg, 1) := by decide +kernel
theorem dX10_learns_51 : decode cX10_learns 51 = .ok (.iadd, 1) := by decide +kernel
theorem dX10_learns_52 : decode cX10_learns 52 = .ok (.aload_n 0, 1) := by decide +kernel
theorem dX10_learns_53 : decode cX10_learns 53 = .ok (.getfield 17, 3) := by decide +kernel
theorem dX10_learns_56 : decode cX10_learns 56 = .ok (.aload_n 0, 1) := by decide +kernel
theorem dX10_learns_57 : decode cX10_learns 57 = .ok (.getfield 41, 3) := by decide +kernel
theorem dX10_learns_60 : decode cX10_learns 60 = .ok (.iconst 1, 1) := by decide +kernel
theorem dX10_learns_61 : decode cX10_learns 61 = .ok (.iadd, 1) := by decide +kernel
theorem dX10_learns_62 : decode cX10_learns 62 = .ok (.iaload, 1) := by decide +kernel
theorem dX10_learns_63 : decode cX10_learns 63 = .ok (.invokestatic 164, 3) := by decide +kernel
theorem dX10_learns_66 : decode cX10_learns 66 = .ok (.iastore, 1) := by decide +kernel
theorem dX10_learns_67 : decode cX10_learns 67 = .ok (.aload_n 0, 1) := by decide +kernel
theorem dX10_learns_68 : decode cX10_learns 68 = .ok (.iload_n 3, 1) := by decide +kernel
theorem dX10_learns_69 : decode cX10_learns 69 = .ok (.iload_n 1, 1) := by decide +kernel
theorem dX10_learns_70 : decode cX10_learns 70 = .ok (.invokevirtual 85, 3) := by decide +kernel
theorem dX10_learns_73 : decode cX10_learns 73 = .ok (.return_, 1) := by decide +kernel
theorem dX10_learns_74 : decode cX10_learns 74 = .ok (.iinc 3 1, 3) := by decide +kernel
theorem dX10_learns_77 : decode cX10_learns 77 = .ok (.goto (-75), 3) := by decide +kernel
theorem dX10_learns_80 : decode cX10_learns 80 = .ok (.return_, 1) := by decide +kernel
theorem dX10_tellsAll_0 : decode cX10_tellsAll 0 = .ok (.aload_n 0, 1) := by decide +kernel
theorem dX10_tellsAll_1 : decode cX10_tellsAll 1 = .ok (.iload_n 1, 1) := by decide +kernel
theorem dX10_tellsAll_2 : decode cX10_tellsAll 2 = .ok (.iconst 1, 1) := by decide +kernel
theorem dX10_tellsAll_3 : decode cX10_tellsAll 3 = .ok (.iload_n 2, 1) := by decide +kernel
theorem dX10_tellsAll_4 : decode cX10_tellsAll 4 = .ok (.invokevirtual 121, 3) := by decide +kernel
theorem dX10_tellsAll_7 : decode cX10_tellsAll 7 = .ok (.aload_n 0, 1) := by decide +kernel
theorem dX10_tellsAll_8 : decode cX10_tellsAll 8 = .ok (.iload_n 1, 1) := by decide +kernel
theorem dX10_tellsAll_9 : decode cX10_tellsAll 9 = .ok (.iconst 2, 1) := by decide +kernel
theorem dX10_tellsAll_10 : decode cX10_tellsAll 10 = .ok (.iload_n 3, 1) := by decide +kernel
theorem dX10_tellsAll_11 : decode cX10_tellsAll 11 = .ok (.invokevirtual 121, 3) := by decide +kernel
theorem dX10_tellsAll_14 : decode cX10_tellsAll 14 = .ok (.aload_n 0, 1) := by decide +kernel
theorem dX10_tellsAll_15 : decode cX10_tellsAll 15 = .ok (.iload_n 1, 1) := by decide +kernel
theorem dX10_tellsAll_16 : decode cX10_tellsAll 16 = .ok (.iconst 5, 1) := by decide +kernel
theorem dX10_tellsAll_17 : decode cX10_tellsAll 17 = .ok (.iload 4, 2) := by decide +kernel
theorem dX10_tellsAll_19 : decode cX10_tellsAll 19 = .ok (.invokevirtual 121, 3) := by decide +kernel
theorem dX10_tellsAll_22 : decode cX10_tellsAll 22 = .ok (.return_, 1) := by decide +kernel
theorem dX10_puts_0 : decode cX10_puts 0 = .ok (.aload_n 0, 1) := by decide +kernel
theorem dX10_puts_1 : decode cX10_puts 1 = .ok (.iload_n 1, 1) := by decide +kernel
theorem dX10_puts_2 : decode cX10_puts 2 = .ok (.iload_n 3, 1) := by decide +kernel
theorem dX10_puts_3 : decode cX10_puts 3 = .ok (.invokevirtual 167, 3) := by decide +kernel
theorem dX10_puts_6 : decode cX10_puts 6 = .ok (.ifCond .eq 30, 3) := by decide +kernel
theorem dX10_puts_9 : decode cX10_puts 9 = .ok (.aload_n 0, 1) := by decide +kernel
theorem dX10_puts_10 : decode cX10_puts 10 = .ok (.getfield 17, 3) := by decide +kernel
theorem dX10_puts_13 : decode cX10_puts 13 = .ok (.aload_n 0, 1) := by decide +kernel
theorem dX10_puts_14 : decode cX10_puts 14 = .ok (.getfield 41, 3) := by decide +kernel
theorem dX10_puts_17 : decode cX10_puts 17 = .ok (.bipush 12, 2) := by decide +kernel
theorem dX10_puts_19 : decode cX10_puts 19 = .ok (.iadd, 1) := by decide +kernel
theorem dX10_puts_20 : decode cX10_puts 20 = .ok (.dup2, 1) := by decide +kernel
theorem dX10_puts_21 : decode cX10_puts 21 = .ok (.iaload, 1) := by decide +kernel
theorem dX10_puts_22 : decode cX10_puts 22 = .ok (.iconst 1, 1) := by decide +kernel
theorem dX10_puts_23 : decode cX10_puts 23 = .ok (.iadd, 1) := by decide +kernel
theorem dX10_puts_24 : decode cX10_puts 24 = .ok (.iastore, 1) := by decide +kernel
theorem dX10_puts_25 : decode cX10_puts 25 = .ok (.aload_n 0, 1) := by decide +kernel
theorem dX10_puts_26 : decode cX10_puts 26 = .ok (.bipush 6, 2) := by decide +kernel
theorem dX10_puts_28 : decode cX10_puts 28 = .ok (.iload_n 1, 1) := by decide +kernel
theorem dX10_puts_29 : decode cX10_puts 29 = .ok (.iconst 0, 1) := by decide +kernel
theorem dX10_puts_30 : decode cX10_puts 30 = .ok (.iload_n 3, 1) := by decide +kernel
theorem dX10_puts_31 : decode cX10_puts 31 = .ok (.invokevirtual 91, 3) := by decide +kernel
theorem dX10_puts_34 : decode cX10_puts 34 = .ok (.iconst (-1), 1) := by decide +kernel
theorem dX10_puts_35 : decode cX10_puts 35 = .ok (.ireturn, 1) := by decide +kernel
theorem dX10_puts_36 : decode cX10_puts 36 = .ok (.aload_n 0, 1) := by decide +kernel
theorem dX10_puts_37 : decode cX10_puts 37 = .ok (.iload_n 1, 1) := by decide +kernel
theorem dX10_puts_38 : decode cX10_puts 38 = .ok (.iload_n 3, 1) := by decide +kernel
theorem dX10_puts_39 : decode cX10_puts 39 = .ok (.invokevirtual 170, 3) := by decide +kernel
theorem dX10_puts_42 : decode cX10_puts 42 = .ok (.aload_n 0, 1) := by decide +kernel
theorem dX10_puts_43 : decode cX10_puts 43 = .ok (.iload_n 1, 1) := by decide +kernel
theorem dX10_puts_44 : decode cX10_puts 44 = .ok (.invokevirtual 118, 3) := by decide +kernel
theorem dX10_puts_47 : decode cX10_puts 47 = .ok (.iconst (-1), 1) := by decide +kernel
theorem dX10_puts_48 : decode cX10_puts 48 = .ok (.if_icmp .ne 7, 3) := by decide +kernel
theorem dX10_puts_51 : decode cX10_puts 51 = .ok (.iconst 1, 1) := by decide +kernel
theorem dX10_puts_52 : decode cX10_puts 52 = .ok (.goto 4, 3) := by decide +kernel
theorem dX10_puts_55 : decode cX10_puts 55 = .ok (.iconst 0, 1) := by decide +kernel
theorem dX10_puts_56 : decode cX10_puts 56 = .ok (.istore 5, 2) := by decide +kernel
theorem dX10_puts_58 : decode cX10_puts 58 = .ok (.iload 5, 2) := by decide +kernel
theorem dX10_puts_60 : decode cX10_puts 60 = .ok (.ifCond .eq 28, 3) := by decide +kernel
theorem dX10_puts_63 : decode cX10_puts 63 = .ok (.aload_n 0, 1) := by decide +kernel
theorem dX10_puts_64 : decode cX10_puts 64 = .ok (.getfield 17, 3) := by decide +kernel
theorem dX10_puts_67 : decode cX10_puts 67 = .ok (.aload_n 0, 1) := by decide +kernel
theorem dX10_puts_68 : decode cX10_puts 68 = .ok (.getfield 41, 3) := by decide +kernel
theorem dX10_puts_71 : decode cX10_puts 71 = .ok (.iconst 0, 1) := by decide +kernel
theorem dX10_puts_72 : decode cX10_puts 72 = .ok (.iadd, 1) := by decide +kernel
theorem dX10_puts_73 : decode cX10_puts 73 = .ok (.iaload, 1) := by decide +kernel
theorem dX10_puts_74 : decode cX10_puts 74 = .ok (.bipush 60, 2) := by decide +kernel
theorem dX10_puts_76 : decode cX10_puts 76 = .ok (.if_icmp .ne 25, 3) := by decide +kernel
theorem dX10_puts_79 : decode cX10_puts 79 = .ok (.aload_n 0, 1) := by decide +kernel
theorem dX10_puts_80 : decode cX10_puts 80 = .ok (.iload_n 1, 1) := by decide +kernel
theorem dX10_puts_81 : decode cX10_puts 81 = .ok (.invokevirtual 173, 3) := by decide +kernel
theorem dX10_puts_84 : decode cX10_puts 84 = .ok (.pop, 1) := by decide +kernel
theorem dX10_puts_85 : decode cX10_puts 85 = .ok (.goto (-22), 3) := by decide +kernel
theorem dX10_puts_88 : decode cX10_puts 88 = .ok (.aload_n 0, 1) := by decide +kernel
theorem dX10_puts_89 : decode cX10_puts 89 = .ok (.aload_n 0, 1) := by decide +kernel
theorem dX10_puts_90 : decode cX10_puts 90 = .ok (.iload_n 1, 1) := by decide +kernel
theorem dX10_puts_91 : decode cX10_puts 91 = .ok (.invokevirtual 118, 3) := by decide +kernel
theorem dX10_puts_94 : decode cX10_puts 94 = .ok (.iload_n 2, 1) := by decide +kernel
theorem dX10_puts_95 : decode cX10_puts 95 = .ok (.iload_n 3, 1) := by decide +kernel
theorem dX10_puts_96 : decode cX10_puts 96 = .ok (.iload 4, 2) := by decide +kernel
theorem dX10_puts_98 : decode cX10_puts 98 = .ok (.invokevirtual 176, 3) := by decide +kernel
theorem dX10_puts_101 : decode cX10_puts 101 = .ok (.aload_n 0, 1) := by decide +kernel
theorem dX10_puts_102 : decode cX10_puts 102 = .ok (.invokevirtual 179, 3) := by decide +kernel
theorem dX10_puts_105 : decode cX10_puts 105 = .ok (.iload 5, 2) := by decide +kernel
theorem dX10_puts_107 : decode cX10_puts 107 = .ok (.ifCond .eq 7, 3) := by decide +kernel
theorem dX10_puts_110 : decode cX10_puts 110 = .ok (.iload_n 3, 1) := by decide +kernel
theorem dX10_puts_111 : decode cX10_puts 111 = .ok (.goto 4, 3) := by decide +kernel
theorem dX10_puts_114 : decode cX10_puts 114 = .ok (.iconst 0, 1) := by decide +kernel
theorem dX10_puts_115 : decode cX10_puts 115 = .ok (.iadd, 1) := by decide +kernel
theorem dX10_puts_116 : decode cX10_puts 116 = .ok (.aload_n 0, 1) := by decide +kernel
theorem dX10_puts_117 : decode cX10_puts 117 = .ok (.getfield 17, 3) := by decide +kernel
theorem dX10_puts_120 : decode cX10_puts 120 = .ok (.aload_n 0, 1) := by decide +kernel
theorem dX10_puts_121 : decode cX10_puts 121 = .ok (.getfield 41, 3) := by decide +kernel
theorem dX10_puts_124 : decode cX10_puts 124 = .ok (.iconst 1, 1) := by decide +kernel
theorem dX10_puts_125 : decode cX10_puts 125 = .ok (.iadd, 1) := by decide +kernel
theorem dX10_puts_126 : decode cX10_puts 126 = .ok (.iaload, 1) := by decide +kernel
theorem dX10_puts_127 : decode cX10_puts 127 = .ok (.if_icmp .le 12, 3) := by decide +kernel
theorem dX10_puts_130 : decode cX10_puts 130 = .ok (.aload_n 0, 1) := by decide +kernel
theorem dX10_puts_131 : decode cX10_puts 131 = .ok (.iload_n 1, 1) := by decide +kernel
theorem dX10_puts_132 : decode cX10_puts 132 = .ok (.invokevirtual 173, 3) := by decide +kernel
theorem dX10_puts_135 : decode cX10_puts 135 = .ok (.pop, 1) := by decide +kernel
theorem dX10_puts_136 : decode cX10_puts 136 = .ok (.goto (-35), 3) := by decide +kernel
theorem dX10_puts_139 : decode cX10_puts 139 = .ok (.iload 5, 2) := by decide +kernel
theorem dX10_puts_141 : decode cX10_puts 141 = .ok (.ifCond .ne 11, 3) := by decide +kernel
theorem dX10_puts_144 : decode cX10_puts 144 = .ok (.aload_n 0, 1) := by decide +kernel
theorem dX10_puts_145 : decode cX10_puts 145 = .ok (.iconst 1, 1) := by decide +kernel
theorem dX10_puts_146 : decode cX10_puts 146 = .ok (.iload_n 1, 1) := by decide +kernel
theorem dX10_puts_147 : decode cX10_puts 147 = .ok (.iload_n 2, 1) := by decide +kernel
theorem dX10_puts_148 : decode cX10_puts 148 = .ok (.iload_n 3, 1) := by decide +kernel
theorem dX10_puts_149 : decode cX10_puts 149 = .ok (.invokevirtual 91, 3) := by decide +kernel
theorem dX10_puts_152 : decode cX10_puts 152 = .ok (.iload 5, 2) := by decide +kernel
theorem dX10_puts_154 : decode cX10_puts 154 = .ok (.ifCond .eq 74, 3) := by decide +kernel
theorem dX10_puts_157 : decode cX10_puts 157 = .ok (.aload_n 0, 1) := by decide +kernel
theorem dX10_puts_158 : decode cX10_puts 158 = .ok (.getfield 17, 3) := by decide +kernel
theorem dX10_puts_161 : decode cX10_puts 161 = .ok (.aload_n 0, 1) := by decide +kernel
theorem dX10_puts_162 : decode cX10_puts 162 = .ok (.getfield 41, 3) := by decide +kernel
theorem dX10_puts_165 : decode cX10_puts 165 = .ok (.iconst 0, 1) := by decide +kernel
theorem dX10_puts_166 : decode cX10_puts 166 = .ok (.iadd, 1) := by decide +kernel
theorem dX10_puts_167 : decode cX10_puts 167 = .ok (.iaload, 1) := by decide +kernel
theorem dX10_puts_168 : decode cX10_puts 168 = .ok (.istore 6, 2) := by decide +kernel
theorem dX10_puts_170 : decode cX10_puts 170 = .ok (.aload_n 0, 1) := by decide +kernel
theorem dX10_puts_171 : decode cX10_puts 171 = .ok (.getfield 17, 3) := by decide +kernel
theorem dX10_puts_174 : decode cX10_puts 174 = .ok (.aload_n 0, 1) := by decide +kernel
theorem dX10_puts_175 : decode cX10_puts 175 = .ok (.getfield 41, 3) := by decide +kernel
theorem dX10_puts_178 : decode cX10_puts 178 = .ok (.iconst 0, 1) := by decide +kernel
theorem dX10_puts_179 : decode cX10_puts 179 = .ok (.iadd, 1) := by decide +kernel
theorem dX10_puts_180 : decode cX10_puts 180 = .ok (.dup2, 1) := by decide +kernel
theorem dX10_puts_181 : decode cX10_puts 181 = .ok (.iaload, 1) := by decide +kernel
theorem dX10_puts_182 : decode cX10_puts 182 = .ok (.iconst 1, 1) := by decide +kernel
theorem dX10_puts_183 : decode cX10_puts 183 = .ok (.iadd, 1) := by decide +kernel
theorem dX10_puts_184 : decode cX10_puts 184 = .ok (.iastore, 1) := by decide +kernel
theorem dX10_puts_185 : decode cX10_puts 185 = .ok (.aload_n 0, 1) := by decide +kernel
theorem dX10_puts_186 : decode cX10_puts 186 = .ok (.iload 6, 2) := by decide +kernel
theorem dX10_puts_188 : decode cX10_puts 188 = .ok (.iconst 0, 1) := by decide +kernel
theorem dX10_puts_189 : decode cX10_puts 189 = .ok (.iload_n 1, 1) := by decide +kernel
theorem dX10_puts_190 : decode cX10_puts 190 = .ok (.invokevirtual 121, 3) := by decide +kernel
theorem dX10_puts_193 : decode cX10_puts 193 = .ok (.aload_n 0, 1) := by decide +kernel
theorem dX10_puts_194 : decode cX10_puts 194 = .ok (.iload 6, 2) := by decide +kernel
theorem dX10_puts_196 : decode cX10_puts 196 = .ok (.iload_n 2, 1) := by decide +kernel
theorem dX10_puts_197 : decode cX10_puts 197 = .ok (.iload_n 3, 1) := by decide +kernel
theorem dX10_puts_198 : decode cX10_puts 198 = .ok (.iload 4, 2) := by decide +kernel
theorem dX10_puts_200 : decode cX10_puts 200 = .ok (.invokevirtual 176, 3) := by decide +kernel
theorem dX10_puts_203 : decode cX10_puts 203 = .ok (.aload_n 0, 1) := by decide +kernel
theorem dX10_puts_204 : decode cX10_puts 204 = .ok (.iload 6, 2) := by decide +kernel
theorem dX10_puts_206 : decode cX10_puts 206 = .ok (.iconst 3, 1) := by decide +kernel
theorem dX10_puts_207 : decode cX10_puts 207 = .ok (.iconst 0, 1) := by decide +kernel
theorem dX10_puts_208 : decode cX10_puts 208 = .ok (.invokevirtual 121, 3) := by decide +kernel
theorem dX10_puts_211 : decode cX10_puts 211 = .ok (.aload_n 0, 1) := by decide +kernel
theorem dX10_puts_212 : decode cX10_puts 212 = .ok (.iload 6, 2) := by decide +kernel
theorem dX10_puts_214 : decode cX10_puts 214 = .ok (.bipush 6, 2) := by decide +kernel
theorem dX10_puts_216 : decode cX10_puts 216 = .ok (.iconst 0, 1) := by decide +kernel
theorem dX10_puts_217 : decode cX10_puts 217 = .ok (.invokevirtual 121, 3) := by decide +kernel
theorem dX10_puts_220 : decode cX10_puts 220 = .ok (.aload_n 0, 1) := by decide +kernel
theorem dX10_puts_221 : decode cX10_puts 221 = .ok (.iconst 0, 1) := by decide +kernel
theorem dX10_puts_222 : decode cX10_puts 222 = .ok (.iload_n 1, 1) := by decide +kernel
theorem dX10_puts_223 : decode cX10_puts 223 = .ok (.iload_n 2, 1) := by decide +kernel
theorem dX10_puts_224 : decode cX10_puts 224 = .ok (.iload_n 3, 1) := by decide +kernel
theorem dX10_puts_225 : decode cX10_puts 225 = .ok (.invokevirtual 91, 3) := by decide +kernel
theorem dX10_puts_228 : decode cX10_puts 228 = .ok (.aload_n 0, 1) := by decide +kernel
theorem dX10_puts_229 : decode cX10_puts 229 = .ok (.aload_n 0, 1) := by decide +kernel
theorem dX10_puts_230 : decode cX10_puts 230 = .ok (.iload_n 1, 1) := by decide +kernel
theorem dX10_puts_231 : decode cX10_puts 231 = .ok (.invokevirtual 118, 3) := by decide +kernel
theorem dX10_puts_234 : decode cX10_puts 234 = .ok (.invokevirtual 182, 3) := by decide +kernel
theorem dX10_puts_237 : decode cX10_puts 237 = .ok (.iload 5, 2) := by decide +kernel
theorem dX10_puts_239 : decode cX10_puts 239 = .ok (.invokestatic 57, 3) := by decide +kernel
theorem dX10_puts_242 : decode cX10_puts 242 = .ok (.ireturn, 1) := by decide +kernel
theorem dX10_gets_0 : decode cX10_gets 0 = .ok (.aload_n 0, 1) := by decide +kernel
theorem dX10_gets_1 : decode cX10_gets 1 = .ok (.iload_n 1, 1) := by decide +kernel
theorem dX10_gets_2 : decode cX10_gets 2 = .ok (.invokevirtual 118, 3) := by decide +kernel
theorem dX10_gets_5 : decode cX10_gets 5 = .ok (.istore_n 2, 1) := by decide +kernel
theorem dX10_gets_6 : decode cX10_gets 6 = .ok (.iload_n 2, 1) := by decide +kernel
theorem dX10_gets_7 : decode cX10_gets 7 = .ok (.iconst (-1), 1) := by decide +kernel
theorem dX10_gets_8 : decode cX10_gets 8 = .ok (.if_icmp .ne 29, 3) := by decide +kernel
theorem dX10_gets_11 : decode cX10_gets 11 = .ok (.aload_n 0, 1) := by decide +kernel
theorem dX10_gets_12 : decode cX10_gets 12 = .ok (.getfield 17, 3) := by decide +kernel
theorem dX10_gets_15 : decode cX10_gets 15 = .ok (.aload_n 0, 1) := by decide +kernel
theorem dX10_gets_16 : decode cX10_gets 16 = .ok (.getfield 41, 3) := by decide +kernel
theorem dX10_gets_19 : decode cX10_gets 19 = .ok (.bipush 9, 2) := by decide +kernel
theorem dX10_gets_21 : decode cX10_gets 21 = .ok (.iadd, 1) := by decide +kernel
theorem dX10_gets_22 : decode cX10_gets 22 = .ok (.dup2, 1) := by decide +kernel
theorem dX10_gets_23 : decode cX10_gets 23 = .ok (.iaload, 1) := by decide +kernel
theorem dX10_gets_24 : decode cX10_gets 24 = .ok (.iconst 1, 1) := by decide +kernel
theorem dX10_gets_25 : decode cX10_gets 25 = .ok (.iadd, 1) := by decide +kernel
theorem dX10_gets_26 : decode cX10_gets 26 = .ok (.iastore, 1) := by decide +kernel
theorem dX10_gets_27 : decode cX10_gets 27 = .ok (.aload_n 0, 1) := by decide +kernel
theorem dX10_gets_28 : decode cX10_gets 28 = .ok (.iconst 5, 1) := by decide +kernel
theorem dX10_gets_29 : decode cX10_gets 29 = .ok (.iload_n 1, 1) := by decide +kernel
theorem dX10_gets_30 : decode cX10_gets 30 = .ok (.iconst 0, 1) := by decide +kernel
theorem dX10_gets_31 : decode cX10_gets 31 = .ok (.iconst 0, 1) := by decide +kernel
theorem dX10_gets_32 : decode cX10_gets 32 = .ok (.invokevirtual 91, 3) := by decide +kernel
theorem dX10_gets_35 : decode cX10_gets 35 = .ok (.iconst 0, 1) := by decide +kernel
theorem dX10_gets_36 : decode cX10_gets 36 = .ok (.ireturn, 1) := by decide +kernel
theorem dX10_gets_37 : decode cX10_gets 37 = .ok (.aload_n 0, 1) := by decide +kernel
theorem dX10_gets_38 : decode cX10_gets 38 = .ok (.getfield 17, 3) := by decide +kernel
theorem dX10_gets_41 : decode cX10_gets 41 = .ok (.aload_n 0, 1) := by decide +kernel
theorem dX10_gets_42 : decode cX10_gets 42 = .ok (.getfield 41, 3) := by decide +kernel
theorem dX10_gets_45 : decode cX10_gets 45 = .ok (.bipush 8, 2) := by decide +kernel
theorem dX10_gets_47 : decode cX10_gets 47 = .ok (.iadd, 1) := by decide +kernel
theorem dX10_gets_48 : decode cX10_gets 48 = .ok (.dup2, 1) := by decide +kernel
theorem dX10_gets_49 : decode cX10_gets 49 = .ok (.iaload, 1) := by decide +kernel
theorem dX10_gets_50 : decode cX10_gets 50 = .ok (.iconst 1, 1) := by decide +kernel
theorem dX10_gets_51 : decode cX10_gets 51 = .ok (.iadd, 1) := by decide +kernel
theorem dX10_gets_52 : decode cX10_gets 52 = .ok (.iastore, 1) := by decide +kernel
theorem dX10_gets_53 : decode cX10_gets 53 = .ok (.aload_n 0, 1) := by decide +kernel
theorem dX10_gets_54 : decode cX10_gets 54 = .ok (.iload_n 2, 1) := by decide +kernel
theorem dX10_gets_55 : decode cX10_gets 55 = .ok (.invokevirtual 182, 3) := by decide +kernel
theorem dX10_gets_58 : decode cX10_gets 58 = .ok (.iconst 1, 1) := by decide +kernel
theorem dX10_gets_59 : decode cX10_gets 59 = .ok (.ireturn, 1) := by decide +kernel
theorem dX10_removes_0 : decode cX10_removes 0 = .ok (.aload_n 0, 1) := by decide +kernel
theorem dX10_removes_1 : decode cX10_removes 1 = .ok (.iload_n 1, 1) := by decide +kernel
theorem dX10_removes_2 : decode cX10_removes 2 = .ok (.invokevirtual 118, 3) := by decide +kernel
theorem dX10_removes_5 : decode cX10_removes 5 = .ok (.istore_n 2, 1) := by decide +kernel
theorem dX10_removes_6 : decode cX10_removes 6 = .ok (.iload_n 2, 1) := by decide +kernel
theorem dX10_removes_7 : decode cX10_removes 7 = .ok (.iconst (-1), 1) := by decide +kernel
theorem dX10_removes_8 : decode cX10_removes 8 = .ok (.if_icmp .ne 5, 3) := by decide +kernel
theorem dX10_removes_11 : decode cX10_removes 11 = .ok (.iconst 0, 1) := by decide +kernel
theorem dX10_removes_12 : decode cX10_removes 12 = .ok (.ireturn, 1) := by decide +kernel
theorem dX10_removes_13 : decode cX10_removes 13 = .ok (.aload_n 0, 1) := by decide +kernel
theorem dX10_removes_14 : decode cX10_removes 14 = .ok (.iconst 4, 1) := by decide +kernel
theorem dX10_removes_15 : decode cX10_removes 15 = .ok (.iload_n 1, 1) := by decide +kernel
theorem dX10_removes_16 : decode cX10_removes 16 = .ok (.aload_n 0, 1) := by decide +kernel
theorem dX10_removes_17 : decode cX10_removes 17 = .ok (.iload_n 2, 1) := by decide +kernel
theorem dX10_removes_18 : decode cX10_removes 18 = .ok (.iconst 1, 1) := by decide +kernel
theorem dX10_removes_19 : decode cX10_removes 19 = .ok (.invokevirtual 44, 3) := by decide +kernel
theorem dX10_removes_22 : decode cX10_removes 22 = .ok (.aload_n 0, 1) := by decide +kernel
theorem dX10_removes_23 : decode cX10_removes 23 = .ok (.iload_n 2, 1) := by decide +kernel
theorem dX10_removes_24 : decode cX10_removes 24 = .ok (.iconst 2, 1) := by decide +kernel
theorem dX10_removes_25 : decode cX10_removes 25 = .ok (.invokevirtual 44, 3) := by decide +kernel
theorem dX10_removes_28 : decode cX10_removes 28 = .ok (.invokevirtual 91, 3) := by decide +kernel
theorem dX10_removes_31 : decode cX10_removes 31 = .ok (.aload_n 0, 1) := by decide +kernel
theorem dX10_removes_32 : decode cX10_removes 32 = .ok (.iload_n 2, 1) := by decide +kernel
theorem dX10_removes_33 : decode cX10_removes 33 = .ok (.invokevirtual 101, 3) := by decide +kernel
theorem dX10_removes_36 : decode cX10_removes 36 = .ok (.iconst 1, 1) := by decide +kernel
theorem dX10_removes_37 : decode cX10_removes 37 = .ok (.ireturn, 1) := by decide +kernel
theorem dX10_caps_0 : decode cX10_caps 0 = .ok (.aload_n 0, 1) := by decide +kernel
theorem dX10_caps_1 : decode cX10_caps 1 = .ok (.getfield 17, 3) := by decide +kernel
theorem dX10_caps_4 : decode cX10_caps 4 = .ok (.aload_n 0, 1) := by decide +kernel
theorem dX10_caps_5 : decode cX10_caps 5 = .ok (.getfield 41, 3) := by decide +kernel
theorem dX10_caps_8 : decode cX10_caps 8 = .ok (.iconst 1, 1) := by decide +kernel
theorem dX10_caps_9 : decode cX10_caps 9 = .ok (.iadd, 1) := by decide +kernel
theorem dX10_caps_10 : decode cX10_caps 10 = .ok (.iload_n 1, 1) := by decide +kernel
theorem dX10_caps_11 : decode cX10_caps 11 = .ok (.iastore, 1) := by decide +kernel
theorem dX10_caps_12 : decode cX10_caps 12 = .ok (.aload_n 0, 1) := by decide +kernel
theorem dX10_caps_13 : decode cX10_caps 13 = .ok (.getfield 17, 3) := by decide +kernel
theorem dX10_caps_16 : decode cX10_caps 16 = .ok (.aload_n 0, 1) := by decide +kernel
theorem dX10_caps_17 : decode cX10_caps 17 = .ok (.getfield 41, 3) := by decide +kernel
theorem dX10_caps_20 : decode cX10_caps 20 = .ok (.iconst 3, 1) := by decide +kernel
theorem dX10_caps_21 : decode cX10_caps 21 = .ok (.iadd, 1) := by decide +kernel
theorem dX10_caps_22 : decode cX10_caps 22 = .ok (.aload_n 0, 1) := by decide +kernel
theorem dX10_caps_23 : decode cX10_caps 23 = .ok (.getfield 17, 3) := by decide +kernel
theorem dX10_caps_26 : decode cX10_caps 26 = .ok (.aload_n 0, 1) := by decide +kernel
theorem dX10_caps_27 : decode cX10_caps 27 = .ok (.getfield 41, 3) := by decide +kernel
theorem dX10_caps_30 : decode cX10_caps 30 = .ok (.iconst 3, 1) := by decide +kernel
theorem dX10_caps_31 : decode cX10_caps 31 = .ok (.iadd, 1) := by decide +kernel
theorem dX10_caps_32 : decode cX10_caps 32 = .ok (.iaload, 1) := by decide +kernel
theorem dX10_caps_33 : decode cX10_caps 33 = .ok (.iload_n 1, 1) := by decide +kernel
theorem dX10_caps_34 : decode cX10_caps 34 = .ok (.invokestatic 164, 3) := by decide +kernel
theorem dX10_caps_37 : decode cX10_caps 37 = .ok (.iastore, 1) := by decide +kernel
theorem dX10_caps_38 : decode cX10_caps 38 = .ok (.iconst 0, 1) := by decide +kernel
theorem dX10_caps_39 : decode cX10_caps 39 = .ok (.istore_n 2, 1) := by decide +kernel
theorem dX10_caps_40 : decode cX10_caps 40 = .ok (.aload_n 0, 1) := by decide +kernel
theorem dX10_caps_41 : decode cX10_caps 41 = .ok (.invokevirtual 179, 3) := by decide +kernel
theorem dX10_caps_44 : decode cX10_caps 44 = .ok (.iload_n 1, 1) := by decide +kernel
theorem dX10_caps_45 : decode cX10_caps 45 = .ok (.if_icmp .le 17, 3) := by decide +kernel
theorem dX10_caps_48 : decode cX10_caps 48 = .ok (.aload_n 0, 1) := by decide +kernel
theorem dX10_caps_49 : decode cX10_caps 49 = .ok (.iconst (-1), 1) := by decide +kernel
theorem dX10_caps_50 : decode cX10_caps 50 = .ok (.invokevirtual 173, 3) := by decide +kernel
theorem dX10_caps_53 : decode cX10_caps 53 = .ok (.ifCond .eq 9, 3) := by decide +kernel
theorem dX10_caps_56 : decode cX10_caps 56 = .ok (.iinc 2 1, 3) := by decide +kernel
theorem dX10_caps_59 : decode cX10_caps 59 = .ok (.goto (-19), 3) := by decide +kernel
theorem dX10_caps_62 : decode cX10_caps 62 = .ok (.iload_n 2, 1) := by decide +kernel
theorem dX10_caps_63 : decode cX10_caps 63 = .ok (.ireturn, 1) := by decide +kernel
theorem dX10_requests_0 : decode cX10_requests 0 = .ok (.aload_n 0, 1) := by decide +kernel
theorem dX10_requests_1 : decode cX10_requests 1 = .ok (.getfield 17, 3) := by decide +kernel
theorem dX10_requests_4 : decode cX10_requests 4 = .ok (.bipush 14, 2) := by decide +kernel
theorem dX10_requests_6 : decode cX10_requests 6 = .ok (.iaload, 1) := by decide +kernel
theorem dX10_requests_7 : decode cX10_requests 7 = .ok (.bipush 100, 2) := by decide +kernel
theorem dX10_requests_9 : decode cX10_requests 9 = .ok (.if_icmp .ne 50, 3) := by decide +kernel
theorem dX10_requests_12 : decode cX10_requests 12 = .ok (.iconst 0, 1) := by decide +kernel
theorem dX10_requests_13 : decode cX10_requests 13 = .ok (.istore_n 2, 1) := by decide +kernel
theorem dX10_requests_14 : decode cX10_requests 14 = .ok (.iload_n 2, 1) := by decide +kernel
theorem dX10_requests_15 : decode cX10_requests 15 = .ok (.bipush 99, 2) := by decide +kernel
theorem dX10_requests_17 : decode cX10_requests 17 = .ok (.if_icmp .ge 31, 3) := by decide +kernel
theorem dX10_requests_20 : decode cX10_requests 20 = .ok (.aload_n 0, 1) := by decide +kernel
theorem dX10_requests_21 : decode cX10_requests 21 = .ok (.getfield 17, 3) := by decide +kernel
theorem dX10_requests_24 : decode cX10_requests 24 = .ok (.sipush 748, 3) := by decide +kernel
theorem dX10_requests_27 : decode cX10_requests 27 = .ok (.iload_n 2, 1) := by decide +kernel
theorem dX10_requests_28 : decode cX10_requests 28 = .ok (.iadd, 1) := by decide +kernel
theorem dX10_requests_29 : decode cX10_requests 29 = .ok (.aload_n 0, 1) := by decide +kernel
theorem dX10_requests_30 : decode cX10_requests 30 = .ok (.getfield 17, 3) := by decide +kernel
theorem dX10_requests_33 : decode cX10_requests 33 = .ok (.sipush 748, 3) := by decide +kernel
theorem dX10_requests_36 : decode cX10_requests 36 = .ok (.iload_n 2, 1) := by decide +kernel
theorem dX10_requests_37 : decode cX10_requests 37 = .ok (.iadd, 1) := by decide +kernel
theorem dX10_requests_38 : decode cX10_requests 38 = .ok (.iconst 1, 1) := by decide +kernel
theorem dX10_requests_39 : decode cX10_requests 39 = .ok (.iadd, 1) := by decide +kernel
theorem dX10_requests_40 : decode cX10_requests 40 = .ok (.iaload, 1) := by decide +kernel
theorem dX10_requests_41 : decode cX10_requests 41 = .ok (.iastore, 1) := by decide +kernel
theorem dX10_requests_42 : decode cX10_requests 42 = .ok (.iinc 2 1, 3) := by decide +kernel
theorem dX10_requests_45 : decode cX10_requests 45 = .ok (.goto (-31), 3) := by decide +kernel
theorem dX10_requests_48 : decode cX10_requests 48 = .ok (.aload_n 0, 1) := by decide +kernel
theorem dX10_requests_49 : decode cX10_requests 49 = .ok (.getfield 17, 3) := by decide +kernel
theorem dX10_requests_52 : decode cX10_requests 52 = .ok (.bipush 14, 2) := by decide +kernel
theorem dX10_requests_54 : decode cX10_requests 54 = .ok (.dup2, 1) := by decide +kernel
theorem dX10_requests_55 : decode cX10_requests 55 = .ok (.iaload, 1) := by decide +kernel
theorem dX10_requests_56 : decode cX10_requests 56 = .ok (.iconst 1, 1) := by decide +kernel
theorem dX10_requests_57 : decode cX10_requests 57 = .ok (.isub, 1) := by decide +kernel
theorem dX10_requests_58 : decode cX10_requests 58 = .ok (.iastore, 1) := by decide +kernel
theorem dX10_requests_59 : decode cX10_requests 59 = .ok (.aload_n 0, 1) := by decide +kernel
theorem dX10_requests_60 : decode cX10_requests 60 = .ok (.getfield 17, 3) := by decide +kernel
theorem dX10_requests_63 : decode cX10_requests 63 = .ok (.sipush 748, 3) := by decide +kernel
theorem dX10_requests_66 : decode cX10_requests 66 = .ok (.aload_n 0, 1) := by decide +kernel
theorem dX10_requests_67 : decode cX10_requests 67 = .ok (.getfield 17, 3) := by decide +kernel
theorem dX10_requests_70 : decode cX10_requests 70 = .ok (.bipush 14, 2) := by decide +kernel
theorem dX10_requests_72 : decode cX10_requests 72 = .ok (.iaload, 1) := by decide +kernel
theorem dX10_requests_73 : decode cX10_requests 73 = .ok (.iadd, 1) := by decide +kernel
theorem dX10_requests_74 : decode cX10_requests 74 = .ok (.iload_n 1, 1) := by decide +kernel
theorem dX10_requests_75 : decode cX10_requests 75 = .ok (.iastore, 1) := by decide +kernel
theorem dX10_requests_76 : decode cX10_requests 76 = .ok (.aload_n 0, 1) := by decide +kernel
theorem dX10_requests_77 : decode cX10_requests 77 = .ok (.getfield 17, 3) := by decide +kernel
theorem dX10_requests_80 : decode cX10_requests 80 = .ok (.bipush 14, 2) := by decide +kernel
theorem dX10_requests_82 : decode cX10_requests 82 = .ok (.dup2, 1) := by decide +kernel
theorem dX10_requests_83 : decode cX10_requests 83 = .ok (.iaload, 1) := by decide +kernel
theorem dX10_requests_84 : decode cX10_requests 84 = .ok (.iconst 1, 1) := by decide +kernel
theorem dX10_requests_85 : decode cX10_requests 85 = .ok (.iadd, 1) := by decide +kernel
theorem dX10_requests_86 : decode cX10_requests 86 = .ok (.iastore, 1) := by decide +kernel
theorem dX10_requests_87 : decode cX10_requests 87 = .ok (.return_, 1) := by decide +kernel
theorem dX10_putCalled_0 : decode cX10_putCalled 0 = .ok (.aload_n 0, 1) := by decide +kernel
theorem dX10_putCalled_1 : decode cX10_putCalled 1 = .ok (.invokevirtual 185, 3) := by decide +kernel
theorem dX10_putCalled_4 : decode cX10_putCalled 4 = .ok (.aload_n 0, 1) := by decide +kernel
theorem dX10_putCalled_5 : decode cX10_putCalled 5 = .ok (.iload_n 1, 1) := by decide +kernel
theorem dX10_putCalled_6 : decode cX10_putCalled 6 = .ok (.invokevirtual 188, 3) := by decide +kernel
theorem dX10_putCalled_9 : decode cX10_putCalled 9 = .ok (.aload_n 0, 1) := by decide +kernel
theorem dX10_putCalled_10 : decode cX10_putCalled 10 = .ok (.aload_n 0, 1) := by decide +kernel
theorem dX10_putCalled_11 : decode cX10_putCalled 11 = .ok (.iload_n 1, 1) := by decide +kernel
theorem dX10_putCalled_12 : decode cX10_putCalled 12 = .ok (.iload_n 2, 1) := by decide +kernel
theorem dX10_putCalled_13 : decode cX10_putCalled 13 = .ok (.iload_n 3, 1) := by decide +kernel
theorem dX10_putCalled_14 : decode cX10_putCalled 14 = .ok (.iload 4, 2) := by decide +kernel
theorem dX10_putCalled_16 : decode cX10_putCalled 16 = .ok (.ifCond .ne 7, 3) := by decide +kernel
theorem dX10_putCalled_19 : decode cX10_putCalled 19 = .ok (.iconst (-1), 1) := by decide +kernel
theorem dX10_putCalled_20 : decode cX10_putCalled 20 = .ok (.goto 12, 3) := by decide +kernel
theorem dX10_putCalled_23 : decode cX10_putCalled 23 = .ok (.aload_n 0, 1) := by decide +kernel
theorem dX10_putCalled_24 : decode cX10_putCalled 24 = .ok (.getfield 17, 3) := by decide +kernel
theorem dX10_putCalled_27 : decode cX10_putCalled 27 = .ok (.iconst 5, 1) := by decide +kernel
theorem dX10_putCalled_28 : decode cX10_putCalled 28 = .ok (.iaload, 1) := by decide +kernel
theorem dX10_putCalled_29 : decode cX10_putCalled 29 = .ok (.iload 4, 2) := by decide +kernel
theorem dX10_putCalled_31 : decode cX10_putCalled 31 = .ok (.iadd, 1) := by decide +kernel
theorem dX10_putCalled_32 : decode cX10_putCalled 32 = .ok (.invokevirtual 133, 3) := by decide +kernel
theorem dX10_putCalled_35 : decode cX10_putCalled 35 = .ok (.invokevirtual 191, 3) := by decide +kernel
theorem dX10_putCalled_38 : decode cX10_putCalled 38 = .ok (.ireturn, 1) := by decide +kernel
theorem dX10_put_0 : decode cX10_put 0 = .ok (.aload_n 0, 1) := by decide +kernel
theorem dX10_put_1 : decode cX10_put 1 = .ok (.iconst 0, 1) := by decide +kernel
theorem dX10_put_2 : decode cX10_put 2 = .ok (.putfield 1, 3) := by decide +kernel
theorem dX10_put_5 : decode cX10_put 5 = .ok (.iload_n 1, 1) := by decide +kernel
theorem dX10_put_6 : decode cX10_put 6 = .ok (.invokestatic 194, 3) := by decide +kernel
theorem dX10_put_9 : decode cX10_put 9 = .ok (.ifCond .eq 42, 3) := by decide +kernel
theorem dX10_put_12 : decode cX10_put 12 = .ok (.iload_n 2, 1) := by decide +kernel
theorem dX10_put_13 : decode cX10_put 13 = .ok (.i2l, 1) := by decide +kernel
theorem dX10_put_14 : decode cX10_put 14 = .ok (.ldc2_w 197, 3) := by decide +kernel
theorem dX10_put_17 : decode cX10_put 17 = .ok (.ldc2_w 199, 3) := by decide +kernel
theorem dX10_put_20 : decode cX10_put 20 = .ok (.invokestatic 49, 3) := by decide +kernel
theorem dX10_put_23 : decode cX10_put 23 = .ok (.ifCond .eq 28, 3) := by decide +kernel
theorem dX10_put_26 : decode cX10_put 26 = .ok (.iload_n 3, 1) := by decide +kernel
theorem dX10_put_27 : decode cX10_put 27 = .ok (.i2l, 1) := by decide +kernel
theorem dX10_put_28 : decode cX10_put 28 = .ok (.lconst 1, 1) := by decide +kernel
theorem dX10_put_29 : decode cX10_put 29 = .ok (.ldc2_w 201, 3) := by decide +kernel
theorem dX10_put_32 : decode cX10_put 32 = .ok (.invokestatic 49, 3) := by decide +kernel
theorem dX10_put_35 : decode cX10_put 35 = .ok (.ifCond .eq 16, 3) := by decide +kernel
theorem dX10_put_38 : decode cX10_put 38 = .ok (.iload 4, 2) := by decide +kernel
theorem dX10_put_40 : decode cX10_put 40 = .ok (.i2l, 1) := by decide +kernel
theorem dX10_put_41 : decode cX10_put 41 = .ok (.lconst 0, 1) := by decide +kernel
theorem dX10_put_42 : decode cX10_put 42 = .ok (.ldc2_w 47, 3) := by decide +kernel
theorem dX10_put_45 : decode cX10_put 45 = .ok (.invokestatic 49, 3) := by decide +kernel
theorem dX10_put_48 : decode cX10_put 48 = .ok (.ifCond .ne 6, 3) := by decide +kernel
theorem dX10_put_51 : decode cX10_put 51 = .ok (.bipush (-2), 2) := by decide +kernel
theorem dX10_put_53 : decode cX10_put 53 = .ok (.ireturn, 1) := by decide +kernel
theorem dX10_put_54 : decode cX10_put 54 = .ok (.aload_n 0, 1) := by decide +kernel
theorem dX10_put_55 : decode cX10_put 55 = .ok (.iload_n 1, 1) := by decide +kernel
theorem dX10_put_56 : decode cX10_put 56 = .ok (.iload_n 2, 1) := by decide +kernel
theorem dX10_put_57 : decode cX10_put 57 = .ok (.iload_n 3, 1) := by decide +kernel
theorem dX10_put_58 : decode cX10_put 58 = .ok (.iload 4, 2) := by decide +kernel
theorem dX10_put_60 : decode cX10_put 60 = .ok (.invokevirtual 203, 3) := by decide +kernel
theorem dX10_put_63 : decode cX10_put 63 = .ok (.ireturn, 1) := by decide +kernel
theorem dX10_getCalled_0 : decode cX10_getCalled 0 = .ok (.aload_n 0, 1) := by decide +kernel
theorem dX10_getCalled_1 : decode cX10_getCalled 1 = .ok (.invokevirtual 185, 3) := by decide +kernel
theorem dX10_getCalled_4 : decode cX10_getCalled 4 = .ok (.aload_n 0, 1) := by decide +kernel
theorem dX10_getCalled_5 : decode cX10_getCalled 5 = .ok (.iload_n 1, 1) := by decide +kernel
theorem dX10_getCalled_6 : decode cX10_getCalled 6 = .ok (.invokevirtual 188, 3) := by decide +kernel
theorem dX10_getCalled_9 : decode cX10_getCalled 9 = .ok (.aload_n 0, 1) := by decide +kernel
theorem dX10_getCalled_10 : decode cX10_getCalled 10 = .ok (.aload_n 0, 1) := by decide +kernel
theorem dX10_getCalled_11 : decode cX10_getCalled 11 = .ok (.iload_n 1, 1) := by decide +kernel
theorem dX10_getCalled_12 : decode cX10_getCalled 12 = .ok (.invokevirtual 137, 3) := by decide +kernel
theorem dX10_getCalled_15 : decode cX10_getCalled 15 = .ok (.invokestatic 57, 3) := by decide +kernel
theorem dX10_getCalled_18 : decode cX10_getCalled 18 = .ok (.invokevirtual 191, 3) := by decide +kernel
theorem dX10_getCalled_21 : decode cX10_getCalled 21 = .ok (.ireturn, 1) := by decide +kernel
theorem dX10_get_0 : decode cX10_get 0 = .ok (.aload_n 0, 1) := by decide +kernel
theorem dX10_get_1 : decode cX10_get 1 = .ok (.iconst 0, 1) := by decide +kernel
theorem dX10_get_2 : decode cX10_get 2 = .ok (.putfield 1, 3) := by decide +kernel
theorem dX10_get_5 : decode cX10_get 5 = .ok (.iload_n 1, 1) := by decide +kernel
theorem dX10_get_6 : decode cX10_get 6 = .ok (.invokestatic 194, 3) := by decide +kernel
theorem dX10_get_9 : decode cX10_get 9 = .ok (.ifCond .eq 11, 3) := by decide +kernel
theorem dX10_get_12 : decode cX10_get 12 = .ok (.aload_n 0, 1) := by decide +kernel
theorem dX10_get_13 : decode cX10_get 13 = .ok (.iload_n 1, 1) := by decide +kernel
theorem dX10_get_14 : decode cX10_get 14 = .ok (.invokevirtual 206, 3) := by decide +kernel
theorem dX10_get_17 : decode cX10_get 17 = .ok (.goto 5, 3) := by decide +kernel
theorem dX10_get_20 : decode cX10_get 20 = .ok (.bipush (-2), 2) := by decide +kernel
theorem dX10_get_22 : decode cX10_get 22 = .ok (.ireturn, 1) := by decide +kernel
theorem dX10_remove_0 : decode cX10_remove 0 = .ok (.aload_n 0, 1) := by decide +kernel
theorem dX10_remove_1 : decode cX10_remove 1 = .ok (.invokevirtual 185, 3) := by decide +kernel
theorem dX10_remove_4 : decode cX10_remove 4 = .ok (.iload_n 1, 1) := by decide +kernel
theorem dX10_remove_5 : decode cX10_remove 5 = .ok (.invokestatic 194, 3) := by decide +kernel
theorem dX10_remove_8 : decode cX10_remove 8 = .ok (.ifCond .ne 6, 3) := by decide +kernel
theorem dX10_remove_11 : decode cX10_remove 11 = .ok (.bipush (-2), 2) := by decide +kernel
theorem dX10_remove_13 : decode cX10_remove 13 = .ok (.ireturn, 1) := by decide +kernel
theorem dX10_remove_14 : decode cX10_remove 14 = .ok (.aload_n 0, 1) := by decide +kernel
theorem dX10_remove_15 : decode cX10_remove 15 = .ok (.iload_n 1, 1) := by decide +kernel
theorem dX10_remove_16 : decode cX10_remove 16 = .ok (.invokevirtual 118, 3) := by decide +kernel
theorem dX10_remove_19 : decode cX10_remove 19 = .ok (.istore_n 2, 1) := by decide +kernel
theorem dX10_remove_20 : decode cX10_remove 20 = .ok (.iload_n 2, 1) := by decide +kernel
theorem dX10_remove_21 : decode cX10_remove 21 = .ok (.iconst (-1), 1) := by decide +kernel
theorem dX10_remove_22 : decode cX10_remove 22 = .ok (.if_icmp .ne 6, 3) := by decide +kernel
theorem dX10_remove_25 : decode cX10_remove 25 = .ok (.bipush (-3), 2) := by decide +kernel
theorem dX10_remove_27 : decode cX10_remove 27 = .ok (.ireturn, 1) := by decide +kernel
theorem dX10_remove_28 : decode cX10_remove 28 = .ok (.aload_n 0, 1) := by decide +kernel
theorem dX10_remove_29 : decode cX10_remove 29 = .ok (.iload_n 2, 1) := by decide +kernel
theorem dX10_remove_30 : decode cX10_remove 30 = .ok (.iconst 1, 1) := by decide +kernel
theorem dX10_remove_31 : decode cX10_remove 31 = .ok (.invokevirtual 44, 3) := by decide +kernel
theorem dX10_remove_34 : decode cX10_remove 34 = .ok (.sipush 10000, 3) := by decide +kernel
theorem dX10_remove_37 : decode cX10_remove 37 = .ok (.iadd, 1) := by decide +kernel
theorem dX10_remove_38 : decode cX10_remove 38 = .ok (.istore_n 3, 1) := by decide +kernel
theorem dX10_remove_39 : decode cX10_remove 39 = .ok (.aload_n 0, 1) := by decide +kernel
theorem dX10_remove_40 : decode cX10_remove 40 = .ok (.iload_n 1, 1) := by decide +kernel
theorem dX10_remove_41 : decode cX10_remove 41 = .ok (.invokevirtual 141, 3) := by decide +kernel
theorem dX10_remove_44 : decode cX10_remove 44 = .ok (.pop, 1) := by decide +kernel
theorem dX10_remove_45 : decode cX10_remove 45 = .ok (.aload_n 0, 1) := by decide +kernel
theorem dX10_remove_46 : decode cX10_remove 46 = .ok (.iload_n 3, 1) := by decide +kernel
theorem dX10_remove_47 : decode cX10_remove 47 = .ok (.invokevirtual 191, 3) := by decide +kernel
theorem dX10_remove_50 : decode cX10_remove 50 = .ok (.ireturn, 1) := by decide +kernel
theorem dX10_pin_0 : decode cX10_pin 0 = .ok (.aload_n 0, 1) := by decide +kernel
theorem dX10_pin_1 : decode cX10_pin 1 = .ok (.invokevirtual 185, 3) := by decide +kernel
theorem dX10_pin_4 : decode cX10_pin 4 = .ok (.iload_n 1, 1) := by decide +kernel
theorem dX10_pin_5 : decode cX10_pin 5 = .ok (.invokestatic 194, 3) := by decide +kernel
theorem dX10_pin_8 : decode cX10_pin 8 = .ok (.ifCond .ne 6, 3) := by decide +kernel
theorem dX10_pin_11 : decode cX10_pin 11 = .ok (.bipush (-2), 2) := by decide +kernel
theorem dX10_pin_13 : decode cX10_pin 13 = .ok (.ireturn, 1) := by decide +kernel
theorem dX10_pin_14 : decode cX10_pin 14 = .ok (.aload_n 0, 1) := by decide +kernel
theorem dX10_pin_15 : decode cX10_pin 15 = .ok (.iload_n 1, 1) := by decide +kernel
theorem dX10_pin_16 : decode cX10_pin 16 = .ok (.invokevirtual 118, 3) := by decide +kernel
theorem dX10_pin_19 : decode cX10_pin 19 = .ok (.iconst (-1), 1) := by decide +kernel
theorem dX10_pin_20 : decode cX10_pin 20 = .ok (.if_icmp .ne 8, 3) := by decide +kernel
theorem dX10_pin_23 : decode cX10_pin 23 = .ok (.bipush (-3), 2) := by decide +kernel
theorem dX10_pin_25 : decode cX10_pin 25 = .ok (.goto 15, 3) := by decide +kernel
theorem dX10_pin_28 : decode cX10_pin 28 = .ok (.aload_n 0, 1) := by decide +kernel
theorem dX10_pin_29 : decode cX10_pin 29 = .ok (.iload_n 1, 1) := by decide +kernel
theorem dX10_pin_30 : decode cX10_pin 30 = .ok (.iload_n 2, 1) := by decide +kernel
theorem dX10_pin_31 : decode cX10_pin 31 = .ok (.invokestatic 57, 3) := by decide +kernel
theorem dX10_pin_34 : decode cX10_pin 34 = .ok (.invokevirtual 144, 3) := by decide +kernel
theorem dX10_pin_37 : decode cX10_pin 37 = .ok (.invokestatic 57, 3) := by decide +kernel
theorem dX10_pin_40 : decode cX10_pin 40 = .ok (.ireturn, 1) := by decide +kernel
theorem dX10_resize_0 : decode cX10_resize 0 = .ok (.aload_n 0, 1) := by decide +kernel
theorem dX10_resize_1 : decode cX10_resize 1 = .ok (.invokevirtual 185, 3) := by decide +kernel
theorem dX10_resize_4 : decode cX10_resize 4 = .ok (.iload_n 1, 1) := by decide +kernel
theorem dX10_resize_5 : decode cX10_resize 5 = .ok (.i2l, 1) := by decide +kernel
theorem dX10_resize_6 : decode cX10_resize 6 = .ok (.lconst 0, 1) := by decide +kernel
theorem dX10_resize_7 : decode cX10_resize 7 = .ok (.ldc2_w 125, 3) := by decide +kernel
theorem dX10_resize_10 : decode cX10_resize 10 = .ok (.invokestatic 49, 3) := by decide +kernel
theorem dX10_resize_13 : decode cX10_resize 13 = .ok (.ifCond .ne 6, 3) := by decide +kernel
theorem dX10_resize_16 : decode cX10_resize 16 = .ok (.bipush (-2), 2) := by decide +kernel
theorem dX10_resize_18 : decode cX10_resize 18 = .ok (.ireturn, 1) := by decide +kernel
theorem dX10_resize_19 : decode cX10_resize 19 = .ok (.aload_n 0, 1) := by decide +kernel
theorem dX10_resize_20 : decode cX10_resize 20 = .ok (.iconst (-1), 1) := by decide +kernel
theorem dX10_resize_21 : decode cX10_resize 21 = .ok (.invokevirtual 127, 3) := by decide +kernel
theorem dX10_resize_24 : decode cX10_resize 24 = .ok (.iload_n 1, 1) := by decide +kernel
theorem dX10_resize_25 : decode cX10_resize 25 = .ok (.if_icmp .le 8, 3) := by decide +kernel
theorem dX10_resize_28 : decode cX10_resize 28 = .ok (.bipush (-3), 2) := by decide +kernel
theorem dX10_resize_30 : decode cX10_resize 30 = .ok (.goto 12, 3) := by decide +kernel
theorem dX10_resize_33 : decode cX10_resize 33 = .ok (.aload_n 0, 1) := by decide +kernel
theorem dX10_resize_34 : decode cX10_resize 34 = .ok (.aload_n 0, 1) := by decide +kernel
theorem dX10_resize_35 : decode cX10_resize 35 = .ok (.iload_n 1, 1) := by decide +kernel
theorem dX10_resize_36 : decode cX10_resize 36 = .ok (.invokevirtual 130, 3) := by decide +kernel
theorem dX10_resize_39 : decode cX10_resize 39 = .ok (.invokevirtual 191, 3) := by decide +kernel
theorem dX10_resize_42 : decode cX10_resize 42 = .ok (.ireturn, 1) := by decide +kernel
theorem dX10_way_0 : decode cX10_way 0 = .ok (.aload_n 0, 1) := by decide +kernel
theorem dX10_way_1 : decode cX10_way 1 = .ok (.iconst 0, 1) := by decide +kernel
theorem dX10_way_2 : decode cX10_way 2 = .ok (.putfield 1, 3) := by decide +kernel
theorem dX10_way_5 : decode cX10_way 5 = .ok (.iload_n 1, 1) := by decide +kernel
theorem dX10_way_6 : decode cX10_way 6 = .ok (.i2l, 1) := by decide +kernel
theorem dX10_way_7 : decode cX10_way 7 = .ok (.lconst 0, 1) := by decide +kernel
theorem dX10_way_8 : decode cX10_way 8 = .ok (.ldc2_w 209, 3) := by decide +kernel
theorem dX10_way_11 : decode cX10_way 11 = .ok (.invokestatic 49, 3) := by decide +kernel
theorem dX10_way_14 : decode cX10_way 14 = .ok (.ifCond .ne 6, 3) := by decide +kernel
theorem dX10_way_17 : decode cX10_way 17 = .ok (.bipush (-2), 2) := by decide +kernel
theorem dX10_way_19 : decode cX10_way 19 = .ok (.ireturn, 1) := by decide +kernel
theorem dX10_way_20 : decode cX10_way 20 = .ok (.aload_n 0, 1) := by decide +kernel
theorem dX10_way_21 : decode cX10_way 21 = .ok (.getfield 17, 3) := by decide +kernel
theorem dX10_way_24 : decode cX10_way 24 = .ok (.iconst 2, 1) := by decide +kernel
theorem dX10_way_25 : decode cX10_way 25 = .ok (.iaload, 1) := by decide +kernel
theorem dX10_way_26 : decode cX10_way 26 = .ok (.istore_n 2, 1) := by decide +kernel
theorem dX10_way_27 : decode cX10_way 27 = .ok (.aload_n 0, 1) := by decide +kernel
theorem dX10_way_28 : decode cX10_way 28 = .ok (.getfield 17, 3) := by decide +kernel
theorem dX10_way_31 : decode cX10_way 31 = .ok (.iconst 2, 1) := by decide +kernel
theorem dX10_way_32 : decode cX10_way 32 = .ok (.iload_n 1, 1) := by decide +kernel
theorem dX10_way_33 : decode cX10_way 33 = .ok (.iastore, 1) := by decide +kernel
theorem dX10_way_34 : decode cX10_way 34 = .ok (.iload_n 2, 1) := by decide +kernel
theorem dX10_way_35 : decode cX10_way 35 = .ok (.ireturn, 1) := by decide +kernel
theorem dX10_aging_0 : decode cX10_aging 0 = .ok (.aload_n 0, 1) := by decide +kernel
theorem dX10_aging_1 : decode cX10_aging 1 = .ok (.iconst 0, 1) := by decide +kernel
theorem dX10_aging_2 : decode cX10_aging 2 = .ok (.putfield 1, 3) := by decide +kernel
theorem dX10_aging_5 : decode cX10_aging 5 = .ok (.iload_n 1, 1) := by decide +kernel
theorem dX10_aging_6 : decode cX10_aging 6 = .ok (.i2l, 1) := by decide +kernel
theorem dX10_aging_7 : decode cX10_aging 7 = .ok (.lconst 1, 1) := by decide +kernel
theorem dX10_aging_8 : decode cX10_aging 8 = .ok (.ldc2_w 47, 3) := by decide +kernel
theorem dX10_aging_11 : decode cX10_aging 11 = .ok (.invokestatic 49, 3) := by decide +kernel
theorem dX10_aging_14 : decode cX10_aging 14 = .ok (.ifCond .ne 6, 3) := by decide +kernel
theorem dX10_aging_17 : decode cX10_aging 17 = .ok (.bipush (-2), 2) := by decide +kernel
theorem dX10_aging_19 : decode cX10_aging 19 = .ok (.ireturn, 1) := by decide +kernel
theorem dX10_aging_20 : decode cX10_aging 20 = .ok (.aload_n 0, 1) := by decide +kernel
theorem dX10_aging_21 : decode cX10_aging 21 = .ok (.getfield 17, 3) := by decide +kernel
theorem dX10_aging_24 : decode cX10_aging 24 = .ok (.bipush 6, 2) := by decide +kernel
theorem dX10_aging_26 : decode cX10_aging 26 = .ok (.iaload, 1) := by decide +kernel
theorem dX10_aging_27 : decode cX10_aging 27 = .ok (.istore_n 2, 1) := by decide +kernel
theorem dX10_aging_28 : decode cX10_aging 28 = .ok (.aload_n 0, 1) := by decide +kernel
theorem dX10_aging_29 : decode cX10_aging 29 = .ok (.getfield 17, 3) := by decide +kernel
theorem dX10_aging_32 : decode cX10_aging 32 = .ok (.bipush 6, 2) := by decide +kernel
theorem dX10_aging_34 : decode cX10_aging 34 = .ok (.iload_n 1, 1) := by decide +kernel
theorem dX10_aging_35 : decode cX10_aging 35 = .ok (.iastore, 1) := by decide +kernel
theorem dX10_aging_36 : decode cX10_aging 36 = .ok (.iload_n 2, 1) := by decide +kernel
theorem dX10_aging_37 : decode cX10_aging 37 = .ok (.ireturn, 1) := by decide +kernel
theorem dX10_firstOver_0 : decode cX10_firstOver 0 = .ok (.iconst (-1), 1) := by decide +kernel
theorem dX10_firstOver_1 : decode cX10_firstOver 1 = .ok (.istore_n 1, 1) := by decide +kernel
theorem dX10_firstOver_2 : decode cX10_firstOver 2 = .ok (.iconst 0, 1) := by decide +kernel
theorem dX10_firstOver_3 : decode cX10_firstOver 3 = .ok (.istore_n 2, 1) := by decide +kernel
theorem dX10_firstOver_4 : decode cX10_firstOver 4 = .ok (.iload_n 2, 1) := by decide +kernel
theorem dX10_firstOver_5 : decode cX10_firstOver 5 = .ok (.aload_n 0, 1) := by decide +kernel
theorem dX10_firstOver_6 : decode cX10_firstOver 6 = .ok (.getfield 17, 3) := by decide +kernel
theorem dX10_firstOver_9 : decode cX10_firstOver 9 = .ok (.iconst 0, 1) := by decide +kernel
theorem dX10_firstOver_10 : decode cX10_firstOver 10 = .ok (.iaload, 1) := by decide +kernel
theorem dX10_firstOver_11 : decode cX10_firstOver 11 = .ok (.if_icmp .ge 54, 3) := by decide +kernel
theorem dX10_firstOver_14 : decode cX10_firstOver 14 = .ok (.aload_n 0, 1) := by decide +kernel
theorem dX10_firstOver_15 : decode cX10_firstOver 15 = .ok (.iload_n 2, 1) := by decide +kernel
theorem dX10_firstOver_16 : decode cX10_firstOver 16 = .ok (.iconst 5, 1) := by decide +kernel
theorem dX10_firstOver_17 : decode cX10_firstOver 17 = .ok (.invokevirtual 44, 3) := by decide +kernel
theorem dX10_firstOver_20 : decode cX10_firstOver 20 = .ok (.iconst (-1), 1) := by decide +kernel
theorem dX10_firstOver_21 : decode cX10_firstOver 21 = .ok (.if_icmp .eq 38, 3) := by decide +kernel
theorem dX10_firstOver_24 : decode cX10_firstOver 24 = .ok (.aload_n 0, 1) := by decide +kernel
theorem dX10_firstOver_25 : decode cX10_firstOver 25 = .ok (.iload_n 2, 1) := by decide +kernel
theorem dX10_firstOver_26 : decode cX10_firstOver 26 = .ok (.iconst 5, 1) := by decide +kernel
theorem dX10_firstOver_27 : decode cX10_firstOver 27 = .ok (.invokevirtual 44, 3) := by decide +kernel
theorem dX10_firstOver_30 : decode cX10_firstOver 30 = .ok (.aload_n 0, 1) := by decide +kernel
theorem dX10_firstOver_31 : decode cX10_firstOver 31 = .ok (.getfield 17, 3) := by decide +kernel
theorem dX10_firstOver_34 : decode cX10_firstOver 34 = .ok (.iconst 5, 1) := by decide +kernel
theorem dX10_firstOver_35 : decode cX10_firstOver 35 = .ok (.iaload, 1) := by decide +kernel
theorem dX10_firstOver_36 : decode cX10_firstOver 36 = .ok (.if_icmp .le 6, 3) := by decide +kernel
theorem dX10_firstOver_39 : decode cX10_firstOver 39 = .ok (.goto 20, 3) := by decide +kernel
theorem dX10_firstOver_42 : decode cX10_firstOver 42 = .ok (.iload_n 1, 1) := by decide +kernel
theorem dX10_firstOver_43 : decode cX10_firstOver 43 = .ok (.iconst (-1), 1) := by decide +kernel
theorem dX10_firstOver_44 : decode cX10_firstOver 44 = .ok (.if_icmp .eq 13, 3) := by decide +kernel
theorem dX10_firstOver_47 : decode cX10_firstOver 47 = .ok (.aload_n 0, 1) := by decide +kernel
theorem dX10_firstOver_48 : decode cX10_firstOver 48 = .ok (.iconst 0, 1) := by decide +kernel
theorem dX10_firstOver_49 : decode cX10_firstOver 49 = .ok (.iload_n 2, 1) := by decide +kernel
theorem dX10_firstOver_50 : decode cX10_firstOver 50 = .ok (.iload_n 1, 1) := by decide +kernel
theorem dX10_firstOver_51 : decode cX10_firstOver 51 = .ok (.invokevirtual 53, 3) := by decide +kernel
theorem dX10_firstOver_54 : decode cX10_firstOver 54 = .ok (.ifCond .eq 5, 3) := by decide +kernel
theorem dX10_firstOver_57 : decode cX10_firstOver 57 = .ok (.iload_n 2, 1) := by decide +kernel
theorem dX10_firstOver_58 : decode cX10_firstOver 58 = .ok (.istore_n 1, 1) := by decide +kernel
theorem dX10_firstOver_59 : decode cX10_firstOver 59 = .ok (.iinc 2 1, 3) := by decide +kernel
theorem dX10_firstOver_62 : decode cX10_firstOver 62 = .ok (.goto (-58), 3) := by decide +kernel
theorem dX10_firstOver_65 : decode cX10_firstOver 65 = .ok (.iload_n 1, 1) := by decide +kernel
theorem dX10_firstOver_66 : decode cX10_firstOver 66 = .ok (.ireturn, 1) := by decide +kernel
theorem dX10_tick_0 : decode cX10_tick 0 = .ok (.aload_n 0, 1) := by decide +kernel
theorem dX10_tick_1 : decode cX10_tick 1 = .ok (.invokevirtual 185, 3) := by decide +kernel
theorem dX10_tick_4 : decode cX10_tick 4 = .ok (.iload_n 1, 1) := by decide +kernel
theorem dX10_tick_5 : decode cX10_tick 5 = .ok (.i2l, 1) := by decide +kernel
theorem dX10_tick_6 : decode cX10_tick 6 = .ok (.lconst 1, 1) := by decide +kernel
theorem dX10_tick_7 : decode cX10_tick 7 = .ok (.ldc2_w 47, 3) := by decide +kernel
theorem dX10_tick_10 : decode cX10_tick 10 = .ok (.invokestatic 49, 3) := by decide +kernel
theorem dX10_tick_13 : decode cX10_tick 13 = .ok (.ifCond .ne 6, 3) := by decide +kernel
theorem dX10_tick_16 : decode cX10_tick 16 = .ok (.bipush (-2), 2) := by decide +kernel
theorem dX10_tick_18 : decode cX10_tick 18 = .ok (.ireturn, 1) := by decide +kernel
theorem dX10_tick_19 : decode cX10_tick 19 = .ok (.iconst 0, 1) := by decide +kernel
theorem dX10_tick_20 : decode cX10_tick 20 = .ok (.istore_n 2, 1) := by decide +kernel
theorem dX10_tick_21 : decode cX10_tick 21 = .ok (.iconst 0, 1) := by decide +kernel
theorem dX10_tick_22 : decode cX10_tick 22 = .ok (.istore_n 3, 1) := by decide +kernel
theorem dX10_tick_23 : decode cX10_tick 23 = .ok (.iload_n 3, 1) := by decide +kernel
theorem dX10_tick_24 : decode cX10_tick 24 = .ok (.iload_n 1, 1) := by decide +kernel
theorem dX10_tick_25 : decode cX10_tick 25 = .ok (.if_icmp .ge 75, 3) := by decide +kernel
theorem dX10_tick_28 : decode cX10_tick 28 = .ok (.aload_n 0, 1) := by decide +kernel
theorem dX10_tick_29 : decode cX10_tick 29 = .ok (.getfield 17, 3) := by decide +kernel
theorem dX10_tick_32 : decode cX10_tick 32 = .ok (.iconst 5, 1) := by decide +kernel
theorem dX10_tick_33 : decode cX10_tick 33 = .ok (.dup2, 1) := by decide +kernel
theorem dX10_tick_34 : decode cX10_tick 34 = .ok (.iaload, 1) := by decide +kernel
theorem dX10_tick_35 : decode cX10_tick 35 = .ok (.iconst 1, 1) := by decide +kernel
theorem dX10_tick_36 : decode cX10_tick 36 = .ok (.iadd, 1) := by decide +kernel
theorem dX10_tick_37 : decode cX10_tick 37 = .ok (.iastore, 1) := by decide +kernel
theorem dX10_tick_38 : decode cX10_tick 38 = .ok (.aload_n 0, 1) := by decide +kernel
theorem dX10_tick_39 : decode cX10_tick 39 = .ok (.invokevirtual 211, 3) := by decide +kernel
theorem dX10_tick_42 : decode cX10_tick 42 = .ok (.istore 4, 2) := by decide +kernel
theorem dX10_tick_44 : decode cX10_tick 44 = .ok (.iload 4, 2) := by decide +kernel
theorem dX10_tick_46 : decode cX10_tick 46 = .ok (.iconst (-1), 1) := by decide +kernel
theorem dX10_tick_47 : decode cX10_tick 47 = .ok (.if_icmp .eq 47, 3) := by decide +kernel
theorem dX10_tick_50 : decode cX10_tick 50 = .ok (.aload_n 0, 1) := by decide +kernel
theorem dX10_tick_51 : decode cX10_tick 51 = .ok (.iconst 3, 1) := by decide +kernel
theorem dX10_tick_52 : decode cX10_tick 52 = .ok (.aload_n 0, 1) := by decide +kernel
theorem dX10_tick_53 : decode cX10_tick 53 = .ok (.iload 4, 2) := by decide +kernel
theorem dX10_tick_55 : decode cX10_tick 55 = .ok (.iconst 0, 1) := by decide +kernel
theorem dX10_tick_56 : decode cX10_tick 56 = .ok (.invokevirtual 44, 3) := by decide +kernel
theorem dX10_tick_59 : decode cX10_tick 59 = .ok (.aload_n 0, 1) := by decide +kernel
theorem dX10_tick_60 : decode cX10_tick 60 = .ok (.iload 4, 2) := by decide +kernel
theorem dX10_tick_62 : decode cX10_tick 62 = .ok (.iconst 1, 1) := by decide +kernel
theorem dX10_tick_63 : decode cX10_tick 63 = .ok (.invokevirtual 44, 3) := by decide +kernel
theorem dX10_tick_66 : decode cX10_tick 66 = .ok (.aload_n 0, 1) := by decide +kernel
theorem dX10_tick_67 : decode cX10_tick 67 = .ok (.iload 4, 2) := by decide +kernel
theorem dX10_tick_69 : decode cX10_tick 69 = .ok (.iconst 2, 1) := by decide +kernel
theorem dX10_tick_70 : decode cX10_tick 70 = .ok (.invokevirtual 44, 3) := by decide +kernel
theorem dX10_tick_73 : decode cX10_tick 73 = .ok (.invokevirtual 91, 3) := by decide +kernel
theorem dX10_tick_76 : decode cX10_tick 76 = .ok (.aload_n 0, 1) := by decide +kernel
theorem dX10_tick_77 : decode cX10_tick 77 = .ok (.iload 4, 2) := by decide +kernel
theorem dX10_tick_79 : decode cX10_tick 79 = .ok (.invokevirtual 101, 3) := by decide +kernel
theorem dX10_tick_82 : decode cX10_tick 82 = .ok (.iinc 2 1, 3) := by decide +kernel
theorem dX10_tick_85 : decode cX10_tick 85 = .ok (.aload_n 0, 1) := by decide +kernel
theorem dX10_tick_86 : decode cX10_tick 86 = .ok (.invokevirtual 211, 3) := by decide +kernel
theorem dX10_tick_89 : decode cX10_tick 89 = .ok (.istore 4, 2) := by decide +kernel
theorem dX10_tick_91 : decode cX10_tick 91 = .ok (.goto (-47), 3) := by decide +kernel
theorem dX10_tick_94 : decode cX10_tick 94 = .ok (.iinc 3 1, 3) := by decide +kernel
theorem dX10_tick_97 : decode cX10_tick 97 = .ok (.goto (-74), 3) := by decide +kernel
theorem dX10_tick_100 : decode cX10_tick 100 = .ok (.aload_n 0, 1) := by decide +kernel
theorem dX10_tick_101 : decode cX10_tick 101 = .ok (.getfield 17, 3) := by decide +kernel
theorem dX10_tick_104 : decode cX10_tick 104 = .ok (.bipush 11, 2) := by decide +kernel
theorem dX10_tick_106 : decode cX10_tick 106 = .ok (.dup2, 1) := by decide +kernel
theorem dX10_tick_107 : decode cX10_tick 107 = .ok (.iaload, 1) := by decide +kernel
theorem dX10_tick_108 : decode cX10_tick 108 = .ok (.iload_n 2, 1) := by decide +kernel
theorem dX10_tick_109 : decode cX10_tick 109 = .ok (.iadd, 1) := by decide +kernel
theorem dX10_tick_110 : decode cX10_tick 110 = .ok (.iastore, 1) := by decide +kernel
theorem dX10_tick_111 : decode cX10_tick 111 = .ok (.aload_n 0, 1) := by decide +kernel
theorem dX10_tick_112 : decode cX10_tick 112 = .ok (.iload_n 2, 1) := by decide +kernel
theorem dX10_tick_113 : decode cX10_tick 113 = .ok (.invokevirtual 191, 3) := by decide +kernel
theorem dX10_tick_116 : decode cX10_tick 116 = .ok (.ireturn, 1) := by decide +kernel
theorem dX10_listen_0 : decode cX10_listen 0 = .ok (.aload_n 0, 1) := by decide +kernel
theorem dX10_listen_1 : decode cX10_listen 1 = .ok (.iconst 0, 1) := by decide +kernel
theorem dX10_listen_2 : decode cX10_listen 2 = .ok (.putfield 1, 3) := by decide +kernel
theorem dX10_listen_5 : decode cX10_listen 5 = .ok (.iload_n 1, 1) := by decide +kernel
theorem dX10_listen_6 : decode cX10_listen 6 = .ok (.i2l, 1) := by decide +kernel
theorem dX10_listen_7 : decode cX10_listen 7 = .ok (.ldc2_w 214, 3) := by decide +kernel
theorem dX10_listen_10 : decode cX10_listen 10 = .ok (.ldc2_w 216, 3) := by decide +kernel
theorem dX10_listen_13 : decode cX10_listen 13 = .ok (.invokestatic 49, 3) := by decide +kernel
theorem dX10_listen_16 : decode cX10_listen 16 = .ok (.ifCond .eq 75, 3) := by decide +kernel
theorem dX10_listen_19 : decode cX10_listen 19 = .ok (.iload_n 2, 1) := by decide +kernel
theorem dX10_listen_20 : decode cX10_listen 20 = .ok (.i2l, 1) := by decide +kernel
theorem dX10_listen_21 : decode cX10_listen 21 = .ok (.lconst 1, 1) := by decide +kernel
theorem dX10_listen_22 : decode cX10_listen 22 = .ok (.ldc2_w 218, 3) := by decide +kernel
theorem dX10_listen_25 : decode cX10_listen 25 = .ok (.invokestatic 49, 3) := by decide +kernel
theorem dX10_listen_28 : decode cX10_listen 28 = .ok (.ifCond .eq 63, 3) := by decide +kernel
theorem dX10_listen_31 : decode cX10_listen 31 = .ok (.iload_n 3, 1) := by decide +kernel
theorem dX10_listen_32 : decode cX10_listen 32 = .ok (.i2l, 1) := by decide +kernel
theorem dX10_listen_33 : decode cX10_listen 33 = .ok (.lconst 0, 1) := by decide +kernel
theorem dX10_listen_34 : decode cX10_listen 34 = .ok (.iload_n 2, 1) := by decide +kernel
theorem dX10_listen_35 : decode cX10_listen 35 = .ok (.iconst 1, 1) := by decide +kernel
theorem dX10_listen_36 : decode cX10_listen 36 = .ok (.isub, 1) := by decide +kernel
theorem dX10_listen_37 : decode cX10_listen 37 = .ok (.i2l, 1) := by decide +kernel
theorem dX10_listen_38 : decode cX10_listen 38 = .ok (.invokestatic 49, 3) := by decide +kernel
theorem dX10_listen_41 : decode cX10_listen 41 = .ok (.ifCond .eq 50, 3) := by decide +kernel
theorem dX10_listen_44 : decode cX10_listen 44 = .ok (.iload 4, 2) := by decide +kernel
theorem dX10_listen_46 : decode cX10_listen 46 = .ok (.i2l, 1) := by decide +kernel
theorem dX10_listen_47 : decode cX10_listen 47 = .ok (.lconst 0, 1) := by decide +kernel
theorem dX10_listen_48 : decode cX10_listen 48 = .ok (.ldc2_w 216, 3) := by decide +kernel
theorem dX10_listen_51 : decode cX10_listen 51 = .ok (.invokestatic 49, 3) := by decide +kernel
theorem dX10_listen_54 : decode cX10_listen 54 = .ok (.ifCond .eq 37, 3) := by decide +kernel
theorem dX10_listen_57 : decode cX10_listen 57 = .ok (.iload 5, 2) := by decide +kernel
theorem dX10_listen_59 : decode cX10_listen 59 = .ok (.i2l, 1) := by decide +kernel
theorem dX10_listen_60 : decode cX10_listen 60 = .ok (.ldc2_w 220, 3) := by decide +kernel
theorem dX10_listen_63 : decode cX10_listen 63 = .ok (.ldc2_w 47, 3) := by decide +kernel
theorem dX10_listen_66 : decode cX10_listen 66 = .ok (.invokestatic 49, 3) := by decide +kernel
theorem dX10_listen_69 : decode cX10_listen 69 = .ok (.ifCond .eq 22, 3) := by decide +kernel
theorem dX10_listen_72 : decode cX10_listen 72 = .ok (.iload 4, 2) := by decide +kernel
theorem dX10_listen_74 : decode cX10_listen 74 = .ok (.iconst 1, 1) := by decide +kernel
theorem dX10_listen_75 : decode cX10_listen 75 = .ok (.if_icmp .ne 19, 3) := by decide +kernel
theorem dX10_listen_78 : decode cX10_listen 78 = .ok (.iload 6, 2) := by decide +kernel
theorem dX10_listen_80 : decode cX10_listen 80 = .ok (.i2l, 1) := by decide +kernel
theorem dX10_listen_81 : decode cX10_listen 81 = .ok (.lconst 1, 1) := by decide +kernel
theorem dX10_listen_82 : decode cX10_listen 82 = .ok (.ldc2_w 201, 3) := by decide +kernel
theorem dX10_listen_85 : decode cX10_listen 85 = .ok (.invokestatic 49, 3) := by decide +kernel
theorem dX10_listen_88 : decode cX10_listen 88 = .ok (.ifCond .ne 6, 3) := by decide +kernel
theorem dX10_listen_91 : decode cX10_listen 91 = .ok (.bipush (-2), 2) := by decide +kernel
theorem dX10_listen_93 : decode cX10_listen 93 = .ok (.ireturn, 1) := by decide +kernel
theorem dX10_listen_94 : decode cX10_listen 94 = .ok (.aload_n 0, 1) := by decide +kernel
theorem dX10_listen_95 : decode cX10_listen 95 = .ok (.getfield 17, 3) := by decide +kernel
theorem dX10_listen_98 : decode cX10_listen 98 = .ok (.bipush 7, 2) := by decide +kernel
theorem dX10_listen_100 : decode cX10_listen 100 = .ok (.iaload, 1) := by decide +kernel
theorem dX10_listen_101 : decode cX10_listen 101 = .ok (.bipush 8, 2) := by decide +kernel
theorem dX10_listen_103 : decode cX10_listen 103 = .ok (.if_icmp .ne 6, 3) := by decide +kernel
theorem dX10_listen_106 : decode cX10_listen 106 = .ok (.bipush (-3), 2) := by decide +kernel
theorem dX10_listen_108 : decode cX10_listen 108 = .ok (.ireturn, 1) := by decide +kernel
theorem dX10_listen_109 : decode cX10_listen 109 = .ok (.aload_n 0, 1) := by decide +kernel
theorem dX10_listen_110 : decode cX10_listen 110 = .ok (.aload_n 0, 1) := by decide +kernel
theorem dX10_listen_111 : decode cX10_listen 111 = .ok (.getfield 17, 3) := by decide +kernel
theorem dX10_listen_114 : decode cX10_listen 114 = .ok (.bipush 7, 2) := by decide +kernel
theorem dX10_listen_116 : decode cX10_listen 116 = .ok (.iaload, 1) := by decide +kernel
theorem dX10_listen_117 : decode cX10_listen 117 = .ok (.invokevirtual 115, 3) := by decide +kernel
theorem dX10_listen_120 : decode cX10_listen 120 = .ok (.istore 7, 2) := by decide +kernel
theorem dX10_listen_122 : decode cX10_listen 122 = .ok (.aload_n 0, 1) := by decide +kernel
theorem dX10_listen_123 : decode cX10_listen 123 = .ok (.getfield 17, 3) := by decide +kernel
theorem dX10_listen_126 : decode cX10_listen 126 = .ok (.iload 7, 2) := by decide +kernel
theorem dX10_listen_128 : decode cX10_listen 128 = .ok (.iconst 0, 1) := by decide +kernel
theorem dX10_listen_129 : decode cX10_listen 129 = .ok (.iadd, 1) := by decide +kernel
theorem dX10_listen_130 : decode cX10_listen 130 = .ok (.iload_n 1, 1) := by decide +kernel
theorem dX10_listen_131 : decode cX10_listen 131 = .ok (.iastore, 1) := by decide +kernel
theorem dX10_listen_132 : decode cX10_listen 132 = .ok (.aload_n 0, 1) := by decide +kernel
theorem dX10_listen_133 : decode cX10_listen 133 = .ok (.getfield 17, 3) := by decide +kernel
theorem dX10_listen_136 : decode cX10_listen 136 = .ok (.iload 7, 2) := by decide +kernel
theorem dX10_listen_138 : decode cX10_listen 138 = .ok (.iconst 1, 1) := by decide +kernel
theorem dX10_listen_139 : decode cX10_listen 139 = .ok (.iadd, 1) := by decide +kernel
theorem dX10_listen_140 : decode cX10_listen 140 = .ok (.iload_n 2, 1) := by decide +kernel
theorem dX10_listen_141 : decode cX10_listen 141 = .ok (.iastore, 1) := by decide +kernel
theorem dX10_listen_142 : decode cX10_listen 142 = .ok (.aload_n 0, 1) := by decide +kernel
theorem dX10_listen_143 : decode cX10_listen 143 = .ok (.getfield 17, 3) := by decide +kernel
theorem dX10_listen_146 : decode cX10_listen 146 = .ok (.iload 7, 2) := by decide +kernel
theorem dX10_listen_148 : decode cX10_listen 148 = .ok (.iconst 2, 1) := by decide +kernel
theorem dX10_listen_149 : decode cX10_listen 149 = .ok (.iadd, 1) := by decide +kernel
theorem dX10_listen_150 : decode cX10_listen 150 = .ok (.iload_n 3, 1) := by decide +kernel
theorem dX10_listen_151 : decode cX10_listen 151 = .ok (.iastore, 1) := by decide +kernel
theorem dX10_listen_152 : decode cX10_listen 152 = .ok (.aload_n 0, 1) := by decide +kernel
theorem dX10_listen_153 : decode cX10_listen 153 = .ok (.getfield 17, 3) := by decide +kernel
theorem dX10_listen_156 : decode cX10_listen 156 = .ok (.iload 7, 2) := by decide +kernel
theorem dX10_listen_158 : decode cX10_listen 158 = .ok (.iconst 3, 1) := by decide +kernel
theorem dX10_listen_159 : decode cX10_listen 159 = .ok (.iadd, 1) := by decide +kernel
theorem dX10_listen_160 : decode cX10_listen 160 = .ok (.iload 4, 2) := by decide +kernel
theorem dX10_listen_162 : decode cX10_listen 162 = .ok (.iastore, 1) := by decide +kernel
theorem dX10_listen_163 : decode cX10_listen 163 = .ok (.aload_n 0, 1) := by decide +kernel
theorem dX10_listen_164 : decode cX10_listen 164 = .ok (.getfield 17, 3) := by decide +kernel
theorem dX10_listen_167 : decode cX10_listen 167 = .ok (.iload 7, 2) := by decide +kernel
theorem dX10_listen_169 : decode cX10_listen 169 = .ok (.iconst 4, 1) := by decide +kernel
theorem dX10_listen_170 : decode cX10_listen 170 = .ok (.iadd, 1) := by decide +kernel
theorem dX10_listen_171 : decode cX10_listen 171 = .ok (.iload 5, 2) := by decide +kernel
theorem dX10_listen_173 : decode cX10_listen 173 = .ok (.iastore, 1) := by decide +kernel
theorem dX10_listen_174 : decode cX10_listen 174 = .ok (.aload_n 0, 1) := by decide +kernel
theorem dX10_listen_175 : decode cX10_listen 175 = .ok (.getfield 17, 3) := by decide +kernel
theorem dX10_listen_178 : decode cX10_listen 178 = .ok (.iload 7, 2) := by decide +kernel
theorem dX10_listen_180 : decode cX10_listen 180 = .ok (.iconst 5, 1) := by decide +kernel
theorem dX10_listen_181 : decode cX10_listen 181 = .ok (.iadd, 1) := by decide +kernel
theorem dX10_listen_182 : decode cX10_listen 182 = .ok (.iload 6, 2) := by decide +kernel
theorem dX10_listen_184 : decode cX10_listen 184 = .ok (.iastore, 1) := by decide +kernel
theorem dX10_listen_185 : decode cX10_listen 185 = .ok (.aload_n 0, 1) := by decide +kernel
theorem dX10_listen_186 : decode cX10_listen 186 = .ok (.getfield 17, 3) := by decide +kernel
theorem dX10_listen_189 : decode cX10_listen 189 = .ok (.iload 7, 2) := by decide +kernel
theorem dX10_listen_191 : decode cX10_listen 191 = .ok (.bipush 6, 2) := by decide +kernel
theorem dX10_listen_193 : decode cX10_listen 193 = .ok (.iadd, 1) := by decide +kernel
theorem dX10_listen_194 : decode cX10_listen 194 = .ok (.iconst 1, 1) := by decide +kernel
theorem dX10_listen_195 : decode cX10_listen 195 = .ok (.iastore, 1) := by decide +kernel
theorem dX10_listen_196 : decode cX10_listen 196 = .ok (.aload_n 0, 1) := by decide +kernel
theorem dX10_listen_197 : decode cX10_listen 197 = .ok (.getfield 17, 3) := by decide +kernel
theorem dX10_listen_200 : decode cX10_listen 200 = .ok (.iload 7, 2) := by decide +kernel
theorem dX10_listen_202 : decode cX10_listen 202 = .ok (.bipush 7, 2) := by decide +kernel
theorem dX10_listen_204 : decode cX10_listen 204 = .ok (.iadd, 1) := by decide +kernel
theorem dX10_listen_205 : decode cX10_listen 205 = .ok (.iconst 0, 1) := by decide +kernel
theorem dX10_listen_206 : decode cX10_listen 206 = .ok (.iastore, 1) := by decide +kernel
theorem dX10_listen_207 : decode cX10_listen 207 = .ok (.aload_n 0, 1) := by decide +kernel
theorem dX10_listen_208 : decode cX10_listen 208 = .ok (.getfield 17, 3) := by decide +kernel
theorem dX10_listen_211 : decode cX10_listen 211 = .ok (.iload 7, 2) := by decide +kernel
theorem dX10_listen_213 : decode cX10_listen 213 = .ok (.bipush 8, 2) := by decide +kernel
theorem dX10_listen_215 : decode cX10_listen 215 = .ok (.iadd, 1) := by decide +kernel
theorem dX10_listen_216 : decode cX10_listen 216 = .ok (.iconst 0, 1) := by decide +kernel
theorem dX10_listen_217 : decode cX10_listen 217 = .ok (.iastore, 1) := by decide +kernel
theorem dX10_listen_218 : decode cX10_listen 218 = .ok (.aload_n 0, 1) := by decide +kernel
theorem dX10_listen_219 : decode cX10_listen 219 = .ok (.getfield 17, 3) := by decide +kernel
theorem dX10_listen_222 : decode cX10_listen 222 = .ok (.bipush 7, 2) := by decide +kernel
theorem dX10_listen_224 : decode cX10_listen 224 = .ok (.dup2, 1) := by decide +kernel
theorem dX10_listen_225 : decode cX10_listen 225 = .ok (.iaload, 1) := by decide +kernel
theorem dX10_listen_226 : decode cX10_listen 226 = .ok (.iconst 1, 1) := by decide +kernel
theorem dX10_listen_227 : decode cX10_listen 227 = .ok (.iadd, 1) := by decide +kernel
theorem dX10_listen_228 : decode cX10_listen 228 = .ok (.iastore, 1) := by decide +kernel
theorem dX10_listen_229 : decode cX10_listen 229 = .ok (.aload_n 0, 1) := by decide +kernel
theorem dX10_listen_230 : decode cX10_listen 230 = .ok (.getfield 17, 3) := by decide +kernel
theorem dX10_listen_233 : decode cX10_listen 233 = .ok (.bipush 7, 2) := by decide +kernel
theorem dX10_listen_235 : decode cX10_listen 235 = .ok (.iaload, 1) := by decide +kernel
theorem dX10_listen_236 : decode cX10_listen 236 = .ok (.iconst 1, 1) := by decide +kernel
theorem dX10_listen_237 : decode cX10_listen 237 = .ok (.isub, 1) := by decide +kernel
theorem dX10_listen_238 : decode cX10_listen 238 = .ok (.ireturn, 1) := by decide +kernel
theorem dX10_isHearer_0 : decode cX10_isHearer 0 = .ok (.iload_n 1, 1) := by decide +kernel
theorem dX10_isHearer_1 : decode cX10_isHearer 1 = .ok (.i2l, 1) := by decide +kernel
theorem dX10_isHearer_2 : decode cX10_isHearer 2 = .ok (.lconst 0, 1) := by decide +kernel
theorem dX10_isHearer_3 : decode cX10_isHearer 3 = .ok (.aload_n 0, 1) := by decide +kernel
theorem dX10_isHearer_4 : decode cX10_isHearer 4 = .ok (.getfield 17, 3) := by decide +kernel
theorem dX10_isHearer_7 : decode cX10_isHearer 7 = .ok (.bipush 7, 2) := by decide +kernel
theorem dX10_isHearer_9 : decode cX10_isHearer 9 = .ok (.iaload, 1) := by decide +kernel
theorem dX10_isHearer_10 : decode cX10_isHearer 10 = .ok (.iconst 1, 1) := by decide +kernel
theorem dX10_isHearer_11 : decode cX10_isHearer 11 = .ok (.isub, 1) := by decide +kernel
theorem dX10_isHearer_12 : decode cX10_isHearer 12 = .ok (.i2l, 1) := by decide +kernel
theorem dX10_isHearer_13 : decode cX10_isHearer 13 = .ok (.invokestatic 49, 3) := by decide +kernel
theorem dX10_isHearer_16 : decode cX10_isHearer 16 = .ok (.ireturn, 1) := by decide +kernel
theorem dX10_turn_0 : decode cX10_turn 0 = .ok (.aload_n 0, 1) := by decide +kernel
theorem dX10_turn_1 : decode cX10_turn 1 = .ok (.iconst 0, 1) := by decide +kernel
theorem dX10_turn_2 : decode cX10_turn 2 = .ok (.putfield 1, 3) := by decide +kernel
theorem dX10_turn_5 : decode cX10_turn 5 = .ok (.aload_n 0, 1) := by decide +kernel
theorem dX10_turn_6 : decode cX10_turn 6 = .ok (.iload_n 1, 1) := by decide +kernel
theorem dX10_turn_7 : decode cX10_turn 7 = .ok (.invokevirtual 222, 3) := by decide +kernel
theorem dX10_turn_10 : decode cX10_turn 10 = .ok (.ifCond .ne 6, 3) := by decide +kernel
theorem dX10_turn_13 : decode cX10_turn 13 = .ok (.bipush (-2), 2) := by decide +kernel
theorem dX10_turn_15 : decode cX10_turn 15 = .ok (.ireturn, 1) := by decide +kernel
theorem dX10_turn_16 : decode cX10_turn 16 = .ok (.aload_n 0, 1) := by decide +kernel
theorem dX10_turn_17 : decode cX10_turn 17 = .ok (.iload_n 1, 1) := by decide +kernel
theorem dX10_turn_18 : decode cX10_turn 18 = .ok (.invokevirtual 115, 3) := by decide +kernel
theorem dX10_turn_21 : decode cX10_turn 21 = .ok (.bipush 6, 2) := by decide +kernel
theorem dX10_turn_23 : decode cX10_turn 23 = .ok (.iadd, 1) := by decide +kernel
theorem dX10_turn_24 : decode cX10_turn 24 = .ok (.istore_n 3, 1) := by decide +kernel
theorem dX10_turn_25 : decode cX10_turn 25 = .ok (.aload_n 0, 1) := by decide +kernel
theorem dX10_turn_26 : decode cX10_turn 26 = .ok (.getfield 17, 3) := by decide +kernel
theorem dX10_turn_29 : decode cX10_turn 29 = .ok (.iload_n 3, 1) := by decide +kernel
theorem dX10_turn_30 : decode cX10_turn 30 = .ok (.iaload, 1) := by decide +kernel
theorem dX10_turn_31 : decode cX10_turn 31 = .ok (.iload_n 2, 1) := by decide +kernel
theorem dX10_turn_32 : decode cX10_turn 32 = .ok (.invokestatic 57, 3) := by decide +kernel
theorem dX10_turn_35 : decode cX10_turn 35 = .ok (.if_icmp .eq 7, 3) := by decide +kernel
theorem dX10_turn_38 : decode cX10_turn 38 = .ok (.iconst 1, 1) := by decide +kernel
theorem dX10_turn_39 : decode cX10_turn 39 = .ok (.goto 4, 3) := by decide +kernel
theorem dX10_turn_42 : decode cX10_turn 42 = .ok (.iconst 0, 1) := by decide +kernel
theorem dX10_turn_43 : decode cX10_turn 43 = .ok (.istore 4, 2) := by decide +kernel
theorem dX10_turn_45 : decode cX10_turn 45 = .ok (.aload_n 0, 1) := by decide +kernel
theorem dX10_turn_46 : decode cX10_turn 46 = .ok (.getfield 17, 3) := by decide +kernel
theorem dX10_turn_49 : decode cX10_turn 49 = .ok (.iload_n 3, 1) := by decide +kernel
theorem dX10_turn_50 : decode cX10_turn 50 = .ok (.iload_n 2, 1) := by decide +kernel
theorem dX10_turn_51 : decode cX10_turn 51 = .ok (.invokestatic 57, 3) := by decide +kernel
theorem dX10_turn_54 : decode cX10_turn 54 = .ok (.iastore, 1) := by decide +kernel
theorem dX10_turn_55 : decode cX10_turn 55 = .ok (.iload 4, 2) := by decide +kernel
theorem dX10_turn_57 : decode cX10_turn 57 = .ok (.invokestatic 57, 3) := by decide +kernel
theorem dX10_turn_60 : decode cX10_turn 60 = .ok (.ireturn, 1) := by decide +kernel
theorem dX10_draw_0 : decode cX10_draw 0 = .ok (.aload_n 0, 1) := by decide +kernel
theorem dX10_draw_1 : decode cX10_draw 1 = .ok (.ldc2_w 225, 3) := by decide +kernel
theorem dX10_draw_4 : decode cX10_draw 4 = .ok (.aload_n 0, 1) := by decide +kernel
theorem dX10_draw_5 : decode cX10_draw 5 = .ok (.getfield 227, 3) := by decide +kernel
