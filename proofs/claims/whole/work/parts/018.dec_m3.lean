theorem dX10_goesFarthest_22 : decode cX10_goesFarthest 22 = .ok (.iconst 0, 1) := by decide +kernel
theorem dX10_goesFarthest_23 : decode cX10_goesFarthest 23 = .ok (.invokevirtual 44, 3) := by decide +kernel
theorem dX10_goesFarthest_26 : decode cX10_goesFarthest 26 = .ok (.iload_n 1, 1) := by decide +kernel
theorem dX10_goesFarthest_27 : decode cX10_goesFarthest 27 = .ok (.invokevirtual 286, 3) := by decide +kernel
theorem dX10_goesFarthest_30 : decode cX10_goesFarthest 30 = .ok (.istore 4, 2) := by decide +kernel
theorem dX10_goesFarthest_32 : decode cX10_goesFarthest 32 = .ok (.aload_n 0, 1) := by decide +kernel
theorem dX10_goesFarthest_33 : decode cX10_goesFarthest 33 = .ok (.aload_n 0, 1) := by decide +kernel
theorem dX10_goesFarthest_34 : decode cX10_goesFarthest 34 = .ok (.iload_n 2, 1) := by decide +kernel
theorem dX10_goesFarthest_35 : decode cX10_goesFarthest 35 = .ok (.iconst 0, 1) := by decide +kernel
theorem dX10_goesFarthest_36 : decode cX10_goesFarthest 36 = .ok (.invokevirtual 44, 3) := by decide +kernel
theorem dX10_goesFarthest_39 : decode cX10_goesFarthest 39 = .ok (.iload_n 1, 1) := by decide +kernel
theorem dX10_goesFarthest_40 : decode cX10_goesFarthest 40 = .ok (.invokevirtual 286, 3) := by decide +kernel
theorem dX10_goesFarthest_43 : decode cX10_goesFarthest 43 = .ok (.istore 5, 2) := by decide +kernel
theorem dX10_goesFarthest_45 : decode cX10_goesFarthest 45 = .ok (.iload 4, 2) := by decide +kernel
theorem dX10_goesFarthest_47 : decode cX10_goesFarthest 47 = .ok (.iload 5, 2) := by decide +kernel
theorem dX10_goesFarthest_49 : decode cX10_goesFarthest 49 = .ok (.if_icmp .gt 25, 3) := by decide +kernel
theorem dX10_goesFarthest_52 : decode cX10_goesFarthest 52 = .ok (.iload 4, 2) := by decide +kernel
theorem dX10_goesFarthest_54 : decode cX10_goesFarthest 54 = .ok (.iload 5, 2) := by decide +kernel
theorem dX10_goesFarthest_56 : decode cX10_goesFarthest 56 = .ok (.if_icmp .ne 20, 3) := by decide +kernel
theorem dX10_goesFarthest_59 : decode cX10_goesFarthest 59 = .ok (.aload_n 0, 1) := by decide +kernel
theorem dX10_goesFarthest_60 : decode cX10_goesFarthest 60 = .ok (.iload_n 3, 1) := by decide +kernel
theorem dX10_goesFarthest_61 : decode cX10_goesFarthest 61 = .ok (.iconst 0, 1) := by decide +kernel
theorem dX10_goesFarthest_62 : decode cX10_goesFarthest 62 = .ok (.invokevirtual 44, 3) := by decide +kernel
theorem dX10_goesFarthest_65 : decode cX10_goesFarthest 65 = .ok (.aload_n 0, 1) := by decide +kernel
theorem dX10_goesFarthest_66 : decode cX10_goesFarthest 66 = .ok (.iload_n 2, 1) := by decide +kernel
theorem dX10_goesFarthest_67 : decode cX10_goesFarthest 67 = .ok (.iconst 0, 1) := by decide +kernel
theorem dX10_goesFarthest_68 : decode cX10_goesFarthest 68 = .ok (.invokevirtual 44, 3) := by decide +kernel
theorem dX10_goesFarthest_71 : decode cX10_goesFarthest 71 = .ok (.if_icmp .ge 5, 3) := by decide +kernel
theorem dX10_goesFarthest_74 : decode cX10_goesFarthest 74 = .ok (.iload_n 3, 1) := by decide +kernel
theorem dX10_goesFarthest_75 : decode cX10_goesFarthest 75 = .ok (.istore_n 2, 1) := by decide +kernel
theorem dX10_goesFarthest_76 : decode cX10_goesFarthest 76 = .ok (.iinc 3 1, 3) := by decide +kernel
theorem dX10_goesFarthest_79 : decode cX10_goesFarthest 79 = .ok (.goto (-75), 3) := by decide +kernel
theorem dX10_goesFarthest_82 : decode cX10_goesFarthest 82 = .ok (.aload_n 0, 1) := by decide +kernel
theorem dX10_goesFarthest_83 : decode cX10_goesFarthest 83 = .ok (.getfield 17, 3) := by decide +kernel
theorem dX10_goesFarthest_86 : decode cX10_goesFarthest 86 = .ok (.aload_n 0, 1) := by decide +kernel
theorem dX10_goesFarthest_87 : decode cX10_goesFarthest 87 = .ok (.getfield 41, 3) := by decide +kernel
theorem dX10_goesFarthest_90 : decode cX10_goesFarthest 90 = .ok (.bipush 10, 2) := by decide +kernel
theorem dX10_goesFarthest_92 : decode cX10_goesFarthest 92 = .ok (.iadd, 1) := by decide +kernel
theorem dX10_goesFarthest_93 : decode cX10_goesFarthest 93 = .ok (.dup2, 1) := by decide +kernel
theorem dX10_goesFarthest_94 : decode cX10_goesFarthest 94 = .ok (.iaload, 1) := by decide +kernel
theorem dX10_goesFarthest_95 : decode cX10_goesFarthest 95 = .ok (.iconst 1, 1) := by decide +kernel
theorem dX10_goesFarthest_96 : decode cX10_goesFarthest 96 = .ok (.iadd, 1) := by decide +kernel
theorem dX10_goesFarthest_97 : decode cX10_goesFarthest 97 = .ok (.iastore, 1) := by decide +kernel
theorem dX10_goesFarthest_98 : decode cX10_goesFarthest 98 = .ok (.aload_n 0, 1) := by decide +kernel
theorem dX10_goesFarthest_99 : decode cX10_goesFarthest 99 = .ok (.getfield 25, 3) := by decide +kernel
theorem dX10_goesFarthest_102 : decode cX10_goesFarthest 102 = .ok (.aload_n 0, 1) := by decide +kernel
theorem dX10_goesFarthest_103 : decode cX10_goesFarthest 103 = .ok (.getfield 95, 3) := by decide +kernel
theorem dX10_goesFarthest_106 : decode cX10_goesFarthest 106 = .ok (.sipush 128, 3) := by decide +kernel
theorem dX10_goesFarthest_109 : decode cX10_goesFarthest 109 = .ok (.irem, 1) := by decide +kernel
theorem dX10_goesFarthest_110 : decode cX10_goesFarthest 110 = .ok (.aload_n 0, 1) := by decide +kernel
theorem dX10_goesFarthest_111 : decode cX10_goesFarthest 111 = .ok (.iload_n 2, 1) := by decide +kernel
theorem dX10_goesFarthest_112 : decode cX10_goesFarthest 112 = .ok (.iconst 0, 1) := by decide +kernel
theorem dX10_goesFarthest_113 : decode cX10_goesFarthest 113 = .ok (.invokevirtual 44, 3) := by decide +kernel
theorem dX10_goesFarthest_116 : decode cX10_goesFarthest 116 = .ok (.iastore, 1) := by decide +kernel
theorem dX10_goesFarthest_117 : decode cX10_goesFarthest 117 = .ok (.aload_n 0, 1) := by decide +kernel
theorem dX10_goesFarthest_118 : decode cX10_goesFarthest 118 = .ok (.dup, 1) := by decide +kernel
theorem dX10_goesFarthest_119 : decode cX10_goesFarthest 119 = .ok (.getfield 95, 3) := by decide +kernel
theorem dX10_goesFarthest_122 : decode cX10_goesFarthest 122 = .ok (.iconst 1, 1) := by decide +kernel
theorem dX10_goesFarthest_123 : decode cX10_goesFarthest 123 = .ok (.iadd, 1) := by decide +kernel
theorem dX10_goesFarthest_124 : decode cX10_goesFarthest 124 = .ok (.putfield 95, 3) := by decide +kernel
theorem dX10_goesFarthest_127 : decode cX10_goesFarthest 127 = .ok (.aload_n 0, 1) := by decide +kernel
theorem dX10_goesFarthest_128 : decode cX10_goesFarthest 128 = .ok (.iload_n 2, 1) := by decide +kernel
theorem dX10_goesFarthest_129 : decode cX10_goesFarthest 129 = .ok (.invokevirtual 101, 3) := by decide +kernel
theorem dX10_goesFarthest_132 : decode cX10_goesFarthest 132 = .ok (.return_, 1) := by decide +kernel
theorem dX10_goesThrough_0 : decode cX10_goesThrough 0 = .ok (.aload_n 0, 1) := by decide +kernel
theorem dX10_goesThrough_1 : decode cX10_goesThrough 1 = .ok (.sipush 2544, 3) := by decide +kernel
theorem dX10_goesThrough_4 : decode cX10_goesThrough 4 = .ok (.putfield 41, 3) := by decide +kernel
theorem dX10_goesThrough_7 : decode cX10_goesThrough 7 = .ok (.aload_n 0, 1) := by decide +kernel
theorem dX10_goesThrough_8 : decode cX10_goesThrough 8 = .ok (.iconst 1, 1) := by decide +kernel
theorem dX10_goesThrough_9 : decode cX10_goesThrough 9 = .ok (.putfield 105, 3) := by decide +kernel
theorem dX10_goesThrough_12 : decode cX10_goesThrough 12 = .ok (.aload_n 0, 1) := by decide +kernel
theorem dX10_goesThrough_13 : decode cX10_goesThrough 13 = .ok (.iconst 0, 1) := by decide +kernel
theorem dX10_goesThrough_14 : decode cX10_goesThrough 14 = .ok (.putfield 95, 3) := by decide +kernel
theorem dX10_goesThrough_17 : decode cX10_goesThrough 17 = .ok (.aload_n 0, 1) := by decide +kernel
theorem dX10_goesThrough_18 : decode cX10_goesThrough 18 = .ok (.iconst 0, 1) := by decide +kernel
theorem dX10_goesThrough_19 : decode cX10_goesThrough 19 = .ok (.putfield 289, 3) := by decide +kernel
theorem dX10_goesThrough_22 : decode cX10_goesThrough 22 = .ok (.aload_n 0, 1) := by decide +kernel
theorem dX10_goesThrough_23 : decode cX10_goesThrough 23 = .ok (.iconst (-1), 1) := by decide +kernel
theorem dX10_goesThrough_24 : decode cX10_goesThrough 24 = .ok (.putfield 292, 3) := by decide +kernel
theorem dX10_goesThrough_27 : decode cX10_goesThrough 27 = .ok (.aload_n 0, 1) := by decide +kernel
theorem dX10_goesThrough_28 : decode cX10_goesThrough 28 = .ok (.iload_n 2, 1) := by decide +kernel
theorem dX10_goesThrough_29 : decode cX10_goesThrough 29 = .ok (.sipush 999, 3) := by decide +kernel
theorem dX10_goesThrough_32 : decode cX10_goesThrough 32 = .ok (.invokevirtual 37, 3) := by decide +kernel
theorem dX10_goesThrough_35 : decode cX10_goesThrough 35 = .ok (.aload_n 0, 1) := by decide +kernel
theorem dX10_goesThrough_36 : decode cX10_goesThrough 36 = .ok (.getfield 17, 3) := by decide +kernel
theorem dX10_goesThrough_39 : decode cX10_goesThrough 39 = .ok (.aload_n 0, 1) := by decide +kernel
theorem dX10_goesThrough_40 : decode cX10_goesThrough 40 = .ok (.getfield 41, 3) := by decide +kernel
theorem dX10_goesThrough_43 : decode cX10_goesThrough 43 = .ok (.iconst 2, 1) := by decide +kernel
theorem dX10_goesThrough_44 : decode cX10_goesThrough 44 = .ok (.iadd, 1) := by decide +kernel
theorem dX10_goesThrough_45 : decode cX10_goesThrough 45 = .ok (.iload_n 1, 1) := by decide +kernel
theorem dX10_goesThrough_46 : decode cX10_goesThrough 46 = .ok (.iconst 4, 1) := by decide +kernel
theorem dX10_goesThrough_47 : decode cX10_goesThrough 47 = .ok (.invokestatic 7, 3) := by decide +kernel
theorem dX10_goesThrough_50 : decode cX10_goesThrough 50 = .ok (.iastore, 1) := by decide +kernel
theorem dX10_goesThrough_51 : decode cX10_goesThrough 51 = .ok (.aload_n 0, 1) := by decide +kernel
theorem dX10_goesThrough_52 : decode cX10_goesThrough 52 = .ok (.iconst 0, 1) := by decide +kernel
theorem dX10_goesThrough_53 : decode cX10_goesThrough 53 = .ok (.putfield 295, 3) := by decide +kernel
theorem dX10_goesThrough_56 : decode cX10_goesThrough 56 = .ok (.iconst 0, 1) := by decide +kernel
theorem dX10_goesThrough_57 : decode cX10_goesThrough 57 = .ok (.istore_n 3, 1) := by decide +kernel
theorem dX10_goesThrough_58 : decode cX10_goesThrough 58 = .ok (.iload_n 3, 1) := by decide +kernel
theorem dX10_goesThrough_59 : decode cX10_goesThrough 59 = .ok (.aload_n 0, 1) := by decide +kernel
theorem dX10_goesThrough_60 : decode cX10_goesThrough 60 = .ok (.getfield 17, 3) := by decide +kernel
theorem dX10_goesThrough_63 : decode cX10_goesThrough 63 = .ok (.bipush 14, 2) := by decide +kernel
theorem dX10_goesThrough_65 : decode cX10_goesThrough 65 = .ok (.iaload, 1) := by decide +kernel
theorem dX10_goesThrough_66 : decode cX10_goesThrough 66 = .ok (.if_icmp .ge 133, 3) := by decide +kernel
theorem dX10_goesThrough_69 : decode cX10_goesThrough 69 = .ok (.aload_n 0, 1) := by decide +kernel
theorem dX10_goesThrough_70 : decode cX10_goesThrough 70 = .ok (.getfield 17, 3) := by decide +kernel
theorem dX10_goesThrough_73 : decode cX10_goesThrough 73 = .ok (.sipush 748, 3) := by decide +kernel
theorem dX10_goesThrough_76 : decode cX10_goesThrough 76 = .ok (.iload_n 3, 1) := by decide +kernel
theorem dX10_goesThrough_77 : decode cX10_goesThrough 77 = .ok (.iadd, 1) := by decide +kernel
theorem dX10_goesThrough_78 : decode cX10_goesThrough 78 = .ok (.iaload, 1) := by decide +kernel
theorem dX10_goesThrough_79 : decode cX10_goesThrough 79 = .ok (.istore 4, 2) := by decide +kernel
theorem dX10_goesThrough_81 : decode cX10_goesThrough 81 = .ok (.aload_n 0, 1) := by decide +kernel
theorem dX10_goesThrough_82 : decode cX10_goesThrough 82 = .ok (.getfield 95, 3) := by decide +kernel
theorem dX10_goesThrough_85 : decode cX10_goesThrough 85 = .ok (.istore 5, 2) := by decide +kernel
theorem dX10_goesThrough_87 : decode cX10_goesThrough 87 = .ok (.aload_n 0, 1) := by decide +kernel
theorem dX10_goesThrough_88 : decode cX10_goesThrough 88 = .ok (.iload 4, 2) := by decide +kernel
theorem dX10_goesThrough_90 : decode cX10_goesThrough 90 = .ok (.invokevirtual 118, 3) := by decide +kernel
theorem dX10_goesThrough_93 : decode cX10_goesThrough 93 = .ok (.iconst (-1), 1) := by decide +kernel
theorem dX10_goesThrough_94 : decode cX10_goesThrough 94 = .ok (.if_icmp .eq 7, 3) := by decide +kernel
theorem dX10_goesThrough_97 : decode cX10_goesThrough 97 = .ok (.iconst 1, 1) := by decide +kernel
theorem dX10_goesThrough_98 : decode cX10_goesThrough 98 = .ok (.goto 4, 3) := by decide +kernel
theorem dX10_goesThrough_101 : decode cX10_goesThrough 101 = .ok (.iconst 0, 1) := by decide +kernel
theorem dX10_goesThrough_102 : decode cX10_goesThrough 102 = .ok (.istore 6, 2) := by decide +kernel
theorem dX10_goesThrough_104 : decode cX10_goesThrough 104 = .ok (.aload_n 0, 1) := by decide +kernel
theorem dX10_goesThrough_105 : decode cX10_goesThrough 105 = .ok (.dup, 1) := by decide +kernel
theorem dX10_goesThrough_106 : decode cX10_goesThrough 106 = .ok (.getfield 295, 3) := by decide +kernel
theorem dX10_goesThrough_109 : decode cX10_goesThrough 109 = .ok (.iload 6, 2) := by decide +kernel
theorem dX10_goesThrough_111 : decode cX10_goesThrough 111 = .ok (.invokestatic 57, 3) := by decide +kernel
theorem dX10_goesThrough_114 : decode cX10_goesThrough 114 = .ok (.iadd, 1) := by decide +kernel
theorem dX10_goesThrough_115 : decode cX10_goesThrough 115 = .ok (.putfield 295, 3) := by decide +kernel
theorem dX10_goesThrough_118 : decode cX10_goesThrough 118 = .ok (.iload_n 1, 1) := by decide +kernel
theorem dX10_goesThrough_119 : decode cX10_goesThrough 119 = .ok (.iconst 5, 1) := by decide +kernel
theorem dX10_goesThrough_120 : decode cX10_goesThrough 120 = .ok (.if_icmp .ne 32, 3) := by decide +kernel
theorem dX10_goesThrough_123 : decode cX10_goesThrough 123 = .ok (.iload 6, 2) := by decide +kernel
theorem dX10_goesThrough_125 : decode cX10_goesThrough 125 = .ok (.ifCond .ne 27, 3) := by decide +kernel
theorem dX10_goesThrough_128 : decode cX10_goesThrough 128 = .ok (.iload_n 2, 1) := by decide +kernel
theorem dX10_goesThrough_129 : decode cX10_goesThrough 129 = .ok (.ifCond .le 23, 3) := by decide +kernel
theorem dX10_goesThrough_132 : decode cX10_goesThrough 132 = .ok (.aload_n 0, 1) := by decide +kernel
theorem dX10_goesThrough_133 : decode cX10_goesThrough 133 = .ok (.getfield 17, 3) := by decide +kernel
theorem dX10_goesThrough_136 : decode cX10_goesThrough 136 = .ok (.aload_n 0, 1) := by decide +kernel
theorem dX10_goesThrough_137 : decode cX10_goesThrough 137 = .ok (.getfield 41, 3) := by decide +kernel
theorem dX10_goesThrough_140 : decode cX10_goesThrough 140 = .ok (.iconst 0, 1) := by decide +kernel
theorem dX10_goesThrough_141 : decode cX10_goesThrough 141 = .ok (.iadd, 1) := by decide +kernel
theorem dX10_goesThrough_142 : decode cX10_goesThrough 142 = .ok (.iaload, 1) := by decide +kernel
theorem dX10_goesThrough_143 : decode cX10_goesThrough 143 = .ok (.iload_n 2, 1) := by decide +kernel
theorem dX10_goesThrough_144 : decode cX10_goesThrough 144 = .ok (.if_icmp .ne 8, 3) := by decide +kernel
theorem dX10_goesThrough_147 : decode cX10_goesThrough 147 = .ok (.aload_n 0, 1) := by decide +kernel
theorem dX10_goesThrough_148 : decode cX10_goesThrough 148 = .ok (.iload_n 3, 1) := by decide +kernel
theorem dX10_goesThrough_149 : decode cX10_goesThrough 149 = .ok (.invokevirtual 298, 3) := by decide +kernel
theorem dX10_goesThrough_152 : decode cX10_goesThrough 152 = .ok (.aload_n 0, 1) := by decide +kernel
theorem dX10_goesThrough_153 : decode cX10_goesThrough 153 = .ok (.iload 4, 2) := by decide +kernel
theorem dX10_goesThrough_155 : decode cX10_goesThrough 155 = .ok (.iconst 0, 1) := by decide +kernel
theorem dX10_goesThrough_156 : decode cX10_goesThrough 156 = .ok (.iconst 1, 1) := by decide +kernel
theorem dX10_goesThrough_157 : decode cX10_goesThrough 157 = .ok (.iconst (-1), 1) := by decide +kernel
theorem dX10_goesThrough_158 : decode cX10_goesThrough 158 = .ok (.invokevirtual 133, 3) := by decide +kernel
theorem dX10_goesThrough_161 : decode cX10_goesThrough 161 = .ok (.pop, 1) := by decide +kernel
theorem dX10_goesThrough_162 : decode cX10_goesThrough 162 = .ok (.iload 5, 2) := by decide +kernel
theorem dX10_goesThrough_164 : decode cX10_goesThrough 164 = .ok (.istore 7, 2) := by decide +kernel
theorem dX10_goesThrough_166 : decode cX10_goesThrough 166 = .ok (.iload 7, 2) := by decide +kernel
theorem dX10_goesThrough_168 : decode cX10_goesThrough 168 = .ok (.aload_n 0, 1) := by decide +kernel
theorem dX10_goesThrough_169 : decode cX10_goesThrough 169 = .ok (.getfield 95, 3) := by decide +kernel
theorem dX10_goesThrough_172 : decode cX10_goesThrough 172 = .ok (.if_icmp .ge 21, 3) := by decide +kernel
theorem dX10_goesThrough_175 : decode cX10_goesThrough 175 = .ok (.aload_n 0, 1) := by decide +kernel
theorem dX10_goesThrough_176 : decode cX10_goesThrough 176 = .ok (.aload_n 0, 1) := by decide +kernel
theorem dX10_goesThrough_177 : decode cX10_goesThrough 177 = .ok (.getfield 25, 3) := by decide +kernel
theorem dX10_goesThrough_180 : decode cX10_goesThrough 180 = .ok (.iload 7, 2) := by decide +kernel
theorem dX10_goesThrough_182 : decode cX10_goesThrough 182 = .ok (.iaload, 1) := by decide +kernel
theorem dX10_goesThrough_183 : decode cX10_goesThrough 183 = .ok (.iload_n 3, 1) := by decide +kernel
theorem dX10_goesThrough_184 : decode cX10_goesThrough 184 = .ok (.invokevirtual 301, 3) := by decide +kernel
theorem dX10_goesThrough_187 : decode cX10_goesThrough 187 = .ok (.iinc 7 1, 3) := by decide +kernel
theorem dX10_goesThrough_190 : decode cX10_goesThrough 190 = .ok (.goto (-24), 3) := by decide +kernel
theorem dX10_goesThrough_193 : decode cX10_goesThrough 193 = .ok (.iinc 3 1, 3) := by decide +kernel
theorem dX10_goesThrough_196 : decode cX10_goesThrough 196 = .ok (.goto (-138), 3) := by decide +kernel
theorem dX10_goesThrough_199 : decode cX10_goesThrough 199 = .ok (.return_, 1) := by decide +kernel
theorem dX10_isRued_0 : decode cX10_isRued 0 = .ok (.aload_n 0, 1) := by decide +kernel
theorem dX10_isRued_1 : decode cX10_isRued 1 = .ok (.iload_n 1, 1) := by decide +kernel
theorem dX10_isRued_2 : decode cX10_isRued 2 = .ok (.iload_n 2, 1) := by decide +kernel
theorem dX10_isRued_3 : decode cX10_isRued 3 = .ok (.invokevirtual 286, 3) := by decide +kernel
theorem dX10_isRued_6 : decode cX10_isRued 6 = .ok (.istore_n 3, 1) := by decide +kernel
theorem dX10_isRued_7 : decode cX10_isRued 7 = .ok (.iload_n 3, 1) := by decide +kernel
theorem dX10_isRued_8 : decode cX10_isRued 8 = .ok (.bipush 100, 2) := by decide +kernel
theorem dX10_isRued_10 : decode cX10_isRued 10 = .ok (.if_icmp .ne 4, 3) := by decide +kernel
theorem dX10_isRued_13 : decode cX10_isRued 13 = .ok (.return_, 1) := by decide +kernel
theorem dX10_isRued_14 : decode cX10_isRued 14 = .ok (.aload_n 0, 1) := by decide +kernel
theorem dX10_isRued_15 : decode cX10_isRued 15 = .ok (.dup, 1) := by decide +kernel
theorem dX10_isRued_16 : decode cX10_isRued 16 = .ok (.getfield 289, 3) := by decide +kernel
theorem dX10_isRued_19 : decode cX10_isRued 19 = .ok (.iconst 1, 1) := by decide +kernel
theorem dX10_isRued_20 : decode cX10_isRued 20 = .ok (.iadd, 1) := by decide +kernel
theorem dX10_isRued_21 : decode cX10_isRued 21 = .ok (.putfield 289, 3) := by decide +kernel
theorem dX10_isRued_24 : decode cX10_isRued 24 = .ok (.aload_n 0, 1) := by decide +kernel
theorem dX10_isRued_25 : decode cX10_isRued 25 = .ok (.aload_n 0, 1) := by decide +kernel
theorem dX10_isRued_26 : decode cX10_isRued 26 = .ok (.getfield 292, 3) := by decide +kernel
theorem dX10_isRued_29 : decode cX10_isRued 29 = .ok (.iconst (-1), 1) := by decide +kernel
theorem dX10_isRued_30 : decode cX10_isRued 30 = .ok (.if_icmp .ne 9, 3) := by decide +kernel
theorem dX10_isRued_33 : decode cX10_isRued 33 = .ok (.iload_n 3, 1) := by decide +kernel
theorem dX10_isRued_34 : decode cX10_isRued 34 = .ok (.iload_n 2, 1) := by decide +kernel
theorem dX10_isRued_35 : decode cX10_isRued 35 = .ok (.isub, 1) := by decide +kernel
theorem dX10_isRued_36 : decode cX10_isRued 36 = .ok (.goto 13, 3) := by decide +kernel
theorem dX10_isRued_39 : decode cX10_isRued 39 = .ok (.aload_n 0, 1) := by decide +kernel
theorem dX10_isRued_40 : decode cX10_isRued 40 = .ok (.getfield 292, 3) := by decide +kernel
theorem dX10_isRued_43 : decode cX10_isRued 43 = .ok (.iload_n 3, 1) := by decide +kernel
theorem dX10_isRued_44 : decode cX10_isRued 44 = .ok (.iload_n 2, 1) := by decide +kernel
theorem dX10_isRued_45 : decode cX10_isRued 45 = .ok (.isub, 1) := by decide +kernel
theorem dX10_isRued_46 : decode cX10_isRued 46 = .ok (.invokestatic 7, 3) := by decide +kernel
theorem dX10_isRued_49 : decode cX10_isRued 49 = .ok (.putfield 292, 3) := by decide +kernel
theorem dX10_isRued_52 : decode cX10_isRued 52 = .ok (.return_, 1) := by decide +kernel
theorem dX10_isWay_0 : decode cX10_isWay 0 = .ok (.iload_n 0, 1) := by decide +kernel
theorem dX10_isWay_1 : decode cX10_isWay 1 = .ok (.i2l, 1) := by decide +kernel
theorem dX10_isWay_2 : decode cX10_isWay 2 = .ok (.lconst 0, 1) := by decide +kernel
theorem dX10_isWay_3 : decode cX10_isWay 3 = .ok (.ldc2_w 304, 3) := by decide +kernel
theorem dX10_isWay_6 : decode cX10_isWay 6 = .ok (.invokestatic 49, 3) := by decide +kernel
theorem dX10_isWay_9 : decode cX10_isWay 9 = .ok (.ireturn, 1) := by decide +kernel
theorem dX10_replay_0 : decode cX10_replay 0 = .ok (.aload_n 0, 1) := by decide +kernel
theorem dX10_replay_1 : decode cX10_replay 1 = .ok (.iconst 0, 1) := by decide +kernel
theorem dX10_replay_2 : decode cX10_replay 2 = .ok (.putfield 1, 3) := by decide +kernel
theorem dX10_replay_5 : decode cX10_replay 5 = .ok (.iload_n 1, 1) := by decide +kernel
theorem dX10_replay_6 : decode cX10_replay 6 = .ok (.invokestatic 306, 3) := by decide +kernel
theorem dX10_replay_9 : decode cX10_replay 9 = .ok (.ifCond .eq 27, 3) := by decide +kernel
theorem dX10_replay_12 : decode cX10_replay 12 = .ok (.iload_n 2, 1) := by decide +kernel
theorem dX10_replay_13 : decode cX10_replay 13 = .ok (.i2l, 1) := by decide +kernel
theorem dX10_replay_14 : decode cX10_replay 14 = .ok (.lconst 0, 1) := by decide +kernel
theorem dX10_replay_15 : decode cX10_replay 15 = .ok (.ldc2_w 240, 3) := by decide +kernel
theorem dX10_replay_18 : decode cX10_replay 18 = .ok (.invokestatic 49, 3) := by decide +kernel
theorem dX10_replay_21 : decode cX10_replay 21 = .ok (.ifCond .eq 15, 3) := by decide +kernel
theorem dX10_replay_24 : decode cX10_replay 24 = .ok (.iload_n 3, 1) := by decide +kernel
theorem dX10_replay_25 : decode cX10_replay 25 = .ok (.i2l, 1) := by decide +kernel
theorem dX10_replay_26 : decode cX10_replay 26 = .ok (.lconst 0, 1) := by decide +kernel
theorem dX10_replay_27 : decode cX10_replay 27 = .ok (.ldc2_w 260, 3) := by decide +kernel
theorem dX10_replay_30 : decode cX10_replay 30 = .ok (.invokestatic 49, 3) := by decide +kernel
theorem dX10_replay_33 : decode cX10_replay 33 = .ok (.ifCond .ne 5, 3) := by decide +kernel
theorem dX10_replay_36 : decode cX10_replay 36 = .ok (.iconst (-1), 1) := by decide +kernel
theorem dX10_replay_37 : decode cX10_replay 37 = .ok (.ireturn, 1) := by decide +kernel
theorem dX10_replay_38 : decode cX10_replay 38 = .ok (.aload_n 0, 1) := by decide +kernel
theorem dX10_replay_39 : decode cX10_replay 39 = .ok (.iload_n 1, 1) := by decide +kernel
theorem dX10_replay_40 : decode cX10_replay 40 = .ok (.iload_n 2, 1) := by decide +kernel
theorem dX10_replay_41 : decode cX10_replay 41 = .ok (.invokevirtual 309, 3) := by decide +kernel
theorem dX10_replay_44 : decode cX10_replay 44 = .ok (.iload_n 3, 1) := by decide +kernel
theorem dX10_replay_45 : decode cX10_replay 45 = .ok (.ifCond .ne 10, 3) := by decide +kernel
theorem dX10_replay_48 : decode cX10_replay 48 = .ok (.aload_n 0, 1) := by decide +kernel
theorem dX10_replay_49 : decode cX10_replay 49 = .ok (.getfield 295, 3) := by decide +kernel
theorem dX10_replay_52 : decode cX10_replay 52 = .ok (.goto 34, 3) := by decide +kernel
theorem dX10_replay_55 : decode cX10_replay 55 = .ok (.iload_n 3, 1) := by decide +kernel
theorem dX10_replay_56 : decode cX10_replay 56 = .ok (.iconst 1, 1) := by decide +kernel
theorem dX10_replay_57 : decode cX10_replay 57 = .ok (.if_icmp .ne 18, 3) := by decide +kernel
theorem dX10_replay_60 : decode cX10_replay 60 = .ok (.aload_n 0, 1) := by decide +kernel
theorem dX10_replay_61 : decode cX10_replay 61 = .ok (.getfield 17, 3) := by decide +kernel
theorem dX10_replay_64 : decode cX10_replay 64 = .ok (.aload_n 0, 1) := by decide +kernel
theorem dX10_replay_65 : decode cX10_replay 65 = .ok (.getfield 41, 3) := by decide +kernel
theorem dX10_replay_68 : decode cX10_replay 68 = .ok (.bipush 10, 2) := by decide +kernel
theorem dX10_replay_70 : decode cX10_replay 70 = .ok (.iadd, 1) := by decide +kernel
theorem dX10_replay_71 : decode cX10_replay 71 = .ok (.iaload, 1) := by decide +kernel
theorem dX10_replay_72 : decode cX10_replay 72 = .ok (.goto 14, 3) := by decide +kernel
theorem dX10_replay_75 : decode cX10_replay 75 = .ok (.aload_n 0, 1) := by decide +kernel
theorem dX10_replay_76 : decode cX10_replay 76 = .ok (.getfield 17, 3) := by decide +kernel
theorem dX10_replay_79 : decode cX10_replay 79 = .ok (.aload_n 0, 1) := by decide +kernel
theorem dX10_replay_80 : decode cX10_replay 80 = .ok (.getfield 41, 3) := by decide +kernel
theorem dX10_replay_83 : decode cX10_replay 83 = .ok (.iconst 0, 1) := by decide +kernel
theorem dX10_replay_84 : decode cX10_replay 84 = .ok (.iadd, 1) := by decide +kernel
theorem dX10_replay_85 : decode cX10_replay 85 = .ok (.iaload, 1) := by decide +kernel
theorem dX10_replay_86 : decode cX10_replay 86 = .ok (.istore 4, 2) := by decide +kernel
theorem dX10_replay_88 : decode cX10_replay 88 = .ok (.aload_n 0, 1) := by decide +kernel
theorem dX10_replay_89 : decode cX10_replay 89 = .ok (.invokevirtual 268, 3) := by decide +kernel
theorem dX10_replay_92 : decode cX10_replay 92 = .ok (.iload 4, 2) := by decide +kernel
theorem dX10_replay_94 : decode cX10_replay 94 = .ok (.ireturn, 1) := by decide +kernel
theorem dX10_replayed_0 : decode cX10_replayed 0 = .ok (.aload_n 0, 1) := by decide +kernel
theorem dX10_replayed_1 : decode cX10_replayed 1 = .ok (.iconst 0, 1) := by decide +kernel
theorem dX10_replayed_2 : decode cX10_replayed 2 = .ok (.putfield 1, 3) := by decide +kernel
theorem dX10_replayed_5 : decode cX10_replayed 5 = .ok (.iload_n 1, 1) := by decide +kernel
theorem dX10_replayed_6 : decode cX10_replayed 6 = .ok (.invokestatic 306, 3) := by decide +kernel
theorem dX10_replayed_9 : decode cX10_replayed 9 = .ok (.ifCond .eq 15, 3) := by decide +kernel
theorem dX10_replayed_12 : decode cX10_replayed 12 = .ok (.iload_n 2, 1) := by decide +kernel
theorem dX10_replayed_13 : decode cX10_replayed 13 = .ok (.i2l, 1) := by decide +kernel
theorem dX10_replayed_14 : decode cX10_replayed 14 = .ok (.lconst 0, 1) := by decide +kernel
theorem dX10_replayed_15 : decode cX10_replayed 15 = .ok (.ldc2_w 240, 3) := by decide +kernel
theorem dX10_replayed_18 : decode cX10_replayed 18 = .ok (.invokestatic 49, 3) := by decide +kernel
theorem dX10_replayed_21 : decode cX10_replayed 21 = .ok (.ifCond .ne 5, 3) := by decide +kernel
theorem dX10_replayed_24 : decode cX10_replayed 24 = .ok (.iconst (-1), 1) := by decide +kernel
theorem dX10_replayed_25 : decode cX10_replayed 25 = .ok (.ireturn, 1) := by decide +kernel
theorem dX10_replayed_26 : decode cX10_replayed 26 = .ok (.aload_n 0, 1) := by decide +kernel
theorem dX10_replayed_27 : decode cX10_replayed 27 = .ok (.iload_n 1, 1) := by decide +kernel
theorem dX10_replayed_28 : decode cX10_replayed 28 = .ok (.iload_n 2, 1) := by decide +kernel
theorem dX10_replayed_29 : decode cX10_replayed 29 = .ok (.invokevirtual 309, 3) := by decide +kernel
theorem dX10_replayed_32 : decode cX10_replayed 32 = .ok (.iload_n 3, 1) := by decide +kernel
theorem dX10_replayed_33 : decode cX10_replayed 33 = .ok (.i2l, 1) := by decide +kernel
theorem dX10_replayed_34 : decode cX10_replayed 34 = .ok (.lconst 0, 1) := by decide +kernel
theorem dX10_replayed_35 : decode cX10_replayed 35 = .ok (.aload_n 0, 1) := by decide +kernel
theorem dX10_replayed_36 : decode cX10_replayed 36 = .ok (.getfield 17, 3) := by decide +kernel
theorem dX10_replayed_39 : decode cX10_replayed 39 = .ok (.aload_n 0, 1) := by decide +kernel
theorem dX10_replayed_40 : decode cX10_replayed 40 = .ok (.getfield 41, 3) := by decide +kernel
theorem dX10_replayed_43 : decode cX10_replayed 43 = .ok (.iconst 0, 1) := by decide +kernel
theorem dX10_replayed_44 : decode cX10_replayed 44 = .ok (.iadd, 1) := by decide +kernel
theorem dX10_replayed_45 : decode cX10_replayed 45 = .ok (.iaload, 1) := by decide +kernel
theorem dX10_replayed_46 : decode cX10_replayed 46 = .ok (.iconst 1, 1) := by decide +kernel
theorem dX10_replayed_47 : decode cX10_replayed 47 = .ok (.isub, 1) := by decide +kernel
theorem dX10_replayed_48 : decode cX10_replayed 48 = .ok (.i2l, 1) := by decide +kernel
theorem dX10_replayed_49 : decode cX10_replayed 49 = .ok (.invokestatic 49, 3) := by decide +kernel
theorem dX10_replayed_52 : decode cX10_replayed 52 = .ok (.ifCond .eq 12, 3) := by decide +kernel
theorem dX10_replayed_55 : decode cX10_replayed 55 = .ok (.aload_n 0, 1) := by decide +kernel
theorem dX10_replayed_56 : decode cX10_replayed 56 = .ok (.iconst 0, 1) := by decide +kernel
theorem dX10_replayed_57 : decode cX10_replayed 57 = .ok (.iload_n 3, 1) := by decide +kernel
theorem dX10_replayed_58 : decode cX10_replayed 58 = .ok (.invokevirtual 251, 3) := by decide +kernel
theorem dX10_replayed_61 : decode cX10_replayed 61 = .ok (.goto 4, 3) := by decide +kernel
theorem dX10_replayed_64 : decode cX10_replayed 64 = .ok (.iconst (-1), 1) := by decide +kernel
theorem dX10_replayed_65 : decode cX10_replayed 65 = .ok (.istore 4, 2) := by decide +kernel
theorem dX10_replayed_67 : decode cX10_replayed 67 = .ok (.aload_n 0, 1) := by decide +kernel
theorem dX10_replayed_68 : decode cX10_replayed 68 = .ok (.invokevirtual 268, 3) := by decide +kernel
theorem dX10_replayed_71 : decode cX10_replayed 71 = .ok (.iload 4, 2) := by decide +kernel
theorem dX10_replayed_73 : decode cX10_replayed 73 = .ok (.ireturn, 1) := by decide +kernel
theorem dX10_hitsOf_0 : decode cX10_hitsOf 0 = .ok (.aload_n 0, 1) := by decide +kernel
theorem dX10_hitsOf_1 : decode cX10_hitsOf 1 = .ok (.iload_n 1, 1) := by decide +kernel
theorem dX10_hitsOf_2 : decode cX10_hitsOf 2 = .ok (.iload_n 2, 1) := by decide +kernel
theorem dX10_hitsOf_3 : decode cX10_hitsOf 3 = .ok (.invokevirtual 309, 3) := by decide +kernel
theorem dX10_hitsOf_6 : decode cX10_hitsOf 6 = .ok (.aload_n 0, 1) := by decide +kernel
theorem dX10_hitsOf_7 : decode cX10_hitsOf 7 = .ok (.invokevirtual 268, 3) := by decide +kernel
theorem dX10_hitsOf_10 : decode cX10_hitsOf 10 = .ok (.aload_n 0, 1) := by decide +kernel
theorem dX10_hitsOf_11 : decode cX10_hitsOf 11 = .ok (.getfield 295, 3) := by decide +kernel
theorem dX10_hitsOf_14 : decode cX10_hitsOf 14 = .ok (.ireturn, 1) := by decide +kernel
theorem dX10_least_0 : decode cX10_least 0 = .ok (.aload_n 0, 1) := by decide +kernel
theorem dX10_least_1 : decode cX10_least 1 = .ok (.iconst 0, 1) := by decide +kernel
theorem dX10_least_2 : decode cX10_least 2 = .ok (.putfield 1, 3) := by decide +kernel
theorem dX10_least_5 : decode cX10_least 5 = .ok (.iload_n 1, 1) := by decide +kernel
theorem dX10_least_6 : decode cX10_least 6 = .ok (.invokestatic 306, 3) := by decide +kernel
theorem dX10_least_9 : decode cX10_least 9 = .ok (.ifCond .eq 7, 3) := by decide +kernel
theorem dX10_least_12 : decode cX10_least 12 = .ok (.iload_n 2, 1) := by decide +kernel
theorem dX10_least_13 : decode cX10_least 13 = .ok (.ifCond .ge 5, 3) := by decide +kernel
theorem dX10_least_16 : decode cX10_least 16 = .ok (.iconst (-1), 1) := by decide +kernel
theorem dX10_least_17 : decode cX10_least 17 = .ok (.ireturn, 1) := by decide +kernel
theorem dX10_least_18 : decode cX10_least 18 = .ok (.iconst 0, 1) := by decide +kernel
theorem dX10_least_19 : decode cX10_least 19 = .ok (.istore_n 3, 1) := by decide +kernel
theorem dX10_least_20 : decode cX10_least 20 = .ok (.iload_n 3, 1) := by decide +kernel
theorem dX10_least_21 : decode cX10_least 21 = .ok (.bipush 60, 2) := by decide +kernel
theorem dX10_least_23 : decode cX10_least 23 = .ok (.if_icmp .gt 21, 3) := by decide +kernel
theorem dX10_least_26 : decode cX10_least 26 = .ok (.aload_n 0, 1) := by decide +kernel
theorem dX10_least_27 : decode cX10_least 27 = .ok (.iload_n 1, 1) := by decide +kernel
theorem dX10_least_28 : decode cX10_least 28 = .ok (.iload_n 3, 1) := by decide +kernel
theorem dX10_least_29 : decode cX10_least 29 = .ok (.invokevirtual 312, 3) := by decide +kernel
theorem dX10_least_32 : decode cX10_least 32 = .ok (.iload_n 2, 1) := by decide +kernel
theorem dX10_least_33 : decode cX10_least 33 = .ok (.if_icmp .lt 5, 3) := by decide +kernel
theorem dX10_least_36 : decode cX10_least 36 = .ok (.iload_n 3, 1) := by decide +kernel
theorem dX10_least_37 : decode cX10_least 37 = .ok (.ireturn, 1) := by decide +kernel
theorem dX10_least_38 : decode cX10_least 38 = .ok (.iinc 3 1, 3) := by decide +kernel
theorem dX10_least_41 : decode cX10_least 41 = .ok (.goto (-21), 3) := by decide +kernel
theorem dX10_least_44 : decode cX10_least 44 = .ok (.iconst (-1), 1) := by decide +kernel
theorem dX10_least_45 : decode cX10_least 45 = .ok (.ireturn, 1) := by decide +kernel
theorem dX10_best_0 : decode cX10_best 0 = .ok (.aload_n 0, 1) := by decide +kernel
theorem dX10_best_1 : decode cX10_best 1 = .ok (.iconst 0, 1) := by decide +kernel
theorem dX10_best_2 : decode cX10_best 2 = .ok (.putfield 1, 3) := by decide +kernel
theorem dX10_best_5 : decode cX10_best 5 = .ok (.iload_n 1, 1) := by decide +kernel
theorem dX10_best_6 : decode cX10_best 6 = .ok (.i2l, 1) := by decide +kernel
theorem dX10_best_7 : decode cX10_best 7 = .ok (.lconst 0, 1) := by decide +kernel
theorem dX10_best_8 : decode cX10_best 8 = .ok (.ldc2_w 240, 3) := by decide +kernel
theorem dX10_best_11 : decode cX10_best 11 = .ok (.invokestatic 49, 3) := by decide +kernel
theorem dX10_best_14 : decode cX10_best 14 = .ok (.ifCond .eq 13, 3) := by decide +kernel
theorem dX10_best_17 : decode cX10_best 17 = .ok (.iload_n 2, 1) := by decide +kernel
theorem dX10_best_18 : decode cX10_best 18 = .ok (.i2l, 1) := by decide +kernel
theorem dX10_best_19 : decode cX10_best 19 = .ok (.lconst 0, 1) := by decide +kernel
theorem dX10_best_20 : decode cX10_best 20 = .ok (.lconst 1, 1) := by decide +kernel
theorem dX10_best_21 : decode cX10_best 21 = .ok (.invokestatic 49, 3) := by decide +kernel
theorem dX10_best_24 : decode cX10_best 24 = .ok (.ifCond .ne 5, 3) := by decide +kernel
theorem dX10_best_27 : decode cX10_best 27 = .ok (.iconst (-1), 1) := by decide +kernel
theorem dX10_best_28 : decode cX10_best 28 = .ok (.ireturn, 1) := by decide +kernel
theorem dX10_best_29 : decode cX10_best 29 = .ok (.iconst 0, 1) := by decide +kernel
theorem dX10_best_30 : decode cX10_best 30 = .ok (.istore_n 3, 1) := by decide +kernel
theorem dX10_best_31 : decode cX10_best 31 = .ok (.iconst (-1), 1) := by decide +kernel
theorem dX10_best_32 : decode cX10_best 32 = .ok (.istore 4, 2) := by decide +kernel
theorem dX10_best_34 : decode cX10_best 34 = .ok (.iconst 0, 1) := by decide +kernel
theorem dX10_best_35 : decode cX10_best 35 = .ok (.istore 5, 2) := by decide +kernel
theorem dX10_best_37 : decode cX10_best 37 = .ok (.iload 5, 2) := by decide +kernel
theorem dX10_best_39 : decode cX10_best 39 = .ok (.iconst 5, 1) := by decide +kernel
theorem dX10_best_40 : decode cX10_best 40 = .ok (.if_icmp .ge 35, 3) := by decide +kernel
theorem dX10_best_43 : decode cX10_best 43 = .ok (.aload_n 0, 1) := by decide +kernel
theorem dX10_best_44 : decode cX10_best 44 = .ok (.iload 5, 2) := by decide +kernel
theorem dX10_best_46 : decode cX10_best 46 = .ok (.iload_n 1, 1) := by decide +kernel
theorem dX10_best_47 : decode cX10_best 47 = .ok (.invokevirtual 312, 3) := by decide +kernel
theorem dX10_best_50 : decode cX10_best 50 = .ok (.istore 6, 2) := by decide +kernel
theorem dX10_best_52 : decode cX10_best 52 = .ok (.iload 6, 2) := by decide +kernel
theorem dX10_best_54 : decode cX10_best 54 = .ok (.iload 4, 2) := by decide +kernel
theorem dX10_best_56 : decode cX10_best 56 = .ok (.if_icmp .gt 6, 3) := by decide +kernel
theorem dX10_best_59 : decode cX10_best 59 = .ok (.goto 10, 3) := by decide +kernel
theorem dX10_best_62 : decode cX10_best 62 = .ok (.iload 5, 2) := by decide +kernel
theorem dX10_best_64 : decode cX10_best 64 = .ok (.istore_n 3, 1) := by decide +kernel
theorem dX10_best_65 : decode cX10_best 65 = .ok (.iload 6, 2) := by decide +kernel
theorem dX10_best_67 : decode cX10_best 67 = .ok (.istore 4, 2) := by decide +kernel
theorem dX10_best_69 : decode cX10_best 69 = .ok (.iinc 5 1, 3) := by decide +kernel
theorem dX10_best_72 : decode cX10_best 72 = .ok (.goto (-35), 3) := by decide +kernel
theorem dX10_best_75 : decode cX10_best 75 = .ok (.iload_n 2, 1) := by decide +kernel
theorem dX10_best_76 : decode cX10_best 76 = .ok (.ifCond .ne 7, 3) := by decide +kernel
theorem dX10_best_79 : decode cX10_best 79 = .ok (.iload_n 3, 1) := by decide +kernel
theorem dX10_best_80 : decode cX10_best 80 = .ok (.goto 12, 3) := by decide +kernel
theorem dX10_best_83 : decode cX10_best 83 = .ok (.aload_n 0, 1) := by decide +kernel
theorem dX10_best_84 : decode cX10_best 84 = .ok (.iconst 5, 1) := by decide +kernel
theorem dX10_best_85 : decode cX10_best 85 = .ok (.iload_n 1, 1) := by decide +kernel
theorem dX10_best_86 : decode cX10_best 86 = .ok (.invokevirtual 312, 3) := by decide +kernel
theorem dX10_best_89 : decode cX10_best 89 = .ok (.iload 4, 2) := by decide +kernel
theorem dX10_best_91 : decode cX10_best 91 = .ok (.isub, 1) := by decide +kernel
theorem dX10_best_92 : decode cX10_best 92 = .ok (.ireturn, 1) := by decide +kernel
theorem dX10_laysAgreed_0 : decode cX10_laysAgreed 0 = .ok (.iconst 0, 1) := by decide +kernel
theorem dX10_laysAgreed_1 : decode cX10_laysAgreed 1 = .ok (.istore_n 2, 1) := by decide +kernel
theorem dX10_laysAgreed_2 : decode cX10_laysAgreed 2 = .ok (.iload_n 2, 1) := by decide +kernel
theorem dX10_laysAgreed_3 : decode cX10_laysAgreed 3 = .ok (.sipush 1000, 3) := by decide +kernel
theorem dX10_laysAgreed_6 : decode cX10_laysAgreed 6 = .ok (.if_icmp .ge 16, 3) := by decide +kernel
theorem dX10_laysAgreed_9 : decode cX10_laysAgreed 9 = .ok (.aload_n 0, 1) := by decide +kernel
theorem dX10_laysAgreed_10 : decode cX10_laysAgreed 10 = .ok (.getfield 34, 3) := by decide +kernel
theorem dX10_laysAgreed_13 : decode cX10_laysAgreed 13 = .ok (.iload_n 2, 1) := by decide +kernel
theorem dX10_laysAgreed_14 : decode cX10_laysAgreed 14 = .ok (.iconst 1, 1) := by decide +kernel
theorem dX10_laysAgreed_15 : decode cX10_laysAgreed 15 = .ok (.bastore, 1) := by decide +kernel
theorem dX10_laysAgreed_16 : decode cX10_laysAgreed 16 = .ok (.iinc 2 1, 3) := by decide +kernel
theorem dX10_laysAgreed_19 : decode cX10_laysAgreed 19 = .ok (.goto (-17), 3) := by decide +kernel
theorem dX10_laysAgreed_22 : decode cX10_laysAgreed 22 = .ok (.iconst 0, 1) := by decide +kernel
theorem dX10_laysAgreed_23 : decode cX10_laysAgreed 23 = .ok (.istore_n 2, 1) := by decide +kernel
theorem dX10_laysAgreed_24 : decode cX10_laysAgreed 24 = .ok (.iload_n 2, 1) := by decide +kernel
theorem dX10_laysAgreed_25 : decode cX10_laysAgreed 25 = .ok (.iconst 5, 1) := by decide +kernel
theorem dX10_laysAgreed_26 : decode cX10_laysAgreed 26 = .ok (.if_icmp .ge 59, 3) := by decide +kernel
theorem dX10_laysAgreed_29 : decode cX10_laysAgreed 29 = .ok (.aload_n 0, 1) := by decide +kernel
theorem dX10_laysAgreed_30 : decode cX10_laysAgreed 30 = .ok (.iload_n 2, 1) := by decide +kernel
theorem dX10_laysAgreed_31 : decode cX10_laysAgreed 31 = .ok (.iload_n 1, 1) := by decide +kernel
theorem dX10_laysAgreed_32 : decode cX10_laysAgreed 32 = .ok (.invokevirtual 309, 3) := by decide +kernel
theorem dX10_laysAgreed_35 : decode cX10_laysAgreed 35 = .ok (.iconst 0, 1) := by decide +kernel
theorem dX10_laysAgreed_36 : decode cX10_laysAgreed 36 = .ok (.istore_n 3, 1) := by decide +kernel
theorem dX10_laysAgreed_37 : decode cX10_laysAgreed 37 = .ok (.iload_n 3, 1) := by decide +kernel
theorem dX10_laysAgreed_38 : decode cX10_laysAgreed 38 = .ok (.sipush 1000, 3) := by decide +kernel
theorem dX10_laysAgreed_41 : decode cX10_laysAgreed 41 = .ok (.if_icmp .ge 38, 3) := by decide +kernel
theorem dX10_laysAgreed_44 : decode cX10_laysAgreed 44 = .ok (.aload_n 0, 1) := by decide +kernel
theorem dX10_laysAgreed_45 : decode cX10_laysAgreed 45 = .ok (.getfield 34, 3) := by decide +kernel
theorem dX10_laysAgreed_48 : decode cX10_laysAgreed 48 = .ok (.iload_n 3, 1) := by decide +kernel
theorem dX10_laysAgreed_49 : decode cX10_laysAgreed 49 = .ok (.aload_n 0, 1) := by decide +kernel
theorem dX10_laysAgreed_50 : decode cX10_laysAgreed 50 = .ok (.getfield 34, 3) := by decide +kernel
theorem dX10_laysAgreed_53 : decode cX10_laysAgreed 53 = .ok (.iload_n 3, 1) := by decide +kernel
theorem dX10_laysAgreed_54 : decode cX10_laysAgreed 54 = .ok (.baload, 1) := by decide +kernel
theorem dX10_laysAgreed_55 : decode cX10_laysAgreed 55 = .ok (.ifCond .eq 16, 3) := by decide +kernel
theorem dX10_laysAgreed_58 : decode cX10_laysAgreed 58 = .ok (.aload_n 0, 1) := by decide +kernel
theorem dX10_laysAgreed_59 : decode cX10_laysAgreed 59 = .ok (.iload_n 3, 1) := by decide +kernel
theorem dX10_laysAgreed_60 : decode cX10_laysAgreed 60 = .ok (.invokevirtual 118, 3) := by decide +kernel
theorem dX10_laysAgreed_63 : decode cX10_laysAgreed 63 = .ok (.iconst (-1), 1) := by decide +kernel
theorem dX10_laysAgreed_64 : decode cX10_laysAgreed 64 = .ok (.if_icmp .eq 7, 3) := by decide +kernel
theorem dX10_laysAgreed_67 : decode cX10_laysAgreed 67 = .ok (.iconst 1, 1) := by decide +kernel
theorem dX10_laysAgreed_68 : decode cX10_laysAgreed 68 = .ok (.goto 4, 3) := by decide +kernel
theorem dX10_laysAgreed_71 : decode cX10_laysAgreed 71 = .ok (.iconst 0, 1) := by decide +kernel
theorem dX10_laysAgreed_72 : decode cX10_laysAgreed 72 = .ok (.bastore, 1) := by decide +kernel
theorem dX10_laysAgreed_73 : decode cX10_laysAgreed 73 = .ok (.iinc 3 1, 3) := by decide +kernel
theorem dX10_laysAgreed_76 : decode cX10_laysAgreed 76 = .ok (.goto (-39), 3) := by decide +kernel
theorem dX10_laysAgreed_79 : decode cX10_laysAgreed 79 = .ok (.iinc 2 1, 3) := by decide +kernel
theorem dX10_laysAgreed_82 : decode cX10_laysAgreed 82 = .ok (.goto (-58), 3) := by decide +kernel
theorem dX10_laysAgreed_85 : decode cX10_laysAgreed 85 = .ok (.aload_n 0, 1) := by decide +kernel
theorem dX10_laysAgreed_86 : decode cX10_laysAgreed 86 = .ok (.invokevirtual 268, 3) := by decide +kernel
theorem dX10_laysAgreed_89 : decode cX10_laysAgreed 89 = .ok (.return_, 1) := by decide +kernel
theorem dX10_agree_0 : decode cX10_agree 0 = .ok (.aload_n 0, 1) := by decide +kernel
theorem dX10_agree_1 : decode cX10_agree 1 = .ok (.iconst 0, 1) := by decide +kernel
theorem dX10_agree_2 : decode cX10_agree 2 = .ok (.putfield 1, 3) := by decide +kernel
theorem dX10_agree_5 : decode cX10_agree 5 = .ok (.iload_n 1, 1) := by decide +kernel
theorem dX10_agree_6 : decode cX10_agree 6 = .ok (.i2l, 1) := by decide +kernel
theorem dX10_agree_7 : decode cX10_agree 7 = .ok (.lconst 0, 1) := by decide +kernel
theorem dX10_agree_8 : decode cX10_agree 8 = .ok (.ldc2_w 240, 3) := by decide +kernel
theorem dX10_agree_11 : decode cX10_agree 11 = .ok (.invokestatic 49, 3) := by decide +kernel
theorem dX10_agree_14 : decode cX10_agree 14 = .ok (.ifCond .eq 8, 3) := by decide +kernel
theorem dX10_agree_17 : decode cX10_agree 17 = .ok (.iload_n 2, 1) := by decide +kernel
theorem dX10_agree_18 : decode cX10_agree 18 = .ok (.iconst (-1), 1) := by decide +kernel
theorem dX10_agree_19 : decode cX10_agree 19 = .ok (.if_icmp .ge 5, 3) := by decide +kernel
theorem dX10_agree_22 : decode cX10_agree 22 = .ok (.iconst (-1), 1) := by decide +kernel
theorem dX10_agree_23 : decode cX10_agree 23 = .ok (.ireturn, 1) := by decide +kernel
theorem dX10_agree_24 : decode cX10_agree 24 = .ok (.aload_n 0, 1) := by decide +kernel
theorem dX10_agree_25 : decode cX10_agree 25 = .ok (.iload_n 1, 1) := by decide +kernel
theorem dX10_agree_26 : decode cX10_agree 26 = .ok (.invokevirtual 315, 3) := by decide +kernel
theorem dX10_agree_29 : decode cX10_agree 29 = .ok (.iconst 0, 1) := by decide +kernel
theorem dX10_agree_30 : decode cX10_agree 30 = .ok (.istore_n 3, 1) := by decide +kernel
theorem dX10_agree_31 : decode cX10_agree 31 = .ok (.iconst 0, 1) := by decide +kernel
theorem dX10_agree_32 : decode cX10_agree 32 = .ok (.istore 4, 2) := by decide +kernel
theorem dX10_agree_34 : decode cX10_agree 34 = .ok (.iload 4, 2) := by decide +kernel
theorem dX10_agree_36 : decode cX10_agree 36 = .ok (.sipush 1000, 3) := by decide +kernel
theorem dX10_agree_39 : decode cX10_agree 39 = .ok (.if_icmp .ge 33, 3) := by decide +kernel
theorem dX10_agree_42 : decode cX10_agree 42 = .ok (.aload_n 0, 1) := by decide +kernel
theorem dX10_agree_43 : decode cX10_agree 43 = .ok (.getfield 34, 3) := by decide +kernel
theorem dX10_agree_46 : decode cX10_agree 46 = .ok (.iload 4, 2) := by decide +kernel
theorem dX10_agree_48 : decode cX10_agree 48 = .ok (.baload, 1) := by decide +kernel
theorem dX10_agree_49 : decode cX10_agree 49 = .ok (.ifCond .ne 6, 3) := by decide +kernel
theorem dX10_agree_52 : decode cX10_agree 52 = .ok (.goto 14, 3) := by decide +kernel
theorem dX10_agree_55 : decode cX10_agree 55 = .ok (.iload_n 3, 1) := by decide +kernel
theorem dX10_agree_56 : decode cX10_agree 56 = .ok (.iload_n 2, 1) := by decide +kernel
theorem dX10_agree_57 : decode cX10_agree 57 = .ok (.if_icmp .ne 6, 3) := by decide +kernel
theorem dX10_agree_60 : decode cX10_agree 60 = .ok (.iload 4, 2) := by decide +kernel
theorem dX10_agree_62 : decode cX10_agree 62 = .ok (.ireturn, 1) := by decide +kernel
theorem dX10_agree_63 : decode cX10_agree 63 = .ok (.iinc 3 1, 3) := by decide +kernel
theorem dX10_agree_66 : decode cX10_agree 66 = .ok (.iinc 4 1, 3) := by decide +kernel
theorem dX10_agree_69 : decode cX10_agree 69 = .ok (.goto (-35), 3) := by decide +kernel
theorem dX10_agree_72 : decode cX10_agree 72 = .ok (.iload_n 2, 1) := by decide +kernel
theorem dX10_agree_73 : decode cX10_agree 73 = .ok (.iconst (-1), 1) := by decide +kernel
theorem dX10_agree_74 : decode cX10_agree 74 = .ok (.if_icmp .ne 7, 3) := by decide +kernel
theorem dX10_agree_77 : decode cX10_agree 77 = .ok (.iload_n 3, 1) := by decide +kernel
theorem dX10_agree_78 : decode cX10_agree 78 = .ok (.goto 4, 3) := by decide +kernel
theorem dX10_agree_81 : decode cX10_agree 81 = .ok (.iconst (-1), 1) := by decide +kernel
theorem dX10_agree_82 : decode cX10_agree 82 = .ok (.ireturn, 1) := by decide +kernel
theorem dX10_regret_0 : decode cX10_regret 0 = .ok (.aload_n 0, 1) := by decide +kernel
theorem dX10_regret_1 : decode cX10_regret 1 = .ok (.iconst 0, 1) := by decide +kernel
theorem dX10_regret_2 : decode cX10_regret 2 = .ok (.putfield 1, 3) := by decide +kernel
theorem dX10_regret_5 : decode cX10_regret 5 = .ok (.iload_n 1, 1) := by decide +kernel
theorem dX10_regret_6 : decode cX10_regret 6 = .ok (.invokestatic 306, 3) := by decide +kernel
theorem dX10_regret_9 : decode cX10_regret 9 = .ok (.ifCond .eq 25, 3) := by decide +kernel
theorem dX10_regret_12 : decode cX10_regret 12 = .ok (.iload_n 2, 1) := by decide +kernel
theorem dX10_regret_13 : decode cX10_regret 13 = .ok (.i2l, 1) := by decide +kernel
theorem dX10_regret_14 : decode cX10_regret 14 = .ok (.lconst 0, 1) := by decide +kernel
theorem dX10_regret_15 : decode cX10_regret 15 = .ok (.ldc2_w 240, 3) := by decide +kernel
theorem dX10_regret_18 : decode cX10_regret 18 = .ok (.invokestatic 49, 3) := by decide +kernel
theorem dX10_regret_21 : decode cX10_regret 21 = .ok (.ifCond .eq 13, 3) := by decide +kernel
theorem dX10_regret_24 : decode cX10_regret 24 = .ok (.iload_n 3, 1) := by decide +kernel
theorem dX10_regret_25 : decode cX10_regret 25 = .ok (.i2l, 1) := by decide +kernel
theorem dX10_regret_26 : decode cX10_regret 26 = .ok (.lconst 0, 1) := by decide +kernel
theorem dX10_regret_27 : decode cX10_regret 27 = .ok (.lconst 1, 1) := by decide +kernel
theorem dX10_regret_28 : decode cX10_regret 28 = .ok (.invokestatic 49, 3) := by decide +kernel
theorem dX10_regret_31 : decode cX10_regret 31 = .ok (.ifCond .ne 5, 3) := by decide +kernel
theorem dX10_regret_34 : decode cX10_regret 34 = .ok (.iconst (-1), 1) := by decide +kernel
theorem dX10_regret_35 : decode cX10_regret 35 = .ok (.ireturn, 1) := by decide +kernel
theorem dX10_regret_36 : decode cX10_regret 36 = .ok (.aload_n 0, 1) := by decide +kernel
theorem dX10_regret_37 : decode cX10_regret 37 = .ok (.iload_n 1, 1) := by decide +kernel
theorem dX10_regret_38 : decode cX10_regret 38 = .ok (.iload_n 2, 1) := by decide +kernel
theorem dX10_regret_39 : decode cX10_regret 39 = .ok (.invokevirtual 309, 3) := by decide +kernel
theorem dX10_regret_42 : decode cX10_regret 42 = .ok (.aload_n 0, 1) := by decide +kernel
theorem dX10_regret_43 : decode cX10_regret 43 = .ok (.invokevirtual 268, 3) := by decide +kernel
theorem dX10_regret_46 : decode cX10_regret 46 = .ok (.iload_n 3, 1) := by decide +kernel
theorem dX10_regret_47 : decode cX10_regret 47 = .ok (.ifCond .ne 10, 3) := by decide +kernel
theorem dX10_regret_50 : decode cX10_regret 50 = .ok (.aload_n 0, 1) := by decide +kernel
theorem dX10_regret_51 : decode cX10_regret 51 = .ok (.getfield 289, 3) := by decide +kernel
theorem dX10_regret_54 : decode cX10_regret 54 = .ok (.goto 7, 3) := by decide +kernel
theorem dX10_regret_57 : decode cX10_regret 57 = .ok (.aload_n 0, 1) := by decide +kernel
theorem dX10_regret_58 : decode cX10_regret 58 = .ok (.getfield 292, 3) := by decide +kernel
theorem dX10_regret_61 : decode cX10_regret 61 = .ok (.ireturn, 1) := by decide +kernel
theorem dX10_oftenOf_0 : decode cX10_oftenOf 0 = .ok (.iconst 0, 1) := by decide +kernel
theorem dX10_oftenOf_1 : decode cX10_oftenOf 1 = .ok (.istore_n 2, 1) := by decide +kernel
theorem dX10_oftenOf_2 : decode cX10_oftenOf 2 = .ok (.iconst 0, 1) := by decide +kernel
theorem dX10_oftenOf_3 : decode cX10_oftenOf 3 = .ok (.istore_n 3, 1) := by decide +kernel
theorem dX10_oftenOf_4 : decode cX10_oftenOf 4 = .ok (.iload_n 3, 1) := by decide +kernel
theorem dX10_oftenOf_5 : decode cX10_oftenOf 5 = .ok (.aload_n 0, 1) := by decide +kernel
theorem dX10_oftenOf_6 : decode cX10_oftenOf 6 = .ok (.getfield 17, 3) := by decide +kernel
theorem dX10_oftenOf_9 : decode cX10_oftenOf 9 = .ok (.bipush 14, 2) := by decide +kernel
theorem dX10_oftenOf_11 : decode cX10_oftenOf 11 = .ok (.iaload, 1) := by decide +kernel
theorem dX10_oftenOf_12 : decode cX10_oftenOf 12 = .ok (.if_icmp .ge 34, 3) := by decide +kernel
theorem dX10_oftenOf_15 : decode cX10_oftenOf 15 = .ok (.iload_n 2, 1) := by decide +kernel
theorem dX10_oftenOf_16 : decode cX10_oftenOf 16 = .ok (.aload_n 0, 1) := by decide +kernel
theorem dX10_oftenOf_17 : decode cX10_oftenOf 17 = .ok (.getfield 17, 3) := by decide +kernel
theorem dX10_oftenOf_20 : decode cX10_oftenOf 20 = .ok (.sipush 748, 3) := by decide +kernel
theorem dX10_oftenOf_23 : decode cX10_oftenOf 23 = .ok (.iload_n 3, 1) := by decide +kernel
theorem dX10_oftenOf_24 : decode cX10_oftenOf 24 = .ok (.iadd, 1) := by decide +kernel
theorem dX10_oftenOf_25 : decode cX10_oftenOf 25 = .ok (.iaload, 1) := by decide +kernel
theorem dX10_oftenOf_26 : decode cX10_oftenOf 26 = .ok (.iload_n 1, 1) := by decide +kernel
theorem dX10_oftenOf_27 : decode cX10_oftenOf 27 = .ok (.if_icmp .ne 7, 3) := by decide +kernel
theorem dX10_oftenOf_30 : decode cX10_oftenOf 30 = .ok (.iconst 1, 1) := by decide +kernel
theorem dX10_oftenOf_31 : decode cX10_oftenOf 31 = .ok (.goto 4, 3) := by decide +kernel
theorem dX10_oftenOf_34 : decode cX10_oftenOf 34 = .ok (.iconst 0, 1) := by decide +kernel
theorem dX10_oftenOf_35 : decode cX10_oftenOf 35 = .ok (.invokestatic 57, 3) := by decide +kernel
theorem dX10_oftenOf_38 : decode cX10_oftenOf 38 = .ok (.iadd, 1) := by decide +kernel
theorem dX10_oftenOf_39 : decode cX10_oftenOf 39 = .ok (.istore_n 2, 1) := by decide +kernel
theorem dX10_oftenOf_40 : decode cX10_oftenOf 40 = .ok (.iinc 3 1, 3) := by decide +kernel
theorem dX10_oftenOf_43 : decode cX10_oftenOf 43 = .ok (.goto (-39), 3) := by decide +kernel
theorem dX10_oftenOf_46 : decode cX10_oftenOf 46 = .ok (.iload_n 2, 1) := by decide +kernel
theorem dX10_oftenOf_47 : decode cX10_oftenOf 47 = .ok (.ireturn, 1) := by decide +kernel
theorem dX10_hotBehind_0 : decode cX10_hotBehind 0 = .ok (.iconst (-1), 1) := by decide +kernel
theorem dX10_hotBehind_1 : decode cX10_hotBehind 1 = .ok (.istore_n 3, 1) := by decide +kernel
theorem dX10_hotBehind_2 : decode cX10_hotBehind 2 = .ok (.iconst 0, 1) := by decide +kernel
theorem dX10_hotBehind_3 : decode cX10_hotBehind 3 = .ok (.istore 4, 2) := by decide +kernel
theorem dX10_hotBehind_5 : decode cX10_hotBehind 5 = .ok (.iconst 0, 1) := by decide +kernel
theorem dX10_hotBehind_6 : decode cX10_hotBehind 6 = .ok (.istore 5, 2) := by decide +kernel
theorem dX10_hotBehind_8 : decode cX10_hotBehind 8 = .ok (.iload 5, 2) := by decide +kernel
theorem dX10_hotBehind_10 : decode cX10_hotBehind 10 = .ok (.aload_n 0, 1) := by decide +kernel
theorem dX10_hotBehind_11 : decode cX10_hotBehind 11 = .ok (.getfield 17, 3) := by decide +kernel
theorem dX10_hotBehind_14 : decode cX10_hotBehind 14 = .ok (.bipush 14, 2) := by decide +kernel
theorem dX10_hotBehind_16 : decode cX10_hotBehind 16 = .ok (.iaload, 1) := by decide +kernel
theorem dX10_hotBehind_17 : decode cX10_hotBehind 17 = .ok (.if_icmp .ge 91, 3) := by decide +kernel
theorem dX10_hotBehind_20 : decode cX10_hotBehind 20 = .ok (.aload_n 0, 1) := by decide +kernel
theorem dX10_hotBehind_21 : decode cX10_hotBehind 21 = .ok (.getfield 17, 3) := by decide +kernel
theorem dX10_hotBehind_24 : decode cX10_hotBehind 24 = .ok (.sipush 748, 3) := by decide +kernel
theorem dX10_hotBehind_27 : decode cX10_hotBehind 27 = .ok (.iload 5, 2) := by decide +kernel
theorem dX10_hotBehind_29 : decode cX10_hotBehind 29 = .ok (.iadd, 1) := by decide +kernel
theorem dX10_hotBehind_30 : decode cX10_hotBehind 30 = .ok (.iaload, 1) := by decide +kernel
theorem dX10_hotBehind_31 : decode cX10_hotBehind 31 = .ok (.istore 6, 2) := by decide +kernel
theorem dX10_hotBehind_33 : decode cX10_hotBehind 33 = .ok (.aload_n 0, 1) := by decide +kernel
theorem dX10_hotBehind_34 : decode cX10_hotBehind 34 = .ok (.iload 6, 2) := by decide +kernel
theorem dX10_hotBehind_36 : decode cX10_hotBehind 36 = .ok (.invokevirtual 318, 3) := by decide +kernel
theorem dX10_hotBehind_39 : decode cX10_hotBehind 39 = .ok (.istore 7, 2) := by decide +kernel
theorem dX10_hotBehind_41 : decode cX10_hotBehind 41 = .ok (.iload_n 1, 1) := by decide +kernel
theorem dX10_hotBehind_42 : decode cX10_hotBehind 42 = .ok (.iconst (-1), 1) := by decide +kernel
theorem dX10_hotBehind_43 : decode cX10_hotBehind 43 = .ok (.if_icmp .eq 24, 3) := by decide +kernel
theorem dX10_hotBehind_46 : decode cX10_hotBehind 46 = .ok (.iload 7, 2) := by decide +kernel
theorem dX10_hotBehind_48 : decode cX10_hotBehind 48 = .ok (.iload_n 2, 1) := by decide +kernel
theorem dX10_hotBehind_49 : decode cX10_hotBehind 49 = .ok (.if_icmp .gt 53, 3) := by decide +kernel
theorem dX10_hotBehind_52 : decode cX10_hotBehind 52 = .ok (.iload 7, 2) := by decide +kernel
theorem dX10_hotBehind_54 : decode cX10_hotBehind 54 = .ok (.iload_n 2, 1) := by decide +kernel
theorem dX10_hotBehind_55 : decode cX10_hotBehind 55 = .ok (.if_icmp .ne 12, 3) := by decide +kernel
theorem dX10_hotBehind_58 : decode cX10_hotBehind 58 = .ok (.iload 6, 2) := by decide +kernel
theorem dX10_hotBehind_60 : decode cX10_hotBehind 60 = .ok (.iload_n 1, 1) := by decide +kernel
theorem dX10_hotBehind_61 : decode cX10_hotBehind 61 = .ok (.if_icmp .gt 6, 3) := by decide +kernel
theorem dX10_hotBehind_64 : decode cX10_hotBehind 64 = .ok (.goto 38, 3) := by decide +kernel
theorem dX10_hotBehind_67 : decode cX10_hotBehind 67 = .ok (.iload_n 3, 1) := by decide +kernel
theorem dX10_hotBehind_68 : decode cX10_hotBehind 68 = .ok (.iconst (-1), 1) := by decide +kernel
theorem dX10_hotBehind_69 : decode cX10_hotBehind 69 = .ok (.if_icmp .eq 26, 3) := by decide +kernel
theorem dX10_hotBehind_72 : decode cX10_hotBehind 72 = .ok (.iload 7, 2) := by decide +kernel
theorem dX10_hotBehind_74 : decode cX10_hotBehind 74 = .ok (.iload 4, 2) := by decide +kernel
theorem dX10_hotBehind_76 : decode cX10_hotBehind 76 = .ok (.if_icmp .lt 26, 3) := by decide +kernel
theorem dX10_hotBehind_79 : decode cX10_hotBehind 79 = .ok (.iload 7, 2) := by decide +kernel
theorem dX10_hotBehind_81 : decode cX10_hotBehind 81 = .ok (.iload 4, 2) := by decide +kernel
theorem dX10_hotBehind_83 : decode cX10_hotBehind 83 = .ok (.if_icmp .ne 12, 3) := by decide +kernel
theorem dX10_hotBehind_86 : decode cX10_hotBehind 86 = .ok (.iload 6, 2) := by decide +kernel
theorem dX10_hotBehind_88 : decode cX10_hotBehind 88 = .ok (.iload_n 3, 1) := by decide +kernel
theorem dX10_hotBehind_89 : decode cX10_hotBehind 89 = .ok (.if_icmp .lt 6, 3) := by decide +kernel
theorem dX10_hotBehind_92 : decode cX10_hotBehind 92 = .ok (.goto 10, 3) := by decide +kernel
theorem dX10_hotBehind_95 : decode cX10_hotBehind 95 = .ok (.iload 6, 2) := by decide +kernel
theorem dX10_hotBehind_97 : decode cX10_hotBehind 97 = .ok (.istore_n 3, 1) := by decide +kernel
theorem dX10_hotBehind_98 : decode cX10_hotBehind 98 = .ok (.iload 7, 2) := by decide +kernel
theorem dX10_hotBehind_100 : decode cX10_hotBehind 100 = .ok (.istore 4, 2) := by decide +kernel
theorem dX10_hotBehind_102 : decode cX10_hotBehind 102 = .ok (.iinc 5 1, 3) := by decide +kernel
theorem dX10_hotBehind_105 : decode cX10_hotBehind 105 = .ok (.goto (-97), 3) := by decide +kernel
theorem dX10_hotBehind_108 : decode cX10_hotBehind 108 = .ok (.iload_n 3, 1) := by decide +kernel
theorem dX10_hotBehind_109 : decode cX10_hotBehind 109 = .ok (.ireturn, 1) := by decide +kernel
theorem dX10_hot_0 : decode cX10_hot 0 = .ok (.aload_n 0, 1) := by decide +kernel
theorem dX10_hot_1 : decode cX10_hot 1 = .ok (.iconst 0, 1) := by decide +kernel
theorem dX10_hot_2 : decode cX10_hot 2 = .ok (.putfield 1, 3) := by decide +kernel
theorem dX10_hot_5 : decode cX10_hot 5 = .ok (.iload_n 1, 1) := by decide +kernel
theorem dX10_hot_6 : decode cX10_hot 6 = .ok (.iconst (-1), 1) := by decide +kernel
theorem dX10_hot_7 : decode cX10_hot 7 = .ok (.if_icmp .lt 18, 3) := by decide +kernel
theorem dX10_hot_10 : decode cX10_hot 10 = .ok (.iload_n 1, 1) := by decide +kernel
theorem dX10_hot_11 : decode cX10_hot 11 = .ok (.iconst (-1), 1) := by decide +kernel
theorem dX10_hot_12 : decode cX10_hot 12 = .ok (.if_icmp .eq 15, 3) := by decide +kernel
theorem dX10_hot_15 : decode cX10_hot 15 = .ok (.iload_n 2, 1) := by decide +kernel
theorem dX10_hot_16 : decode cX10_hot 16 = .ok (.i2l, 1) := by decide +kernel
theorem dX10_hot_17 : decode cX10_hot 17 = .ok (.lconst 0, 1) := by decide +kernel
theorem dX10_hot_18 : decode cX10_hot 18 = .ok (.lconst 1, 1) := by decide +kernel
theorem dX10_hot_19 : decode cX10_hot 19 = .ok (.invokestatic 49, 3) := by decide +kernel
theorem dX10_hot_22 : decode cX10_hot 22 = .ok (.ifCond .ne 5, 3) := by decide +kernel
theorem dX10_hot_25 : decode cX10_hot 25 = .ok (.iconst (-1), 1) := by decide +kernel
theorem dX10_hot_26 : decode cX10_hot 26 = .ok (.ireturn, 1) := by decide +kernel
theorem dX10_hot_27 : decode cX10_hot 27 = .ok (.iconst 0, 1) := by decide +kernel
theorem dX10_hot_28 : decode cX10_hot 28 = .ok (.istore_n 3, 1) := by decide +kernel
theorem dX10_hot_29 : decode cX10_hot 29 = .ok (.aload_n 0, 1) := by decide +kernel
theorem dX10_hot_30 : decode cX10_hot 30 = .ok (.iconst (-1), 1) := by decide +kernel
theorem dX10_hot_31 : decode cX10_hot 31 = .ok (.iconst 0, 1) := by decide +kernel
theorem dX10_hot_32 : decode cX10_hot 32 = .ok (.invokevirtual 321, 3) := by decide +kernel
theorem dX10_hot_35 : decode cX10_hot 35 = .ok (.istore 4, 2) := by decide +kernel
theorem dX10_hot_37 : decode cX10_hot 37 = .ok (.iload 4, 2) := by decide +kernel
theorem dX10_hot_39 : decode cX10_hot 39 = .ok (.iconst (-1), 1) := by decide +kernel
theorem dX10_hot_40 : decode cX10_hot 40 = .ok (.if_icmp .eq 44, 3) := by decide +kernel
theorem dX10_hot_43 : decode cX10_hot 43 = .ok (.iload_n 3, 1) := by decide +kernel
theorem dX10_hot_44 : decode cX10_hot 44 = .ok (.iload_n 1, 1) := by decide +kernel
theorem dX10_hot_45 : decode cX10_hot 45 = .ok (.if_icmp .ne 19, 3) := by decide +kernel
theorem dX10_hot_48 : decode cX10_hot 48 = .ok (.iload_n 2, 1) := by decide +kernel
theorem dX10_hot_49 : decode cX10_hot 49 = .ok (.ifCond .ne 8, 3) := by decide +kernel
theorem dX10_hot_52 : decode cX10_hot 52 = .ok (.iload 4, 2) := by decide +kernel
theorem dX10_hot_54 : decode cX10_hot 54 = .ok (.goto 9, 3) := by decide +kernel
theorem dX10_hot_57 : decode cX10_hot 57 = .ok (.aload_n 0, 1) := by decide +kernel
theorem dX10_hot_58 : decode cX10_hot 58 = .ok (.iload 4, 2) := by decide +kernel
theorem dX10_hot_60 : decode cX10_hot 60 = .ok (.invokevirtual 318, 3) := by decide +kernel
theorem dX10_hot_63 : decode cX10_hot 63 = .ok (.ireturn, 1) := by decide +kernel
theorem dX10_hot_64 : decode cX10_hot 64 = .ok (.iinc 3 1, 3) := by decide +kernel
theorem dX10_hot_67 : decode cX10_hot 67 = .ok (.aload_n 0, 1) := by decide +kernel
theorem dX10_hot_68 : decode cX10_hot 68 = .ok (.iload 4, 2) := by decide +kernel
theorem dX10_hot_70 : decode cX10_hot 70 = .ok (.aload_n 0, 1) := by decide +kernel
theorem dX10_hot_71 : decode cX10_hot 71 = .ok (.iload 4, 2) := by decide +kernel
theorem dX10_hot_73 : decode cX10_hot 73 = .ok (.invokevirtual 318, 3) := by decide +kernel
theorem dX10_hot_76 : decode cX10_hot 76 = .ok (.invokevirtual 321, 3) := by decide +kernel
theorem dX10_hot_79 : decode cX10_hot 79 = .ok (.istore 4, 2) := by decide +kernel
theorem dX10_hot_81 : decode cX10_hot 81 = .ok (.goto (-44), 3) := by decide +kernel
theorem dX10_hot_84 : decode cX10_hot 84 = .ok (.iload_n 1, 1) := by decide +kernel
theorem dX10_hot_85 : decode cX10_hot 85 = .ok (.iconst (-1), 1) := by decide +kernel
theorem dX10_hot_86 : decode cX10_hot 86 = .ok (.if_icmp .ne 7, 3) := by decide +kernel
theorem dX10_hot_89 : decode cX10_hot 89 = .ok (.iload_n 3, 1) := by decide +kernel
theorem dX10_hot_90 : decode cX10_hot 90 = .ok (.goto 4, 3) := by decide +kernel
theorem dX10_hot_93 : decode cX10_hot 93 = .ok (.iconst (-1), 1) := by decide +kernel
theorem dX10_hot_94 : decode cX10_hot 94 = .ok (.ireturn, 1) := by decide +kernel
theorem dX10_profile_0 : decode cX10_profile 0 = .ok (.aload_n 0, 1) := by decide +kernel
theorem dX10_profile_1 : decode cX10_profile 1 = .ok (.iconst 0, 1) := by decide +kernel
theorem dX10_profile_2 : decode cX10_profile 2 = .ok (.putfield 1, 3) := by decide +kernel
theorem dX10_profile_5 : decode cX10_profile 5 = .ok (.iconst 0, 1) := by decide +kernel
theorem dX10_profile_6 : decode cX10_profile 6 = .ok (.istore_n 2, 1) := by decide +kernel
theorem dX10_profile_7 : decode cX10_profile 7 = .ok (.iconst 0, 1) := by decide +kernel
theorem dX10_profile_8 : decode cX10_profile 8 = .ok (.istore_n 3, 1) := by decide +kernel
theorem dX10_profile_9 : decode cX10_profile 9 = .ok (.iload_n 3, 1) := by decide +kernel
theorem dX10_profile_10 : decode cX10_profile 10 = .ok (.aload_n 0, 1) := by decide +kernel
theorem dX10_profile_11 : decode cX10_profile 11 = .ok (.getfield 17, 3) := by decide +kernel
theorem dX10_profile_14 : decode cX10_profile 14 = .ok (.bipush 14, 2) := by decide +kernel
theorem dX10_profile_16 : decode cX10_profile 16 = .ok (.iaload, 1) := by decide +kernel
theorem dX10_profile_17 : decode cX10_profile 17 = .ok (.if_icmp .ge 29, 3) := by decide +kernel
theorem dX10_profile_20 : decode cX10_profile 20 = .ok (.iload_n 2, 1) := by decide +kernel
theorem dX10_profile_21 : decode cX10_profile 21 = .ok (.aload_n 0, 1) := by decide +kernel
theorem dX10_profile_22 : decode cX10_profile 22 = .ok (.iload_n 3, 1) := by decide +kernel
theorem dX10_profile_23 : decode cX10_profile 23 = .ok (.invokevirtual 324, 3) := by decide +kernel
theorem dX10_profile_26 : decode cX10_profile 26 = .ok (.iload_n 1, 1) := by decide +kernel
theorem dX10_profile_27 : decode cX10_profile 27 = .ok (.if_icmp .ne 7, 3) := by decide +kernel
theorem dX10_profile_30 : decode cX10_profile 30 = .ok (.iconst 1, 1) := by decide +kernel
theorem dX10_profile_31 : decode cX10_profile 31 = .ok (.goto 4, 3) := by decide +kernel
theorem dX10_profile_34 : decode cX10_profile 34 = .ok (.iconst 0, 1) := by decide +kernel
theorem dX10_profile_35 : decode cX10_profile 35 = .ok (.invokestatic 57, 3) := by decide +kernel
theorem dX10_profile_38 : decode cX10_profile 38 = .ok (.iadd, 1) := by decide +kernel
theorem dX10_profile_39 : decode cX10_profile 39 = .ok (.istore_n 2, 1) := by decide +kernel
theorem dX10_profile_40 : decode cX10_profile 40 = .ok (.iinc 3 1, 3) := by decide +kernel
theorem dX10_profile_43 : decode cX10_profile 43 = .ok (.goto (-34), 3) := by decide +kernel
theorem dX10_profile_46 : decode cX10_profile 46 = .ok (.iload_n 2, 1) := by decide +kernel
theorem dX10_profile_47 : decode cX10_profile 47 = .ok (.ireturn, 1) := by decide +kernel
theorem dX10_logged_0 : decode cX10_logged 0 = .ok (.aload_n 0, 1) := by decide +kernel
theorem dX10_logged_1 : decode cX10_logged 1 = .ok (.iconst 0, 1) := by decide +kernel
theorem dX10_logged_2 : decode cX10_logged 2 = .ok (.putfield 1, 3) := by decide +kernel
theorem dX10_logged_5 : decode cX10_logged 5 = .ok (.iload_n 1, 1) := by decide +kernel
theorem dX10_logged_6 : decode cX10_logged 6 = .ok (.i2l, 1) := by decide +kernel
theorem dX10_logged_7 : decode cX10_logged 7 = .ok (.lconst 0, 1) := by decide +kernel
theorem dX10_logged_8 : decode cX10_logged 8 = .ok (.ldc2_w 216, 3) := by decide +kernel
theorem dX10_logged_11 : decode cX10_logged 11 = .ok (.invokestatic 49, 3) := by decide +kernel
theorem dX10_logged_14 : decode cX10_logged 14 = .ok (.ifCond .eq 15, 3) := by decide +kernel
theorem dX10_logged_17 : decode cX10_logged 17 = .ok (.iload_n 2, 1) := by decide +kernel
theorem dX10_logged_18 : decode cX10_logged 18 = .ok (.i2l, 1) := by decide +kernel
theorem dX10_logged_19 : decode cX10_logged 19 = .ok (.lconst 0, 1) := by decide +kernel
theorem dX10_logged_20 : decode cX10_logged 20 = .ok (.ldc2_w 260, 3) := by decide +kernel
theorem dX10_logged_23 : decode cX10_logged 23 = .ok (.invokestatic 49, 3) := by decide +kernel
theorem dX10_logged_26 : decode cX10_logged 26 = .ok (.ifCond .ne 5, 3) := by decide +kernel
theorem dX10_logged_29 : decode cX10_logged 29 = .ok (.iconst (-1), 1) := by decide +kernel
theorem dX10_logged_30 : decode cX10_logged 30 = .ok (.ireturn, 1) := by decide +kernel
theorem dX10_logged_31 : decode cX10_logged 31 = .ok (.iconst 0, 1) := by decide +kernel
theorem dX10_logged_32 : decode cX10_logged 32 = .ok (.istore_n 3, 1) := by decide +kernel
theorem dX10_logged_33 : decode cX10_logged 33 = .ok (.iconst (-1), 1) := by decide +kernel
theorem dX10_logged_34 : decode cX10_logged 34 = .ok (.istore 4, 2) := by decide +kernel
theorem dX10_logged_36 : decode cX10_logged 36 = .ok (.iconst 0, 1) := by decide +kernel
theorem dX10_logged_37 : decode cX10_logged 37 = .ok (.istore 5, 2) := by decide +kernel
theorem dX10_logged_39 : decode cX10_logged 39 = .ok (.iconst 0, 1) := by decide +kernel
theorem dX10_logged_40 : decode cX10_logged 40 = .ok (.istore 6, 2) := by decide +kernel
theorem dX10_logged_42 : decode cX10_logged 42 = .ok (.iload 6, 2) := by decide +kernel
theorem dX10_logged_44 : decode cX10_logged 44 = .ok (.aload_n 0, 1) := by decide +kernel
theorem dX10_logged_45 : decode cX10_logged 45 = .ok (.getfield 17, 3) := by decide +kernel
theorem dX10_logged_48 : decode cX10_logged 48 = .ok (.bipush 18, 2) := by decide +kernel
theorem dX10_logged_50 : decode cX10_logged 50 = .ok (.iaload, 1) := by decide +kernel
theorem dX10_logged_51 : decode cX10_logged 51 = .ok (.if_icmp .ge 105, 3) := by decide +kernel
theorem dX10_logged_54 : decode cX10_logged 54 = .ok (.aload_n 0, 1) := by decide +kernel
theorem dX10_logged_55 : decode cX10_logged 55 = .ok (.getfield 17, 3) := by decide +kernel
theorem dX10_logged_58 : decode cX10_logged 58 = .ok (.sipush 548, 3) := by decide +kernel
theorem dX10_logged_61 : decode cX10_logged 61 = .ok (.iconst 5, 1) := by decide +kernel
theorem dX10_logged_62 : decode cX10_logged 62 = .ok (.iload 6, 2) := by decide +kernel
theorem dX10_logged_64 : decode cX10_logged 64 = .ok (.imul, 1) := by decide +kernel
theorem dX10_logged_65 : decode cX10_logged 65 = .ok (.iadd, 1) := by decide +kernel
theorem dX10_logged_66 : decode cX10_logged 66 = .ok (.iaload, 1) := by decide +kernel
theorem dX10_logged_67 : decode cX10_logged 67 = .ok (.iload_n 1, 1) := by decide +kernel
theorem dX10_logged_68 : decode cX10_logged 68 = .ok (.if_icmp .eq 6, 3) := by decide +kernel
theorem dX10_logged_71 : decode cX10_logged 71 = .ok (.goto 79, 3) := by decide +kernel
theorem dX10_logged_74 : decode cX10_logged 74 = .ok (.iinc 3 1, 3) := by decide +kernel
theorem dX10_logged_77 : decode cX10_logged 77 = .ok (.aload_n 0, 1) := by decide +kernel
theorem dX10_logged_78 : decode cX10_logged 78 = .ok (.getfield 17, 3) := by decide +kernel
theorem dX10_logged_81 : decode cX10_logged 81 = .ok (.sipush 548, 3) := by decide +kernel
theorem dX10_logged_84 : decode cX10_logged 84 = .ok (.iconst 5, 1) := by decide +kernel
theorem dX10_logged_85 : decode cX10_logged 85 = .ok (.iload 6, 2) := by decide +kernel
theorem dX10_logged_87 : decode cX10_logged 87 = .ok (.imul, 1) := by decide +kernel
theorem dX10_logged_88 : decode cX10_logged 88 = .ok (.iadd, 1) := by decide +kernel
theorem dX10_logged_89 : decode cX10_logged 89 = .ok (.iconst 2, 1) := by decide +kernel
theorem dX10_logged_90 : decode cX10_logged 90 = .ok (.iadd, 1) := by decide +kernel
theorem dX10_logged_91 : decode cX10_logged 91 = .ok (.iaload, 1) := by decide +kernel
theorem dX10_logged_92 : decode cX10_logged 92 = .ok (.iload 4, 2) := by decide +kernel
theorem dX10_logged_94 : decode cX10_logged 94 = .ok (.if_icmp .le 21, 3) := by decide +kernel
theorem dX10_logged_97 : decode cX10_logged 97 = .ok (.aload_n 0, 1) := by decide +kernel
theorem dX10_logged_98 : decode cX10_logged 98 = .ok (.getfield 17, 3) := by decide +kernel
theorem dX10_logged_101 : decode cX10_logged 101 = .ok (.sipush 548, 3) := by decide +kernel
theorem dX10_logged_104 : decode cX10_logged 104 = .ok (.iconst 5, 1) := by decide +kernel
theorem dX10_logged_105 : decode cX10_logged 105 = .ok (.iload 6, 2) := by decide +kernel
theorem dX10_logged_107 : decode cX10_logged 107 = .ok (.imul, 1) := by decide +kernel
theorem dX10_logged_108 : decode cX10_logged 108 = .ok (.iadd, 1) := by decide +kernel
theorem dX10_logged_109 : decode cX10_logged 109 = .ok (.iconst 2, 1) := by decide +kernel
theorem dX10_logged_110 : decode cX10_logged 110 = .ok (.iadd, 1) := by decide +kernel
theorem dX10_logged_111 : decode cX10_logged 111 = .ok (.iaload, 1) := by decide +kernel
theorem dX10_logged_112 : decode cX10_logged 112 = .ok (.goto 5, 3) := by decide +kernel
theorem dX10_logged_115 : decode cX10_logged 115 = .ok (.iload 4, 2) := by decide +kernel
theorem dX10_logged_117 : decode cX10_logged 117 = .ok (.istore 4, 2) := by decide +kernel
theorem dX10_logged_119 : decode cX10_logged 119 = .ok (.iload 5, 2) := by decide +kernel
theorem dX10_logged_121 : decode cX10_logged 121 = .ok (.aload_n 0, 1) := by decide +kernel
theorem dX10_logged_122 : decode cX10_logged 122 = .ok (.getfield 17, 3) := by decide +kernel
theorem dX10_logged_125 : decode cX10_logged 125 = .ok (.sipush 548, 3) := by decide +kernel
theorem dX10_logged_128 : decode cX10_logged 128 = .ok (.iconst 5, 1) := by decide +kernel
theorem dX10_logged_129 : decode cX10_logged 129 = .ok (.iload 6, 2) := by decide +kernel
theorem dX10_logged_131 : decode cX10_logged 131 = .ok (.imul, 1) := by decide +kernel
theorem dX10_logged_132 : decode cX10_logged 132 = .ok (.iadd, 1) := by decide +kernel
theorem dX10_logged_133 : decode cX10_logged 133 = .ok (.iconst 4, 1) := by decide +kernel
theorem dX10_logged_134 : decode cX10_logged 134 = .ok (.iadd, 1) := by decide +kernel
theorem dX10_logged_135 : decode cX10_logged 135 = .ok (.iaload, 1) := by decide +kernel
theorem dX10_logged_136 : decode cX10_logged 136 = .ok (.ifCond .ne 7, 3) := by decide +kernel
theorem dX10_logged_139 : decode cX10_logged 139 = .ok (.iconst 1, 1) := by decide +kernel
theorem dX10_logged_140 : decode cX10_logged 140 = .ok (.goto 4, 3) := by decide +kernel
theorem dX10_logged_143 : decode cX10_logged 143 = .ok (.iconst 0, 1) := by decide +kernel
theorem dX10_logged_144 : decode cX10_logged 144 = .ok (.invokestatic 57, 3) := by decide +kernel
theorem dX10_logged_147 : decode cX10_logged 147 = .ok (.iadd, 1) := by decide +kernel
theorem dX10_logged_148 : decode cX10_logged 148 = .ok (.istore 5, 2) := by decide +kernel
theorem dX10_logged_150 : decode cX10_logged 150 = .ok (.iinc 6 1, 3) := by decide +kernel
theorem dX10_logged_153 : decode cX10_logged 153 = .ok (.goto (-111), 3) := by decide +kernel
theorem dX10_logged_156 : decode cX10_logged 156 = .ok (.iload_n 2, 1) := by decide +kernel
theorem dX10_logged_157 : decode cX10_logged 157 = .ok (.ifCond .ne 7, 3) := by decide +kernel
theorem dX10_logged_160 : decode cX10_logged 160 = .ok (.iload_n 3, 1) := by decide +kernel
theorem dX10_logged_161 : decode cX10_logged 161 = .ok (.goto 15, 3) := by decide +kernel
theorem dX10_logged_164 : decode cX10_logged 164 = .ok (.iload_n 2, 1) := by decide +kernel
theorem dX10_logged_165 : decode cX10_logged 165 = .ok (.iconst 1, 1) := by decide +kernel
theorem dX10_logged_166 : decode cX10_logged 166 = .ok (.if_icmp .ne 8, 3) := by decide +kernel
theorem dX10_logged_169 : decode cX10_logged 169 = .ok (.iload 4, 2) := by decide +kernel
theorem dX10_logged_171 : decode cX10_logged 171 = .ok (.goto 5, 3) := by decide +kernel
theorem dX10_logged_174 : decode cX10_logged 174 = .ok (.iload 5, 2) := by decide +kernel
theorem dX10_logged_176 : decode cX10_logged 176 = .ok (.ireturn, 1) := by decide +kernel
theorem dX10_lead_0 : decode cX10_lead 0 = .ok (.aload_n 0, 1) := by decide +kernel
theorem dX10_lead_1 : decode cX10_lead 1 = .ok (.iconst 0, 1) := by decide +kernel
theorem dX10_lead_2 : decode cX10_lead 2 = .ok (.putfield 1, 3) := by decide +kernel
theorem dX10_lead_5 : decode cX10_lead 5 = .ok (.iload_n 1, 1) := by decide +kernel
theorem dX10_lead_6 : decode cX10_lead 6 = .ok (.i2l, 1) := by decide +kernel
theorem dX10_lead_7 : decode cX10_lead 7 = .ok (.lconst 0, 1) := by decide +kernel
theorem dX10_lead_8 : decode cX10_lead 8 = .ok (.lconst 1, 1) := by decide +kernel
theorem dX10_lead_9 : decode cX10_lead 9 = .ok (.invokestatic 49, 3) := by decide +kernel
theorem dX10_lead_12 : decode cX10_lead 12 = .ok (.ifCond .eq 7, 3) := by decide +kernel
theorem dX10_lead_15 : decode cX10_lead 15 = .ok (.iload_n 2, 1) := by decide +kernel
theorem dX10_lead_16 : decode cX10_lead 16 = .ok (.ifCond .ge 5, 3) := by decide +kernel
theorem dX10_lead_19 : decode cX10_lead 19 = .ok (.iconst (-1), 1) := by decide +kernel
theorem dX10_lead_20 : decode cX10_lead 20 = .ok (.ireturn, 1) := by decide +kernel
theorem dX10_lead_21 : decode cX10_lead 21 = .ok (.iconst 0, 1) := by decide +kernel
theorem dX10_lead_22 : decode cX10_lead 22 = .ok (.istore_n 3, 1) := by decide +kernel
theorem dX10_lead_23 : decode cX10_lead 23 = .ok (.iconst 0, 1) := by decide +kernel
theorem dX10_lead_24 : decode cX10_lead 24 = .ok (.istore 4, 2) := by decide +kernel
theorem dX10_lead_26 : decode cX10_lead 26 = .ok (.iload 4, 2) := by decide +kernel
theorem dX10_lead_28 : decode cX10_lead 28 = .ok (.aload_n 0, 1) := by decide +kernel
theorem dX10_lead_29 : decode cX10_lead 29 = .ok (.getfield 17, 3) := by decide +kernel
theorem dX10_lead_32 : decode cX10_lead 32 = .ok (.iconst 0, 1) := by decide +kernel
theorem dX10_lead_33 : decode cX10_lead 33 = .ok (.iaload, 1) := by decide +kernel
theorem dX10_lead_34 : decode cX10_lead 34 = .ok (.if_icmp .ge 34, 3) := by decide +kernel
theorem dX10_lead_37 : decode cX10_lead 37 = .ok (.iload_n 3, 1) := by decide +kernel
theorem dX10_lead_38 : decode cX10_lead 38 = .ok (.aload_n 0, 1) := by decide +kernel
theorem dX10_lead_39 : decode cX10_lead 39 = .ok (.iload_n 1, 1) := by decide +kernel
theorem dX10_lead_40 : decode cX10_lead 40 = .ok (.iload 4, 2) := by decide +kernel
theorem dX10_lead_42 : decode cX10_lead 42 = .ok (.invokevirtual 61, 3) := by decide +kernel
theorem dX10_lead_45 : decode cX10_lead 45 = .ok (.iload_n 2, 1) := by decide +kernel
theorem dX10_lead_46 : decode cX10_lead 46 = .ok (.if_icmp .ge 13, 3) := by decide +kernel
theorem dX10_lead_49 : decode cX10_lead 49 = .ok (.aload_n 0, 1) := by decide +kernel
theorem dX10_lead_50 : decode cX10_lead 50 = .ok (.iload 4, 2) := by decide +kernel
theorem dX10_lead_52 : decode cX10_lead 52 = .ok (.iconst 2, 1) := by decide +kernel
theorem dX10_lead_53 : decode cX10_lead 53 = .ok (.invokevirtual 44, 3) := by decide +kernel
theorem dX10_lead_56 : decode cX10_lead 56 = .ok (.goto 4, 3) := by decide +kernel
theorem dX10_lead_59 : decode cX10_lead 59 = .ok (.iconst 0, 1) := by decide +kernel
theorem dX10_lead_60 : decode cX10_lead 60 = .ok (.iadd, 1) := by decide +kernel
theorem dX10_lead_61 : decode cX10_lead 61 = .ok (.istore_n 3, 1) := by decide +kernel
theorem dX10_lead_62 : decode cX10_lead 62 = .ok (.iinc 4 1, 3) := by decide +kernel
theorem dX10_lead_65 : decode cX10_lead 65 = .ok (.goto (-39), 3) := by decide +kernel
theorem dX10_lead_68 : decode cX10_lead 68 = .ok (.iload_n 3, 1) := by decide +kernel
theorem dX10_lead_69 : decode cX10_lead 69 = .ok (.ireturn, 1) := by decide +kernel
theorem dX10_turnOf_0 : decode cX10_turnOf 0 = .ok (.aload_n 0, 1) := by decide +kernel
theorem dX10_turnOf_1 : decode cX10_turnOf 1 = .ok (.iconst 0, 1) := by decide +kernel
theorem dX10_turnOf_2 : decode cX10_turnOf 2 = .ok (.putfield 1, 3) := by decide +kernel
theorem dX10_turnOf_5 : decode cX10_turnOf 5 = .ok (.aload_n 0, 1) := by decide +kernel
theorem dX10_turnOf_6 : decode cX10_turnOf 6 = .ok (.iload_n 1, 1) := by decide +kernel
theorem dX10_turnOf_7 : decode cX10_turnOf 7 = .ok (.invokevirtual 118, 3) := by decide +kernel
theorem dX10_turnOf_10 : decode cX10_turnOf 10 = .ok (.istore_n 2, 1) := by decide +kernel
theorem dX10_turnOf_11 : decode cX10_turnOf 11 = .ok (.iload_n 2, 1) := by decide +kernel
theorem dX10_turnOf_12 : decode cX10_turnOf 12 = .ok (.iconst (-1), 1) := by decide +kernel
theorem dX10_turnOf_13 : decode cX10_turnOf 13 = .ok (.if_icmp .eq 14, 3) := by decide +kernel
theorem dX10_turnOf_16 : decode cX10_turnOf 16 = .ok (.aload_n 0, 1) := by decide +kernel
theorem dX10_turnOf_17 : decode cX10_turnOf 17 = .ok (.iload_n 2, 1) := by decide +kernel
theorem dX10_turnOf_18 : decode cX10_turnOf 18 = .ok (.bipush 6, 2) := by decide +kernel
theorem dX10_turnOf_20 : decode cX10_turnOf 20 = .ok (.invokevirtual 44, 3) := by decide +kernel
theorem dX10_turnOf_23 : decode cX10_turnOf 23 = .ok (.iconst 1, 1) := by decide +kernel
theorem dX10_turnOf_24 : decode cX10_turnOf 24 = .ok (.if_icmp .ne 5, 3) := by decide +kernel
theorem dX10_turnOf_27 : decode cX10_turnOf 27 = .ok (.iconst (-1), 1) := by decide +kernel
theorem dX10_turnOf_28 : decode cX10_turnOf 28 = .ok (.ireturn, 1) := by decide +kernel
theorem dX10_turnOf_29 : decode cX10_turnOf 29 = .ok (.aload_n 0, 1) := by decide +kernel
theorem dX10_turnOf_30 : decode cX10_turnOf 30 = .ok (.invokevirtual 265, 3) := by decide +kernel
theorem dX10_turnOf_33 : decode cX10_turnOf 33 = .ok (.aload_n 0, 1) := by decide +kernel
theorem dX10_turnOf_34 : decode cX10_turnOf 34 = .ok (.iload_n 1, 1) := by decide +kernel
theorem dX10_turnOf_35 : decode cX10_turnOf 35 = .ok (.invokevirtual 118, 3) := by decide +kernel
theorem dX10_turnOf_38 : decode cX10_turnOf 38 = .ok (.iconst (-1), 1) := by decide +kernel
theorem dX10_turnOf_39 : decode cX10_turnOf 39 = .ok (.if_icmp .eq 12, 3) := by decide +kernel
theorem dX10_turnOf_42 : decode cX10_turnOf 42 = .ok (.aload_n 0, 1) := by decide +kernel
theorem dX10_turnOf_43 : decode cX10_turnOf 43 = .ok (.iconst (-1), 1) := by decide +kernel
theorem dX10_turnOf_44 : decode cX10_turnOf 44 = .ok (.invokevirtual 173, 3) := by decide +kernel
theorem dX10_turnOf_47 : decode cX10_turnOf 47 = .ok (.pop, 1) := by decide +kernel
theorem dX10_turnOf_48 : decode cX10_turnOf 48 = .ok (.goto (-15), 3) := by decide +kernel
theorem dX10_turnOf_51 : decode cX10_turnOf 51 = .ok (.aload_n 0, 1) := by decide +kernel
theorem dX10_turnOf_52 : decode cX10_turnOf 52 = .ok (.getfield 95, 3) := by decide +kernel
theorem dX10_turnOf_55 : decode cX10_turnOf 55 = .ok (.iconst 1, 1) := by decide +kernel
theorem dX10_turnOf_56 : decode cX10_turnOf 56 = .ok (.isub, 1) := by decide +kernel
theorem dX10_turnOf_57 : decode cX10_turnOf 57 = .ok (.istore_n 3, 1) := by decide +kernel
theorem dX10_turnOf_58 : decode cX10_turnOf 58 = .ok (.aload_n 0, 1) := by decide +kernel
theorem dX10_turnOf_59 : decode cX10_turnOf 59 = .ok (.invokevirtual 268, 3) := by decide +kernel
theorem dX10_turnOf_62 : decode cX10_turnOf 62 = .ok (.iload_n 3, 1) := by decide +kernel
theorem dX10_turnOf_63 : decode cX10_turnOf 63 = .ok (.ireturn, 1) := by decide +kernel
theorem dX10_behind_0 : decode cX10_behind 0 = .ok (.aload_n 0, 1) := by decide +kernel
theorem dX10_behind_1 : decode cX10_behind 1 = .ok (.iconst 0, 1) := by decide +kernel
theorem dX10_behind_2 : decode cX10_behind 2 = .ok (.putfield 1, 3) := by decide +kernel
theorem dX10_behind_5 : decode cX10_behind 5 = .ok (.aload_n 0, 1) := by decide +kernel
theorem dX10_behind_6 : decode cX10_behind 6 = .ok (.iload_n 1, 1) := by decide +kernel
theorem dX10_behind_7 : decode cX10_behind 7 = .ok (.invokevirtual 118, 3) := by decide +kernel
theorem dX10_behind_10 : decode cX10_behind 10 = .ok (.iconst (-1), 1) := by decide +kernel
theorem dX10_behind_11 : decode cX10_behind 11 = .ok (.if_icmp .eq 27, 3) := by decide +kernel
theorem dX10_behind_14 : decode cX10_behind 14 = .ok (.iload_n 2, 1) := by decide +kernel
theorem dX10_behind_15 : decode cX10_behind 15 = .ok (.i2l, 1) := by decide +kernel
theorem dX10_behind_16 : decode cX10_behind 16 = .ok (.lconst 1, 1) := by decide +kernel
theorem dX10_behind_17 : decode cX10_behind 17 = .ok (.ldc2_w 201, 3) := by decide +kernel
theorem dX10_behind_20 : decode cX10_behind 20 = .ok (.invokestatic 49, 3) := by decide +kernel
theorem dX10_behind_23 : decode cX10_behind 23 = .ok (.ifCond .eq 15, 3) := by decide +kernel
theorem dX10_behind_26 : decode cX10_behind 26 = .ok (.iload_n 3, 1) := by decide +kernel
theorem dX10_behind_27 : decode cX10_behind 27 = .ok (.i2l, 1) := by decide +kernel
theorem dX10_behind_28 : decode cX10_behind 28 = .ok (.lconst 0, 1) := by decide +kernel
theorem dX10_behind_29 : decode cX10_behind 29 = .ok (.ldc2_w 260, 3) := by decide +kernel
theorem dX10_behind_32 : decode cX10_behind 32 = .ok (.invokestatic 49, 3) := by decide +kernel
theorem dX10_behind_35 : decode cX10_behind 35 = .ok (.ifCond .ne 5, 3) := by decide +kernel
theorem dX10_behind_38 : decode cX10_behind 38 = .ok (.iconst (-1), 1) := by decide +kernel
theorem dX10_behind_39 : decode cX10_behind 39 = .ok (.ireturn, 1) := by decide +kernel
theorem dX10_behind_40 : decode cX10_behind 40 = .ok (.aload_n 0, 1) := by decide +kernel
theorem dX10_behind_41 : decode cX10_behind 41 = .ok (.invokevirtual 265, 3) := by decide +kernel
theorem dX10_behind_44 : decode cX10_behind 44 = .ok (.aload_n 0, 1) := by decide +kernel
theorem dX10_behind_45 : decode cX10_behind 45 = .ok (.getfield 17, 3) := by decide +kernel
theorem dX10_behind_48 : decode cX10_behind 48 = .ok (.aload_n 0, 1) := by decide +kernel
theorem dX10_behind_49 : decode cX10_behind 49 = .ok (.getfield 41, 3) := by decide +kernel
theorem dX10_behind_52 : decode cX10_behind 52 = .ok (.bipush 15, 2) := by decide +kernel
theorem dX10_behind_54 : decode cX10_behind 54 = .ok (.iadd, 1) := by decide +kernel
theorem dX10_behind_55 : decode cX10_behind 55 = .ok (.iaload, 1) := by decide +kernel
theorem dX10_behind_56 : decode cX10_behind 56 = .ok (.istore 4, 2) := by decide +kernel
theorem dX10_behind_58 : decode cX10_behind 58 = .ok (.aload_n 0, 1) := by decide +kernel
theorem dX10_behind_59 : decode cX10_behind 59 = .ok (.iload_n 1, 1) := by decide +kernel
theorem dX10_behind_60 : decode cX10_behind 60 = .ok (.invokevirtual 118, 3) := by decide +kernel
theorem dX10_behind_63 : decode cX10_behind 63 = .ok (.istore 5, 2) := by decide +kernel
theorem dX10_behind_65 : decode cX10_behind 65 = .ok (.iconst 0, 1) := by decide +kernel
theorem dX10_behind_66 : decode cX10_behind 66 = .ok (.istore 6, 2) := by decide +kernel
theorem dX10_behind_68 : decode cX10_behind 68 = .ok (.iload 6, 2) := by decide +kernel
theorem dX10_behind_70 : decode cX10_behind 70 = .ok (.iload_n 2, 1) := by decide +kernel
theorem dX10_behind_71 : decode cX10_behind 71 = .ok (.if_icmp .ge 15, 3) := by decide +kernel
theorem dX10_behind_74 : decode cX10_behind 74 = .ok (.aload_n 0, 1) := by decide +kernel
theorem dX10_behind_75 : decode cX10_behind 75 = .ok (.iload 5, 2) := by decide +kernel
theorem dX10_behind_77 : decode cX10_behind 77 = .ok (.invokevirtual 182, 3) := by decide +kernel
theorem dX10_behind_80 : decode cX10_behind 80 = .ok (.iinc 6 1, 3) := by decide +kernel
theorem dX10_behind_83 : decode cX10_behind 83 = .ok (.goto (-15), 3) := by decide +kernel
theorem dX10_behind_86 : decode cX10_behind 86 = .ok (.iload_n 3, 1) := by decide +kernel
theorem dX10_behind_87 : decode cX10_behind 87 = .ok (.ifCond .ne 13, 3) := by decide +kernel
theorem dX10_behind_90 : decode cX10_behind 90 = .ok (.aload_n 0, 1) := by decide +kernel
theorem dX10_behind_91 : decode cX10_behind 91 = .ok (.iload 5, 2) := by decide +kernel
theorem dX10_behind_93 : decode cX10_behind 93 = .ok (.iconst 3, 1) := by decide +kernel
theorem dX10_behind_94 : decode cX10_behind 94 = .ok (.invokevirtual 44, 3) := by decide +kernel
theorem dX10_behind_97 : decode cX10_behind 97 = .ok (.goto 33, 3) := by decide +kernel
theorem dX10_behind_100 : decode cX10_behind 100 = .ok (.iload_n 3, 1) := by decide +kernel
theorem dX10_behind_101 : decode cX10_behind 101 = .ok (.iconst 1, 1) := by decide +kernel
theorem dX10_behind_102 : decode cX10_behind 102 = .ok (.if_icmp .ne 13, 3) := by decide +kernel
theorem dX10_behind_105 : decode cX10_behind 105 = .ok (.aload_n 0, 1) := by decide +kernel
theorem dX10_behind_106 : decode cX10_behind 106 = .ok (.iconst 1, 1) := by decide +kernel
theorem dX10_behind_107 : decode cX10_behind 107 = .ok (.iload 5, 2) := by decide +kernel
theorem dX10_behind_109 : decode cX10_behind 109 = .ok (.invokevirtual 61, 3) := by decide +kernel
theorem dX10_behind_112 : decode cX10_behind 112 = .ok (.goto 18, 3) := by decide +kernel
theorem dX10_behind_115 : decode cX10_behind 115 = .ok (.aload_n 0, 1) := by decide +kernel
theorem dX10_behind_116 : decode cX10_behind 116 = .ok (.getfield 17, 3) := by decide +kernel
theorem dX10_behind_119 : decode cX10_behind 119 = .ok (.aload_n 0, 1) := by decide +kernel
theorem dX10_behind_120 : decode cX10_behind 120 = .ok (.getfield 41, 3) := by decide +kernel
theorem dX10_behind_123 : decode cX10_behind 123 = .ok (.bipush 15, 2) := by decide +kernel
theorem dX10_behind_125 : decode cX10_behind 125 = .ok (.iadd, 1) := by decide +kernel
theorem dX10_behind_126 : decode cX10_behind 126 = .ok (.iaload, 1) := by decide +kernel
theorem dX10_behind_127 : decode cX10_behind 127 = .ok (.iload 4, 2) := by decide +kernel
theorem dX10_behind_129 : decode cX10_behind 129 = .ok (.isub, 1) := by decide +kernel
theorem dX10_behind_130 : decode cX10_behind 130 = .ok (.istore 6, 2) := by decide +kernel
theorem dX10_behind_132 : decode cX10_behind 132 = .ok (.aload_n 0, 1) := by decide +kernel
theorem dX10_behind_133 : decode cX10_behind 133 = .ok (.invokevirtual 268, 3) := by decide +kernel
theorem dX10_behind_136 : decode cX10_behind 136 = .ok (.iload 6, 2) := by decide +kernel
theorem dX10_behind_138 : decode cX10_behind 138 = .ok (.ireturn, 1) := by decide +kernel
theorem dX10_ofStir_0 : decode cX10_ofStir 0 = .ok (.bipush 100, 2) := by decide +kernel
theorem dX10_ofStir_2 : decode cX10_ofStir 2 = .ok (.aload_n 0, 1) := by decide +kernel
theorem dX10_ofStir_3 : decode cX10_ofStir 3 = .ok (.getfield 109, 3) := by decide +kernel
theorem dX10_ofStir_6 : decode cX10_ofStir 6 = .ok (.invokestatic 7, 3) := by decide +kernel
theorem dX10_ofStir_9 : decode cX10_ofStir 9 = .ok (.istore_n 3, 1) := by decide +kernel
theorem dX10_ofStir_10 : decode cX10_ofStir 10 = .ok (.iload_n 1, 1) := by decide +kernel
theorem dX10_ofStir_11 : decode cX10_ofStir 11 = .ok (.iconst (-1), 1) := by decide +kernel
theorem dX10_ofStir_12 : decode cX10_ofStir 12 = .ok (.if_icmp .ne 43, 3) := by decide +kernel
theorem dX10_ofStir_15 : decode cX10_ofStir 15 = .ok (.iload_n 2, 1) := by decide +kernel
theorem dX10_ofStir_16 : decode cX10_ofStir 16 = .ok (.ifCond .ne 7, 3) := by decide +kernel
theorem dX10_ofStir_19 : decode cX10_ofStir 19 = .ok (.iload_n 3, 1) := by decide +kernel
theorem dX10_ofStir_20 : decode cX10_ofStir 20 = .ok (.goto 34, 3) := by decide +kernel
theorem dX10_ofStir_23 : decode cX10_ofStir 23 = .ok (.iload_n 2, 1) := by decide +kernel
theorem dX10_ofStir_24 : decode cX10_ofStir 24 = .ok (.iconst 1, 1) := by decide +kernel
theorem dX10_ofStir_25 : decode cX10_ofStir 25 = .ok (.if_icmp .ne 12, 3) := by decide +kernel
theorem dX10_ofStir_28 : decode cX10_ofStir 28 = .ok (.aload_n 0, 1) := by decide +kernel
theorem dX10_ofStir_29 : decode cX10_ofStir 29 = .ok (.getfield 109, 3) := by decide +kernel
theorem dX10_ofStir_32 : decode cX10_ofStir 32 = .ok (.iload_n 3, 1) := by decide +kernel
theorem dX10_ofStir_33 : decode cX10_ofStir 33 = .ok (.isub, 1) := by decide +kernel
theorem dX10_ofStir_34 : decode cX10_ofStir 34 = .ok (.goto 20, 3) := by decide +kernel
theorem dX10_ofStir_37 : decode cX10_ofStir 37 = .ok (.iload_n 2, 1) := by decide +kernel
theorem dX10_ofStir_38 : decode cX10_ofStir 38 = .ok (.iconst 2, 1) := by decide +kernel
theorem dX10_ofStir_39 : decode cX10_ofStir 39 = .ok (.if_icmp .ne 14, 3) := by decide +kernel
theorem dX10_ofStir_42 : decode cX10_ofStir 42 = .ok (.aload_n 0, 1) := by decide +kernel
theorem dX10_ofStir_43 : decode cX10_ofStir 43 = .ok (.getfield 17, 3) := by decide +kernel
theorem dX10_ofStir_46 : decode cX10_ofStir 46 = .ok (.sipush 2544, 3) := by decide +kernel
theorem dX10_ofStir_49 : decode cX10_ofStir 49 = .ok (.iaload, 1) := by decide +kernel
theorem dX10_ofStir_50 : decode cX10_ofStir 50 = .ok (.goto 4, 3) := by decide +kernel
theorem dX10_ofStir_53 : decode cX10_ofStir 53 = .ok (.iconst (-1), 1) := by decide +kernel
theorem dX10_ofStir_54 : decode cX10_ofStir 54 = .ok (.ireturn, 1) := by decide +kernel
theorem dX10_ofStir_55 : decode cX10_ofStir 55 = .ok (.iload_n 1, 1) := by decide +kernel
theorem dX10_ofStir_56 : decode cX10_ofStir 56 = .ok (.i2l, 1) := by decide +kernel
theorem dX10_ofStir_57 : decode cX10_ofStir 57 = .ok (.lconst 0, 1) := by decide +kernel
theorem dX10_ofStir_58 : decode cX10_ofStir 58 = .ok (.iload_n 3, 1) := by decide +kernel
theorem dX10_ofStir_59 : decode cX10_ofStir 59 = .ok (.iconst 1, 1) := by decide +kernel
theorem dX10_ofStir_60 : decode cX10_ofStir 60 = .ok (.isub, 1) := by decide +kernel
theorem dX10_ofStir_61 : decode cX10_ofStir 61 = .ok (.i2l, 1) := by decide +kernel
theorem dX10_ofStir_62 : decode cX10_ofStir 62 = .ok (.invokestatic 49, 3) := by decide +kernel
theorem dX10_ofStir_65 : decode cX10_ofStir 65 = .ok (.ifCond .eq 15, 3) := by decide +kernel
theorem dX10_ofStir_68 : decode cX10_ofStir 68 = .ok (.iload_n 2, 1) := by decide +kernel
theorem dX10_ofStir_69 : decode cX10_ofStir 69 = .ok (.i2l, 1) := by decide +kernel
theorem dX10_ofStir_70 : decode cX10_ofStir 70 = .ok (.lconst 0, 1) := by decide +kernel
theorem dX10_ofStir_71 : decode cX10_ofStir 71 = .ok (.ldc2_w 260, 3) := by decide +kernel
theorem dX10_ofStir_74 : decode cX10_ofStir 74 = .ok (.invokestatic 49, 3) := by decide +kernel
theorem dX10_ofStir_77 : decode cX10_ofStir 77 = .ok (.ifCond .ne 5, 3) := by decide +kernel
theorem dX10_ofStir_80 : decode cX10_ofStir 80 = .ok (.iconst (-1), 1) := by decide +kernel
theorem dX10_ofStir_81 : decode cX10_ofStir 81 = .ok (.ireturn, 1) := by decide +kernel
theorem dX10_ofStir_82 : decode cX10_ofStir 82 = .ok (.aload_n 0, 1) := by decide +kernel
theorem dX10_ofStir_83 : decode cX10_ofStir 83 = .ok (.getfield 28, 3) := by decide +kernel
theorem dX10_ofStir_86 : decode cX10_ofStir 86 = .ok (.iconst 5, 1) := by decide +kernel
theorem dX10_ofStir_87 : decode cX10_ofStir 87 = .ok (.iload_n 1, 1) := by decide +kernel
theorem dX10_ofStir_88 : decode cX10_ofStir 88 = .ok (.imul, 1) := by decide +kernel
theorem dX10_ofStir_89 : decode cX10_ofStir 89 = .ok (.iload_n 2, 1) := by decide +kernel
theorem dX10_ofStir_90 : decode cX10_ofStir 90 = .ok (.iconst 2, 1) := by decide +kernel
theorem dX10_ofStir_91 : decode cX10_ofStir 91 = .ok (.if_icmp .ne 7, 3) := by decide +kernel
theorem dX10_ofStir_94 : decode cX10_ofStir 94 = .ok (.iconst 4, 1) := by decide +kernel
theorem dX10_ofStir_95 : decode cX10_ofStir 95 = .ok (.goto 4, 3) := by decide +kernel
theorem dX10_ofStir_98 : decode cX10_ofStir 98 = .ok (.iload_n 2, 1) := by decide +kernel
theorem dX10_ofStir_99 : decode cX10_ofStir 99 = .ok (.iadd, 1) := by decide +kernel
theorem dX10_ofStir_100 : decode cX10_ofStir 100 = .ok (.iaload, 1) := by decide +kernel
theorem dX10_ofStir_101 : decode cX10_ofStir 101 = .ok (.ireturn, 1) := by decide +kernel
theorem dX10_stir_0 : decode cX10_stir 0 = .ok (.aload_n 0, 1) := by decide +kernel
theorem dX10_stir_1 : decode cX10_stir 1 = .ok (.invokevirtual 185, 3) := by decide +kernel
theorem dX10_stir_4 : decode cX10_stir 4 = .ok (.iload_n 1, 1) := by decide +kernel
theorem dX10_stir_5 : decode cX10_stir 5 = .ok (.invokestatic 194, 3) := by decide +kernel
theorem dX10_stir_8 : decode cX10_stir 8 = .ok (.ifCond .eq 15, 3) := by decide +kernel
theorem dX10_stir_11 : decode cX10_stir 11 = .ok (.iload_n 2, 1) := by decide +kernel
theorem dX10_stir_12 : decode cX10_stir 12 = .ok (.i2l, 1) := by decide +kernel
theorem dX10_stir_13 : decode cX10_stir 13 = .ok (.lconst 1, 1) := by decide +kernel
theorem dX10_stir_14 : decode cX10_stir 14 = .ok (.ldc2_w 201, 3) := by decide +kernel
theorem dX10_stir_17 : decode cX10_stir 17 = .ok (.invokestatic 49, 3) := by decide +kernel
theorem dX10_stir_20 : decode cX10_stir 20 = .ok (.ifCond .ne 5, 3) := by decide +kernel
theorem dX10_stir_23 : decode cX10_stir 23 = .ok (.iconst (-1), 1) := by decide +kernel
theorem dX10_stir_24 : decode cX10_stir 24 = .ok (.ireturn, 1) := by decide +kernel
theorem dX10_stir_25 : decode cX10_stir 25 = .ok (.aload_n 0, 1) := by decide +kernel
theorem dX10_stir_26 : decode cX10_stir 26 = .ok (.invokevirtual 265, 3) := by decide +kernel
theorem dX10_stir_29 : decode cX10_stir 29 = .ok (.aload_n 0, 1) := by decide +kernel
theorem dX10_stir_30 : decode cX10_stir 30 = .ok (.iconst 0, 1) := by decide +kernel
theorem dX10_stir_31 : decode cX10_stir 31 = .ok (.putfield 105, 3) := by decide +kernel
theorem dX10_stir_34 : decode cX10_stir 34 = .ok (.aload_n 0, 1) := by decide +kernel
theorem dX10_stir_35 : decode cX10_stir 35 = .ok (.aload_n 0, 1) := by decide +kernel
theorem dX10_stir_36 : decode cX10_stir 36 = .ok (.iload_n 1, 1) := by decide +kernel
theorem dX10_stir_37 : decode cX10_stir 37 = .ok (.iconst 0, 1) := by decide +kernel
theorem dX10_stir_38 : decode cX10_stir 38 = .ok (.iload_n 2, 1) := by decide +kernel
theorem dX10_stir_39 : decode cX10_stir 39 = .ok (.iconst (-1), 1) := by decide +kernel
theorem dX10_stir_40 : decode cX10_stir 40 = .ok (.invokevirtual 133, 3) := by decide +kernel
theorem dX10_stir_43 : decode cX10_stir 43 = .ok (.invokevirtual 191, 3) := by decide +kernel
theorem dX10_stir_46 : decode cX10_stir 46 = .ok (.pop, 1) := by decide +kernel
theorem dX10_stir_47 : decode cX10_stir 47 = .ok (.aload_n 0, 1) := by decide +kernel
theorem dX10_stir_48 : decode cX10_stir 48 = .ok (.invokevirtual 268, 3) := by decide +kernel
theorem dX10_stir_51 : decode cX10_stir 51 = .ok (.aload_n 0, 1) := by decide +kernel
theorem dX10_stir_52 : decode cX10_stir 52 = .ok (.iload_n 3, 1) := by decide +kernel
theorem dX10_stir_53 : decode cX10_stir 53 = .ok (.iload 4, 2) := by decide +kernel
theorem dX10_stir_55 : decode cX10_stir 55 = .ok (.invokevirtual 327, 3) := by decide +kernel
theorem dX10_stir_58 : decode cX10_stir 58 = .ok (.ireturn, 1) := by decide +kernel
theorem dX10_count_0 : decode cX10_count 0 = .ok (.aload_n 0, 1) := by decide +kernel
theorem dX10_count_1 : decode cX10_count 1 = .ok (.iconst 0, 1) := by decide +kernel
theorem dX10_count_2 : decode cX10_count 2 = .ok (.putfield 1, 3) := by decide +kernel
theorem dX10_count_5 : decode cX10_count 5 = .ok (.iload_n 1, 1) := by decide +kernel
theorem dX10_count_6 : decode cX10_count 6 = .ok (.tableswitch 243 0 19 #[94, 101, 106, 113, 120, 127, 134, 141, 149, 157, 165, 173, 181, 189, 197, 205, 213, 219, 227, 235], 94) := by decide +kernel
theorem dX10_count_100 : decode cX10_count 100 = .ok (.aload_n 0, 1) := by decide +kernel
theorem dX10_count_101 : decode cX10_count 101 = .ok (.getfield 17, 3) := by decide +kernel
theorem dX10_count_104 : decode cX10_count 104 = .ok (.iconst 0, 1) := by decide +kernel
theorem dX10_count_105 : decode cX10_count 105 = .ok (.iaload, 1) := by decide +kernel
theorem dX10_count_106 : decode cX10_count 106 = .ok (.ireturn, 1) := by decide +kernel
theorem dX10_count_107 : decode cX10_count 107 = .ok (.aload_n 0, 1) := by decide +kernel
theorem dX10_count_108 : decode cX10_count 108 = .ok (.invokevirtual 179, 3) := by decide +kernel
theorem dX10_count_111 : decode cX10_count 111 = .ok (.ireturn, 1) := by decide +kernel
theorem dX10_count_112 : decode cX10_count 112 = .ok (.aload_n 0, 1) := by decide +kernel
theorem dX10_count_113 : decode cX10_count 113 = .ok (.getfield 17, 3) := by decide +kernel
theorem dX10_count_116 : decode cX10_count 116 = .ok (.iconst 1, 1) := by decide +kernel
theorem dX10_count_117 : decode cX10_count 117 = .ok (.iaload, 1) := by decide +kernel
theorem dX10_count_118 : decode cX10_count 118 = .ok (.ireturn, 1) := by decide +kernel
theorem dX10_count_119 : decode cX10_count 119 = .ok (.aload_n 0, 1) := by decide +kernel
theorem dX10_count_120 : decode cX10_count 120 = .ok (.getfield 17, 3) := by decide +kernel
theorem dX10_count_123 : decode cX10_count 123 = .ok (.iconst 2, 1) := by decide +kernel
theorem dX10_count_124 : decode cX10_count 124 = .ok (.iaload, 1) := by decide +kernel
theorem dX10_count_125 : decode cX10_count 125 = .ok (.ireturn, 1) := by decide +kernel
theorem dX10_count_126 : decode cX10_count 126 = .ok (.aload_n 0, 1) := by decide +kernel
theorem dX10_count_127 : decode cX10_count 127 = .ok (.getfield 17, 3) := by decide +kernel
theorem dX10_count_130 : decode cX10_count 130 = .ok (.iconst 3, 1) := by decide +kernel
theorem dX10_count_131 : decode cX10_count 131 = .ok (.iaload, 1) := by decide +kernel
theorem dX10_count_132 : decode cX10_count 132 = .ok (.ireturn, 1) := by decide +kernel
theorem dX10_count_133 : decode cX10_count 133 = .ok (.aload_n 0, 1) := by decide +kernel
theorem dX10_count_134 : decode cX10_count 134 = .ok (.getfield 17, 3) := by decide +kernel
theorem dX10_count_137 : decode cX10_count 137 = .ok (.iconst 4, 1) := by decide +kernel
theorem dX10_count_138 : decode cX10_count 138 = .ok (.iaload, 1) := by decide +kernel
theorem dX10_count_139 : decode cX10_count 139 = .ok (.ireturn, 1) := by decide +kernel
theorem dX10_count_140 : decode cX10_count 140 = .ok (.aload_n 0, 1) := by decide +kernel
theorem dX10_count_141 : decode cX10_count 141 = .ok (.getfield 17, 3) := by decide +kernel
theorem dX10_count_144 : decode cX10_count 144 = .ok (.iconst 5, 1) := by decide +kernel
theorem dX10_count_145 : decode cX10_count 145 = .ok (.iaload, 1) := by decide +kernel
theorem dX10_count_146 : decode cX10_count 146 = .ok (.ireturn, 1) := by decide +kernel
theorem dX10_count_147 : decode cX10_count 147 = .ok (.aload_n 0, 1) := by decide +kernel
theorem dX10_count_148 : decode cX10_count 148 = .ok (.getfield 17, 3) := by decide +kernel
theorem dX10_count_151 : decode cX10_count 151 = .ok (.bipush 6, 2) := by decide +kernel
theorem dX10_count_153 : decode cX10_count 153 = .ok (.iaload, 1) := by decide +kernel
theorem dX10_count_154 : decode cX10_count 154 = .ok (.ireturn, 1) := by decide +kernel
theorem dX10_count_155 : decode cX10_count 155 = .ok (.aload_n 0, 1) := by decide +kernel
theorem dX10_count_156 : decode cX10_count 156 = .ok (.getfield 17, 3) := by decide +kernel
theorem dX10_count_159 : decode cX10_count 159 = .ok (.bipush 7, 2) := by decide +kernel
theorem dX10_count_161 : decode cX10_count 161 = .ok (.iaload, 1) := by decide +kernel
theorem dX10_count_162 : decode cX10_count 162 = .ok (.ireturn, 1) := by decide +kernel
theorem dX10_count_163 : decode cX10_count 163 = .ok (.aload_n 0, 1) := by decide +kernel
theorem dX10_count_164 : decode cX10_count 164 = .ok (.getfield 17, 3) := by decide +kernel
theorem dX10_count_167 : decode cX10_count 167 = .ok (.bipush 8, 2) := by decide +kernel
theorem dX10_count_169 : decode cX10_count 169 = .ok (.iaload, 1) := by decide +kernel
theorem dX10_count_170 : decode cX10_count 170 = .ok (.ireturn, 1) := by decide +kernel
theorem dX10_count_171 : decode cX10_count 171 = .ok (.aload_n 0, 1) := by decide +kernel
theorem dX10_count_172 : decode cX10_count 172 = .ok (.getfield 17, 3) := by decide +kernel
theorem dX10_count_175 : decode cX10_count 175 = .ok (.bipush 9, 2) := by decide +kernel
theorem dX10_count_177 : decode cX10_count 177 = .ok (.iaload, 1) := by decide +kernel
theorem dX10_count_178 : decode cX10_count 178 = .ok (.ireturn, 1) := by decide +kernel
theorem dX10_count_179 : decode cX10_count 179 = .ok (.aload_n 0, 1) := by decide +kernel
theorem dX10_count_180 : decode cX10_count 180 = .ok (.getfield 17, 3) := by decide +kernel
theorem dX10_count_183 : decode cX10_count 183 = .ok (.bipush 10, 2) := by decide +kernel
theorem dX10_count_185 : decode cX10_count 185 = .ok (.iaload, 1) := by decide +kernel
theorem dX10_count_186 : decode cX10_count 186 = .ok (.ireturn, 1) := by decide +kernel
theorem dX10_count_187 : decode cX10_count 187 = .ok (.aload_n 0, 1) := by decide +kernel
theorem dX10_count_188 : decode cX10_count 188 = .ok (.getfield 17, 3) := by decide +kernel
theorem dX10_count_191 : decode cX10_count 191 = .ok (.bipush 11, 2) := by decide +kernel
theorem dX10_count_193 : decode cX10_count 193 = .ok (.iaload, 1) := by decide +kernel
theorem dX10_count_194 : decode cX10_count 194 = .ok (.ireturn, 1) := by decide +kernel
theorem dX10_count_195 : decode cX10_count 195 = .ok (.aload_n 0, 1) := by decide +kernel
theorem dX10_count_196 : decode cX10_count 196 = .ok (.getfield 17, 3) := by decide +kernel
theorem dX10_count_199 : decode cX10_count 199 = .ok (.bipush 12, 2) := by decide +kernel
theorem dX10_count_201 : decode cX10_count 201 = .ok (.iaload, 1) := by decide +kernel
theorem dX10_count_202 : decode cX10_count 202 = .ok (.ireturn, 1) := by decide +kernel
theorem dX10_count_203 : decode cX10_count 203 = .ok (.aload_n 0, 1) := by decide +kernel
theorem dX10_count_204 : decode cX10_count 204 = .ok (.getfield 17, 3) := by decide +kernel
theorem dX10_count_207 : decode cX10_count 207 = .ok (.bipush 13, 2) := by decide +kernel
theorem dX10_count_209 : decode cX10_count 209 = .ok (.iaload, 1) := by decide +kernel
theorem dX10_count_210 : decode cX10_count 210 = .ok (.ireturn, 1) := by decide +kernel
theorem dX10_count_211 : decode cX10_count 211 = .ok (.aload_n 0, 1) := by decide +kernel
theorem dX10_count_212 : decode cX10_count 212 = .ok (.getfield 17, 3) := by decide +kernel
theorem dX10_count_215 : decode cX10_count 215 = .ok (.bipush 14, 2) := by decide +kernel
theorem dX10_count_217 : decode cX10_count 217 = .ok (.iaload, 1) := by decide +kernel
theorem dX10_count_218 : decode cX10_count 218 = .ok (.ireturn, 1) := by decide +kernel
theorem dX10_count_219 : decode cX10_count 219 = .ok (.aload_n 0, 1) := by decide +kernel
theorem dX10_count_220 : decode cX10_count 220 = .ok (.iconst (-1), 1) := by decide +kernel
theorem dX10_count_221 : decode cX10_count 221 = .ok (.invokevirtual 127, 3) := by decide +kernel
theorem dX10_count_224 : decode cX10_count 224 = .ok (.ireturn, 1) := by decide +kernel
theorem dX10_count_225 : decode cX10_count 225 = .ok (.aload_n 0, 1) := by decide +kernel
theorem dX10_count_226 : decode cX10_count 226 = .ok (.getfield 17, 3) := by decide +kernel
theorem dX10_count_229 : decode cX10_count 229 = .ok (.bipush 15, 2) := by decide +kernel
theorem dX10_count_231 : decode cX10_count 231 = .ok (.iaload, 1) := by decide +kernel
theorem dX10_count_232 : decode cX10_count 232 = .ok (.ireturn, 1) := by decide +kernel
theorem dX10_count_233 : decode cX10_count 233 = .ok (.aload_n 0, 1) := by decide +kernel
theorem dX10_count_234 : decode cX10_count 234 = .ok (.getfield 17, 3) := by decide +kernel
theorem dX10_count_237 : decode cX10_count 237 = .ok (.bipush 16, 2) := by decide +kernel
theorem dX10_count_239 : decode cX10_count 239 = .ok (.iaload, 1) := by decide +kernel
theorem dX10_count_240 : decode cX10_count 240 = .ok (.ireturn, 1) := by decide +kernel
theorem dX10_count_241 : decode cX10_count 241 = .ok (.aload_n 0, 1) := by decide +kernel
theorem dX10_count_242 : decode cX10_count 242 = .ok (.getfield 17, 3) := by decide +kernel
theorem dX10_count_245 : decode cX10_count 245 = .ok (.bipush 17, 2) := by decide +kernel
theorem dX10_count_247 : decode cX10_count 247 = .ok (.iaload, 1) := by decide +kernel
theorem dX10_count_248 : decode cX10_count 248 = .ok (.ireturn, 1) := by decide +kernel
theorem dX10_count_249 : decode cX10_count 249 = .ok (.iconst (-1), 1) := by decide +kernel
theorem dX10_count_250 : decode cX10_count 250 = .ok (.ireturn, 1) := by decide +kernel
