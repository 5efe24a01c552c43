theorem dX6_rejects_16 : decode cX6_rejects 16 = .ok (.ifCond .eq 27, 3) := by decide +kernel
theorem dX6_rejects_19 : decode cX6_rejects 19 = .ok (.aload_n 0, 1) := by decide +kernel
theorem dX6_rejects_20 : decode cX6_rejects 20 = .ok (.getfield 12, 3) := by decide +kernel
theorem dX6_rejects_23 : decode cX6_rejects 23 = .ok (.getfield 131, 3) := by decide +kernel
theorem dX6_rejects_26 : decode cX6_rejects 26 = .ok (.iload_n 1, 1) := by decide +kernel
theorem dX6_rejects_27 : decode cX6_rejects 27 = .ok (.baload, 1) := by decide +kernel
theorem dX6_rejects_28 : decode cX6_rejects 28 = .ok (.ifCond .eq 15, 3) := by decide +kernel
theorem dX6_rejects_31 : decode cX6_rejects 31 = .ok (.iload_n 3, 1) := by decide +kernel
theorem dX6_rejects_32 : decode cX6_rejects 32 = .ok (.aload_n 0, 1) := by decide +kernel
theorem dX6_rejects_33 : decode cX6_rejects 33 = .ok (.getfield 12, 3) := by decide +kernel
theorem dX6_rejects_36 : decode cX6_rejects 36 = .ok (.getfield 119, 3) := by decide +kernel
theorem dX6_rejects_39 : decode cX6_rejects 39 = .ok (.iload_n 1, 1) := by decide +kernel
theorem dX6_rejects_40 : decode cX6_rejects 40 = .ok (.iaload, 1) := by decide +kernel
theorem dX6_rejects_41 : decode cX6_rejects 41 = .ok (.isub, 1) := by decide +kernel
theorem dX6_rejects_42 : decode cX6_rejects 42 = .ok (.istore_n 3, 1) := by decide +kernel
theorem dX6_rejects_43 : decode cX6_rejects 43 = .ok (.iload_n 2, 1) := by decide +kernel
theorem dX6_rejects_44 : decode cX6_rejects 44 = .ok (.iload_n 3, 1) := by decide +kernel
theorem dX6_rejects_45 : decode cX6_rejects 45 = .ok (.iadd, 1) := by decide +kernel
theorem dX6_rejects_46 : decode cX6_rejects 46 = .ok (.aload_n 0, 1) := by decide +kernel
theorem dX6_rejects_47 : decode cX6_rejects 47 = .ok (.getfield 39, 3) := by decide +kernel
theorem dX6_rejects_50 : decode cX6_rejects 50 = .ok (.if_icmp .le 5, 3) := by decide +kernel
theorem dX6_rejects_53 : decode cX6_rejects 53 = .ok (.iconst 1, 1) := by decide +kernel
theorem dX6_rejects_54 : decode cX6_rejects 54 = .ok (.ireturn, 1) := by decide +kernel
theorem dX6_rejects_55 : decode cX6_rejects 55 = .ok (.iload_n 1, 1) := by decide +kernel
theorem dX6_rejects_56 : decode cX6_rejects 56 = .ok (.iconst (-1), 1) := by decide +kernel
theorem dX6_rejects_57 : decode cX6_rejects 57 = .ok (.if_icmp .ne 32, 3) := by decide +kernel
theorem dX6_rejects_60 : decode cX6_rejects 60 = .ok (.aload_n 0, 1) := by decide +kernel
theorem dX6_rejects_61 : decode cX6_rejects 61 = .ok (.getfield 12, 3) := by decide +kernel
theorem dX6_rejects_64 : decode cX6_rejects 64 = .ok (.getfield 135, 3) := by decide +kernel
theorem dX6_rejects_67 : decode cX6_rejects 67 = .ok (.bipush 60, 2) := by decide +kernel
theorem dX6_rejects_69 : decode cX6_rejects 69 = .ok (.if_icmp .lt 20, 3) := by decide +kernel
theorem dX6_rejects_72 : decode cX6_rejects 72 = .ok (.aload_n 0, 1) := by decide +kernel
theorem dX6_rejects_73 : decode cX6_rejects 73 = .ok (.getfield 12, 3) := by decide +kernel
theorem dX6_rejects_76 : decode cX6_rejects 76 = .ok (.iconst 0, 1) := by decide +kernel
theorem dX6_rejects_77 : decode cX6_rejects 77 = .ok (.iconst (-1), 1) := by decide +kernel
theorem dX6_rejects_78 : decode cX6_rejects 78 = .ok (.invokevirtual 85, 3) := by decide +kernel
theorem dX6_rejects_81 : decode cX6_rejects 81 = .ok (.iconst (-1), 1) := by decide +kernel
theorem dX6_rejects_82 : decode cX6_rejects 82 = .ok (.if_icmp .ne 7, 3) := by decide +kernel
theorem dX6_rejects_85 : decode cX6_rejects 85 = .ok (.iconst 1, 1) := by decide +kernel
theorem dX6_rejects_86 : decode cX6_rejects 86 = .ok (.goto 4, 3) := by decide +kernel
theorem dX6_rejects_89 : decode cX6_rejects 89 = .ok (.iconst 0, 1) := by decide +kernel
theorem dX6_rejects_90 : decode cX6_rejects 90 = .ok (.ireturn, 1) := by decide +kernel
theorem dX6_isTight_0 : decode cX6_isTight 0 = .ok (.aload_n 0, 1) := by decide +kernel
theorem dX6_isTight_1 : decode cX6_isTight 1 = .ok (.getfield 12, 3) := by decide +kernel
theorem dX6_isTight_4 : decode cX6_isTight 4 = .ok (.getfield 135, 3) := by decide +kernel
theorem dX6_isTight_7 : decode cX6_isTight 7 = .ok (.bipush 60, 2) := by decide +kernel
theorem dX6_isTight_9 : decode cX6_isTight 9 = .ok (.if_icmp .ge 19, 3) := by decide +kernel
theorem dX6_isTight_12 : decode cX6_isTight 12 = .ok (.aload_n 0, 1) := by decide +kernel
theorem dX6_isTight_13 : decode cX6_isTight 13 = .ok (.getfield 12, 3) := by decide +kernel
theorem dX6_isTight_16 : decode cX6_isTight 16 = .ok (.getfield 136, 3) := by decide +kernel
theorem dX6_isTight_19 : decode cX6_isTight 19 = .ok (.iload_n 1, 1) := by decide +kernel
theorem dX6_isTight_20 : decode cX6_isTight 20 = .ok (.iadd, 1) := by decide +kernel
theorem dX6_isTight_21 : decode cX6_isTight 21 = .ok (.aload_n 0, 1) := by decide +kernel
theorem dX6_isTight_22 : decode cX6_isTight 22 = .ok (.getfield 39, 3) := by decide +kernel
theorem dX6_isTight_25 : decode cX6_isTight 25 = .ok (.if_icmp .le 7, 3) := by decide +kernel
theorem dX6_isTight_28 : decode cX6_isTight 28 = .ok (.iconst 1, 1) := by decide +kernel
theorem dX6_isTight_29 : decode cX6_isTight 29 = .ok (.goto 4, 3) := by decide +kernel
theorem dX6_isTight_32 : decode cX6_isTight 32 = .ok (.iconst 0, 1) := by decide +kernel
theorem dX6_isTight_33 : decode cX6_isTight 33 = .ok (.ireturn, 1) := by decide +kernel
theorem dX6_heedGhost_0 : decode cX6_heedGhost 0 = .ok (.aload_n 0, 1) := by decide +kernel
theorem dX6_heedGhost_1 : decode cX6_heedGhost 1 = .ok (.getfield 21, 3) := by decide +kernel
theorem dX6_heedGhost_4 : decode cX6_heedGhost 4 = .ok (.iload_n 1, 1) := by decide +kernel
theorem dX6_heedGhost_5 : decode cX6_heedGhost 5 = .ok (.invokevirtual 108, 3) := by decide +kernel
theorem dX6_heedGhost_8 : decode cX6_heedGhost 8 = .ok (.ifCond .eq 23, 3) := by decide +kernel
theorem dX6_heedGhost_11 : decode cX6_heedGhost 11 = .ok (.aload_n 0, 1) := by decide +kernel
theorem dX6_heedGhost_12 : decode cX6_heedGhost 12 = .ok (.aload_n 0, 1) := by decide +kernel
theorem dX6_heedGhost_13 : decode cX6_heedGhost 13 = .ok (.getfield 62, 3) := by decide +kernel
theorem dX6_heedGhost_16 : decode cX6_heedGhost 16 = .ok (.iload_n 2, 1) := by decide +kernel
theorem dX6_heedGhost_17 : decode cX6_heedGhost 17 = .ok (.iadd, 1) := by decide +kernel
theorem dX6_heedGhost_18 : decode cX6_heedGhost 18 = .ok (.aload_n 0, 1) := by decide +kernel
theorem dX6_heedGhost_19 : decode cX6_heedGhost 19 = .ok (.getfield 39, 3) := by decide +kernel
theorem dX6_heedGhost_22 : decode cX6_heedGhost 22 = .ok (.invokestatic 139, 3) := by decide +kernel
theorem dX6_heedGhost_25 : decode cX6_heedGhost 25 = .ok (.putfield 62, 3) := by decide +kernel
theorem dX6_heedGhost_28 : decode cX6_heedGhost 28 = .ok (.goto 28, 3) := by decide +kernel
theorem dX6_heedGhost_31 : decode cX6_heedGhost 31 = .ok (.aload_n 0, 1) := by decide +kernel
theorem dX6_heedGhost_32 : decode cX6_heedGhost 32 = .ok (.getfield 25, 3) := by decide +kernel
theorem dX6_heedGhost_35 : decode cX6_heedGhost 35 = .ok (.iload_n 1, 1) := by decide +kernel
theorem dX6_heedGhost_36 : decode cX6_heedGhost 36 = .ok (.invokevirtual 108, 3) := by decide +kernel
theorem dX6_heedGhost_39 : decode cX6_heedGhost 39 = .ok (.ifCond .eq 17, 3) := by decide +kernel
theorem dX6_heedGhost_42 : decode cX6_heedGhost 42 = .ok (.aload_n 0, 1) := by decide +kernel
theorem dX6_heedGhost_43 : decode cX6_heedGhost 43 = .ok (.aload_n 0, 1) := by decide +kernel
theorem dX6_heedGhost_44 : decode cX6_heedGhost 44 = .ok (.getfield 62, 3) := by decide +kernel
theorem dX6_heedGhost_47 : decode cX6_heedGhost 47 = .ok (.iload_n 2, 1) := by decide +kernel
theorem dX6_heedGhost_48 : decode cX6_heedGhost 48 = .ok (.isub, 1) := by decide +kernel
theorem dX6_heedGhost_49 : decode cX6_heedGhost 49 = .ok (.iconst 0, 1) := by decide +kernel
theorem dX6_heedGhost_50 : decode cX6_heedGhost 50 = .ok (.invokestatic 144, 3) := by decide +kernel
theorem dX6_heedGhost_53 : decode cX6_heedGhost 53 = .ok (.putfield 62, 3) := by decide +kernel
theorem dX6_heedGhost_56 : decode cX6_heedGhost 56 = .ok (.return_, 1) := by decide +kernel
theorem dX6_bring_0 : decode cX6_bring 0 = .ok (.aload_n 0, 1) := by decide +kernel
theorem dX6_bring_1 : decode cX6_bring 1 = .ok (.getfield 12, 3) := by decide +kernel
theorem dX6_bring_4 : decode cX6_bring 4 = .ok (.iload_n 1, 1) := by decide +kernel
theorem dX6_bring_5 : decode cX6_bring 5 = .ok (.invokevirtual 147, 3) := by decide +kernel
theorem dX6_bring_8 : decode cX6_bring 8 = .ok (.istore 5, 2) := by decide +kernel
theorem dX6_bring_10 : decode cX6_bring 10 = .ok (.aload_n 0, 1) := by decide +kernel
theorem dX6_bring_11 : decode cX6_bring 11 = .ok (.iload 5, 2) := by decide +kernel
theorem dX6_bring_13 : decode cX6_bring 13 = .ok (.iload_n 3, 1) := by decide +kernel
theorem dX6_bring_14 : decode cX6_bring 14 = .ok (.invokevirtual 150, 3) := by decide +kernel
theorem dX6_bring_17 : decode cX6_bring 17 = .ok (.ifCond .eq 14, 3) := by decide +kernel
theorem dX6_bring_20 : decode cX6_bring 20 = .ok (.aload_n 0, 1) := by decide +kernel
theorem dX6_bring_21 : decode cX6_bring 21 = .ok (.bipush 6, 2) := by decide +kernel
theorem dX6_bring_23 : decode cX6_bring 23 = .ok (.iload_n 1, 1) := by decide +kernel
theorem dX6_bring_24 : decode cX6_bring 24 = .ok (.iconst 0, 1) := by decide +kernel
theorem dX6_bring_25 : decode cX6_bring 25 = .ok (.iload_n 3, 1) := by decide +kernel
theorem dX6_bring_26 : decode cX6_bring 26 = .ok (.invokevirtual 122, 3) := by decide +kernel
theorem dX6_bring_29 : decode cX6_bring 29 = .ok (.iconst (-1), 1) := by decide +kernel
theorem dX6_bring_30 : decode cX6_bring 30 = .ok (.ireturn, 1) := by decide +kernel
theorem dX6_bring_31 : decode cX6_bring 31 = .ok (.aload_n 0, 1) := by decide +kernel
theorem dX6_bring_32 : decode cX6_bring 32 = .ok (.iload_n 1, 1) := by decide +kernel
theorem dX6_bring_33 : decode cX6_bring 33 = .ok (.iload_n 3, 1) := by decide +kernel
theorem dX6_bring_34 : decode cX6_bring 34 = .ok (.invokevirtual 154, 3) := by decide +kernel
theorem dX6_bring_37 : decode cX6_bring 37 = .ok (.iload 5, 2) := by decide +kernel
theorem dX6_bring_39 : decode cX6_bring 39 = .ok (.iconst (-1), 1) := by decide +kernel
theorem dX6_bring_40 : decode cX6_bring 40 = .ok (.if_icmp .ne 55, 3) := by decide +kernel
theorem dX6_bring_43 : decode cX6_bring 43 = .ok (.iconst 0, 1) := by decide +kernel
theorem dX6_bring_44 : decode cX6_bring 44 = .ok (.istore 6, 2) := by decide +kernel
theorem dX6_bring_46 : decode cX6_bring 46 = .ok (.iload 6, 2) := by decide +kernel
theorem dX6_bring_48 : decode cX6_bring 48 = .ok (.bipush 60, 2) := by decide +kernel
theorem dX6_bring_50 : decode cX6_bring 50 = .ok (.if_icmp .ge 30, 3) := by decide +kernel
theorem dX6_bring_53 : decode cX6_bring 53 = .ok (.aload_n 0, 1) := by decide +kernel
theorem dX6_bring_54 : decode cX6_bring 54 = .ok (.iload_n 3, 1) := by decide +kernel
theorem dX6_bring_55 : decode cX6_bring 55 = .ok (.invokevirtual 158, 3) := by decide +kernel
theorem dX6_bring_58 : decode cX6_bring 58 = .ok (.ifCond .eq 22, 3) := by decide +kernel
theorem dX6_bring_61 : decode cX6_bring 61 = .ok (.aload_n 0, 1) := by decide +kernel
theorem dX6_bring_62 : decode cX6_bring 62 = .ok (.aload_n 0, 1) := by decide +kernel
theorem dX6_bring_63 : decode cX6_bring 63 = .ok (.aload_n 0, 1) := by decide +kernel
theorem dX6_bring_64 : decode cX6_bring 64 = .ok (.getfield 43, 3) := by decide +kernel
theorem dX6_bring_67 : decode cX6_bring 67 = .ok (.iload_n 1, 1) := by decide +kernel
theorem dX6_bring_68 : decode cX6_bring 68 = .ok (.invokevirtual 161, 3) := by decide +kernel
theorem dX6_bring_71 : decode cX6_bring 71 = .ok (.invokevirtual 164, 3) := by decide +kernel
theorem dX6_bring_74 : decode cX6_bring 74 = .ok (.iinc 6 1, 3) := by decide +kernel
theorem dX6_bring_77 : decode cX6_bring 77 = .ok (.goto (-31), 3) := by decide +kernel
theorem dX6_bring_80 : decode cX6_bring 80 = .ok (.aload_n 0, 1) := by decide +kernel
theorem dX6_bring_81 : decode cX6_bring 81 = .ok (.getfield 12, 3) := by decide +kernel
theorem dX6_bring_84 : decode cX6_bring 84 = .ok (.iload_n 1, 1) := by decide +kernel
theorem dX6_bring_85 : decode cX6_bring 85 = .ok (.iload_n 2, 1) := by decide +kernel
theorem dX6_bring_86 : decode cX6_bring 86 = .ok (.iload_n 3, 1) := by decide +kernel
theorem dX6_bring_87 : decode cX6_bring 87 = .ok (.iload 4, 2) := by decide +kernel
theorem dX6_bring_89 : decode cX6_bring 89 = .ok (.invokevirtual 167, 3) := by decide +kernel
theorem dX6_bring_92 : decode cX6_bring 92 = .ok (.goto 59, 3) := by decide +kernel
theorem dX6_bring_95 : decode cX6_bring 95 = .ok (.aload_n 0, 1) := by decide +kernel
theorem dX6_bring_96 : decode cX6_bring 96 = .ok (.getfield 12, 3) := by decide +kernel
theorem dX6_bring_99 : decode cX6_bring 99 = .ok (.iload 5, 2) := by decide +kernel
theorem dX6_bring_101 : decode cX6_bring 101 = .ok (.iload_n 2, 1) := by decide +kernel
theorem dX6_bring_102 : decode cX6_bring 102 = .ok (.iload_n 3, 1) := by decide +kernel
theorem dX6_bring_103 : decode cX6_bring 103 = .ok (.iload 4, 2) := by decide +kernel
theorem dX6_bring_105 : decode cX6_bring 105 = .ok (.invokevirtual 168, 3) := by decide +kernel
theorem dX6_bring_108 : decode cX6_bring 108 = .ok (.iconst 0, 1) := by decide +kernel
theorem dX6_bring_109 : decode cX6_bring 109 = .ok (.istore 6, 2) := by decide +kernel
theorem dX6_bring_111 : decode cX6_bring 111 = .ok (.iload 6, 2) := by decide +kernel
theorem dX6_bring_113 : decode cX6_bring 113 = .ok (.bipush 60, 2) := by decide +kernel
theorem dX6_bring_115 : decode cX6_bring 115 = .ok (.if_icmp .ge 36, 3) := by decide +kernel
theorem dX6_bring_118 : decode cX6_bring 118 = .ok (.aload_n 0, 1) := by decide +kernel
theorem dX6_bring_119 : decode cX6_bring 119 = .ok (.getfield 12, 3) := by decide +kernel
theorem dX6_bring_122 : decode cX6_bring 122 = .ok (.getfield 136, 3) := by decide +kernel
theorem dX6_bring_125 : decode cX6_bring 125 = .ok (.aload_n 0, 1) := by decide +kernel
theorem dX6_bring_126 : decode cX6_bring 126 = .ok (.getfield 39, 3) := by decide +kernel
theorem dX6_bring_129 : decode cX6_bring 129 = .ok (.if_icmp .le 22, 3) := by decide +kernel
theorem dX6_bring_132 : decode cX6_bring 132 = .ok (.aload_n 0, 1) := by decide +kernel
theorem dX6_bring_133 : decode cX6_bring 133 = .ok (.aload_n 0, 1) := by decide +kernel
theorem dX6_bring_134 : decode cX6_bring 134 = .ok (.aload_n 0, 1) := by decide +kernel
theorem dX6_bring_135 : decode cX6_bring 135 = .ok (.getfield 43, 3) := by decide +kernel
theorem dX6_bring_138 : decode cX6_bring 138 = .ok (.iload_n 1, 1) := by decide +kernel
theorem dX6_bring_139 : decode cX6_bring 139 = .ok (.invokevirtual 161, 3) := by decide +kernel
theorem dX6_bring_142 : decode cX6_bring 142 = .ok (.invokevirtual 164, 3) := by decide +kernel
theorem dX6_bring_145 : decode cX6_bring 145 = .ok (.iinc 6 1, 3) := by decide +kernel
theorem dX6_bring_148 : decode cX6_bring 148 = .ok (.goto (-37), 3) := by decide +kernel
theorem dX6_bring_151 : decode cX6_bring 151 = .ok (.aload_n 0, 1) := by decide +kernel
theorem dX6_bring_152 : decode cX6_bring 152 = .ok (.getfield 12, 3) := by decide +kernel
theorem dX6_bring_155 : decode cX6_bring 155 = .ok (.aload_n 0, 1) := by decide +kernel
theorem dX6_bring_156 : decode cX6_bring 156 = .ok (.getfield 12, 3) := by decide +kernel
theorem dX6_bring_159 : decode cX6_bring 159 = .ok (.iload_n 1, 1) := by decide +kernel
theorem dX6_bring_160 : decode cX6_bring 160 = .ok (.invokevirtual 147, 3) := by decide +kernel
theorem dX6_bring_163 : decode cX6_bring 163 = .ok (.invokevirtual 171, 3) := by decide +kernel
theorem dX6_bring_166 : decode cX6_bring 166 = .ok (.aload_n 0, 1) := by decide +kernel
theorem dX6_bring_167 : decode cX6_bring 167 = .ok (.iload 5, 2) := by decide +kernel
theorem dX6_bring_169 : decode cX6_bring 169 = .ok (.iconst (-1), 1) := by decide +kernel
theorem dX6_bring_170 : decode cX6_bring 170 = .ok (.if_icmp .ne 7, 3) := by decide +kernel
theorem dX6_bring_173 : decode cX6_bring 173 = .ok (.iconst 0, 1) := by decide +kernel
theorem dX6_bring_174 : decode cX6_bring 174 = .ok (.goto 4, 3) := by decide +kernel
theorem dX6_bring_177 : decode cX6_bring 177 = .ok (.iconst 1, 1) := by decide +kernel
theorem dX6_bring_178 : decode cX6_bring 178 = .ok (.iload_n 1, 1) := by decide +kernel
theorem dX6_bring_179 : decode cX6_bring 179 = .ok (.iload_n 2, 1) := by decide +kernel
theorem dX6_bring_180 : decode cX6_bring 180 = .ok (.iload_n 3, 1) := by decide +kernel
theorem dX6_bring_181 : decode cX6_bring 181 = .ok (.invokevirtual 122, 3) := by decide +kernel
theorem dX6_bring_184 : decode cX6_bring 184 = .ok (.iload 5, 2) := by decide +kernel
theorem dX6_bring_186 : decode cX6_bring 186 = .ok (.iconst (-1), 1) := by decide +kernel
theorem dX6_bring_187 : decode cX6_bring 187 = .ok (.if_icmp .ne 7, 3) := by decide +kernel
theorem dX6_bring_190 : decode cX6_bring 190 = .ok (.iconst 1, 1) := by decide +kernel
theorem dX6_bring_191 : decode cX6_bring 191 = .ok (.goto 4, 3) := by decide +kernel
theorem dX6_bring_194 : decode cX6_bring 194 = .ok (.iconst 0, 1) := by decide +kernel
theorem dX6_bring_195 : decode cX6_bring 195 = .ok (.ireturn, 1) := by decide +kernel
theorem dX6_fetch_0 : decode cX6_fetch 0 = .ok (.aload_n 0, 1) := by decide +kernel
theorem dX6_fetch_1 : decode cX6_fetch 1 = .ok (.getfield 12, 3) := by decide +kernel
theorem dX6_fetch_4 : decode cX6_fetch 4 = .ok (.iload_n 1, 1) := by decide +kernel
theorem dX6_fetch_5 : decode cX6_fetch 5 = .ok (.invokevirtual 147, 3) := by decide +kernel
theorem dX6_fetch_8 : decode cX6_fetch 8 = .ok (.istore_n 2, 1) := by decide +kernel
theorem dX6_fetch_9 : decode cX6_fetch 9 = .ok (.iload_n 2, 1) := by decide +kernel
theorem dX6_fetch_10 : decode cX6_fetch 10 = .ok (.iconst (-1), 1) := by decide +kernel
theorem dX6_fetch_11 : decode cX6_fetch 11 = .ok (.if_icmp .ne 13, 3) := by decide +kernel
theorem dX6_fetch_14 : decode cX6_fetch 14 = .ok (.aload_n 0, 1) := by decide +kernel
theorem dX6_fetch_15 : decode cX6_fetch 15 = .ok (.iconst 5, 1) := by decide +kernel
theorem dX6_fetch_16 : decode cX6_fetch 16 = .ok (.iload_n 1, 1) := by decide +kernel
theorem dX6_fetch_17 : decode cX6_fetch 17 = .ok (.iconst 0, 1) := by decide +kernel
theorem dX6_fetch_18 : decode cX6_fetch 18 = .ok (.iconst 0, 1) := by decide +kernel
theorem dX6_fetch_19 : decode cX6_fetch 19 = .ok (.invokevirtual 122, 3) := by decide +kernel
theorem dX6_fetch_22 : decode cX6_fetch 22 = .ok (.iconst 0, 1) := by decide +kernel
theorem dX6_fetch_23 : decode cX6_fetch 23 = .ok (.ireturn, 1) := by decide +kernel
theorem dX6_fetch_24 : decode cX6_fetch 24 = .ok (.aload_n 0, 1) := by decide +kernel
theorem dX6_fetch_25 : decode cX6_fetch 25 = .ok (.getfield 12, 3) := by decide +kernel
theorem dX6_fetch_28 : decode cX6_fetch 28 = .ok (.iload_n 2, 1) := by decide +kernel
theorem dX6_fetch_29 : decode cX6_fetch 29 = .ok (.invokevirtual 171, 3) := by decide +kernel
theorem dX6_fetch_32 : decode cX6_fetch 32 = .ok (.aload_n 0, 1) := by decide +kernel
theorem dX6_fetch_33 : decode cX6_fetch 33 = .ok (.dup, 1) := by decide +kernel
theorem dX6_fetch_34 : decode cX6_fetch 34 = .ok (.getfield 59, 3) := by decide +kernel
theorem dX6_fetch_37 : decode cX6_fetch 37 = .ok (.iconst 1, 1) := by decide +kernel
theorem dX6_fetch_38 : decode cX6_fetch 38 = .ok (.iadd, 1) := by decide +kernel
theorem dX6_fetch_39 : decode cX6_fetch 39 = .ok (.putfield 59, 3) := by decide +kernel
theorem dX6_fetch_42 : decode cX6_fetch 42 = .ok (.iconst 1, 1) := by decide +kernel
theorem dX6_fetch_43 : decode cX6_fetch 43 = .ok (.ireturn, 1) := by decide +kernel
theorem dX6_takeOut_0 : decode cX6_takeOut 0 = .ok (.aload_n 0, 1) := by decide +kernel
theorem dX6_takeOut_1 : decode cX6_takeOut 1 = .ok (.getfield 12, 3) := by decide +kernel
theorem dX6_takeOut_4 : decode cX6_takeOut 4 = .ok (.iload_n 1, 1) := by decide +kernel
theorem dX6_takeOut_5 : decode cX6_takeOut 5 = .ok (.invokevirtual 147, 3) := by decide +kernel
theorem dX6_takeOut_8 : decode cX6_takeOut 8 = .ok (.istore_n 2, 1) := by decide +kernel
theorem dX6_takeOut_9 : decode cX6_takeOut 9 = .ok (.iload_n 2, 1) := by decide +kernel
theorem dX6_takeOut_10 : decode cX6_takeOut 10 = .ok (.iconst (-1), 1) := by decide +kernel
theorem dX6_takeOut_11 : decode cX6_takeOut 11 = .ok (.if_icmp .ne 6, 3) := by decide +kernel
theorem dX6_takeOut_14 : decode cX6_takeOut 14 = .ok (.bipush (-3), 2) := by decide +kernel
theorem dX6_takeOut_16 : decode cX6_takeOut 16 = .ok (.ireturn, 1) := by decide +kernel
theorem dX6_takeOut_17 : decode cX6_takeOut 17 = .ok (.aload_n 0, 1) := by decide +kernel
theorem dX6_takeOut_18 : decode cX6_takeOut 18 = .ok (.getfield 12, 3) := by decide +kernel
theorem dX6_takeOut_21 : decode cX6_takeOut 21 = .ok (.getfield 116, 3) := by decide +kernel
theorem dX6_takeOut_24 : decode cX6_takeOut 24 = .ok (.iload_n 2, 1) := by decide +kernel
theorem dX6_takeOut_25 : decode cX6_takeOut 25 = .ok (.iaload, 1) := by decide +kernel
theorem dX6_takeOut_26 : decode cX6_takeOut 26 = .ok (.istore_n 3, 1) := by decide +kernel
theorem dX6_takeOut_27 : decode cX6_takeOut 27 = .ok (.aload_n 0, 1) := by decide +kernel
theorem dX6_takeOut_28 : decode cX6_takeOut 28 = .ok (.iconst 4, 1) := by decide +kernel
theorem dX6_takeOut_29 : decode cX6_takeOut 29 = .ok (.iload_n 2, 1) := by decide +kernel
theorem dX6_takeOut_30 : decode cX6_takeOut 30 = .ok (.invokevirtual 174, 3) := by decide +kernel
theorem dX6_takeOut_33 : decode cX6_takeOut 33 = .ok (.iload_n 3, 1) := by decide +kernel
theorem dX6_takeOut_34 : decode cX6_takeOut 34 = .ok (.sipush 10000, 3) := by decide +kernel
theorem dX6_takeOut_37 : decode cX6_takeOut 37 = .ok (.iadd, 1) := by decide +kernel
theorem dX6_takeOut_38 : decode cX6_takeOut 38 = .ok (.ireturn, 1) := by decide +kernel
theorem dX6_fasten_0 : decode cX6_fasten 0 = .ok (.aload_n 0, 1) := by decide +kernel
theorem dX6_fasten_1 : decode cX6_fasten 1 = .ok (.getfield 12, 3) := by decide +kernel
theorem dX6_fasten_4 : decode cX6_fasten 4 = .ok (.iload_n 1, 1) := by decide +kernel
theorem dX6_fasten_5 : decode cX6_fasten 5 = .ok (.invokevirtual 147, 3) := by decide +kernel
theorem dX6_fasten_8 : decode cX6_fasten 8 = .ok (.istore_n 3, 1) := by decide +kernel
theorem dX6_fasten_9 : decode cX6_fasten 9 = .ok (.iload_n 3, 1) := by decide +kernel
theorem dX6_fasten_10 : decode cX6_fasten 10 = .ok (.iconst (-1), 1) := by decide +kernel
theorem dX6_fasten_11 : decode cX6_fasten 11 = .ok (.if_icmp .ne 8, 3) := by decide +kernel
theorem dX6_fasten_14 : decode cX6_fasten 14 = .ok (.bipush (-3), 2) := by decide +kernel
theorem dX6_fasten_16 : decode cX6_fasten 16 = .ok (.goto 15, 3) := by decide +kernel
theorem dX6_fasten_19 : decode cX6_fasten 19 = .ok (.aload_n 0, 1) := by decide +kernel
theorem dX6_fasten_20 : decode cX6_fasten 20 = .ok (.getfield 12, 3) := by decide +kernel
theorem dX6_fasten_23 : decode cX6_fasten 23 = .ok (.iload_n 3, 1) := by decide +kernel
theorem dX6_fasten_24 : decode cX6_fasten 24 = .ok (.iload_n 2, 1) := by decide +kernel
theorem dX6_fasten_25 : decode cX6_fasten 25 = .ok (.invokevirtual 177, 3) := by decide +kernel
theorem dX6_fasten_28 : decode cX6_fasten 28 = .ok (.invokestatic 181, 3) := by decide +kernel
theorem dX6_fasten_31 : decode cX6_fasten 31 = .ok (.ireturn, 1) := by decide +kernel
theorem dX6_recap_0 : decode cX6_recap 0 = .ok (.iload_n 1, 1) := by decide +kernel
theorem dX6_recap_1 : decode cX6_recap 1 = .ok (.invokestatic 185, 3) := by decide +kernel
theorem dX6_recap_4 : decode cX6_recap 4 = .ok (.ifCond .ne 6, 3) := by decide +kernel
theorem dX6_recap_7 : decode cX6_recap 7 = .ok (.bipush (-2), 2) := by decide +kernel
theorem dX6_recap_9 : decode cX6_recap 9 = .ok (.ireturn, 1) := by decide +kernel
theorem dX6_recap_10 : decode cX6_recap 10 = .ok (.aload_n 0, 1) := by decide +kernel
theorem dX6_recap_11 : decode cX6_recap 11 = .ok (.getfield 12, 3) := by decide +kernel
theorem dX6_recap_14 : decode cX6_recap 14 = .ok (.getfield 128, 3) := by decide +kernel
theorem dX6_recap_17 : decode cX6_recap 17 = .ok (.iload_n 1, 1) := by decide +kernel
theorem dX6_recap_18 : decode cX6_recap 18 = .ok (.if_icmp .le 6, 3) := by decide +kernel
theorem dX6_recap_21 : decode cX6_recap 21 = .ok (.bipush (-3), 2) := by decide +kernel
theorem dX6_recap_23 : decode cX6_recap 23 = .ok (.ireturn, 1) := by decide +kernel
theorem dX6_recap_24 : decode cX6_recap 24 = .ok (.aload_n 0, 1) := by decide +kernel
theorem dX6_recap_25 : decode cX6_recap 25 = .ok (.iload_n 1, 1) := by decide +kernel
theorem dX6_recap_26 : decode cX6_recap 26 = .ok (.putfield 39, 3) := by decide +kernel
theorem dX6_recap_29 : decode cX6_recap 29 = .ok (.aload_n 0, 1) := by decide +kernel
theorem dX6_recap_30 : decode cX6_recap 30 = .ok (.aload_n 0, 1) := by decide +kernel
theorem dX6_recap_31 : decode cX6_recap 31 = .ok (.getfield 62, 3) := by decide +kernel
theorem dX6_recap_34 : decode cX6_recap 34 = .ok (.aload_n 0, 1) := by decide +kernel
theorem dX6_recap_35 : decode cX6_recap 35 = .ok (.getfield 39, 3) := by decide +kernel
theorem dX6_recap_38 : decode cX6_recap 38 = .ok (.invokestatic 139, 3) := by decide +kernel
theorem dX6_recap_41 : decode cX6_recap 41 = .ok (.putfield 62, 3) := by decide +kernel
theorem dX6_recap_44 : decode cX6_recap 44 = .ok (.aload_n 0, 1) := by decide +kernel
theorem dX6_recap_45 : decode cX6_recap 45 = .ok (.getfield 35, 3) := by decide +kernel
theorem dX6_recap_48 : decode cX6_recap 48 = .ok (.iconst 2, 1) := by decide +kernel
theorem dX6_recap_49 : decode cX6_recap 49 = .ok (.iaload, 1) := by decide +kernel
theorem dX6_recap_50 : decode cX6_recap 50 = .ok (.istore_n 2, 1) := by decide +kernel
theorem dX6_recap_51 : decode cX6_recap 51 = .ok (.iconst 0, 1) := by decide +kernel
theorem dX6_recap_52 : decode cX6_recap 52 = .ok (.istore_n 3, 1) := by decide +kernel
theorem dX6_recap_53 : decode cX6_recap 53 = .ok (.iload_n 3, 1) := by decide +kernel
theorem dX6_recap_54 : decode cX6_recap 54 = .ok (.bipush 60, 2) := by decide +kernel
theorem dX6_recap_56 : decode cX6_recap 56 = .ok (.if_icmp .ge 36, 3) := by decide +kernel
theorem dX6_recap_59 : decode cX6_recap 59 = .ok (.aload_n 0, 1) := by decide +kernel
theorem dX6_recap_60 : decode cX6_recap 60 = .ok (.getfield 12, 3) := by decide +kernel
theorem dX6_recap_63 : decode cX6_recap 63 = .ok (.getfield 136, 3) := by decide +kernel
theorem dX6_recap_66 : decode cX6_recap 66 = .ok (.aload_n 0, 1) := by decide +kernel
theorem dX6_recap_67 : decode cX6_recap 67 = .ok (.getfield 39, 3) := by decide +kernel
theorem dX6_recap_70 : decode cX6_recap 70 = .ok (.if_icmp .le 22, 3) := by decide +kernel
theorem dX6_recap_73 : decode cX6_recap 73 = .ok (.aload_n 0, 1) := by decide +kernel
theorem dX6_recap_74 : decode cX6_recap 74 = .ok (.aload_n 0, 1) := by decide +kernel
theorem dX6_recap_75 : decode cX6_recap 75 = .ok (.aload_n 0, 1) := by decide +kernel
theorem dX6_recap_76 : decode cX6_recap 76 = .ok (.getfield 43, 3) := by decide +kernel
theorem dX6_recap_79 : decode cX6_recap 79 = .ok (.iconst (-1), 1) := by decide +kernel
theorem dX6_recap_80 : decode cX6_recap 80 = .ok (.invokevirtual 161, 3) := by decide +kernel
theorem dX6_recap_83 : decode cX6_recap 83 = .ok (.invokevirtual 164, 3) := by decide +kernel
theorem dX6_recap_86 : decode cX6_recap 86 = .ok (.iinc 3 1, 3) := by decide +kernel
theorem dX6_recap_89 : decode cX6_recap 89 = .ok (.goto (-36), 3) := by decide +kernel
theorem dX6_recap_92 : decode cX6_recap 92 = .ok (.aload_n 0, 1) := by decide +kernel
theorem dX6_recap_93 : decode cX6_recap 93 = .ok (.getfield 35, 3) := by decide +kernel
theorem dX6_recap_96 : decode cX6_recap 96 = .ok (.iconst 2, 1) := by decide +kernel
theorem dX6_recap_97 : decode cX6_recap 97 = .ok (.iaload, 1) := by decide +kernel
theorem dX6_recap_98 : decode cX6_recap 98 = .ok (.iload_n 2, 1) := by decide +kernel
theorem dX6_recap_99 : decode cX6_recap 99 = .ok (.isub, 1) := by decide +kernel
theorem dX6_recap_100 : decode cX6_recap 100 = .ok (.ireturn, 1) := by decide +kernel
theorem dX7_init_0 : decode cX7_init 0 = .ok (.aload_n 0, 1) := by decide +kernel
theorem dX7_init_1 : decode cX7_init 1 = .ok (.invokespecial 3, 3) := by decide +kernel
theorem dX7_init_4 : decode cX7_init 4 = .ok (.aload_n 0, 1) := by decide +kernel
theorem dX7_init_5 : decode cX7_init 5 = .ok (.bipush 100, 2) := by decide +kernel
theorem dX7_init_7 : decode cX7_init 7 = .ok (.newarray .int, 2) := by decide +kernel
theorem dX7_init_9 : decode cX7_init 9 = .ok (.putfield 9, 3) := by decide +kernel
theorem dX7_init_12 : decode cX7_init 12 = .ok (.aload_n 0, 1) := by decide +kernel
theorem dX7_init_13 : decode cX7_init 13 = .ok (.bipush 100, 2) := by decide +kernel
theorem dX7_init_15 : decode cX7_init 15 = .ok (.newarray .int, 2) := by decide +kernel
theorem dX7_init_17 : decode cX7_init 17 = .ok (.putfield 15, 3) := by decide +kernel
theorem dX7_init_20 : decode cX7_init 20 = .ok (.aload_n 0, 1) := by decide +kernel
theorem dX7_init_21 : decode cX7_init 21 = .ok (.bipush 100, 2) := by decide +kernel
theorem dX7_init_23 : decode cX7_init 23 = .ok (.newarray .int, 2) := by decide +kernel
theorem dX7_init_25 : decode cX7_init 25 = .ok (.putfield 18, 3) := by decide +kernel
theorem dX7_init_28 : decode cX7_init 28 = .ok (.aload_n 0, 1) := by decide +kernel
theorem dX7_init_29 : decode cX7_init 29 = .ok (.bipush 100, 2) := by decide +kernel
theorem dX7_init_31 : decode cX7_init 31 = .ok (.newarray .int, 2) := by decide +kernel
theorem dX7_init_33 : decode cX7_init 33 = .ok (.putfield 21, 3) := by decide +kernel
theorem dX7_init_36 : decode cX7_init 36 = .ok (.aload_n 0, 1) := by decide +kernel
theorem dX7_init_37 : decode cX7_init 37 = .ok (.bipush 100, 2) := by decide +kernel
theorem dX7_init_39 : decode cX7_init 39 = .ok (.newarray .int, 2) := by decide +kernel
theorem dX7_init_41 : decode cX7_init 41 = .ok (.putfield 24, 3) := by decide +kernel
theorem dX7_init_44 : decode cX7_init 44 = .ok (.return_, 1) := by decide +kernel
theorem dX7_open_0 : decode cX7_open 0 = .ok (.aload_n 0, 1) := by decide +kernel
theorem dX7_open_1 : decode cX7_open 1 = .ok (.iconst 0, 1) := by decide +kernel
theorem dX7_open_2 : decode cX7_open 2 = .ok (.putfield 27, 3) := by decide +kernel
theorem dX7_open_5 : decode cX7_open 5 = .ok (.aload_n 0, 1) := by decide +kernel
theorem dX7_open_6 : decode cX7_open 6 = .ok (.iconst 0, 1) := by decide +kernel
theorem dX7_open_7 : decode cX7_open 7 = .ok (.putfield 31, 3) := by decide +kernel
theorem dX7_open_10 : decode cX7_open 10 = .ok (.aload_n 0, 1) := by decide +kernel
theorem dX7_open_11 : decode cX7_open 11 = .ok (.iconst 0, 1) := by decide +kernel
theorem dX7_open_12 : decode cX7_open 12 = .ok (.putfield 34, 3) := by decide +kernel
theorem dX7_open_15 : decode cX7_open 15 = .ok (.return_, 1) := by decide +kernel
theorem dX7_add_0 : decode cX7_add 0 = .ok (.aload_n 0, 1) := by decide +kernel
theorem dX7_add_1 : decode cX7_add 1 = .ok (.getfield 27, 3) := by decide +kernel
theorem dX7_add_4 : decode cX7_add 4 = .ok (.bipush 100, 2) := by decide +kernel
theorem dX7_add_6 : decode cX7_add 6 = .ok (.if_icmp .lt 14, 3) := by decide +kernel
theorem dX7_add_9 : decode cX7_add 9 = .ok (.aload_n 0, 1) := by decide +kernel
theorem dX7_add_10 : decode cX7_add 10 = .ok (.dup, 1) := by decide +kernel
theorem dX7_add_11 : decode cX7_add 11 = .ok (.getfield 31, 3) := by decide +kernel
theorem dX7_add_14 : decode cX7_add 14 = .ok (.iconst 1, 1) := by decide +kernel
theorem dX7_add_15 : decode cX7_add 15 = .ok (.iadd, 1) := by decide +kernel
theorem dX7_add_16 : decode cX7_add 16 = .ok (.putfield 31, 3) := by decide +kernel
theorem dX7_add_19 : decode cX7_add 19 = .ok (.return_, 1) := by decide +kernel
theorem dX7_add_20 : decode cX7_add 20 = .ok (.aload_n 0, 1) := by decide +kernel
theorem dX7_add_21 : decode cX7_add 21 = .ok (.getfield 9, 3) := by decide +kernel
theorem dX7_add_24 : decode cX7_add 24 = .ok (.aload_n 0, 1) := by decide +kernel
theorem dX7_add_25 : decode cX7_add 25 = .ok (.getfield 27, 3) := by decide +kernel
theorem dX7_add_28 : decode cX7_add 28 = .ok (.iload_n 1, 1) := by decide +kernel
theorem dX7_add_29 : decode cX7_add 29 = .ok (.iastore, 1) := by decide +kernel
theorem dX7_add_30 : decode cX7_add 30 = .ok (.aload_n 0, 1) := by decide +kernel
theorem dX7_add_31 : decode cX7_add 31 = .ok (.getfield 15, 3) := by decide +kernel
theorem dX7_add_34 : decode cX7_add 34 = .ok (.aload_n 0, 1) := by decide +kernel
theorem dX7_add_35 : decode cX7_add 35 = .ok (.getfield 27, 3) := by decide +kernel
theorem dX7_add_38 : decode cX7_add 38 = .ok (.iload_n 2, 1) := by decide +kernel
theorem dX7_add_39 : decode cX7_add 39 = .ok (.iastore, 1) := by decide +kernel
theorem dX7_add_40 : decode cX7_add 40 = .ok (.aload_n 0, 1) := by decide +kernel
theorem dX7_add_41 : decode cX7_add 41 = .ok (.getfield 18, 3) := by decide +kernel
theorem dX7_add_44 : decode cX7_add 44 = .ok (.aload_n 0, 1) := by decide +kernel
theorem dX7_add_45 : decode cX7_add 45 = .ok (.getfield 27, 3) := by decide +kernel
theorem dX7_add_48 : decode cX7_add 48 = .ok (.iload_n 3, 1) := by decide +kernel
theorem dX7_add_49 : decode cX7_add 49 = .ok (.iastore, 1) := by decide +kernel
theorem dX7_add_50 : decode cX7_add 50 = .ok (.aload_n 0, 1) := by decide +kernel
theorem dX7_add_51 : decode cX7_add 51 = .ok (.getfield 21, 3) := by decide +kernel
theorem dX7_add_54 : decode cX7_add 54 = .ok (.aload_n 0, 1) := by decide +kernel
theorem dX7_add_55 : decode cX7_add 55 = .ok (.getfield 27, 3) := by decide +kernel
theorem dX7_add_58 : decode cX7_add 58 = .ok (.iload 4, 2) := by decide +kernel
theorem dX7_add_60 : decode cX7_add 60 = .ok (.iastore, 1) := by decide +kernel
theorem dX7_add_61 : decode cX7_add 61 = .ok (.aload_n 0, 1) := by decide +kernel
theorem dX7_add_62 : decode cX7_add 62 = .ok (.getfield 24, 3) := by decide +kernel
theorem dX7_add_65 : decode cX7_add 65 = .ok (.aload_n 0, 1) := by decide +kernel
theorem dX7_add_66 : decode cX7_add 66 = .ok (.getfield 27, 3) := by decide +kernel
theorem dX7_add_69 : decode cX7_add 69 = .ok (.aload_n 0, 1) := by decide +kernel
theorem dX7_add_70 : decode cX7_add 70 = .ok (.getfield 34, 3) := by decide +kernel
theorem dX7_add_73 : decode cX7_add 73 = .ok (.iastore, 1) := by decide +kernel
theorem dX7_add_74 : decode cX7_add 74 = .ok (.aload_n 0, 1) := by decide +kernel
theorem dX7_add_75 : decode cX7_add 75 = .ok (.dup, 1) := by decide +kernel
theorem dX7_add_76 : decode cX7_add 76 = .ok (.getfield 27, 3) := by decide +kernel
theorem dX7_add_79 : decode cX7_add 79 = .ok (.iconst 1, 1) := by decide +kernel
theorem dX7_add_80 : decode cX7_add 80 = .ok (.iadd, 1) := by decide +kernel
theorem dX7_add_81 : decode cX7_add 81 = .ok (.putfield 27, 3) := by decide +kernel
theorem dX7_add_84 : decode cX7_add 84 = .ok (.return_, 1) := by decide +kernel
theorem dX8_init_0 : decode cX8_init 0 = .ok (.aload_n 0, 1) := by decide +kernel
theorem dX8_init_1 : decode cX8_init 1 = .ok (.invokespecial 3, 3) := by decide +kernel
theorem dX8_init_4 : decode cX8_init 4 = .ok (.aload_n 0, 1) := by decide +kernel
theorem dX8_init_5 : decode cX8_init 5 = .ok (.new 9, 3) := by decide +kernel
theorem dX8_init_8 : decode cX8_init 8 = .ok (.dup, 1) := by decide +kernel
theorem dX8_init_9 : decode cX8_init 9 = .ok (.invokespecial 11, 3) := by decide +kernel
theorem dX8_init_12 : decode cX8_init 12 = .ok (.putfield 12, 3) := by decide +kernel
theorem dX8_init_15 : decode cX8_init 15 = .ok (.aload_n 0, 1) := by decide +kernel
theorem dX8_init_16 : decode cX8_init 16 = .ok (.bipush 8, 2) := by decide +kernel
theorem dX8_init_18 : decode cX8_init 18 = .ok (.anewarray 18, 3) := by decide +kernel
theorem dX8_init_21 : decode cX8_init 21 = .ok (.putfield 20, 3) := by decide +kernel
theorem dX8_init_24 : decode cX8_init 24 = .ok (.aload_n 0, 1) := by decide +kernel
theorem dX8_init_25 : decode cX8_init 25 = .ok (.new 24, 3) := by decide +kernel
theorem dX8_init_28 : decode cX8_init 28 = .ok (.dup, 1) := by decide +kernel
theorem dX8_init_29 : decode cX8_init 29 = .ok (.invokespecial 26, 3) := by decide +kernel
theorem dX8_init_32 : decode cX8_init 32 = .ok (.putfield 27, 3) := by decide +kernel
theorem dX8_init_35 : decode cX8_init 35 = .ok (.aload_n 0, 1) := by decide +kernel
theorem dX8_init_36 : decode cX8_init 36 = .ok (.new 31, 3) := by decide +kernel
theorem dX8_init_39 : decode cX8_init 39 = .ok (.dup, 1) := by decide +kernel
theorem dX8_init_40 : decode cX8_init 40 = .ok (.invokespecial 33, 3) := by decide +kernel
theorem dX8_init_43 : decode cX8_init 43 = .ok (.putfield 34, 3) := by decide +kernel
theorem dX8_init_46 : decode cX8_init 46 = .ok (.iconst 0, 1) := by decide +kernel
theorem dX8_init_47 : decode cX8_init 47 = .ok (.istore_n 1, 1) := by decide +kernel
theorem dX8_init_48 : decode cX8_init 48 = .ok (.iload_n 1, 1) := by decide +kernel
theorem dX8_init_49 : decode cX8_init 49 = .ok (.bipush 8, 2) := by decide +kernel
theorem dX8_init_51 : decode cX8_init 51 = .ok (.if_icmp .ge 22, 3) := by decide +kernel
theorem dX8_init_54 : decode cX8_init 54 = .ok (.aload_n 0, 1) := by decide +kernel
theorem dX8_init_55 : decode cX8_init 55 = .ok (.getfield 20, 3) := by decide +kernel
theorem dX8_init_58 : decode cX8_init 58 = .ok (.iload_n 1, 1) := by decide +kernel
theorem dX8_init_59 : decode cX8_init 59 = .ok (.new 18, 3) := by decide +kernel
theorem dX8_init_62 : decode cX8_init 62 = .ok (.dup, 1) := by decide +kernel
theorem dX8_init_63 : decode cX8_init 63 = .ok (.invokespecial 38, 3) := by decide +kernel
theorem dX8_init_66 : decode cX8_init 66 = .ok (.aastore, 1) := by decide +kernel
theorem dX8_init_67 : decode cX8_init 67 = .ok (.iinc 1 1, 3) := by decide +kernel
theorem dX8_init_70 : decode cX8_init 70 = .ok (.goto (-22), 3) := by decide +kernel
theorem dX8_init_73 : decode cX8_init 73 = .ok (.return_, 1) := by decide +kernel
theorem dX8_copyFrom_0 : decode cX8_copyFrom 0 = .ok (.aload_n 0, 1) := by decide +kernel
theorem dX8_copyFrom_1 : decode cX8_copyFrom 1 = .ok (.getfield 12, 3) := by decide +kernel
theorem dX8_copyFrom_4 : decode cX8_copyFrom 4 = .ok (.aload_n 1, 1) := by decide +kernel
theorem dX8_copyFrom_5 : decode cX8_copyFrom 5 = .ok (.getfield 12, 3) := by decide +kernel
theorem dX8_copyFrom_8 : decode cX8_copyFrom 8 = .ok (.invokevirtual 39, 3) := by decide +kernel
theorem dX8_copyFrom_11 : decode cX8_copyFrom 11 = .ok (.iconst 0, 1) := by decide +kernel
theorem dX8_copyFrom_12 : decode cX8_copyFrom 12 = .ok (.istore_n 2, 1) := by decide +kernel
theorem dX8_copyFrom_13 : decode cX8_copyFrom 13 = .ok (.iload_n 2, 1) := by decide +kernel
theorem dX8_copyFrom_14 : decode cX8_copyFrom 14 = .ok (.bipush 8, 2) := by decide +kernel
theorem dX8_copyFrom_16 : decode cX8_copyFrom 16 = .ok (.if_icmp .ge 24, 3) := by decide +kernel
theorem dX8_copyFrom_19 : decode cX8_copyFrom 19 = .ok (.aload_n 0, 1) := by decide +kernel
theorem dX8_copyFrom_20 : decode cX8_copyFrom 20 = .ok (.getfield 20, 3) := by decide +kernel
theorem dX8_copyFrom_23 : decode cX8_copyFrom 23 = .ok (.iload_n 2, 1) := by decide +kernel
theorem dX8_copyFrom_24 : decode cX8_copyFrom 24 = .ok (.aaload, 1) := by decide +kernel
theorem dX8_copyFrom_25 : decode cX8_copyFrom 25 = .ok (.aload_n 1, 1) := by decide +kernel
theorem dX8_copyFrom_26 : decode cX8_copyFrom 26 = .ok (.getfield 20, 3) := by decide +kernel
theorem dX8_copyFrom_29 : decode cX8_copyFrom 29 = .ok (.iload_n 2, 1) := by decide +kernel
theorem dX8_copyFrom_30 : decode cX8_copyFrom 30 = .ok (.aaload, 1) := by decide +kernel
theorem dX8_copyFrom_31 : decode cX8_copyFrom 31 = .ok (.invokevirtual 43, 3) := by decide +kernel
theorem dX8_copyFrom_34 : decode cX8_copyFrom 34 = .ok (.iinc 2 1, 3) := by decide +kernel
theorem dX8_copyFrom_37 : decode cX8_copyFrom 37 = .ok (.goto (-24), 3) := by decide +kernel
theorem dX8_copyFrom_40 : decode cX8_copyFrom 40 = .ok (.aload_n 0, 1) := by decide +kernel
theorem dX8_copyFrom_41 : decode cX8_copyFrom 41 = .ok (.getfield 27, 3) := by decide +kernel
theorem dX8_copyFrom_44 : decode cX8_copyFrom 44 = .ok (.aload_n 1, 1) := by decide +kernel
theorem dX8_copyFrom_45 : decode cX8_copyFrom 45 = .ok (.getfield 27, 3) := by decide +kernel
theorem dX8_copyFrom_48 : decode cX8_copyFrom 48 = .ok (.invokevirtual 46, 3) := by decide +kernel
theorem dX8_copyFrom_51 : decode cX8_copyFrom 51 = .ok (.aload_n 0, 1) := by decide +kernel
theorem dX8_copyFrom_52 : decode cX8_copyFrom 52 = .ok (.getfield 34, 3) := by decide +kernel
theorem dX8_copyFrom_55 : decode cX8_copyFrom 55 = .ok (.aload_n 1, 1) := by decide +kernel
theorem dX8_copyFrom_56 : decode cX8_copyFrom 56 = .ok (.getfield 34, 3) := by decide +kernel
theorem dX8_copyFrom_59 : decode cX8_copyFrom 59 = .ok (.invokevirtual 49, 3) := by decide +kernel
theorem dX8_copyFrom_62 : decode cX8_copyFrom 62 = .ok (.aload_n 0, 1) := by decide +kernel
theorem dX8_copyFrom_63 : decode cX8_copyFrom 63 = .ok (.aload_n 1, 1) := by decide +kernel
theorem dX8_copyFrom_64 : decode cX8_copyFrom 64 = .ok (.getfield 52, 3) := by decide +kernel
theorem dX8_copyFrom_67 : decode cX8_copyFrom 67 = .ok (.putfield 52, 3) := by decide +kernel
theorem dX8_copyFrom_70 : decode cX8_copyFrom 70 = .ok (.aload_n 0, 1) := by decide +kernel
theorem dX8_copyFrom_71 : decode cX8_copyFrom 71 = .ok (.aload_n 1, 1) := by decide +kernel
theorem dX8_copyFrom_72 : decode cX8_copyFrom 72 = .ok (.getfield 56, 3) := by decide +kernel
theorem dX8_copyFrom_75 : decode cX8_copyFrom 75 = .ok (.putfield 56, 3) := by decide +kernel
theorem dX8_copyFrom_78 : decode cX8_copyFrom 78 = .ok (.aload_n 0, 1) := by decide +kernel
theorem dX8_copyFrom_79 : decode cX8_copyFrom 79 = .ok (.aload_n 1, 1) := by decide +kernel
theorem dX8_copyFrom_80 : decode cX8_copyFrom 80 = .ok (.getfield 59, 3) := by decide +kernel
theorem dX8_copyFrom_83 : decode cX8_copyFrom 83 = .ok (.putfield 59, 3) := by decide +kernel
theorem dX8_copyFrom_86 : decode cX8_copyFrom 86 = .ok (.aload_n 0, 1) := by decide +kernel
theorem dX8_copyFrom_87 : decode cX8_copyFrom 87 = .ok (.aload_n 1, 1) := by decide +kernel
theorem dX8_copyFrom_88 : decode cX8_copyFrom 88 = .ok (.getfield 62, 3) := by decide +kernel
theorem dX8_copyFrom_91 : decode cX8_copyFrom 91 = .ok (.putfield 62, 3) := by decide +kernel
theorem dX8_copyFrom_94 : decode cX8_copyFrom 94 = .ok (.return_, 1) := by decide +kernel
theorem dX8_listenerAt_0 : decode cX8_listenerAt 0 = .ok (.iload_n 1, 1) := by decide +kernel
theorem dX8_listenerAt_1 : decode cX8_listenerAt 1 = .ok (.ifCond .lt 20, 3) := by decide +kernel
theorem dX8_listenerAt_4 : decode cX8_listenerAt 4 = .ok (.iload_n 1, 1) := by decide +kernel
theorem dX8_listenerAt_5 : decode cX8_listenerAt 5 = .ok (.aload_n 0, 1) := by decide +kernel
theorem dX8_listenerAt_6 : decode cX8_listenerAt 6 = .ok (.getfield 52, 3) := by decide +kernel
theorem dX8_listenerAt_9 : decode cX8_listenerAt 9 = .ok (.if_icmp .ge 12, 3) := by decide +kernel
theorem dX8_listenerAt_12 : decode cX8_listenerAt 12 = .ok (.aload_n 0, 1) := by decide +kernel
theorem dX8_listenerAt_13 : decode cX8_listenerAt 13 = .ok (.getfield 20, 3) := by decide +kernel
theorem dX8_listenerAt_16 : decode cX8_listenerAt 16 = .ok (.iload_n 1, 1) := by decide +kernel
theorem dX8_listenerAt_17 : decode cX8_listenerAt 17 = .ok (.aaload, 1) := by decide +kernel
theorem dX8_listenerAt_18 : decode cX8_listenerAt 18 = .ok (.goto 4, 3) := by decide +kernel
theorem dX8_listenerAt_21 : decode cX8_listenerAt 21 = .ok (.aconst_null, 1) := by decide +kernel
theorem dX8_listenerAt_22 : decode cX8_listenerAt 22 = .ok (.areturn, 1) := by decide +kernel
theorem dX8_callPut_0 : decode cX8_callPut 0 = .ok (.aload_n 0, 1) := by decide +kernel
theorem dX8_callPut_1 : decode cX8_callPut 1 = .ok (.getfield 34, 3) := by decide +kernel
theorem dX8_callPut_4 : decode cX8_callPut 4 = .ok (.iload_n 1, 1) := by decide +kernel
theorem dX8_callPut_5 : decode cX8_callPut 5 = .ok (.invokevirtual 65, 3) := by decide +kernel
theorem dX8_callPut_8 : decode cX8_callPut 8 = .ok (.aload_n 0, 1) := by decide +kernel
theorem dX8_callPut_9 : decode cX8_callPut 9 = .ok (.getfield 12, 3) := by decide +kernel
theorem dX8_callPut_12 : decode cX8_callPut 12 = .ok (.getfield 69, 3) := by decide +kernel
theorem dX8_callPut_15 : decode cX8_callPut 15 = .ok (.invokevirtual 73, 3) := by decide +kernel
theorem dX8_callPut_18 : decode cX8_callPut 18 = .ok (.aload_n 0, 1) := by decide +kernel
theorem dX8_callPut_19 : decode cX8_callPut 19 = .ok (.getfield 12, 3) := by decide +kernel
theorem dX8_callPut_22 : decode cX8_callPut 22 = .ok (.iload_n 1, 1) := by decide +kernel
theorem dX8_callPut_23 : decode cX8_callPut 23 = .ok (.iload_n 2, 1) := by decide +kernel
theorem dX8_callPut_24 : decode cX8_callPut 24 = .ok (.iload_n 3, 1) := by decide +kernel
theorem dX8_callPut_25 : decode cX8_callPut 25 = .ok (.iload 4, 2) := by decide +kernel
theorem dX8_callPut_27 : decode cX8_callPut 27 = .ok (.ifCond .ne 7, 3) := by decide +kernel
theorem dX8_callPut_30 : decode cX8_callPut 30 = .ok (.iconst (-1), 1) := by decide +kernel
theorem dX8_callPut_31 : decode cX8_callPut 31 = .ok (.goto 10, 3) := by decide +kernel
theorem dX8_callPut_34 : decode cX8_callPut 34 = .ok (.aload_n 0, 1) := by decide +kernel
theorem dX8_callPut_35 : decode cX8_callPut 35 = .ok (.getfield 56, 3) := by decide +kernel
theorem dX8_callPut_38 : decode cX8_callPut 38 = .ok (.iload 4, 2) := by decide +kernel
theorem dX8_callPut_40 : decode cX8_callPut 40 = .ok (.iadd, 1) := by decide +kernel
theorem dX8_callPut_41 : decode cX8_callPut 41 = .ok (.invokevirtual 78, 3) := by decide +kernel
theorem dX8_callPut_44 : decode cX8_callPut 44 = .ok (.istore 5, 2) := by decide +kernel
theorem dX8_callPut_46 : decode cX8_callPut 46 = .ok (.aload_n 0, 1) := by decide +kernel
theorem dX8_callPut_47 : decode cX8_callPut 47 = .ok (.invokevirtual 82, 3) := by decide +kernel
theorem dX8_callPut_50 : decode cX8_callPut 50 = .ok (.iload 5, 2) := by decide +kernel
theorem dX8_callPut_52 : decode cX8_callPut 52 = .ok (.ireturn, 1) := by decide +kernel
theorem dX8_callGet_0 : decode cX8_callGet 0 = .ok (.aload_n 0, 1) := by decide +kernel
theorem dX8_callGet_1 : decode cX8_callGet 1 = .ok (.getfield 34, 3) := by decide +kernel
theorem dX8_callGet_4 : decode cX8_callGet 4 = .ok (.iload_n 1, 1) := by decide +kernel
theorem dX8_callGet_5 : decode cX8_callGet 5 = .ok (.invokevirtual 65, 3) := by decide +kernel
theorem dX8_callGet_8 : decode cX8_callGet 8 = .ok (.aload_n 0, 1) := by decide +kernel
theorem dX8_callGet_9 : decode cX8_callGet 9 = .ok (.getfield 12, 3) := by decide +kernel
theorem dX8_callGet_12 : decode cX8_callGet 12 = .ok (.getfield 69, 3) := by decide +kernel
theorem dX8_callGet_15 : decode cX8_callGet 15 = .ok (.invokevirtual 73, 3) := by decide +kernel
theorem dX8_callGet_18 : decode cX8_callGet 18 = .ok (.aload_n 0, 1) := by decide +kernel
theorem dX8_callGet_19 : decode cX8_callGet 19 = .ok (.getfield 12, 3) := by decide +kernel
theorem dX8_callGet_22 : decode cX8_callGet 22 = .ok (.iload_n 1, 1) := by decide +kernel
theorem dX8_callGet_23 : decode cX8_callGet 23 = .ok (.invokevirtual 85, 3) := by decide +kernel
theorem dX8_callGet_26 : decode cX8_callGet 26 = .ok (.istore_n 2, 1) := by decide +kernel
theorem dX8_callGet_27 : decode cX8_callGet 27 = .ok (.aload_n 0, 1) := by decide +kernel
theorem dX8_callGet_28 : decode cX8_callGet 28 = .ok (.invokevirtual 82, 3) := by decide +kernel
theorem dX8_callGet_31 : decode cX8_callGet 31 = .ok (.iload_n 2, 1) := by decide +kernel
theorem dX8_callGet_32 : decode cX8_callGet 32 = .ok (.ireturn, 1) := by decide +kernel
theorem dX8_callRemove_0 : decode cX8_callRemove 0 = .ok (.aload_n 0, 1) := by decide +kernel
theorem dX8_callRemove_1 : decode cX8_callRemove 1 = .ok (.getfield 12, 3) := by decide +kernel
theorem dX8_callRemove_4 : decode cX8_callRemove 4 = .ok (.getfield 69, 3) := by decide +kernel
theorem dX8_callRemove_7 : decode cX8_callRemove 7 = .ok (.invokevirtual 73, 3) := by decide +kernel
theorem dX8_callRemove_10 : decode cX8_callRemove 10 = .ok (.aload_n 0, 1) := by decide +kernel
theorem dX8_callRemove_11 : decode cX8_callRemove 11 = .ok (.getfield 12, 3) := by decide +kernel
theorem dX8_callRemove_14 : decode cX8_callRemove 14 = .ok (.iload_n 1, 1) := by decide +kernel
theorem dX8_callRemove_15 : decode cX8_callRemove 15 = .ok (.invokevirtual 89, 3) := by decide +kernel
theorem dX8_callRemove_18 : decode cX8_callRemove 18 = .ok (.istore_n 2, 1) := by decide +kernel
theorem dX8_callRemove_19 : decode cX8_callRemove 19 = .ok (.aload_n 0, 1) := by decide +kernel
theorem dX8_callRemove_20 : decode cX8_callRemove 20 = .ok (.invokevirtual 82, 3) := by decide +kernel
theorem dX8_callRemove_23 : decode cX8_callRemove 23 = .ok (.iload_n 2, 1) := by decide +kernel
theorem dX8_callRemove_24 : decode cX8_callRemove 24 = .ok (.ireturn, 1) := by decide +kernel
theorem dX8_callResize_0 : decode cX8_callResize 0 = .ok (.aload_n 0, 1) := by decide +kernel
theorem dX8_callResize_1 : decode cX8_callResize 1 = .ok (.getfield 12, 3) := by decide +kernel
theorem dX8_callResize_4 : decode cX8_callResize 4 = .ok (.getfield 69, 3) := by decide +kernel
theorem dX8_callResize_7 : decode cX8_callResize 7 = .ok (.invokevirtual 73, 3) := by decide +kernel
theorem dX8_callResize_10 : decode cX8_callResize 10 = .ok (.aload_n 0, 1) := by decide +kernel
theorem dX8_callResize_11 : decode cX8_callResize 11 = .ok (.getfield 12, 3) := by decide +kernel
theorem dX8_callResize_14 : decode cX8_callResize 14 = .ok (.iload_n 1, 1) := by decide +kernel
theorem dX8_callResize_15 : decode cX8_callResize 15 = .ok (.invokevirtual 92, 3) := by decide +kernel
theorem dX8_callResize_18 : decode cX8_callResize 18 = .ok (.istore_n 2, 1) := by decide +kernel
theorem dX8_callResize_19 : decode cX8_callResize 19 = .ok (.aload_n 0, 1) := by decide +kernel
theorem dX8_callResize_20 : decode cX8_callResize 20 = .ok (.invokevirtual 82, 3) := by decide +kernel
theorem dX8_callResize_23 : decode cX8_callResize 23 = .ok (.iload_n 2, 1) := by decide +kernel
theorem dX8_callResize_24 : decode cX8_callResize 24 = .ok (.ireturn, 1) := by decide +kernel
theorem dX8_callTick_0 : decode cX8_callTick 0 = .ok (.aload_n 0, 1) := by decide +kernel
theorem dX8_callTick_1 : decode cX8_callTick 1 = .ok (.getfield 12, 3) := by decide +kernel
theorem dX8_callTick_4 : decode cX8_callTick 4 = .ok (.getfield 69, 3) := by decide +kernel
theorem dX8_callTick_7 : decode cX8_callTick 7 = .ok (.invokevirtual 73, 3) := by decide +kernel
theorem dX8_callTick_10 : decode cX8_callTick 10 = .ok (.aload_n 0, 1) := by decide +kernel
theorem dX8_callTick_11 : decode cX8_callTick 11 = .ok (.getfield 12, 3) := by decide +kernel
theorem dX8_callTick_14 : decode cX8_callTick 14 = .ok (.getfield 95, 3) := by decide +kernel
theorem dX8_callTick_17 : decode cX8_callTick 17 = .ok (.iconst 3, 1) := by decide +kernel
theorem dX8_callTick_18 : decode cX8_callTick 18 = .ok (.iaload, 1) := by decide +kernel
theorem dX8_callTick_19 : decode cX8_callTick 19 = .ok (.istore_n 2, 1) := by decide +kernel
theorem dX8_callTick_20 : decode cX8_callTick 20 = .ok (.aload_n 0, 1) := by decide +kernel
theorem dX8_callTick_21 : decode cX8_callTick 21 = .ok (.dup, 1) := by decide +kernel
theorem dX8_callTick_22 : decode cX8_callTick 22 = .ok (.getfield 56, 3) := by decide +kernel
theorem dX8_callTick_25 : decode cX8_callTick 25 = .ok (.iload_n 1, 1) := by decide +kernel
theorem dX8_callTick_26 : decode cX8_callTick 26 = .ok (.iadd, 1) := by decide +kernel
theorem dX8_callTick_27 : decode cX8_callTick 27 = .ok (.putfield 56, 3) := by decide +kernel
theorem dX8_callTick_30 : decode cX8_callTick 30 = .ok (.iconst 0, 1) := by decide +kernel
theorem dX8_callTick_31 : decode cX8_callTick 31 = .ok (.istore_n 3, 1) := by decide +kernel
theorem dX8_callTick_32 : decode cX8_callTick 32 = .ok (.iload_n 3, 1) := by decide +kernel
theorem dX8_callTick_33 : decode cX8_callTick 33 = .ok (.bipush 60, 2) := by decide +kernel
theorem dX8_callTick_35 : decode cX8_callTick 35 = .ok (.if_icmp .ge 31, 3) := by decide +kernel
theorem dX8_callTick_38 : decode cX8_callTick 38 = .ok (.aload_n 0, 1) := by decide +kernel
theorem dX8_callTick_39 : decode cX8_callTick 39 = .ok (.getfield 12, 3) := by decide +kernel
theorem dX8_callTick_42 : decode cX8_callTick 42 = .ok (.iconst 3, 1) := by decide +kernel
theorem dX8_callTick_43 : decode cX8_callTick 43 = .ok (.aload_n 0, 1) := by decide +kernel
theorem dX8_callTick_44 : decode cX8_callTick 44 = .ok (.getfield 12, 3) := by decide +kernel
theorem dX8_callTick_47 : decode cX8_callTick 47 = .ok (.getfield 99, 3) := by decide +kernel
theorem dX8_callTick_50 : decode cX8_callTick 50 = .ok (.aload_n 0, 1) := by decide +kernel
theorem dX8_callTick_51 : decode cX8_callTick 51 = .ok (.getfield 56, 3) := by decide +kernel
theorem dX8_callTick_54 : decode cX8_callTick 54 = .ok (.invokevirtual 103, 3) := by decide +kernel
theorem dX8_callTick_57 : decode cX8_callTick 57 = .ok (.invokevirtual 108, 3) := by decide +kernel
theorem dX8_callTick_60 : decode cX8_callTick 60 = .ok (.iinc 3 1, 3) := by decide +kernel
theorem dX8_callTick_63 : decode cX8_callTick 63 = .ok (.goto (-31), 3) := by decide +kernel
theorem dX8_callTick_66 : decode cX8_callTick 66 = .ok (.aload_n 0, 1) := by decide +kernel
theorem dX8_callTick_67 : decode cX8_callTick 67 = .ok (.getfield 12, 3) := by decide +kernel
theorem dX8_callTick_70 : decode cX8_callTick 70 = .ok (.getfield 95, 3) := by decide +kernel
theorem dX8_callTick_73 : decode cX8_callTick 73 = .ok (.iconst 3, 1) := by decide +kernel
theorem dX8_callTick_74 : decode cX8_callTick 74 = .ok (.iaload, 1) := by decide +kernel
theorem dX8_callTick_75 : decode cX8_callTick 75 = .ok (.iload_n 2, 1) := by decide +kernel
theorem dX8_callTick_76 : decode cX8_callTick 76 = .ok (.isub, 1) := by decide +kernel
theorem dX8_callTick_77 : decode cX8_callTick 77 = .ok (.istore_n 3, 1) := by decide +kernel
theorem dX8_callTick_78 : decode cX8_callTick 78 = .ok (.aload_n 0, 1) := by decide +kernel
theorem dX8_callTick_79 : decode cX8_callTick 79 = .ok (.invokevirtual 82, 3) := by decide +kernel
theorem dX8_callTick_82 : decode cX8_callTick 82 = .ok (.iload_n 3, 1) := by decide +kernel
theorem dX8_callTick_83 : decode cX8_callTick 83 = .ok (.ireturn, 1) := by decide +kernel
theorem dX8_hear_0 : decode cX8_hear 0 = .ok (.aload_n 0, 1) := by decide +kernel
theorem dX8_hear_1 : decode cX8_hear 1 = .ok (.getfield 12, 3) := by decide +kernel
theorem dX8_hear_4 : decode cX8_hear 4 = .ok (.getfield 69, 3) := by decide +kernel
theorem dX8_hear_7 : decode cX8_hear 7 = .ok (.astore_n 1, 1) := by decide +kernel
theorem dX8_hear_8 : decode cX8_hear 8 = .ok (.iconst 0, 1) := by decide +kernel
theorem dX8_hear_9 : decode cX8_hear 9 = .ok (.istore_n 2, 1) := by decide +kernel
theorem dX8_hear_10 : decode cX8_hear 10 = .ok (.iload_n 2, 1) := by decide +kernel
theorem dX8_hear_11 : decode cX8_hear 11 = .ok (.aload_n 1, 1) := by decide +kernel
theorem dX8_hear_12 : decode cX8_hear 12 = .ok (.getfield 112, 3) := by decide +kernel
theorem dX8_hear_15 : decode cX8_hear 15 = .ok (.if_icmp .ge 184, 3) := by decide +kernel
theorem dX8_hear_18 : decode cX8_hear 18 = .ok (.iload_n 2, 1) := by decide +kernel
theorem dX8_hear_19 : decode cX8_hear 19 = .ok (.bipush 100, 2) := by decide +kernel
theorem dX8_hear_21 : decode cX8_hear 21 = .ok (.if_icmp .ge 178, 3) := by decide +kernel
theorem dX8_hear_24 : decode cX8_hear 24 = .ok (.aload_n 1, 1) := by decide +kernel
theorem dX8_hear_25 : decode cX8_hear 25 = .ok (.getfield 115, 3) := by decide +kernel
theorem dX8_hear_28 : decode cX8_hear 28 = .ok (.iload_n 2, 1) := by decide +kernel
theorem dX8_hear_29 : decode cX8_hear 29 = .ok (.iaload, 1) := by decide +kernel
theorem dX8_hear_30 : decode cX8_hear 30 = .ok (.istore_n 3, 1) := by decide +kernel
theorem dX8_hear_31 : decode cX8_hear 31 = .ok (.aload_n 1, 1) := by decide +kernel
theorem dX8_hear_32 : decode cX8_hear 32 = .ok (.getfield 118, 3) := by decide +kernel
theorem dX8_hear_35 : decode cX8_hear 35 = .ok (.iload_n 2, 1) := by decide +kernel
theorem dX8_hear_36 : decode cX8_hear 36 = .ok (.iaload, 1) := by decide +kernel
theorem dX8_hear_37 : decode cX8_hear 37 = .ok (.istore 4, 2) := by decide +kernel
theorem dX8_hear_39 : decode cX8_hear 39 = .ok (.aload_n 1, 1) := by decide +kernel
theorem dX8_hear_40 : decode cX8_hear 40 = .ok (.getfield 121, 3) := by decide +kernel
theorem dX8_hear_43 : decode cX8_hear 43 = .ok (.iload_n 2, 1) := by decide +kernel
theorem dX8_hear_44 : decode cX8_hear 44 = .ok (.iaload, 1) := by decide +kernel
theorem dX8_hear_45 : decode cX8_hear 45 = .ok (.istore 5, 2) := by decide +kernel
theorem dX8_hear_47 : decode cX8_hear 47 = .ok (.aload_n 1, 1) := by decide +kernel
theorem dX8_hear_48 : decode cX8_hear 48 = .ok (.iload 5, 2) := by decide +kernel
theorem dX8_hear_50 : decode cX8_hear 50 = .ok (.iconst 1, 1) := by decide +kernel
theorem dX8_hear_51 : decode cX8_hear 51 = .ok (.iadd, 1) := by decide +kernel
theorem dX8_hear_52 : decode cX8_hear 52 = .ok (.putfield 124, 3) := by decide +kernel
theorem dX8_hear_55 : decode cX8_hear 55 = .ok (.iconst 0, 1) := by decide +kernel
theorem dX8_hear_56 : decode cX8_hear 56 = .ok (.istore 6, 2) := by decide +kernel
theorem dX8_hear_58 : decode cX8_hear 58 = .ok (.iconst 0, 1) := by decide +kernel
theorem dX8_hear_59 : decode cX8_hear 59 = .ok (.istore 7, 2) := by decide +kernel
theorem dX8_hear_61 : decode cX8_hear 61 = .ok (.iload 7, 2) := by decide +kernel
theorem dX8_hear_63 : decode cX8_hear 63 = .ok (.aload_n 0, 1) := by decide +kernel
theorem dX8_hear_64 : decode cX8_hear 64 = .ok (.getfield 52, 3) := by decide +kernel
theorem dX8_hear_67 : decode cX8_hear 67 = .ok (.if_icmp .ge 93, 3) := by decide +kernel
theorem dX8_hear_70 : decode cX8_hear 70 = .ok (.iload 7, 2) := by decide +kernel
theorem dX8_hear_72 : decode cX8_hear 72 = .ok (.bipush 8, 2) := by decide +kernel
theorem dX8_hear_74 : decode cX8_hear 74 = .ok (.if_icmp .ge 86, 3) := by decide +kernel
theorem dX8_hear_77 : decode cX8_hear 77 = .ok (.aload_n 0, 1) := by decide +kernel
theorem dX8_hear_78 : decode cX8_hear 78 = .ok (.getfield 20, 3) := by decide +kernel
theorem dX8_hear_81 : decode cX8_hear 81 = .ok (.iload 7, 2) := by decide +kernel
theorem dX8_hear_83 : decode cX8_hear 83 = .ok (.aaload, 1) := by decide +kernel
theorem dX8_hear_84 : decode cX8_hear 84 = .ok (.astore 8, 2) := by decide +kernel
theorem dX8_hear_86 : decode cX8_hear 86 = .ok (.aload 8, 2) := by decide +kernel
theorem dX8_hear_88 : decode cX8_hear 88 = .ok (.getfield 127, 3) := by decide +kernel
theorem dX8_hear_91 : decode cX8_hear 91 = .ok (.ifCond .eq 63, 3) := by decide +kernel
theorem dX8_hear_94 : decode cX8_hear 94 = .ok (.aload 8, 2) := by decide +kernel
theorem dX8_hear_96 : decode cX8_hear 96 = .ok (.iload_n 3, 1) := by decide +kernel
theorem dX8_hear_97 : decode cX8_hear 97 = .ok (.invokevirtual 131, 3) := by decide +kernel
theorem dX8_hear_100 : decode cX8_hear 100 = .ok (.ifCond .eq 54, 3) := by decide +kernel
theorem dX8_hear_103 : decode cX8_hear 103 = .ok (.aload 8, 2) := by decide +kernel
theorem dX8_hear_105 : decode cX8_hear 105 = .ok (.iload 4, 2) := by decide +kernel
theorem dX8_hear_107 : decode cX8_hear 107 = .ok (.invokevirtual 135, 3) := by decide +kernel
theorem dX8_hear_110 : decode cX8_hear 110 = .ok (.ifCond .eq 44, 3) := by decide +kernel
theorem dX8_hear_113 : decode cX8_hear 113 = .ok (.iinc 6 1, 3) := by decide +kernel
theorem dX8_hear_116 : decode cX8_hear 116 = .ok (.aload 8, 2) := by decide +kernel
theorem dX8_hear_118 : decode cX8_hear 118 = .ok (.dup, 1) := by decide +kernel
theorem dX8_hear_119 : decode cX8_hear 119 = .ok (.getfield 138, 3) := by decide +kernel
theorem dX8_hear_122 : decode cX8_hear 122 = .ok (.iconst 1, 1) := by decide +kernel
theorem dX8_hear_123 : decode cX8_hear 123 = .ok (.iadd, 1) := by decide +kernel
theorem dX8_hear_124 : decode cX8_hear 124 = .ok (.putfield 138, 3) := by decide +kernel
theorem dX8_hear_127 : decode cX8_hear 127 = .ok (.aload 8, 2) := by decide +kernel
theorem dX8_hear_129 : decode cX8_hear 129 = .ok (.dup, 1) := by decide +kernel
theorem dX8_hear_130 : decode cX8_hear 130 = .ok (.getfield 141, 3) := by decide +kernel
theorem dX8_hear_133 : decode cX8_hear 133 = .ok (.aload_n 0, 1) := by decide +kernel
theorem dX8_hear_134 : decode cX8_hear 134 = .ok (.aload 8, 2) := by decide +kernel
theorem dX8_hear_136 : decode cX8_hear 136 = .ok (.iload 4, 2) := by decide +kernel
theorem dX8_hear_138 : decode cX8_hear 138 = .ok (.aload_n 1, 1) := by decide +kernel
theorem dX8_hear_139 : decode cX8_hear 139 = .ok (.getfield 144, 3) := by decide +kernel
theorem dX8_hear_142 : decode cX8_hear 142 = .ok (.iload_n 2, 1) := by decide +kernel
theorem dX8_hear_143 : decode cX8_hear 143 = .ok (.iaload, 1) := by decide +kernel
theorem dX8_hear_144 : decode cX8_hear 144 = .ok (.invokevirtual 147, 3) := by decide +kernel
theorem dX8_hear_147 : decode cX8_hear 147 = .ok (.invokestatic 151, 3) := by decide +kernel
theorem dX8_hear_150 : decode cX8_hear 150 = .ok (.iadd, 1) := by decide +kernel
theorem dX8_hear_151 : decode cX8_hear 151 = .ok (.putfield 141, 3) := by decide +kernel
theorem dX8_hear_154 : decode cX8_hear 154 = .ok (.iinc 7 1, 3) := by decide +kernel
theorem dX8_hear_157 : decode cX8_hear 157 = .ok (.goto (-96), 3) := by decide +kernel
theorem dX8_hear_160 : decode cX8_hear 160 = .ok (.aload_n 0, 1) := by decide +kernel
theorem dX8_hear_161 : decode cX8_hear 161 = .ok (.getfield 27, 3) := by decide +kernel
theorem dX8_hear_164 : decode cX8_hear 164 = .ok (.iload_n 3, 1) := by decide +kernel
theorem dX8_hear_165 : decode cX8_hear 165 = .ok (.iload 4, 2) := by decide +kernel
theorem dX8_hear_167 : decode cX8_hear 167 = .ok (.iload 5, 2) := by decide +kernel
theorem dX8_hear_169 : decode cX8_hear 169 = .ok (.aload_n 1, 1) := by decide +kernel
theorem dX8_hear_170 : decode cX8_hear 170 = .ok (.getfield 155, 3) := by decide +kernel
theorem dX8_hear_173 : decode cX8_hear 173 = .ok (.iload_n 2, 1) := by decide +kernel
theorem dX8_hear_174 : decode cX8_hear 174 = .ok (.iaload, 1) := by decide +kernel
theorem dX8_hear_175 : decode cX8_hear 175 = .ok (.iload 6, 2) := by decide +kernel
theorem dX8_hear_177 : decode cX8_hear 177 = .ok (.invokevirtual 158, 3) := by decide +kernel
theorem dX8_hear_180 : decode cX8_hear 180 = .ok (.aload_n 0, 1) := by decide +kernel
theorem dX8_hear_181 : decode cX8_hear 181 = .ok (.aload_n 0, 1) := by decide +kernel
theorem dX8_hear_182 : decode cX8_hear 182 = .ok (.getfield 62, 3) := by decide +kernel
theorem dX8_hear_185 : decode cX8_hear 185 = .ok (.iload 5, 2) := by decide +kernel
theorem dX8_hear_187 : decode cX8_hear 187 = .ok (.invokestatic 161, 3) := by decide +kernel
theorem dX8_hear_190 : decode cX8_hear 190 = .ok (.putfield 62, 3) := by decide +kernel
theorem dX8_hear_193 : decode cX8_hear 193 = .ok (.iinc 2 1, 3) := by decide +kernel
theorem dX8_hear_196 : decode cX8_hear 196 = .ok (.goto (-186), 3) := by decide +kernel
theorem dX8_hear_199 : decode cX8_hear 199 = .ok (.aload_n 0, 1) := by decide +kernel
theorem dX8_hear_200 : decode cX8_hear 200 = .ok (.dup, 1) := by decide +kernel
theorem dX8_hear_201 : decode cX8_hear 201 = .ok (.getfield 59, 3) := by decide +kernel
theorem dX8_hear_204 : decode cX8_hear 204 = .ok (.aload_n 1, 1) := by decide +kernel
theorem dX8_hear_205 : decode cX8_hear 205 = .ok (.getfield 167, 3) := by decide +kernel
theorem dX8_hear_208 : decode cX8_hear 208 = .ok (.iadd, 1) := by decide +kernel
theorem dX8_hear_209 : decode cX8_hear 209 = .ok (.putfield 59, 3) := by decide +kernel
theorem dX8_hear_212 : decode cX8_hear 212 = .ok (.return_, 1) := by decide +kernel
theorem dX8_act_0 : decode cX8_act 0 = .ok (.aload_n 1, 1) := by decide +kernel
theorem dX8_act_1 : decode cX8_act 1 = .ok (.iload_n 2, 1) := by decide +kernel
theorem dX8_act_2 : decode cX8_act 2 = .ok (.invokevirtual 168, 3) := by decide +kernel
theorem dX8_act_5 : decode cX8_act 5 = .ok (.istore 4, 2) := by decide +kernel
theorem dX8_act_7 : decode cX8_act 7 = .ok (.aload_n 1, 1) := by decide +kernel
theorem dX8_act_8 : decode cX8_act 8 = .ok (.getfield 171, 3) := by decide +kernel
theorem dX8_act_11 : decode cX8_act 11 = .ok (.tableswitch 176 1 6 #[37, 62, 81, 101, 121, 141], 37) := by decide +kernel
theorem dX8_act_48 : decode cX8_act 48 = .ok (.aload_n 0, 1) := by decide +kernel
theorem dX8_act_49 : decode cX8_act 49 = .ok (.getfield 12, 3) := by decide +kernel
theorem dX8_act_52 : decode cX8_act 52 = .ok (.iload 4, 2) := by decide +kernel
theorem dX8_act_54 : decode cX8_act 54 = .ok (.iload_n 3, 1) := by decide +kernel
theorem dX8_act_55 : decode cX8_act 55 = .ok (.aload_n 1, 1) := by decide +kernel
theorem dX8_act_56 : decode cX8_act 56 = .ok (.getfield 173, 3) := by decide +kernel
theorem dX8_act_59 : decode cX8_act 59 = .ok (.iconst (-1), 1) := by decide +kernel
theorem dX8_act_60 : decode cX8_act 60 = .ok (.invokevirtual 78, 3) := by decide +kernel
theorem dX8_act_63 : decode cX8_act 63 = .ok (.iconst (-1), 1) := by decide +kernel
theorem dX8_act_64 : decode cX8_act 64 = .ok (.if_icmp .eq 7, 3) := by decide +kernel
theorem dX8_act_67 : decode cX8_act 67 = .ok (.iconst 1, 1) := by decide +kernel
theorem dX8_act_68 : decode cX8_act 68 = .ok (.goto 4, 3) := by decide +kernel
theorem dX8_act_71 : decode cX8_act 71 = .ok (.iconst 0, 1) := by decide +kernel
theorem dX8_act_72 : decode cX8_act 72 = .ok (.ireturn, 1) := by decide +kernel
theorem dX8_act_73 : decode cX8_act 73 = .ok (.aload_n 0, 1) := by decide +kernel
theorem dX8_act_74 : decode cX8_act 74 = .ok (.getfield 12, 3) := by decide +kernel
theorem dX8_act_77 : decode cX8_act 77 = .ok (.iload 4, 2) := by decide +kernel
theorem dX8_act_79 : decode cX8_act 79 = .ok (.invokevirtual 85, 3) := by decide +kernel
theorem dX8_act_82 : decode cX8_act 82 = .ok (.iconst 1, 1) := by decide +kernel
theorem dX8_act_83 : decode cX8_act 83 = .ok (.if_icmp .ne 7, 3) := by decide +kernel
theorem dX8_act_86 : decode cX8_act 86 = .ok (.iconst 1, 1) := by decide +kernel
theorem dX8_act_87 : decode cX8_act 87 = .ok (.goto 4, 3) := by decide +kernel
theorem dX8_act_90 : decode cX8_act 90 = .ok (.iconst 0, 1) := by decide +kernel
theorem dX8_act_91 : decode cX8_act 91 = .ok (.ireturn, 1) := by decide +kernel
theorem dX8_act_92 : decode cX8_act 92 = .ok (.aload_n 0, 1) := by decide +kernel
theorem dX8_act_93 : decode cX8_act 93 = .ok (.getfield 12, 3) := by decide +kernel
theorem dX8_act_96 : decode cX8_act 96 = .ok (.iload 4, 2) := by decide +kernel
theorem dX8_act_98 : decode cX8_act 98 = .ok (.invokevirtual 89, 3) := by decide +kernel
theorem dX8_act_101 : decode cX8_act 101 = .ok (.bipush (-3), 2) := by decide +kernel
theorem dX8_act_103 : decode cX8_act 103 = .ok (.if_icmp .eq 7, 3) := by decide +kernel
theorem dX8_act_106 : decode cX8_act 106 = .ok (.iconst 1, 1) := by decide +kernel
theorem dX8_act_107 : decode cX8_act 107 = .ok (.goto 4, 3) := by decide +kernel
theorem dX8_act_110 : decode cX8_act 110 = .ok (.iconst 0, 1) := by decide +kernel
theorem dX8_act_111 : decode cX8_act 111 = .ok (.ireturn, 1) := by decide +kernel
theorem dX8_act_112 : decode cX8_act 112 = .ok (.aload_n 0, 1) := by decide +kernel
theorem dX8_act_113 : decode cX8_act 113 = .ok (.getfield 12, 3) := by decide +kernel
theorem dX8_act_116 : decode cX8_act 116 = .ok (.iload 4, 2) := by decide +kernel
theorem dX8_act_118 : decode cX8_act 118 = .ok (.iconst 1, 1) := by decide +kernel
theorem dX8_act_119 : decode cX8_act 119 = .ok (.invokevirtual 176, 3) := by decide +kernel
theorem dX8_act_122 : decode cX8_act 122 = .ok (.iconst 1, 1) := by decide +kernel
theorem dX8_act_123 : decode cX8_act 123 = .ok (.if_icmp .ne 7, 3) := by decide +kernel
theorem dX8_act_126 : decode cX8_act 126 = .ok (.iconst 1, 1) := by decide +kernel
theorem dX8_act_127 : decode cX8_act 127 = .ok (.goto 4, 3) := by decide +kernel
theorem dX8_act_130 : decode cX8_act 130 = .ok (.iconst 0, 1) := by decide +kernel
theorem dX8_act_131 : decode cX8_act 131 = .ok (.ireturn, 1) := by decide +kernel
theorem dX8_act_132 : decode cX8_act 132 = .ok (.aload_n 0, 1) := by decide +kernel
theorem dX8_act_133 : decode cX8_act 133 = .ok (.getfield 12, 3) := by decide +kernel
theorem dX8_act_136 : decode cX8_act 136 = .ok (.iload 4, 2) := by decide +kernel
theorem dX8_act_138 : decode cX8_act 138 = .ok (.iconst 0, 1) := by decide +kernel
theorem dX8_act_139 : decode cX8_act 139 = .ok (.invokevirtual 176, 3) := by decide +kernel
theorem dX8_act_142 : decode cX8_act 142 = .ok (.iconst 1, 1) := by decide +kernel
theorem dX8_act_143 : decode cX8_act 143 = .ok (.if_icmp .ne 7, 3) := by decide +kernel
theorem dX8_act_146 : decode cX8_act 146 = .ok (.iconst 1, 1) := by decide +kernel
theorem dX8_act_147 : decode cX8_act 147 = .ok (.goto 4, 3) := by decide +kernel
theorem dX8_act_150 : decode cX8_act 150 = .ok (.iconst 0, 1) := by decide +kernel
theorem dX8_act_151 : decode cX8_act 151 = .ok (.ireturn, 1) := by decide +kernel
theorem dX8_act_152 : decode cX8_act 152 = .ok (.aload_n 0, 1) := by decide +kernel
theorem dX8_act_153 : decode cX8_act 153 = .ok (.getfield 12, 3) := by decide +kernel
theorem dX8_act_156 : decode cX8_act 156 = .ok (.aload_n 0, 1) := by decide +kernel
theorem dX8_act_157 : decode cX8_act 157 = .ok (.getfield 12, 3) := by decide +kernel
theorem dX8_act_160 : decode cX8_act 160 = .ok (.getfield 180, 3) := by decide +kernel
theorem dX8_act_163 : decode cX8_act 163 = .ok (.aload_n 1, 1) := by decide +kernel
theorem dX8_act_164 : decode cX8_act 164 = .ok (.getfield 183, 3) := by decide +kernel
theorem dX8_act_167 : decode cX8_act 167 = .ok (.iadd, 1) := by decide +kernel
theorem dX8_act_168 : decode cX8_act 168 = .ok (.invokevirtual 92, 3) := by decide +kernel
theorem dX8_act_171 : decode cX8_act 171 = .ok (.ifCond .lt 14, 3) := by decide +kernel
theorem dX8_act_174 : decode cX8_act 174 = .ok (.aload_n 1, 1) := by decide +kernel
theorem dX8_act_175 : decode cX8_act 175 = .ok (.getfield 183, 3) := by decide +kernel
theorem dX8_act_178 : decode cX8_act 178 = .ok (.ifCond .eq 7, 3) := by decide +kernel
theorem dX8_act_181 : decode cX8_act 181 = .ok (.iconst 1, 1) := by decide +kernel
theorem dX8_act_182 : decode cX8_act 182 = .ok (.goto 4, 3) := by decide +kernel
theorem dX8_act_185 : decode cX8_act 185 = .ok (.iconst 0, 1) := by decide +kernel
theorem dX8_act_186 : decode cX8_act 186 = .ok (.ireturn, 1) := by decide +kernel
theorem dX8_act_187 : decode cX8_act 187 = .ok (.iconst 0, 1) := by decide +kernel
theorem dX8_act_188 : decode cX8_act 188 = .ok (.ireturn, 1) := by decide +kernel
theorem dX8_wokenBy_0 : decode cX8_wokenBy 0 = .ok (.iconst 0, 1) := by decide +kernel
theorem dX8_wokenBy_1 : decode cX8_wokenBy 1 = .ok (.istore_n 2, 1) := by decide +kernel
theorem dX8_wokenBy_2 : decode cX8_wokenBy 2 = .ok (.iconst 0, 1) := by decide +kernel
theorem dX8_wokenBy_3 : decode cX8_wokenBy 3 = .ok (.istore_n 3, 1) := by decide +kernel
theorem dX8_wokenBy_4 : decode cX8_wokenBy 4 = .ok (.iload_n 3, 1) := by decide +kernel
theorem dX8_wokenBy_5 : decode cX8_wokenBy 5 = .ok (.aload_n 0, 1) := by decide +kernel
theorem dX8_wokenBy_6 : decode cX8_wokenBy 6 = .ok (.getfield 52, 3) := by decide +kernel
theorem dX8_wokenBy_9 : decode cX8_wokenBy 9 = .ok (.if_icmp .ge 39, 3) := by decide +kernel
theorem dX8_wokenBy_12 : decode cX8_wokenBy 12 = .ok (.iload_n 3, 1) := by decide +kernel
theorem dX8_wokenBy_13 : decode cX8_wokenBy 13 = .ok (.bipush 8, 2) := by decide +kernel
theorem dX8_wokenBy_15 : decode cX8_wokenBy 15 = .ok (.if_icmp .ge 33, 3) := by decide +kernel
theorem dX8_wokenBy_18 : decode cX8_wokenBy 18 = .ok (.aload_n 0, 1) := by decide +kernel
theorem dX8_wokenBy_19 : decode cX8_wokenBy 19 = .ok (.getfield 20, 3) := by decide +kernel
theorem dX8_wokenBy_22 : decode cX8_wokenBy 22 = .ok (.iload_n 1, 1) := by decide +kernel
theorem dX8_wokenBy_23 : decode cX8_wokenBy 23 = .ok (.aaload, 1) := by decide +kernel
theorem dX8_wokenBy_24 : decode cX8_wokenBy 24 = .ok (.aload_n 0, 1) := by decide +kernel
theorem dX8_wokenBy_25 : decode cX8_wokenBy 25 = .ok (.getfield 20, 3) := by decide +kernel
theorem dX8_wokenBy_28 : decode cX8_wokenBy 28 = .ok (.iload_n 3, 1) := by decide +kernel
theorem dX8_wokenBy_29 : decode cX8_wokenBy 29 = .ok (.aaload, 1) := by decide +kernel
theorem dX8_wokenBy_30 : decode cX8_wokenBy 30 = .ok (.invokevirtual 186, 3) := by decide +kernel
theorem dX8_wokenBy_33 : decode cX8_wokenBy 33 = .ok (.ifCond .eq 9, 3) := by decide +kernel
theorem dX8_wokenBy_36 : decode cX8_wokenBy 36 = .ok (.iload_n 2, 1) := by decide +kernel
theorem dX8_wokenBy_37 : decode cX8_wokenBy 37 = .ok (.iconst 1, 1) := by decide +kernel
theorem dX8_wokenBy_38 : decode cX8_wokenBy 38 = .ok (.iload_n 3, 1) := by decide +kernel
theorem dX8_wokenBy_39 : decode cX8_wokenBy 39 = .ok (.ishl, 1) := by decide +kernel
theorem dX8_wokenBy_40 : decode cX8_wokenBy 40 = .ok (.ior, 1) := by decide +kernel
theorem dX8_wokenBy_41 : decode cX8_wokenBy 41 = .ok (.istore_n 2, 1) := by decide +kernel
theorem dX8_wokenBy_42 : decode cX8_wokenBy 42 = .ok (.iinc 3 1, 3) := by decide +kernel
theorem dX8_wokenBy_45 : decode cX8_wokenBy 45 = .ok (.goto (-41), 3) := by decide +kernel
theorem dX8_wokenBy_48 : decode cX8_wokenBy 48 = .ok (.iload_n 2, 1) := by decide +kernel
theorem dX8_wokenBy_49 : decode cX8_wokenBy 49 = .ok (.ireturn, 1) := by decide +kernel
theorem dX8_stepsAround_0 : decode cX8_stepsAround 0 = .ok (.iconst 1, 1) := by decide +kernel
theorem dX8_stepsAround_1 : decode cX8_stepsAround 1 = .ok (.iload_n 1, 1) := by decide +kernel
theorem dX8_stepsAround_2 : decode cX8_stepsAround 2 = .ok (.ishl, 1) := by decide +kernel
theorem dX8_stepsAround_3 : decode cX8_stepsAround 3 = .ok (.istore_n 2, 1) := by decide +kernel
theorem dX8_stepsAround_4 : decode cX8_stepsAround 4 = .ok (.iconst 0, 1) := by decide +kernel
theorem dX8_stepsAround_5 : decode cX8_stepsAround 5 = .ok (.istore_n 3, 1) := by decide +kernel
theorem dX8_stepsAround_6 : decode cX8_stepsAround 6 = .ok (.iconst 1, 1) := by decide +kernel
theorem dX8_stepsAround_7 : decode cX8_stepsAround 7 = .ok (.istore 4, 2) := by decide +kernel
theorem dX8_stepsAround_9 : decode cX8_stepsAround 9 = .ok (.iload 4, 2) := by decide +kernel
theorem dX8_stepsAround_11 : decode cX8_stepsAround 11 = .ok (.bipush 8, 2) := by decide +kernel
theorem dX8_stepsAround_13 : decode cX8_stepsAround 13 = .ok (.if_icmp .gt 74, 3) := by decide +kernel
theorem dX8_stepsAround_16 : decode cX8_stepsAround 16 = .ok (.iconst 0, 1) := by decide +kernel
theorem dX8_stepsAround_17 : decode cX8_stepsAround 17 = .ok (.istore 5, 2) := by decide +kernel
theorem dX8_stepsAround_19 : decode cX8_stepsAround 19 = .ok (.iconst 0, 1) := by decide +kernel
theorem dX8_stepsAround_20 : decode cX8_stepsAround 20 = .ok (.istore 6, 2) := by decide +kernel
theorem dX8_stepsAround_22 : decode cX8_stepsAround 22 = .ok (.iload 6, 2) := by decide +kernel
theorem dX8_stepsAround_24 : decode cX8_stepsAround 24 = .ok (.bipush 8, 2) := by decide +kernel
theorem dX8_stepsAround_26 : decode cX8_stepsAround 26 = .ok (.if_icmp .ge 30, 3) := by decide +kernel
theorem dX8_stepsAround_29 : decode cX8_stepsAround 29 = .ok (.iload_n 2, 1) := by decide +kernel
theorem dX8_stepsAround_30 : decode cX8_stepsAround 30 = .ok (.iload 6, 2) := by decide +kernel
theorem dX8_stepsAround_32 : decode cX8_stepsAround 32 = .ok (.ishr, 1) := by decide +kernel
theorem dX8_stepsAround_33 : decode cX8_stepsAround 33 = .ok (.iconst 1, 1) := by decide +kernel
theorem dX8_stepsAround_34 : decode cX8_stepsAround 34 = .ok (.iand, 1) := by decide +kernel
theorem dX8_stepsAround_35 : decode cX8_stepsAround 35 = .ok (.iconst 1, 1) := by decide +kernel
theorem dX8_stepsAround_36 : decode cX8_stepsAround 36 = .ok (.if_icmp .ne 14, 3) := by decide +kernel
theorem dX8_stepsAround_39 : decode cX8_stepsAround 39 = .ok (.iload 5, 2) := by decide +kernel
theorem dX8_stepsAround_41 : decode cX8_stepsAround 41 = .ok (.aload_n 0, 1) := by decide +kernel
theorem dX8_stepsAround_42 : decode cX8_stepsAround 42 = .ok (.iload 6, 2) := by decide +kernel
theorem dX8_stepsAround_44 : decode cX8_stepsAround 44 = .ok (.invokevirtual 190, 3) := by decide +kernel
theorem dX8_stepsAround_47 : decode cX8_stepsAround 47 = .ok (.ior, 1) := by decide +kernel
theorem dX8_stepsAround_48 : decode cX8_stepsAround 48 = .ok (.istore 5, 2) := by decide +kernel
theorem dX8_stepsAround_50 : decode cX8_stepsAround 50 = .ok (.iinc 6 1, 3) := by decide +kernel
theorem dX8_stepsAround_53 : decode cX8_stepsAround 53 = .ok (.goto (-31), 3) := by decide +kernel
theorem dX8_stepsAround_56 : decode cX8_stepsAround 56 = .ok (.iload 5, 2) := by decide +kernel
theorem dX8_stepsAround_58 : decode cX8_stepsAround 58 = .ok (.iload_n 1, 1) := by decide +kernel
theorem dX8_stepsAround_59 : decode cX8_stepsAround 59 = .ok (.ishr, 1) := by decide +kernel
theorem dX8_stepsAround_60 : decode cX8_stepsAround 60 = .ok (.iconst 1, 1) := by decide +kernel
theorem dX8_stepsAround_61 : decode cX8_stepsAround 61 = .ok (.iand, 1) := by decide +kernel
theorem dX8_stepsAround_62 : decode cX8_stepsAround 62 = .ok (.iconst 1, 1) := by decide +kernel
theorem dX8_stepsAround_63 : decode cX8_stepsAround 63 = .ok (.if_icmp .ne 6, 3) := by decide +kernel
theorem dX8_stepsAround_66 : decode cX8_stepsAround 66 = .ok (.iload 4, 2) := by decide +kernel
theorem dX8_stepsAround_68 : decode cX8_stepsAround 68 = .ok (.ireturn, 1) := by decide +kernel
theorem dX8_stepsAround_69 : decode cX8_stepsAround 69 = .ok (.iload 5, 2) := by decide +kernel
theorem dX8_stepsAround_71 : decode cX8_stepsAround 71 = .ok (.iload_n 3, 1) := by decide +kernel
theorem dX8_stepsAround_72 : decode cX8_stepsAround 72 = .ok (.iconst (-1), 1) := by decide +kernel
theorem dX8_stepsAround_73 : decode cX8_stepsAround 73 = .ok (.ixor, 1) := by decide +kernel
theorem dX8_stepsAround_74 : decode cX8_stepsAround 74 = .ok (.iand, 1) := by decide +kernel
theorem dX8_stepsAround_75 : decode cX8_stepsAround 75 = .ok (.istore_n 2, 1) := by decide +kernel
theorem dX8_stepsAround_76 : decode cX8_stepsAround 76 = .ok (.iload_n 3, 1) := by decide +kernel
theorem dX8_stepsAround_77 : decode cX8_stepsAround 77 = .ok (.iload 5, 2) := by decide +kernel
theorem dX8_stepsAround_79 : decode cX8_stepsAround 79 = .ok (.ior, 1) := by decide +kernel
theorem dX8_stepsAround_80 : decode cX8_stepsAround 80 = .ok (.istore_n 3, 1) := by decide +kernel
theorem dX8_stepsAround_81 : decode cX8_stepsAround 81 = .ok (.iinc 4 1, 3) := by decide +kernel
theorem dX8_stepsAround_84 : decode cX8_stepsAround 84 = .ok (.goto (-75), 3) := by decide +kernel
theorem dX8_stepsAround_87 : decode cX8_stepsAround 87 = .ok (.iconst 0, 1) := by decide +kernel
theorem dX8_stepsAround_88 : decode cX8_stepsAround 88 = .ok (.ireturn, 1) := by decide +kernel
theorem dX9_init_0 : decode cX9_init 0 = .ok (.aload_n 0, 1) := by decide +kernel
theorem dX9_init_1 : decode cX9_init 1 = .ok (.invokespecial 1, 3) := by decide +kernel
theorem dX9_init_4 : decode cX9_init 4 = .ok (.aload_n 0, 1) := by decide +kernel
theorem dX9_init_5 : decode cX9_init 5 = .ok (.new 7, 3) := by decide +kernel
theorem dX9_init_8 : decode cX9_init 8 = .ok (.dup, 1) := by decide +kernel
theorem dX9_init_9 : decode cX9_init 9 = .ok (.invokespecial 9, 3) := by decide +kernel
theorem dX9_init_12 : decode cX9_init 12 = .ok (.putfield 10, 3) := by decide +kernel
theorem dX9_init_15 : decode cX9_init 15 = .ok (.aload_n 0, 1) := by decide +kernel
theorem dX9_init_16 : decode cX9_init 16 = .ok (.new 7, 3) := by decide +kernel
theorem dX9_init_19 : decode cX9_init 19 = .ok (.dup, 1) := by decide +kernel
theorem dX9_init_20 : decode cX9_init 20 = .ok (.invokespecial 9, 3) := by decide +kernel
theorem dX9_init_23 : decode cX9_init 23 = .ok (.putfield 16, 3) := by decide +kernel
theorem dX9_init_26 : decode cX9_init 26 = .ok (.aload_n 0, 1) := by decide +kernel
theorem dX9_init_27 : decode cX9_init 27 = .ok (.iconst 2, 1) := by decide +kernel
theorem dX9_init_28 : decode cX9_init 28 = .ok (.anewarray 7, 3) := by decide +kernel
theorem dX9_init_31 : decode cX9_init 31 = .ok (.putfield 19, 3) := by decide +kernel
theorem dX9_init_34 : decode cX9_init 34 = .ok (.aload_n 0, 1) := by decide +kernel
theorem dX9_init_35 : decode cX9_init 35 = .ok (.new 23, 3) := by decide +kernel
theorem dX9_init_38 : decode cX9_init 38 = .ok (.dup, 1) := by decide +kernel
theorem dX9_init_39 : decode cX9_init 39 = .ok (.invokespecial 25, 3) := by decide +kernel
theorem dX9_init_42 : decode cX9_init 42 = .ok (.putfield 26, 3) := by decide +kernel
theorem dX9_init_45 : decode cX9_init 45 = .ok (.aload_n 0, 1) := by decide +kernel
theorem dX9_init_46 : decode cX9_init 46 = .ok (.sipush 5001, 3) := by decide +kernel
theorem dX9_init_49 : decode cX9_init 49 = .ok (.newarray .int, 2) := by decide +kernel
theorem dX9_init_51 : decode cX9_init 51 = .ok (.putfield 30, 3) := by decide +kernel
theorem dX9_init_54 : decode cX9_init 54 = .ok (.return_, 1) := by decide +kernel
theorem dX9_put_0 : decode cX9_put 0 = .ok (.iload_n 1, 1) := by decide +kernel
theorem dX9_put_1 : decode cX9_put 1 = .ok (.invokestatic 34, 3) := by decide +kernel
theorem dX9_put_4 : decode cX9_put 4 = .ok (.ifCond .eq 35, 3) := by decide +kernel
theorem dX9_put_7 : decode cX9_put 7 = .ok (.iload_n 3, 1) := by decide +kernel
theorem dX9_put_8 : decode cX9_put 8 = .ok (.invokestatic 38, 3) := by decide +kernel
theorem dX9_put_11 : decode cX9_put 11 = .ok (.ifCond .eq 28, 3) := by decide +kernel
theorem dX9_put_14 : decode cX9_put 14 = .ok (.iload_n 2, 1) := by decide +kernel
theorem dX9_put_15 : decode cX9_put 15 = .ok (.sipush (-9999), 3) := by decide +kernel
theorem dX9_put_18 : decode cX9_put 18 = .ok (.sipush 9999, 3) := by decide +kernel
theorem dX9_put_21 : decode cX9_put 21 = .ok (.invokestatic 41, 3) := by decide +kernel
theorem dX9_put_24 : decode cX9_put 24 = .ok (.ifCond .eq 15, 3) := by decide +kernel
theorem dX9_put_27 : decode cX9_put 27 = .ok (.iload 4, 2) := by decide +kernel
theorem dX9_put_29 : decode cX9_put 29 = .ok (.iconst 0, 1) := by decide +kernel
theorem dX9_put_30 : decode cX9_put 30 = .ok (.sipush 999, 3) := by decide +kernel
theorem dX9_put_33 : decode cX9_put 33 = .ok (.invokestatic 41, 3) := by decide +kernel
theorem dX9_put_36 : decode cX9_put 36 = .ok (.ifCond .ne 6, 3) := by decide +kernel
theorem dX9_put_39 : decode cX9_put 39 = .ok (.bipush (-2), 2) := by decide +kernel
theorem dX9_put_41 : decode cX9_put 41 = .ok (.ireturn, 1) := by decide +kernel
theorem dX9_put_42 : decode cX9_put 42 = .ok (.aload_n 0, 1) := by decide +kernel
theorem dX9_put_43 : decode cX9_put 43 = .ok (.getfield 10, 3) := by decide +kernel
theorem dX9_put_46 : decode cX9_put 46 = .ok (.iload_n 1, 1) := by decide +kernel
theorem dX9_put_47 : decode cX9_put 47 = .ok (.iload_n 2, 1) := by decide +kernel
theorem dX9_put_48 : decode cX9_put 48 = .ok (.iload_n 3, 1) := by decide +kernel
theorem dX9_put_49 : decode cX9_put 49 = .ok (.iload 4, 2) := by decide +kernel
theorem dX9_put_51 : decode cX9_put 51 = .ok (.invokevirtual 45, 3) := by decide +kernel
theorem dX9_put_54 : decode cX9_put 54 = .ok (.ireturn, 1) := by decide +kernel
theorem dX9_get_0 : decode cX9_get 0 = .ok (.iload_n 1, 1) := by decide +kernel
theorem dX9_get_1 : decode cX9_get 1 = .ok (.invokestatic 34, 3) := by decide +kernel
theorem dX9_get_4 : decode cX9_get 4 = .ok (.ifCond .eq 14, 3) := by decide +kernel
theorem dX9_get_7 : decode cX9_get 7 = .ok (.aload_n 0, 1) := by decide +kernel
theorem dX9_get_8 : decode cX9_get 8 = .ok (.getfield 10, 3) := by decide +kernel
theorem dX9_get_11 : decode cX9_get 11 = .ok (.iload_n 1, 1) := by decide +kernel
theorem dX9_get_12 : decode cX9_get 12 = .ok (.invokevirtual 49, 3) := by decide +kernel
theorem dX9_get_15 : decode cX9_get 15 = .ok (.goto 5, 3) := by decide +kernel
theorem dX9_get_18 : decode cX9_get 18 = .ok (.bipush (-2), 2) := by decide +kernel
theorem dX9_get_20 : decode cX9_get 20 = .ok (.ireturn, 1) := by decide +kernel
theorem dX9_remove_0 : decode cX9_remove 0 = .ok (.iload_n 1, 1) := by decide +kernel
theorem dX9_remove_1 : decode cX9_remove 1 = .ok (.invokestatic 34, 3) := by decide +kernel
theorem dX9_remove_4 : decode cX9_remove 4 = .ok (.ifCond .eq 14, 3) := by decide +kernel
theorem dX9_remove_7 : decode cX9_remove 7 = .ok (.aload_n 0, 1) := by decide +kernel
theorem dX9_remove_8 : decode cX9_remove 8 = .ok (.getfield 10, 3) := by decide +kernel
theorem dX9_remove_11 : decode cX9_remove 11 = .ok (.iload_n 1, 1) := by decide +kernel
theorem dX9_remove_12 : decode cX9_remove 12 = .ok (.invokevirtual 53, 3) := by decide +kernel
theorem dX9_remove_15 : decode cX9_remove 15 = .ok (.goto 5, 3) := by decide +kernel
theorem dX9_remove_18 : decode cX9_remove 18 = .ok (.bipush (-2), 2) := by decide +kernel
theorem dX9_remove_20 : decode cX9_remove 20 = .ok (.ireturn, 1) := by decide +kernel
theorem dX9_pin_0 : decode cX9_pin 0 = .ok (.iload_n 1, 1) := by decide +kernel
theorem dX9_pin_1 : decode cX9_pin 1 = .ok (.invokestatic 34, 3) := by decide +kernel
theorem dX9_pin_4 : decode cX9_pin 4 = .ok (.ifCond .eq 18, 3) := by decide +kernel
theorem dX9_pin_7 : decode cX9_pin 7 = .ok (.aload_n 0, 1) := by decide +kernel
theorem dX9_pin_8 : decode cX9_pin 8 = .ok (.getfield 10, 3) := by decide +kernel
theorem dX9_pin_11 : decode cX9_pin 11 = .ok (.getfield 56, 3) := by decide +kernel
theorem dX9_pin_14 : decode cX9_pin 14 = .ok (.iload_n 1, 1) := by decide +kernel
theorem dX9_pin_15 : decode cX9_pin 15 = .ok (.iload_n 2, 1) := by decide +kernel
theorem dX9_pin_16 : decode cX9_pin 16 = .ok (.invokevirtual 60, 3) := by decide +kernel
theorem dX9_pin_19 : decode cX9_pin 19 = .ok (.goto 5, 3) := by decide +kernel
theorem dX9_pin_22 : decode cX9_pin 22 = .ok (.bipush (-2), 2) := by decide +kernel
theorem dX9_pin_24 : decode cX9_pin 24 = .ok (.ireturn, 1) := by decide +kernel
theorem dX9_resize_0 : decode cX9_resize 0 = .ok (.aload_n 0, 1) := by decide +kernel
theorem dX9_resize_1 : decode cX9_resize 1 = .ok (.getfield 10, 3) := by decide +kernel
theorem dX9_resize_4 : decode cX9_resize 4 = .ok (.iload_n 1, 1) := by decide +kernel
theorem dX9_resize_5 : decode cX9_resize 5 = .ok (.invokevirtual 66, 3) := by decide +kernel
theorem dX9_resize_8 : decode cX9_resize 8 = .ok (.ireturn, 1) := by decide +kernel
theorem dX9_way_0 : decode cX9_way 0 = .ok (.iload_n 1, 1) := by decide +kernel
theorem dX9_way_1 : decode cX9_way 1 = .ok (.iconst 0, 1) := by decide +kernel
theorem dX9_way_2 : decode cX9_way 2 = .ok (.iconst 4, 1) := by decide +kernel
theorem dX9_way_3 : decode cX9_way 3 = .ok (.invokestatic 41, 3) := by decide +kernel
theorem dX9_way_6 : decode cX9_way 6 = .ok (.ifCond .ne 6, 3) := by decide +kernel
theorem dX9_way_9 : decode cX9_way 9 = .ok (.bipush (-2), 2) := by decide +kernel
theorem dX9_way_11 : decode cX9_way 11 = .ok (.ireturn, 1) := by decide +kernel
theorem dX9_way_12 : decode cX9_way 12 = .ok (.aload_n 0, 1) := by decide +kernel
theorem dX9_way_13 : decode cX9_way 13 = .ok (.getfield 10, 3) := by decide +kernel
theorem dX9_way_16 : decode cX9_way 16 = .ok (.getfield 56, 3) := by decide +kernel
theorem dX9_way_19 : decode cX9_way 19 = .ok (.getfield 69, 3) := by decide +kernel
theorem dX9_way_22 : decode cX9_way 22 = .ok (.istore_n 2, 1) := by decide +kernel
theorem dX9_way_23 : decode cX9_way 23 = .ok (.aload_n 0, 1) := by decide +kernel
theorem dX9_way_24 : decode cX9_way 24 = .ok (.getfield 10, 3) := by decide +kernel
theorem dX9_way_27 : decode cX9_way 27 = .ok (.getfield 56, 3) := by decide +kernel
theorem dX9_way_30 : decode cX9_way 30 = .ok (.iload_n 1, 1) := by decide +kernel
theorem dX9_way_31 : decode cX9_way 31 = .ok (.putfield 69, 3) := by decide +kernel
theorem dX9_way_34 : decode cX9_way 34 = .ok (.iload_n 2, 1) := by decide +kernel
theorem dX9_way_35 : decode cX9_way 35 = .ok (.ireturn, 1) := by decide +kernel
theorem dX9_aging_0 : decode cX9_aging 0 = .ok (.iload_n 1, 1) := by decide +kernel
theorem dX9_aging_1 : decode cX9_aging 1 = .ok (.iconst 1, 1) := by decide +kernel
theorem dX9_aging_2 : decode cX9_aging 2 = .ok (.sipush 999, 3) := by decide +kernel
theorem dX9_aging_5 : decode cX9_aging 5 = .ok (.invokestatic 41, 3) := by decide +kernel
theorem dX9_aging_8 : decode cX9_aging 8 = .ok (.ifCond .ne 6, 3) := by decide +kernel
theorem dX9_aging_11 : decode cX9_aging 11 = .ok (.bipush (-2), 2) := by decide +kernel
theorem dX9_aging_13 : decode cX9_aging 13 = .ok (.ireturn, 1) := by decide +kernel
theorem dX9_aging_14 : decode cX9_aging 14 = .ok (.aload_n 0, 1) := by decide +kernel
theorem dX9_aging_15 : decode cX9_aging 15 = .ok (.getfield 10, 3) := by decide +kernel
theorem dX9_aging_18 : decode cX9_aging 18 = .ok (.getfield 56, 3) := by decide +kernel
theorem dX9_aging_21 : decode cX9_aging 21 = .ok (.getfield 73, 3) := by decide +kernel
theorem dX9_aging_24 : decode cX9_aging 24 = .ok (.getfield 77, 3) := by decide +kernel
theorem dX9_aging_27 : decode cX9_aging 27 = .ok (.istore_n 2, 1) := by decide +kernel
theorem dX9_aging_28 : decode cX9_aging 28 = .ok (.aload_n 0, 1) := by decide +kernel
theorem dX9_aging_29 : decode cX9_aging 29 = .ok (.getfield 10, 3) := by decide +kernel
theorem dX9_aging_32 : decode cX9_aging 32 = .ok (.getfield 56, 3) := by decide +kernel
theorem dX9_aging_35 : decode cX9_aging 35 = .ok (.getfield 73, 3) := by decide +kernel
theorem dX9_aging_38 : decode cX9_aging 38 = .ok (.iload_n 1, 1) := by decide +kernel
theorem dX9_aging_39 : decode cX9_aging 39 = .ok (.putfield 77, 3) := by decide +kernel
theorem dX9_aging_42 : decode cX9_aging 42 = .ok (.iload_n 2, 1) := by decide +kernel
theorem dX9_aging_43 : decode cX9_aging 43 = .ok (.ireturn, 1) := by decide +kernel
theorem dX9_tick_0 : decode cX9_tick 0 = .ok (.iload_n 1, 1) := by decide +kernel
theorem dX9_tick_1 : decode cX9_tick 1 = .ok (.iconst 1, 1) := by decide +kernel
theorem dX9_tick_2 : decode cX9_tick 2 = .ok (.sipush 999, 3) := by decide +kernel
theorem dX9_tick_5 : decode cX9_tick 5 = .ok (.invokestatic 41, 3) := by decide +kernel
theorem dX9_tick_8 : decode cX9_tick 8 = .ok (.ifCond .eq 14, 3) := by decide +kernel
theorem dX9_tick_11 : decode cX9_tick 11 = .ok (.aload_n 0, 1) := by decide +kernel
theorem dX9_tick_12 : decode cX9_tick 12 = .ok (.getfield 10, 3) := by decide +kernel
theorem dX9_tick_15 : decode cX9_tick 15 = .ok (.iload_n 1, 1) := by decide +kernel
theorem dX9_tick_16 : decode cX9_tick 16 = .ok (.invokevirtual 82, 3) := by decide +kernel
theorem dX9_tick_19 : decode cX9_tick 19 = .ok (.goto 5, 3) := by decide +kernel
theorem dX9_tick_22 : decode cX9_tick 22 = .ok (.bipush (-2), 2) := by decide +kernel
theorem dX9_tick_24 : decode cX9_tick 24 = .ok (.ireturn, 1) := by decide +kernel
theorem dX9_listen_0 : decode cX9_listen 0 = .ok (.iload_n 1, 1) := by decide +kernel
theorem dX9_listen_1 : decode cX9_listen 1 = .ok (.iconst (-1), 1) := by decide +kernel
theorem dX9_listen_2 : decode cX9_listen 2 = .ok (.bipush 6, 2) := by decide +kernel
theorem dX9_listen_4 : decode cX9_listen 4 = .ok (.invokestatic 41, 3) := by decide +kernel
theorem dX9_listen_7 : decode cX9_listen 7 = .ok (.ifCond .eq 63, 3) := by decide +kernel
theorem dX9_listen_10 : decode cX9_listen 10 = .ok (.iload_n 2, 1) := by decide +kernel
theorem dX9_listen_11 : decode cX9_listen 11 = .ok (.iconst 1, 1) := by decide +kernel
theorem dX9_listen_12 : decode cX9_listen 12 = .ok (.bipush 9, 2) := by decide +kernel
theorem dX9_listen_14 : decode cX9_listen 14 = .ok (.invokestatic 41, 3) := by decide +kernel
theorem dX9_listen_17 : decode cX9_listen 17 = .ok (.ifCond .eq 53, 3) := by decide +kernel
theorem dX9_listen_20 : decode cX9_listen 20 = .ok (.iload_n 3, 1) := by decide +kernel
theorem dX9_listen_21 : decode cX9_listen 21 = .ok (.iconst 0, 1) := by decide +kernel
theorem dX9_listen_22 : decode cX9_listen 22 = .ok (.iload_n 2, 1) := by decide +kernel
theorem dX9_listen_23 : decode cX9_listen 23 = .ok (.iconst 1, 1) := by decide +kernel
theorem dX9_listen_24 : decode cX9_listen 24 = .ok (.isub, 1) := by decide +kernel
theorem dX9_listen_25 : decode cX9_listen 25 = .ok (.invokestatic 41, 3) := by decide +kernel
theorem dX9_listen_28 : decode cX9_listen 28 = .ok (.ifCond .eq 42, 3) := by decide +kernel
theorem dX9_listen_31 : decode cX9_listen 31 = .ok (.iload 4, 2) := by decide +kernel
theorem dX9_listen_33 : decode cX9_listen 33 = .ok (.iconst 0, 1) := by decide +kernel
theorem dX9_listen_34 : decode cX9_listen 34 = .ok (.bipush 6, 2) := by decide +kernel
theorem dX9_listen_36 : decode cX9_listen 36 = .ok (.invokestatic 41, 3) := by decide +kernel
theorem dX9_listen_39 : decode cX9_listen 39 = .ok (.ifCond .eq 31, 3) := by decide +kernel
theorem dX9_listen_42 : decode cX9_listen 42 = .ok (.iload 5, 2) := by decide +kernel
theorem dX9_listen_44 : decode cX9_listen 44 = .ok (.sipush (-999), 3) := by decide +kernel
theorem dX9_listen_47 : decode cX9_listen 47 = .ok (.sipush 999, 3) := by decide +kernel
theorem dX9_listen_50 : decode cX9_listen 50 = .ok (.invokestatic 41, 3) := by decide +kernel
theorem dX9_listen_53 : decode cX9_listen 53 = .ok (.ifCond .eq 17, 3) := by decide +kernel
theorem dX9_listen_56 : decode cX9_listen 56 = .ok (.iload 4, 2) := by decide +kernel
theorem dX9_listen_58 : decode cX9_listen 58 = .ok (.iconst 1, 1) := by decide +kernel
theorem dX9_listen_59 : decode cX9_listen 59 = .ok (.if_icmp .ne 14, 3) := by decide +kernel
theorem dX9_listen_62 : decode cX9_listen 62 = .ok (.iload 6, 2) := by decide +kernel
theorem dX9_listen_64 : decode cX9_listen 64 = .ok (.invokestatic 38, 3) := by decide +kernel
theorem dX9_listen_67 : decode cX9_listen 67 = .ok (.ifCond .ne 6, 3) := by decide +kernel
theorem dX9_listen_70 : decode cX9_listen 70 = .ok (.bipush (-2), 2) := by decide +kernel
theorem dX9_listen_72 : decode cX9_listen 72 = .ok (.ireturn, 1) := by decide +kernel
theorem dX9_listen_73 : decode cX9_listen 73 = .ok (.aload_n 0, 1) := by decide +kernel
theorem dX9_listen_74 : decode cX9_listen 74 = .ok (.getfield 10, 3) := by decide +kernel
theorem dX9_listen_77 : decode cX9_listen 77 = .ok (.getfield 85, 3) := by decide +kernel
theorem dX9_listen_80 : decode cX9_listen 80 = .ok (.istore 7, 2) := by decide +kernel
theorem dX9_listen_82 : decode cX9_listen 82 = .ok (.iload 7, 2) := by decide +kernel
theorem dX9_listen_84 : decode cX9_listen 84 = .ok (.bipush 8, 2) := by decide +kernel
theorem dX9_listen_86 : decode cX9_listen 86 = .ok (.if_icmp .lt 6, 3) := by decide +kernel
theorem dX9_listen_89 : decode cX9_listen 89 = .ok (.bipush (-3), 2) := by decide +kernel
theorem dX9_listen_91 : decode cX9_listen 91 = .ok (.ireturn, 1) := by decide +kernel
theorem dX9_listen_92 : decode cX9_listen 92 = .ok (.aload_n 0, 1) := by decide +kernel
theorem dX9_listen_93 : decode cX9_listen 93 = .ok (.getfield 10, 3) := by decide +kernel
theorem dX9_listen_96 : decode cX9_listen 96 = .ok (.iload 7, 2) := by decide +kernel
theorem dX9_listen_98 : decode cX9_listen 98 = .ok (.iconst 1, 1) := by decide +kernel
theorem dX9_listen_99 : decode cX9_listen 99 = .ok (.iadd, 1) := by decide +kernel
theorem dX9_listen_100 : decode cX9_listen 100 = .ok (.putfield 85, 3) := by decide +kernel
theorem dX9_listen_103 : decode cX9_listen 103 = .ok (.aload_n 0, 1) := by decide +kernel
theorem dX9_listen_104 : decode cX9_listen 104 = .ok (.getfield 10, 3) := by decide +kernel
theorem dX9_listen_107 : decode cX9_listen 107 = .ok (.getfield 88, 3) := by decide +kernel
theorem dX9_listen_110 : decode cX9_listen 110 = .ok (.iload 7, 2) := by decide +kernel
theorem dX9_listen_112 : decode cX9_listen 112 = .ok (.aaload, 1) := by decide +kernel
theorem dX9_listen_113 : decode cX9_listen 113 = .ok (.iload_n 1, 1) := by decide +kernel
theorem dX9_listen_114 : decode cX9_listen 114 = .ok (.iload_n 2, 1) := by decide +kernel
theorem dX9_listen_115 : decode cX9_listen 115 = .ok (.iload_n 3, 1) := by decide +kernel
theorem dX9_listen_116 : decode cX9_listen 116 = .ok (.iload 4, 2) := by decide +kernel
theorem dX9_listen_118 : decode cX9_listen 118 = .ok (.iload 5, 2) := by decide +kernel
theorem dX9_listen_120 : decode cX9_listen 120 = .ok (.iload 6, 2) := by decide +kernel
theorem dX9_listen_122 : decode cX9_listen 122 = .ok (.invokevirtual 92, 3) := by decide +kernel
theorem dX9_listen_125 : decode cX9_listen 125 = .ok (.iload 7, 2) := by decide +kernel
theorem dX9_listen_127 : decode cX9_listen 127 = .ok (.ireturn, 1) := by decide +kernel
theorem dX9_turn_0 : decode cX9_turn 0 = .ok (.aload_n 0, 1) := by decide +kernel
theorem dX9_turn_1 : decode cX9_turn 1 = .ok (.getfield 10, 3) := by decide +kernel
theorem dX9_turn_4 : decode cX9_turn 4 = .ok (.iload_n 1, 1) := by decide +kernel
theorem dX9_turn_5 : decode cX9_turn 5 = .ok (.invokevirtual 98, 3) := by decide +kernel
theorem dX9_turn_8 : decode cX9_turn 8 = .ok (.astore_n 3, 1) := by decide +kernel
theorem dX9_turn_9 : decode cX9_turn 9 = .ok (.aload_n 3, 1) := by decide +kernel
theorem dX9_turn_10 : decode cX9_turn 10 = .ok (.ifnonnull 6, 3) := by decide +kernel
theorem dX9_turn_13 : decode cX9_turn 13 = .ok (.bipush (-2), 2) := by decide +kernel
theorem dX9_turn_15 : decode cX9_turn 15 = .ok (.ireturn, 1) := by decide +kernel
theorem dX9_turn_16 : decode cX9_turn 16 = .ok (.aload_n 3, 1) := by decide +kernel
theorem dX9_turn_17 : decode cX9_turn 17 = .ok (.getfield 102, 3) := by decide +kernel
theorem dX9_turn_20 : decode cX9_turn 20 = .ok (.iload_n 2, 1) := by decide +kernel
theorem dX9_turn_21 : decode cX9_turn 21 = .ok (.if_icmp .eq 7, 3) := by decide +kernel
theorem dX9_turn_24 : decode cX9_turn 24 = .ok (.iconst 1, 1) := by decide +kernel
theorem dX9_turn_25 : decode cX9_turn 25 = .ok (.goto 4, 3) := by decide +kernel
theorem dX9_turn_28 : decode cX9_turn 28 = .ok (.iconst 0, 1) := by decide +kernel
theorem dX9_turn_29 : decode cX9_turn 29 = .ok (.istore 4, 2) := by decide +kernel
theorem dX9_turn_31 : decode cX9_turn 31 = .ok (.aload_n 3, 1) := by decide +kernel
theorem dX9_turn_32 : decode cX9_turn 32 = .ok (.iload_n 2, 1) := by decide +kernel
theorem dX9_turn_33 : decode cX9_turn 33 = .ok (.putfield 102, 3) := by decide +kernel
theorem dX9_turn_36 : decode cX9_turn 36 = .ok (.iload 4, 2) := by decide +kernel
theorem dX9_turn_38 : decode cX9_turn 38 = .ok (.invokestatic 106, 3) := by decide +kernel
theorem dX9_turn_41 : decode cX9_turn 41 = .ok (.ireturn, 1) := by decide +kernel
theorem dX9_chance_0 : decode cX9_chance 0 = .ok (.iload_n 1, 1) := by decide +kernel
theorem dX9_chance_1 : decode cX9_chance 1 = .ok (.ifCond .lt 13, 3) := by decide +kernel
theorem dX9_chance_4 : decode cX9_chance 4 = .ok (.iload_n 2, 1) := by decide +kernel
theorem dX9_chance_5 : decode cX9_chance 5 = .ok (.iconst 0, 1) := by decide +kernel
theorem dX9_chance_6 : decode cX9_chance 6 = .ok (.bipush 60, 2) := by decide +kernel
theorem dX9_chance_8 : decode cX9_chance 8 = .ok (.invokestatic 41, 3) := by decide +kernel
theorem dX9_chance_11 : decode cX9_chance 11 = .ok (.ifCond .ne 6, 3) := by decide +kernel
theorem dX9_chance_14 : decode cX9_chance 14 = .ok (.bipush (-2), 2) := by decide +kernel
theorem dX9_chance_16 : decode cX9_chance 16 = .ok (.ireturn, 1) := by decide +kernel
theorem dX9_chance_17 : decode cX9_chance 17 = .ok (.iconst 0, 1) := by decide +kernel
theorem dX9_chance_18 : decode cX9_chance 18 = .ok (.istore_n 3, 1) := by decide +kernel
theorem dX9_chance_19 : decode cX9_chance 19 = .ok (.iload_n 1, 1) := by decide +kernel
theorem dX9_chance_20 : decode cX9_chance 20 = .ok (.istore 4, 2) := by decide +kernel
theorem dX9_chance_22 : decode cX9_chance 22 = .ok (.iconst 0, 1) := by decide +kernel
theorem dX9_chance_23 : decode cX9_chance 23 = .ok (.istore 5, 2) := by decide +kernel
theorem dX9_chance_25 : decode cX9_chance 25 = .ok (.iload 5, 2) := by decide +kernel
theorem dX9_chance_27 : decode cX9_chance 27 = .ok (.iload_n 2, 1) := by decide +kernel
theorem dX9_chance_28 : decode cX9_chance 28 = .ok (.if_icmp .ge 130, 3) := by decide +kernel
theorem dX9_chance_31 : decode cX9_chance 31 = .ok (.iload 4, 2) := by decide +kernel
theorem dX9_chance_33 : decode cX9_chance 33 = .ok (.invokestatic 110, 3) := by decide +kernel
theorem dX9_chance_36 : decode cX9_chance 36 = .ok (.istore 4, 2) := by decide +kernel
theorem dX9_chance_38 : decode cX9_chance 38 = .ok (.iload 4, 2) := by decide +kernel
theorem dX9_chance_40 : decode cX9_chance 40 = .ok (.bipush 8, 2) := by decide +kernel
theorem dX9_chance_42 : decode cX9_chance 42 = .ok (.invokestatic 113, 3) := by decide +kernel
theorem dX9_chance_45 : decode cX9_chance 45 = .ok (.istore 6, 2) := by decide +kernel
theorem dX9_chance_47 : decode cX9_chance 47 = .ok (.iload 4, 2) := by decide +kernel
theorem dX9_chance_49 : decode cX9_chance 49 = .ok (.invokestatic 110, 3) := by decide +kernel
theorem dX9_chance_52 : decode cX9_chance 52 = .ok (.istore 4, 2) := by decide +kernel
theorem dX9_chance_54 : decode cX9_chance 54 = .ok (.iload 4, 2) := by decide +kernel
theorem dX9_chance_56 : decode cX9_chance 56 = .ok (.bipush 40, 2) := by decide +kernel
theorem dX9_chance_58 : decode cX9_chance 58 = .ok (.invokestatic 113, 3) := by decide +kernel
theorem dX9_chance_61 : decode cX9_chance 61 = .ok (.istore 7, 2) := by decide +kernel
theorem dX9_chance_63 : decode cX9_chance 63 = .ok (.iload 4, 2) := by decide +kernel
theorem dX9_chance_65 : decode cX9_chance 65 = .ok (.invokestatic 110, 3) := by decide +kernel
theorem dX9_chance_68 : decode cX9_chance 68 = .ok (.istore 4, 2) := by decide +kernel
theorem dX9_chance_70 : decode cX9_chance 70 = .ok (.iload 4, 2) := by decide +kernel
theorem dX9_chance_72 : decode cX9_chance 72 = .ok (.bipush 9, 2) := by decide +kernel
theorem dX9_chance_74 : decode cX9_chance 74 = .ok (.invokestatic 113, 3) := by decide +kernel
theorem dX9_chance_77 : decode cX9_chance 77 = .ok (.iconst 1, 1) := by decide +kernel
theorem dX9_chance_78 : decode cX9_chance 78 = .ok (.iadd, 1) := by decide +kernel
theorem dX9_chance_79 : decode cX9_chance 79 = .ok (.istore 8, 2) := by decide +kernel
theorem dX9_chance_81 : decode cX9_chance 81 = .ok (.iload 6, 2) := by decide +kernel
theorem dX9_chance_83 : decode cX9_chance 83 = .ok (.iconst 4, 1) := by decide +kernel
theorem dX9_chance_84 : decode cX9_chance 84 = .ok (.if_icmp .ge 18, 3) := by decide +kernel
theorem dX9_chance_87 : decode cX9_chance 87 = .ok (.iload_n 3, 1) := by decide +kernel
theorem dX9_chance_88 : decode cX9_chance 88 = .ok (.aload_n 0, 1) := by decide +kernel
theorem dX9_chance_89 : decode cX9_chance 89 = .ok (.getfield 10, 3) := by decide +kernel
theorem dX9_chance_92 : decode cX9_chance 92 = .ok (.iload 7, 2) := by decide +kernel
theorem dX9_chance_94 : decode cX9_chance 94 = .ok (.invokevirtual 49, 3) := by decide +kernel
theorem dX9_chance_97 : decode cX9_chance 97 = .ok (.iadd, 1) := by decide +kernel
theorem dX9_chance_98 : decode cX9_chance 98 = .ok (.istore_n 3, 1) := by decide +kernel
theorem dX9_chance_99 : decode cX9_chance 99 = .ok (.goto 53, 3) := by decide +kernel
theorem dX9_chance_102 : decode cX9_chance 102 = .ok (.iload 6, 2) := by decide +kernel
theorem dX9_chance_104 : decode cX9_chance 104 = .ok (.bipush 7, 2) := by decide +kernel
theorem dX9_chance_106 : decode cX9_chance 106 = .ok (.if_icmp .ge 21, 3) := by decide +kernel
theorem dX9_chance_109 : decode cX9_chance 109 = .ok (.aload_n 0, 1) := by decide +kernel
theorem dX9_chance_110 : decode cX9_chance 110 = .ok (.getfield 10, 3) := by decide +kernel
theorem dX9_chance_113 : decode cX9_chance 113 = .ok (.iload 7, 2) := by decide +kernel
theorem dX9_chance_115 : decode cX9_chance 115 = .ok (.iload 7, 2) := by decide +kernel
theorem dX9_chance_117 : decode cX9_chance 117 = .ok (.iload 8, 2) := by decide +kernel
theorem dX9_chance_119 : decode cX9_chance 119 = .ok (.iconst 0, 1) := by decide +kernel
theorem dX9_chance_120 : decode cX9_chance 120 = .ok (.invokevirtual 45, 3) := by decide +kernel
theorem dX9_chance_123 : decode cX9_chance 123 = .ok (.pop, 1) := by decide +kernel
theorem dX9_chance_124 : decode cX9_chance 124 = .ok (.goto 28, 3) := by decide +kernel
theorem dX9_chance_127 : decode cX9_chance 127 = .ok (.aload_n 0, 1) := by decide +kernel
theorem dX9_chance_128 : decode cX9_chance 128 = .ok (.getfield 10, 3) := by decide +kernel
theorem dX9_chance_131 : decode cX9_chance 131 = .ok (.getfield 56, 3) := by decide +kernel
theorem dX9_chance_134 : decode cX9_chance 134 = .ok (.iload 7, 2) := by decide +kernel
theorem dX9_chance_136 : decode cX9_chance 136 = .ok (.iload 7, 2) := by decide +kernel
theorem dX9_chance_138 : decode cX9_chance 138 = .ok (.iconst 2, 1) := by decide +kernel
theorem dX9_chance_139 : decode cX9_chance 139 = .ok (.irem, 1) := by decide +kernel
theorem dX9_chance_140 : decode cX9_chance 140 = .ok (.ifCond .ne 7, 3) := by decide +kernel
theorem dX9_chance_143 : decode cX9_chance 143 = .ok (.iconst 1, 1) := by decide +kernel
theorem dX9_chance_144 : decode cX9_chance 144 = .ok (.goto 4, 3) := by decide +kernel
theorem dX9_chance_147 : decode cX9_chance 147 = .ok (.iconst 0, 1) := by decide +kernel
theorem dX9_chance_148 : decode cX9_chance 148 = .ok (.invokevirtual 60, 3) := by decide +kernel
theorem dX9_chance_151 : decode cX9_chance 151 = .ok (.pop, 1) := by decide +kernel
theorem dX9_chance_152 : decode cX9_chance 152 = .ok (.iinc 5 1, 3) := by decide +kernel
theorem dX9_chance_155 : decode cX9_chance 155 = .ok (.goto (-130), 3) := by decide +kernel
theorem dX9_chance_158 : decode cX9_chance 158 = .ok (.iload_n 3, 1) := by decide +kernel
theorem dX9_chance_159 : decode cX9_chance 159 = .ok (.ireturn, 1) := by decide +kernel
theorem dX9_keep_0 : decode cX9_keep 0 = .ok (.iload_n 1, 1) := by decide +kernel
theorem dX9_keep_1 : decode cX9_keep 1 = .ok (.iconst 0, 1) := by decide +kernel
theorem dX9_keep_2 : decode cX9_keep 2 = .ok (.iconst 1, 1) := by decide +kernel
theorem dX9_keep_3 : decode cX9_keep 3 = .ok (.invokestatic 41, 3) := by decide +kernel
