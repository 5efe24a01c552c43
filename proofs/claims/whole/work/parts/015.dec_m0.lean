theorem dX10_isIn_0 : decode cX10_isIn 0 = .ok (.lload_n 0, 1) := by decide +kernel
theorem dX10_isIn_1 : decode cX10_isIn 1 = .ok (.lload_n 2, 1) := by decide +kernel
theorem dX10_isIn_2 : decode cX10_isIn 2 = .ok (.lcmp, 1) := by decide +kernel
theorem dX10_isIn_3 : decode cX10_isIn 3 = .ok (.ifCond .lt 14, 3) := by decide +kernel
theorem dX10_isIn_6 : decode cX10_isIn 6 = .ok (.lload_n 0, 1) := by decide +kernel
theorem dX10_isIn_7 : decode cX10_isIn 7 = .ok (.lload 4, 2) := by decide +kernel
theorem dX10_isIn_9 : decode cX10_isIn 9 = .ok (.lcmp, 1) := by decide +kernel
theorem dX10_isIn_10 : decode cX10_isIn 10 = .ok (.ifCond .gt 7, 3) := by decide +kernel
theorem dX10_isIn_13 : decode cX10_isIn 13 = .ok (.iconst 1, 1) := by decide +kernel
theorem dX10_isIn_14 : decode cX10_isIn 14 = .ok (.goto 4, 3) := by decide +kernel
theorem dX10_isIn_17 : decode cX10_isIn 17 = .ok (.iconst 0, 1) := by decide +kernel
theorem dX10_isIn_18 : decode cX10_isIn 18 = .ok (.ireturn, 1) := by decide +kernel
theorem dX10_flag_0 : decode cX10_flag 0 = .ok (.iload_n 0, 1) := by decide +kernel
theorem dX10_flag_1 : decode cX10_flag 1 = .ok (.ifCond .eq 7, 3) := by decide +kernel
theorem dX10_flag_4 : decode cX10_flag 4 = .ok (.iconst 1, 1) := by decide +kernel
theorem dX10_flag_5 : decode cX10_flag 5 = .ok (.goto 4, 3) := by decide +kernel
theorem dX10_flag_8 : decode cX10_flag 8 = .ok (.iconst 0, 1) := by decide +kernel
theorem dX10_flag_9 : decode cX10_flag 9 = .ok (.ireturn, 1) := by decide +kernel
theorem dX10_lesser_0 : decode cX10_lesser 0 = .ok (.iload_n 0, 1) := by decide +kernel
theorem dX10_lesser_1 : decode cX10_lesser 1 = .ok (.iload_n 1, 1) := by decide +kernel
theorem dX10_lesser_2 : decode cX10_lesser 2 = .ok (.if_icmp .ge 7, 3) := by decide +kernel
theorem dX10_lesser_5 : decode cX10_lesser 5 = .ok (.iload_n 0, 1) := by decide +kernel
theorem dX10_lesser_6 : decode cX10_lesser 6 = .ok (.goto 4, 3) := by decide +kernel
theorem dX10_lesser_9 : decode cX10_lesser 9 = .ok (.iload_n 1, 1) := by decide +kernel
theorem dX10_lesser_10 : decode cX10_lesser 10 = .ok (.ireturn, 1) := by decide +kernel
theorem dX10_near_0 : decode cX10_near 0 = .ok (.iload_n 0, 1) := by decide +kernel
theorem dX10_near_1 : decode cX10_near 1 = .ok (.ifCond .ge 7, 3) := by decide +kernel
theorem dX10_near_4 : decode cX10_near 4 = .ok (.iconst 0, 1) := by decide +kernel
theorem dX10_near_5 : decode cX10_near 5 = .ok (.goto 8, 3) := by decide +kernel
theorem dX10_near_8 : decode cX10_near 8 = .ok (.iload_n 0, 1) := by decide +kernel
theorem dX10_near_9 : decode cX10_near 9 = .ok (.iload_n 1, 1) := by decide +kernel
theorem dX10_near_10 : decode cX10_near 10 = .ok (.invokestatic 7, 3) := by decide +kernel
theorem dX10_near_13 : decode cX10_near 13 = .ok (.ireturn, 1) := by decide +kernel
theorem dX10_init_0 : decode cX10_init 0 = .ok (.aload_n 0, 1) := by decide +kernel
theorem dX10_init_1 : decode cX10_init 1 = .ok (.invokespecial 11, 3) := by decide +kernel
theorem dX10_init_4 : decode cX10_init 4 = .ok (.aload_n 0, 1) := by decide +kernel
theorem dX10_init_5 : decode cX10_init 5 = .ok (.sipush 3392, 3) := by decide +kernel
theorem dX10_init_8 : decode cX10_init 8 = .ok (.newarray .int, 2) := by decide +kernel
theorem dX10_init_10 : decode cX10_init 10 = .ok (.putfield 17, 3) := by decide +kernel
theorem dX10_init_13 : decode cX10_init 13 = .ok (.aload_n 0, 1) := by decide +kernel
theorem dX10_init_14 : decode cX10_init 14 = .ok (.iconst 2, 1) := by decide +kernel
theorem dX10_init_15 : decode cX10_init 15 = .ok (.newarray .boolean, 2) := by decide +kernel
theorem dX10_init_17 : decode cX10_init 17 = .ok (.putfield 21, 3) := by decide +kernel
theorem dX10_init_20 : decode cX10_init 20 = .ok (.aload_n 0, 1) := by decide +kernel
theorem dX10_init_21 : decode cX10_init 21 = .ok (.sipush 128, 3) := by decide +kernel
theorem dX10_init_24 : decode cX10_init 24 = .ok (.newarray .int, 2) := by decide +kernel
theorem dX10_init_26 : decode cX10_init 26 = .ok (.putfield 25, 3) := by decide +kernel
theorem dX10_init_29 : decode cX10_init 29 = .ok (.aload_n 0, 1) := by decide +kernel
theorem dX10_init_30 : decode cX10_init 30 = .ok (.sipush 500, 3) := by decide +kernel
theorem dX10_init_33 : decode cX10_init 33 = .ok (.newarray .int, 2) := by decide +kernel
theorem dX10_init_35 : decode cX10_init 35 = .ok (.putfield 28, 3) := by decide +kernel
theorem dX10_init_38 : decode cX10_init 38 = .ok (.aload_n 0, 1) := by decide +kernel
theorem dX10_init_39 : decode cX10_init 39 = .ok (.sipush 5001, 3) := by decide +kernel
theorem dX10_init_42 : decode cX10_init 42 = .ok (.newarray .int, 2) := by decide +kernel
theorem dX10_init_44 : decode cX10_init 44 = .ok (.putfield 31, 3) := by decide +kernel
theorem dX10_init_47 : decode cX10_init 47 = .ok (.aload_n 0, 1) := by decide +kernel
theorem dX10_init_48 : decode cX10_init 48 = .ok (.sipush 1000, 3) := by decide +kernel
theorem dX10_init_51 : decode cX10_init 51 = .ok (.newarray .boolean, 2) := by decide +kernel
theorem dX10_init_53 : decode cX10_init 53 = .ok (.putfield 34, 3) := by decide +kernel
theorem dX10_init_56 : decode cX10_init 56 = .ok (.aload_n 0, 1) := by decide +kernel
theorem dX10_init_57 : decode cX10_init 57 = .ok (.bipush 40, 2) := by decide +kernel
theorem dX10_init_59 : decode cX10_init 59 = .ok (.bipush 100, 2) := by decide +kernel
theorem dX10_init_61 : decode cX10_init 61 = .ok (.invokevirtual 37, 3) := by decide +kernel
theorem dX10_init_64 : decode cX10_init 64 = .ok (.return_, 1) := by decide +kernel
theorem dX10_begins_0 : decode cX10_begins 0 = .ok (.iconst 0, 1) := by decide +kernel
theorem dX10_begins_1 : decode cX10_begins 1 = .ok (.istore_n 3, 1) := by decide +kernel
theorem dX10_begins_2 : decode cX10_begins 2 = .ok (.iload_n 3, 1) := by decide +kernel
theorem dX10_begins_3 : decode cX10_begins 3 = .ok (.sipush 848, 3) := by decide +kernel
theorem dX10_begins_6 : decode cX10_begins 6 = .ok (.if_icmp .ge 21, 3) := by decide +kernel
theorem dX10_begins_9 : decode cX10_begins 9 = .ok (.aload_n 0, 1) := by decide +kernel
theorem dX10_begins_10 : decode cX10_begins 10 = .ok (.getfield 17, 3) := by decide +kernel
theorem dX10_begins_13 : decode cX10_begins 13 = .ok (.aload_n 0, 1) := by decide +kernel
theorem dX10_begins_14 : decode cX10_begins 14 = .ok (.getfield 41, 3) := by decide +kernel
theorem dX10_begins_17 : decode cX10_begins 17 = .ok (.iload_n 3, 1) := by decide +kernel
theorem dX10_begins_18 : decode cX10_begins 18 = .ok (.iadd, 1) := by decide +kernel
theorem dX10_begins_19 : decode cX10_begins 19 = .ok (.iconst 0, 1) := by decide +kernel
theorem dX10_begins_20 : decode cX10_begins 20 = .ok (.iastore, 1) := by decide +kernel
theorem dX10_begins_21 : decode cX10_begins 21 = .ok (.iinc 3 1, 3) := by decide +kernel
theorem dX10_begins_24 : decode cX10_begins 24 = .ok (.goto (-22), 3) := by decide +kernel
theorem dX10_begins_27 : decode cX10_begins 27 = .ok (.aload_n 0, 1) := by decide +kernel
theorem dX10_begins_28 : decode cX10_begins 28 = .ok (.getfield 17, 3) := by decide +kernel
theorem dX10_begins_31 : decode cX10_begins 31 = .ok (.aload_n 0, 1) := by decide +kernel
theorem dX10_begins_32 : decode cX10_begins 32 = .ok (.getfield 41, 3) := by decide +kernel
theorem dX10_begins_35 : decode cX10_begins 35 = .ok (.iconst 1, 1) := by decide +kernel
theorem dX10_begins_36 : decode cX10_begins 36 = .ok (.iadd, 1) := by decide +kernel
theorem dX10_begins_37 : decode cX10_begins 37 = .ok (.iload_n 1, 1) := by decide +kernel
theorem dX10_begins_38 : decode cX10_begins 38 = .ok (.iastore, 1) := by decide +kernel
theorem dX10_begins_39 : decode cX10_begins 39 = .ok (.aload_n 0, 1) := by decide +kernel
theorem dX10_begins_40 : decode cX10_begins 40 = .ok (.getfield 17, 3) := by decide +kernel
theorem dX10_begins_43 : decode cX10_begins 43 = .ok (.aload_n 0, 1) := by decide +kernel
theorem dX10_begins_44 : decode cX10_begins 44 = .ok (.getfield 41, 3) := by decide +kernel
theorem dX10_begins_47 : decode cX10_begins 47 = .ok (.bipush 6, 2) := by decide +kernel
theorem dX10_begins_49 : decode cX10_begins 49 = .ok (.iadd, 1) := by decide +kernel
theorem dX10_begins_50 : decode cX10_begins 50 = .ok (.iload_n 2, 1) := by decide +kernel
theorem dX10_begins_51 : decode cX10_begins 51 = .ok (.iastore, 1) := by decide +kernel
theorem dX10_begins_52 : decode cX10_begins 52 = .ok (.return_, 1) := by decide +kernel
theorem dX10_copies_0 : decode cX10_copies 0 = .ok (.iconst 0, 1) := by decide +kernel
theorem dX10_copies_1 : decode cX10_copies 1 = .ok (.istore_n 3, 1) := by decide +kernel
theorem dX10_copies_2 : decode cX10_copies 2 = .ok (.iload_n 3, 1) := by decide +kernel
theorem dX10_copies_3 : decode cX10_copies 3 = .ok (.sipush 848, 3) := by decide +kernel
theorem dX10_copies_6 : decode cX10_copies 6 = .ok (.if_icmp .ge 25, 3) := by decide +kernel
theorem dX10_copies_9 : decode cX10_copies 9 = .ok (.aload_n 0, 1) := by decide +kernel
theorem dX10_copies_10 : decode cX10_copies 10 = .ok (.getfield 17, 3) := by decide +kernel
theorem dX10_copies_13 : decode cX10_copies 13 = .ok (.iload_n 1, 1) := by decide +kernel
theorem dX10_copies_14 : decode cX10_copies 14 = .ok (.iload_n 3, 1) := by decide +kernel
theorem dX10_copies_15 : decode cX10_copies 15 = .ok (.iadd, 1) := by decide +kernel
theorem dX10_copies_16 : decode cX10_copies 16 = .ok (.aload_n 0, 1) := by decide +kernel
theorem dX10_copies_17 : decode cX10_copies 17 = .ok (.getfield 17, 3) := by decide +kernel
theorem dX10_copies_20 : decode cX10_copies 20 = .ok (.iload_n 2, 1) := by decide +kernel
theorem dX10_copies_21 : decode cX10_copies 21 = .ok (.iload_n 3, 1) := by decide +kernel
theorem dX10_copies_22 : decode cX10_copies 22 = .ok (.iadd, 1) := by decide +kernel
theorem dX10_copies_23 : decode cX10_copies 23 = .ok (.iaload, 1) := by decide +kernel
theorem dX10_copies_24 : decode cX10_copies 24 = .ok (.iastore, 1) := by decide +kernel
theorem dX10_copies_25 : decode cX10_copies 25 = .ok (.iinc 3 1, 3) := by decide +kernel
theorem dX10_copies_28 : decode cX10_copies 28 = .ok (.goto (-26), 3) := by decide +kernel
theorem dX10_copies_31 : decode cX10_copies 31 = .ok (.return_, 1) := by decide +kernel
theorem dX10_of_0 : decode cX10_of 0 = .ok (.aload_n 0, 1) := by decide +kernel
theorem dX10_of_1 : decode cX10_of 1 = .ok (.getfield 17, 3) := by decide +kernel
theorem dX10_of_4 : decode cX10_of 4 = .ok (.aload_n 0, 1) := by decide +kernel
theorem dX10_of_5 : decode cX10_of 5 = .ok (.getfield 41, 3) := by decide +kernel
theorem dX10_of_8 : decode cX10_of 8 = .ok (.bipush 24, 2) := by decide +kernel
theorem dX10_of_10 : decode cX10_of 10 = .ok (.iadd, 1) := by decide +kernel
theorem dX10_of_11 : decode cX10_of 11 = .ok (.bipush 7, 2) := by decide +kernel
theorem dX10_of_13 : decode cX10_of 13 = .ok (.iload_n 1, 1) := by decide +kernel
theorem dX10_of_14 : decode cX10_of 14 = .ok (.imul, 1) := by decide +kernel
theorem dX10_of_15 : decode cX10_of 15 = .ok (.iadd, 1) := by decide +kernel
theorem dX10_of_16 : decode cX10_of 16 = .ok (.iload_n 2, 1) := by decide +kernel
theorem dX10_of_17 : decode cX10_of 17 = .ok (.iadd, 1) := by decide +kernel
theorem dX10_of_18 : decode cX10_of 18 = .ok (.iaload, 1) := by decide +kernel
theorem dX10_of_19 : decode cX10_of 19 = .ok (.ireturn, 1) := by decide +kernel
theorem dX10_sets_0 : decode cX10_sets 0 = .ok (.aload_n 0, 1) := by decide +kernel
theorem dX10_sets_1 : decode cX10_sets 1 = .ok (.getfield 17, 3) := by decide +kernel
theorem dX10_sets_4 : decode cX10_sets 4 = .ok (.aload_n 0, 1) := by decide +kernel
theorem dX10_sets_5 : decode cX10_sets 5 = .ok (.getfield 41, 3) := by decide +kernel
theorem dX10_sets_8 : decode cX10_sets 8 = .ok (.bipush 24, 2) := by decide +kernel
theorem dX10_sets_10 : decode cX10_sets 10 = .ok (.iadd, 1) := by decide +kernel
theorem dX10_sets_11 : decode cX10_sets 11 = .ok (.bipush 7, 2) := by decide +kernel
theorem dX10_sets_13 : decode cX10_sets 13 = .ok (.iload_n 1, 1) := by decide +kernel
theorem dX10_sets_14 : decode cX10_sets 14 = .ok (.imul, 1) := by decide +kernel
theorem dX10_sets_15 : decode cX10_sets 15 = .ok (.iadd, 1) := by decide +kernel
theorem dX10_sets_16 : decode cX10_sets 16 = .ok (.iload_n 2, 1) := by decide +kernel
theorem dX10_sets_17 : decode cX10_sets 17 = .ok (.iadd, 1) := by decide +kernel
theorem dX10_sets_18 : decode cX10_sets 18 = .ok (.iload_n 3, 1) := by decide +kernel
theorem dX10_sets_19 : decode cX10_sets 19 = .ok (.iastore, 1) := by decide +kernel
theorem dX10_sets_20 : decode cX10_sets 20 = .ok (.return_, 1) := by decide +kernel
theorem dX10_entryOf_0 : decode cX10_entryOf 0 = .ok (.iconst 0, 1) := by decide +kernel
theorem dX10_entryOf_1 : decode cX10_entryOf 1 = .ok (.istore_n 2, 1) := by decide +kernel
theorem dX10_entryOf_2 : decode cX10_entryOf 2 = .ok (.iload_n 2, 1) := by decide +kernel
theorem dX10_entryOf_3 : decode cX10_entryOf 3 = .ok (.aload_n 0, 1) := by decide +kernel
theorem dX10_entryOf_4 : decode cX10_entryOf 4 = .ok (.getfield 17, 3) := by decide +kernel
theorem dX10_entryOf_7 : decode cX10_entryOf 7 = .ok (.aload_n 0, 1) := by decide +kernel
theorem dX10_entryOf_8 : decode cX10_entryOf 8 = .ok (.getfield 41, 3) := by decide +kernel
theorem dX10_entryOf_11 : decode cX10_entryOf 11 = .ok (.iconst 0, 1) := by decide +kernel
theorem dX10_entryOf_12 : decode cX10_entryOf 12 = .ok (.iadd, 1) := by decide +kernel
theorem dX10_entryOf_13 : decode cX10_entryOf 13 = .ok (.iaload, 1) := by decide +kernel
theorem dX10_entryOf_14 : decode cX10_entryOf 14 = .ok (.if_icmp .ge 21, 3) := by decide +kernel
theorem dX10_entryOf_17 : decode cX10_entryOf 17 = .ok (.aload_n 0, 1) := by decide +kernel
theorem dX10_entryOf_18 : decode cX10_entryOf 18 = .ok (.iload_n 2, 1) := by decide +kernel
theorem dX10_entryOf_19 : decode cX10_entryOf 19 = .ok (.iconst 0, 1) := by decide +kernel
theorem dX10_entryOf_20 : decode cX10_entryOf 20 = .ok (.invokevirtual 44, 3) := by decide +kernel
theorem dX10_entryOf_23 : decode cX10_entryOf 23 = .ok (.iload_n 1, 1) := by decide +kernel
theorem dX10_entryOf_24 : decode cX10_entryOf 24 = .ok (.if_icmp .ne 5, 3) := by decide +kernel
theorem dX10_entryOf_27 : decode cX10_entryOf 27 = .ok (.iload_n 2, 1) := by decide +kernel
theorem dX10_entryOf_28 : decode cX10_entryOf 28 = .ok (.ireturn, 1) := by decide +kernel
theorem dX10_entryOf_29 : decode cX10_entryOf 29 = .ok (.iinc 2 1, 3) := by decide +kernel
theorem dX10_entryOf_32 : decode cX10_entryOf 32 = .ok (.goto (-30), 3) := by decide +kernel
theorem dX10_entryOf_35 : decode cX10_entryOf 35 = .ok (.iconst (-1), 1) := by decide +kernel
theorem dX10_entryOf_36 : decode cX10_entryOf 36 = .ok (.ireturn, 1) := by decide +kernel
theorem dX10_isKey_0 : decode cX10_isKey 0 = .ok (.iload_n 0, 1) := by decide +kernel
theorem dX10_isKey_1 : decode cX10_isKey 1 = .ok (.i2l, 1) := by decide +kernel
theorem dX10_isKey_2 : decode cX10_isKey 2 = .ok (.lconst 0, 1) := by decide +kernel
theorem dX10_isKey_3 : decode cX10_isKey 3 = .ok (.ldc2_w 47, 3) := by decide +kernel
theorem dX10_isKey_6 : decode cX10_isKey 6 = .ok (.invokestatic 49, 3) := by decide +kernel
theorem dX10_isKey_9 : decode cX10_isKey 9 = .ok (.ireturn, 1) := by decide +kernel
theorem dX10_load_0 : decode cX10_load 0 = .ok (.iconst 0, 1) := by decide +kernel
theorem dX10_load_1 : decode cX10_load 1 = .ok (.istore_n 1, 1) := by decide +kernel
theorem dX10_load_2 : decode cX10_load 2 = .ok (.iconst 0, 1) := by decide +kernel
theorem dX10_load_3 : decode cX10_load 3 = .ok (.istore_n 2, 1) := by decide +kernel
theorem dX10_load_4 : decode cX10_load 4 = .ok (.iload_n 2, 1) := by decide +kernel
theorem dX10_load_5 : decode cX10_load 5 = .ok (.aload_n 0, 1) := by decide +kernel
theorem dX10_load_6 : decode cX10_load 6 = .ok (.getfield 17, 3) := by decide +kernel
theorem dX10_load_9 : decode cX10_load 9 = .ok (.aload_n 0, 1) := by decide +kernel
theorem dX10_load_10 : decode cX10_load 10 = .ok (.getfield 41, 3) := by decide +kernel
theorem dX10_load_13 : decode cX10_load 13 = .ok (.iconst 0, 1) := by decide +kernel
theorem dX10_load_14 : decode cX10_load 14 = .ok (.iadd, 1) := by decide +kernel
theorem dX10_load_15 : decode cX10_load 15 = .ok (.iaload, 1) := by decide +kernel
theorem dX10_load_16 : decode cX10_load 16 = .ok (.if_icmp .ge 18, 3) := by decide +kernel
theorem dX10_load_19 : decode cX10_load 19 = .ok (.iload_n 1, 1) := by decide +kernel
theorem dX10_load_20 : decode cX10_load 20 = .ok (.aload_n 0, 1) := by decide +kernel
theorem dX10_load_21 : decode cX10_load 21 = .ok (.iload_n 2, 1) := by decide +kernel
theorem dX10_load_22 : decode cX10_load 22 = .ok (.iconst 2, 1) := by decide +kernel
theorem dX10_load_23 : decode cX10_load 23 = .ok (.invokevirtual 44, 3) := by decide +kernel
theorem dX10_load_26 : decode cX10_load 26 = .ok (.iadd, 1) := by decide +kernel
theorem dX10_load_27 : decode cX10_load 27 = .ok (.istore_n 1, 1) := by decide +kernel
theorem dX10_load_28 : decode cX10_load 28 = .ok (.iinc 2 1, 3) := by decide +kernel
theorem dX10_load_31 : decode cX10_load 31 = .ok (.goto (-27), 3) := by decide +kernel
theorem dX10_load_34 : decode cX10_load 34 = .ok (.iload_n 1, 1) := by decide +kernel
theorem dX10_load_35 : decode cX10_load 35 = .ok (.ireturn, 1) := by decide +kernel
theorem dX10_pinned_0 : decode cX10_pinned 0 = .ok (.iconst 0, 1) := by decide +kernel
theorem dX10_pinned_1 : decode cX10_pinned 1 = .ok (.istore_n 2, 1) := by decide +kernel
theorem dX10_pinned_2 : decode cX10_pinned 2 = .ok (.iconst 0, 1) := by decide +kernel
theorem dX10_pinned_3 : decode cX10_pinned 3 = .ok (.istore_n 3, 1) := by decide +kernel
theorem dX10_pinned_4 : decode cX10_pinned 4 = .ok (.iload_n 3, 1) := by decide +kernel
theorem dX10_pinned_5 : decode cX10_pinned 5 = .ok (.aload_n 0, 1) := by decide +kernel
theorem dX10_pinned_6 : decode cX10_pinned 6 = .ok (.getfield 17, 3) := by decide +kernel
theorem dX10_pinned_9 : decode cX10_pinned 9 = .ok (.aload_n 0, 1) := by decide +kernel
theorem dX10_pinned_10 : decode cX10_pinned 10 = .ok (.getfield 41, 3) := by decide +kernel
theorem dX10_pinned_13 : decode cX10_pinned 13 = .ok (.iconst 0, 1) := by decide +kernel
theorem dX10_pinned_14 : decode cX10_pinned 14 = .ok (.iadd, 1) := by decide +kernel
theorem dX10_pinned_15 : decode cX10_pinned 15 = .ok (.iaload, 1) := by decide +kernel
theorem dX10_pinned_16 : decode cX10_pinned 16 = .ok (.if_icmp .ge 43, 3) := by decide +kernel
theorem dX10_pinned_19 : decode cX10_pinned 19 = .ok (.iload_n 2, 1) := by decide +kernel
theorem dX10_pinned_20 : decode cX10_pinned 20 = .ok (.aload_n 0, 1) := by decide +kernel
theorem dX10_pinned_21 : decode cX10_pinned 21 = .ok (.iload_n 3, 1) := by decide +kernel
theorem dX10_pinned_22 : decode cX10_pinned 22 = .ok (.bipush 6, 2) := by decide +kernel
theorem dX10_pinned_24 : decode cX10_pinned 24 = .ok (.invokevirtual 44, 3) := by decide +kernel
theorem dX10_pinned_27 : decode cX10_pinned 27 = .ok (.iconst 1, 1) := by decide +kernel
theorem dX10_pinned_28 : decode cX10_pinned 28 = .ok (.if_icmp .ne 22, 3) := by decide +kernel
theorem dX10_pinned_31 : decode cX10_pinned 31 = .ok (.aload_n 0, 1) := by decide +kernel
theorem dX10_pinned_32 : decode cX10_pinned 32 = .ok (.iload_n 3, 1) := by decide +kernel
theorem dX10_pinned_33 : decode cX10_pinned 33 = .ok (.iconst 0, 1) := by decide +kernel
theorem dX10_pinned_34 : decode cX10_pinned 34 = .ok (.invokevirtual 44, 3) := by decide +kernel
theorem dX10_pinned_37 : decode cX10_pinned 37 = .ok (.iload_n 1, 1) := by decide +kernel
theorem dX10_pinned_38 : decode cX10_pinned 38 = .ok (.if_icmp .eq 12, 3) := by decide +kernel
theorem dX10_pinned_41 : decode cX10_pinned 41 = .ok (.aload_n 0, 1) := by decide +kernel
theorem dX10_pinned_42 : decode cX10_pinned 42 = .ok (.iload_n 3, 1) := by decide +kernel
theorem dX10_pinned_43 : decode cX10_pinned 43 = .ok (.iconst 2, 1) := by decide +kernel
theorem dX10_pinned_44 : decode cX10_pinned 44 = .ok (.invokevirtual 44, 3) := by decide +kernel
theorem dX10_pinned_47 : decode cX10_pinned 47 = .ok (.goto 4, 3) := by decide +kernel
theorem dX10_pinned_50 : decode cX10_pinned 50 = .ok (.iconst 0, 1) := by decide +kernel
theorem dX10_pinned_51 : decode cX10_pinned 51 = .ok (.iadd, 1) := by decide +kernel
theorem dX10_pinned_52 : decode cX10_pinned 52 = .ok (.istore_n 2, 1) := by decide +kernel
theorem dX10_pinned_53 : decode cX10_pinned 53 = .ok (.iinc 3 1, 3) := by decide +kernel
theorem dX10_pinned_56 : decode cX10_pinned 56 = .ok (.goto (-52), 3) := by decide +kernel
theorem dX10_pinned_59 : decode cX10_pinned 59 = .ok (.iload_n 2, 1) := by decide +kernel
theorem dX10_pinned_60 : decode cX10_pinned 60 = .ok (.ireturn, 1) := by decide +kernel
theorem dX10_pinnedMany_0 : decode cX10_pinnedMany 0 = .ok (.iconst 0, 1) := by decide +kernel
theorem dX10_pinnedMany_1 : decode cX10_pinnedMany 1 = .ok (.istore_n 1, 1) := by decide +kernel
theorem dX10_pinnedMany_2 : decode cX10_pinnedMany 2 = .ok (.iconst 0, 1) := by decide +kernel
theorem dX10_pinnedMany_3 : decode cX10_pinnedMany 3 = .ok (.istore_n 2, 1) := by decide +kernel
theorem dX10_pinnedMany_4 : decode cX10_pinnedMany 4 = .ok (.iload_n 2, 1) := by decide +kernel
theorem dX10_pinnedMany_5 : decode cX10_pinnedMany 5 = .ok (.aload_n 0, 1) := by decide +kernel
theorem dX10_pinnedMany_6 : decode cX10_pinnedMany 6 = .ok (.getfield 17, 3) := by decide +kernel
theorem dX10_pinnedMany_9 : decode cX10_pinnedMany 9 = .ok (.aload_n 0, 1) := by decide +kernel
theorem dX10_pinnedMany_10 : decode cX10_pinnedMany 10 = .ok (.getfield 41, 3) := by decide +kernel
theorem dX10_pinnedMany_13 : decode cX10_pinnedMany 13 = .ok (.iconst 0, 1) := by decide +kernel
theorem dX10_pinnedMany_14 : decode cX10_pinnedMany 14 = .ok (.iadd, 1) := by decide +kernel
theorem dX10_pinnedMany_15 : decode cX10_pinnedMany 15 = .ok (.iaload, 1) := by decide +kernel
theorem dX10_pinnedMany_16 : decode cX10_pinnedMany 16 = .ok (.if_icmp .ge 19, 3) := by decide +kernel
theorem dX10_pinnedMany_19 : decode cX10_pinnedMany 19 = .ok (.iload_n 1, 1) := by decide +kernel
theorem dX10_pinnedMany_20 : decode cX10_pinnedMany 20 = .ok (.aload_n 0, 1) := by decide +kernel
theorem dX10_pinnedMany_21 : decode cX10_pinnedMany 21 = .ok (.iload_n 2, 1) := by decide +kernel
theorem dX10_pinnedMany_22 : decode cX10_pinnedMany 22 = .ok (.bipush 6, 2) := by decide +kernel
theorem dX10_pinnedMany_24 : decode cX10_pinnedMany 24 = .ok (.invokevirtual 44, 3) := by decide +kernel
theorem dX10_pinnedMany_27 : decode cX10_pinnedMany 27 = .ok (.iadd, 1) := by decide +kernel
theorem dX10_pinnedMany_28 : decode cX10_pinnedMany 28 = .ok (.istore_n 1, 1) := by decide +kernel
theorem dX10_pinnedMany_29 : decode cX10_pinnedMany 29 = .ok (.iinc 2 1, 3) := by decide +kernel
theorem dX10_pinnedMany_32 : decode cX10_pinnedMany 32 = .ok (.goto (-28), 3) := by decide +kernel
theorem dX10_pinnedMany_35 : decode cX10_pinnedMany 35 = .ok (.iload_n 1, 1) := by decide +kernel
theorem dX10_pinnedMany_36 : decode cX10_pinnedMany 36 = .ok (.ireturn, 1) := by decide +kernel
theorem dX10_goes_0 : decode cX10_goes 0 = .ok (.aload_n 0, 1) := by decide +kernel
theorem dX10_goes_1 : decode cX10_goes 1 = .ok (.getfield 17, 3) := by decide +kernel
theorem dX10_goes_4 : decode cX10_goes 4 = .ok (.aload_n 0, 1) := by decide +kernel
theorem dX10_goes_5 : decode cX10_goes 5 = .ok (.getfield 41, 3) := by decide +kernel
theorem dX10_goes_8 : decode cX10_goes 8 = .ok (.iconst 0, 1) := by decide +kernel
theorem dX10_goes_9 : decode cX10_goes 9 = .ok (.iadd, 1) := by decide +kernel
theorem dX10_goes_10 : decode cX10_goes 10 = .ok (.dup2, 1) := by decide +kernel
theorem dX10_goes_11 : decode cX10_goes 11 = .ok (.iaload, 1) := by decide +kernel
theorem dX10_goes_12 : decode cX10_goes 12 = .ok (.iconst 1, 1) := by decide +kernel
theorem dX10_goes_13 : decode cX10_goes 13 = .ok (.isub, 1) := by decide +kernel
theorem dX10_goes_14 : decode cX10_goes 14 = .ok (.iastore, 1) := by decide +kernel
theorem dX10_goes_15 : decode cX10_goes 15 = .ok (.bipush 7, 2) := by decide +kernel
theorem dX10_goes_17 : decode cX10_goes 17 = .ok (.iload_n 1, 1) := by decide +kernel
theorem dX10_goes_18 : decode cX10_goes 18 = .ok (.imul, 1) := by decide +kernel
theorem dX10_goes_19 : decode cX10_goes 19 = .ok (.istore_n 2, 1) := by decide +kernel
theorem dX10_goes_20 : decode cX10_goes 20 = .ok (.iload_n 2, 1) := by decide +kernel
theorem dX10_goes_21 : decode cX10_goes 21 = .ok (.bipush 7, 2) := by decide +kernel
theorem dX10_goes_23 : decode cX10_goes 23 = .ok (.aload_n 0, 1) := by decide +kernel
theorem dX10_goes_24 : decode cX10_goes 24 = .ok (.getfield 17, 3) := by decide +kernel
theorem dX10_goes_27 : decode cX10_goes 27 = .ok (.aload_n 0, 1) := by decide +kernel
theorem dX10_goes_28 : decode cX10_goes 28 = .ok (.getfield 41, 3) := by decide +kernel
theorem dX10_goes_31 : decode cX10_goes 31 = .ok (.iconst 0, 1) := by decide +kernel
theorem dX10_goes_32 : decode cX10_goes 32 = .ok (.iadd, 1) := by decide +kernel
theorem dX10_goes_33 : decode cX10_goes 33 = .ok (.iaload, 1) := by decide +kernel
theorem dX10_goes_34 : decode cX10_goes 34 = .ok (.imul, 1) := by decide +kernel
theorem dX10_goes_35 : decode cX10_goes 35 = .ok (.if_icmp .ge 40, 3) := by decide +kernel
theorem dX10_goes_38 : decode cX10_goes 38 = .ok (.aload_n 0, 1) := by decide +kernel
theorem dX10_goes_39 : decode cX10_goes 39 = .ok (.getfield 17, 3) := by decide +kernel
theorem dX10_goes_42 : decode cX10_goes 42 = .ok (.aload_n 0, 1) := by decide +kernel
theorem dX10_goes_43 : decode cX10_goes 43 = .ok (.getfield 41, 3) := by decide +kernel
theorem dX10_goes_46 : decode cX10_goes 46 = .ok (.bipush 24, 2) := by decide +kernel
theorem dX10_goes_48 : decode cX10_goes 48 = .ok (.iadd, 1) := by decide +kernel
theorem dX10_goes_49 : decode cX10_goes 49 = .ok (.iload_n 2, 1) := by decide +kernel
theorem dX10_goes_50 : decode cX10_goes 50 = .ok (.iadd, 1) := by decide +kernel
theorem dX10_goes_51 : decode cX10_goes 51 = .ok (.aload_n 0, 1) := by decide +kernel
theorem dX10_goes_52 : decode cX10_goes 52 = .ok (.getfield 17, 3) := by decide +kernel
theorem dX10_goes_55 : decode cX10_goes 55 = .ok (.aload_n 0, 1) := by decide +kernel
theorem dX10_goes_56 : decode cX10_goes 56 = .ok (.getfield 41, 3) := by decide +kernel
theorem dX10_goes_59 : decode cX10_goes 59 = .ok (.bipush 24, 2) := by decide +kernel
theorem dX10_goes_61 : decode cX10_goes 61 = .ok (.iadd, 1) := by decide +kernel
theorem dX10_goes_62 : decode cX10_goes 62 = .ok (.iload_n 2, 1) := by decide +kernel
theorem dX10_goes_63 : decode cX10_goes 63 = .ok (.iadd, 1) := by decide +kernel
theorem dX10_goes_64 : decode cX10_goes 64 = .ok (.bipush 7, 2) := by decide +kernel
theorem dX10_goes_66 : decode cX10_goes 66 = .ok (.iadd, 1) := by decide +kernel
theorem dX10_goes_67 : decode cX10_goes 67 = .ok (.iaload, 1) := by decide +kernel
theorem dX10_goes_68 : decode cX10_goes 68 = .ok (.iastore, 1) := by decide +kernel
theorem dX10_goes_69 : decode cX10_goes 69 = .ok (.iinc 2 1, 3) := by decide +kernel
theorem dX10_goes_72 : decode cX10_goes 72 = .ok (.goto (-52), 3) := by decide +kernel
theorem dX10_goes_75 : decode cX10_goes 75 = .ok (.return_, 1) := by decide +kernel
theorem dX10_isAhead_0 : decode cX10_isAhead 0 = .ok (.iload_n 1, 1) := by decide +kernel
theorem dX10_isAhead_1 : decode cX10_isAhead 1 = .ok (.iconst 1, 1) := by decide +kernel
theorem dX10_isAhead_2 : decode cX10_isAhead 2 = .ok (.if_icmp .ne 39, 3) := by decide +kernel
theorem dX10_isAhead_5 : decode cX10_isAhead 5 = .ok (.aload_n 0, 1) := by decide +kernel
theorem dX10_isAhead_6 : decode cX10_isAhead 6 = .ok (.iload_n 2, 1) := by decide +kernel
theorem dX10_isAhead_7 : decode cX10_isAhead 7 = .ok (.iconst 3, 1) := by decide +kernel
theorem dX10_isAhead_8 : decode cX10_isAhead 8 = .ok (.invokevirtual 44, 3) := by decide +kernel
theorem dX10_isAhead_11 : decode cX10_isAhead 11 = .ok (.aload_n 0, 1) := by decide +kernel
theorem dX10_isAhead_12 : decode cX10_isAhead 12 = .ok (.iload_n 3, 1) := by decide +kernel
theorem dX10_isAhead_13 : decode cX10_isAhead 13 = .ok (.iconst 3, 1) := by decide +kernel
theorem dX10_isAhead_14 : decode cX10_isAhead 14 = .ok (.invokevirtual 44, 3) := by decide +kernel
theorem dX10_isAhead_17 : decode cX10_isAhead 17 = .ok (.if_icmp .eq 24, 3) := by decide +kernel
theorem dX10_isAhead_20 : decode cX10_isAhead 20 = .ok (.aload_n 0, 1) := by decide +kernel
theorem dX10_isAhead_21 : decode cX10_isAhead 21 = .ok (.iload_n 2, 1) := by decide +kernel
theorem dX10_isAhead_22 : decode cX10_isAhead 22 = .ok (.iconst 3, 1) := by decide +kernel
theorem dX10_isAhead_23 : decode cX10_isAhead 23 = .ok (.invokevirtual 44, 3) := by decide +kernel
theorem dX10_isAhead_26 : decode cX10_isAhead 26 = .ok (.aload_n 0, 1) := by decide +kernel
theorem dX10_isAhead_27 : decode cX10_isAhead 27 = .ok (.iload_n 3, 1) := by decide +kernel
theorem dX10_isAhead_28 : decode cX10_isAhead 28 = .ok (.iconst 3, 1) := by decide +kernel
theorem dX10_isAhead_29 : decode cX10_isAhead 29 = .ok (.invokevirtual 44, 3) := by decide +kernel
theorem dX10_isAhead_32 : decode cX10_isAhead 32 = .ok (.if_icmp .ge 7, 3) := by decide +kernel
theorem dX10_isAhead_35 : decode cX10_isAhead 35 = .ok (.iconst 1, 1) := by decide +kernel
theorem dX10_isAhead_36 : decode cX10_isAhead 36 = .ok (.goto 4, 3) := by decide +kernel
theorem dX10_isAhead_39 : decode cX10_isAhead 39 = .ok (.iconst 0, 1) := by decide +kernel
theorem dX10_isAhead_40 : decode cX10_isAhead 40 = .ok (.ireturn, 1) := by decide +kernel
theorem dX10_isAhead_41 : decode cX10_isAhead 41 = .ok (.aload_n 0, 1) := by decide +kernel
theorem dX10_isAhead_42 : decode cX10_isAhead 42 = .ok (.iload_n 2, 1) := by decide +kernel
theorem dX10_isAhead_43 : decode cX10_isAhead 43 = .ok (.iconst 4, 1) := by decide +kernel
theorem dX10_isAhead_44 : decode cX10_isAhead 44 = .ok (.invokevirtual 44, 3) := by decide +kernel
theorem dX10_isAhead_47 : decode cX10_isAhead 47 = .ok (.aload_n 0, 1) := by decide +kernel
theorem dX10_isAhead_48 : decode cX10_isAhead 48 = .ok (.iload_n 3, 1) := by decide +kernel
theorem dX10_isAhead_49 : decode cX10_isAhead 49 = .ok (.iconst 4, 1) := by decide +kernel
theorem dX10_isAhead_50 : decode cX10_isAhead 50 = .ok (.invokevirtual 44, 3) := by decide +kernel
theorem dX10_isAhead_53 : decode cX10_isAhead 53 = .ok (.if_icmp .ge 7, 3) := by decide +kernel
theorem dX10_isAhead_56 : decode cX10_isAhead 56 = .ok (.iconst 1, 1) := by decide +kernel
theorem dX10_isAhead_57 : decode cX10_isAhead 57 = .ok (.goto 4, 3) := by decide +kernel
theorem dX10_isAhead_60 : decode cX10_isAhead 60 = .ok (.iconst 0, 1) := by decide +kernel
theorem dX10_isAhead_61 : decode cX10_isAhead 61 = .ok (.ireturn, 1) := by decide +kernel
theorem dX10_placeOf_0 : decode cX10_placeOf 0 = .ok (.iconst 0, 1) := by decide +kernel
theorem dX10_placeOf_1 : decode cX10_placeOf 1 = .ok (.istore_n 3, 1) := by decide +kernel
theorem dX10_placeOf_2 : decode cX10_placeOf 2 = .ok (.iconst 0, 1) := by decide +kernel
theorem dX10_placeOf_3 : decode cX10_placeOf 3 = .ok (.istore 4, 2) := by decide +kernel
theorem dX10_placeOf_5 : decode cX10_placeOf 5 = .ok (.iload 4, 2) := by decide +kernel
theorem dX10_placeOf_7 : decode cX10_placeOf 7 = .ok (.aload_n 0, 1) := by decide +kernel
theorem dX10_placeOf_8 : decode cX10_placeOf 8 = .ok (.getfield 17, 3) := by decide +kernel
theorem dX10_placeOf_11 : decode cX10_placeOf 11 = .ok (.aload_n 0, 1) := by decide +kernel
theorem dX10_placeOf_12 : decode cX10_placeOf 12 = .ok (.getfield 41, 3) := by decide +kernel
theorem dX10_placeOf_15 : decode cX10_placeOf 15 = .ok (.iconst 0, 1) := by decide +kernel
theorem dX10_placeOf_16 : decode cX10_placeOf 16 = .ok (.iadd, 1) := by decide +kernel
theorem dX10_placeOf_17 : decode cX10_placeOf 17 = .ok (.iaload, 1) := by decide +kernel
theorem dX10_placeOf_18 : decode cX10_placeOf 18 = .ok (.if_icmp .ge 23, 3) := by decide +kernel
theorem dX10_placeOf_21 : decode cX10_placeOf 21 = .ok (.iload_n 3, 1) := by decide +kernel
theorem dX10_placeOf_22 : decode cX10_placeOf 22 = .ok (.aload_n 0, 1) := by decide +kernel
theorem dX10_placeOf_23 : decode cX10_placeOf 23 = .ok (.iload_n 1, 1) := by decide +kernel
theorem dX10_placeOf_24 : decode cX10_placeOf 24 = .ok (.iload 4, 2) := by decide +kernel
theorem dX10_placeOf_26 : decode cX10_placeOf 26 = .ok (.iload_n 2, 1) := by decide +kernel
theorem dX10_placeOf_27 : decode cX10_placeOf 27 = .ok (.invokevirtual 53, 3) := by decide +kernel
theorem dX10_placeOf_30 : decode cX10_placeOf 30 = .ok (.invokestatic 57, 3) := by decide +kernel
theorem dX10_placeOf_33 : decode cX10_placeOf 33 = .ok (.iadd, 1) := by decide +kernel
theorem dX10_placeOf_34 : decode cX10_placeOf 34 = .ok (.istore_n 3, 1) := by decide +kernel
theorem dX10_placeOf_35 : decode cX10_placeOf 35 = .ok (.iinc 4 1, 3) := by decide +kernel
theorem dX10_placeOf_38 : decode cX10_placeOf 38 = .ok (.goto (-33), 3) := by decide +kernel
theorem dX10_placeOf_41 : decode cX10_placeOf 41 = .ok (.iload_n 3, 1) := by decide +kernel
theorem dX10_placeOf_42 : decode cX10_placeOf 42 = .ok (.ireturn, 1) := by decide +kernel
theorem dX10_keyAt_0 : decode cX10_keyAt 0 = .ok (.iconst 0, 1) := by decide +kernel
theorem dX10_keyAt_1 : decode cX10_keyAt 1 = .ok (.istore_n 3, 1) := by decide +kernel
theorem dX10_keyAt_2 : decode cX10_keyAt 2 = .ok (.iload_n 3, 1) := by decide +kernel
theorem dX10_keyAt_3 : decode cX10_keyAt 3 = .ok (.aload_n 0, 1) := by decide +kernel
theorem dX10_keyAt_4 : decode cX10_keyAt 4 = .ok (.getfield 17, 3) := by decide +kernel
theorem dX10_keyAt_7 : decode cX10_keyAt 7 = .ok (.aload_n 0, 1) := by decide +kernel
theorem dX10_keyAt_8 : decode cX10_keyAt 8 = .ok (.getfield 41, 3) := by decide +kernel
theorem dX10_keyAt_11 : decode cX10_keyAt 11 = .ok (.iconst 0, 1) := by decide +kernel
theorem dX10_keyAt_12 : decode cX10_keyAt 12 = .ok (.iadd, 1) := by decide +kernel
theorem dX10_keyAt_13 : decode cX10_keyAt 13 = .ok (.iaload, 1) := by decide +kernel
theorem dX10_keyAt_14 : decode cX10_keyAt 14 = .ok (.if_icmp .ge 26, 3) := by decide +kernel
theorem dX10_keyAt_17 : decode cX10_keyAt 17 = .ok (.aload_n 0, 1) := by decide +kernel
theorem dX10_keyAt_18 : decode cX10_keyAt 18 = .ok (.iload_n 1, 1) := by decide +kernel
theorem dX10_keyAt_19 : decode cX10_keyAt 19 = .ok (.iload_n 3, 1) := by decide +kernel
theorem dX10_keyAt_20 : decode cX10_keyAt 20 = .ok (.invokevirtual 61, 3) := by decide +kernel
theorem dX10_keyAt_23 : decode cX10_keyAt 23 = .ok (.iload_n 2, 1) := by decide +kernel
theorem dX10_keyAt_24 : decode cX10_keyAt 24 = .ok (.if_icmp .ne 10, 3) := by decide +kernel
theorem dX10_keyAt_27 : decode cX10_keyAt 27 = .ok (.aload_n 0, 1) := by decide +kernel
theorem dX10_keyAt_28 : decode cX10_keyAt 28 = .ok (.iload_n 3, 1) := by decide +kernel
theorem dX10_keyAt_29 : decode cX10_keyAt 29 = .ok (.iconst 0, 1) := by decide +kernel
theorem dX10_keyAt_30 : decode cX10_keyAt 30 = .ok (.invokevirtual 44, 3) := by decide +kernel
theorem dX10_keyAt_33 : decode cX10_keyAt 33 = .ok (.ireturn, 1) := by decide +kernel
theorem dX10_keyAt_34 : decode cX10_keyAt 34 = .ok (.iinc 3 1, 3) := by decide +kernel
theorem dX10_keyAt_37 : decode cX10_keyAt 37 = .ok (.goto (-35), 3) := by decide +kernel
theorem dX10_keyAt_40 : decode cX10_keyAt 40 = .ok (.iconst (-1), 1) := by decide +kernel
theorem dX10_keyAt_41 : decode cX10_keyAt 41 = .ok (.ireturn, 1) := by decide +kernel
theorem dX10_canGo_0 : decode cX10_canGo 0 = .ok (.aload_n 0, 1) := by decide +kernel
theorem dX10_canGo_1 : decode cX10_canGo 1 = .ok (.iload_n 1, 1) := by decide +kernel
theorem dX10_canGo_2 : decode cX10_canGo 2 = .ok (.bipush 6, 2) := by decide +kernel
theorem dX10_canGo_4 : decode cX10_canGo 4 = .ok (.invokevirtual 44, 3) := by decide +kernel
theorem dX10_canGo_7 : decode cX10_canGo 7 = .ok (.ifCond .ne 17, 3) := by decide +kernel
theorem dX10_canGo_10 : decode cX10_canGo 10 = .ok (.aload_n 0, 1) := by decide +kernel
theorem dX10_canGo_11 : decode cX10_canGo 11 = .ok (.iload_n 1, 1) := by decide +kernel
theorem dX10_canGo_12 : decode cX10_canGo 12 = .ok (.iconst 0, 1) := by decide +kernel
theorem dX10_canGo_13 : decode cX10_canGo 13 = .ok (.invokevirtual 44, 3) := by decide +kernel
theorem dX10_canGo_16 : decode cX10_canGo 16 = .ok (.iload_n 2, 1) := by decide +kernel
theorem dX10_canGo_17 : decode cX10_canGo 17 = .ok (.if_icmp .eq 7, 3) := by decide +kernel
theorem dX10_canGo_20 : decode cX10_canGo 20 = .ok (.iconst 1, 1) := by decide +kernel
theorem dX10_canGo_21 : decode cX10_canGo 21 = .ok (.goto 4, 3) := by decide +kernel
theorem dX10_canGo_24 : decode cX10_canGo 24 = .ok (.iconst 0, 1) := by decide +kernel
theorem dX10_canGo_25 : decode cX10_canGo 25 = .ok (.ireturn, 1) := by decide +kernel
theorem dX10_firstOf_0 : decode cX10_firstOf 0 = .ok (.iconst (-1), 1) := by decide +kernel
theorem dX10_firstOf_1 : decode cX10_firstOf 1 = .ok (.istore 4, 2) := by decide +kernel
theorem dX10_firstOf_3 : decode cX10_firstOf 3 = .ok (.iconst 0, 1) := by decide +kernel
theorem dX10_firstOf_4 : decode cX10_firstOf 4 = .ok (.istore 5, 2) := by decide +kernel
theorem dX10_firstOf_6 : decode cX10_firstOf 6 = .ok (.iload 5, 2) := by decide +kernel
theorem dX10_firstOf_8 : decode cX10_firstOf 8 = .ok (.aload_n 0, 1) := by decide +kernel
theorem dX10_firstOf_9 : decode cX10_firstOf 9 = .ok (.getfield 17, 3) := by decide +kernel
theorem dX10_firstOf_12 : decode cX10_firstOf 12 = .ok (.aload_n 0, 1) := by decide +kernel
theorem dX10_firstOf_13 : decode cX10_firstOf 13 = .ok (.getfield 41, 3) := by decide +kernel
theorem dX10_firstOf_16 : decode cX10_firstOf 16 = .ok (.iconst 0, 1) := by decide +kernel
theorem dX10_firstOf_17 : decode cX10_firstOf 17 = .ok (.iadd, 1) := by decide +kernel
theorem dX10_firstOf_18 : decode cX10_firstOf 18 = .ok (.iaload, 1) := by decide +kernel
theorem dX10_firstOf_19 : decode cX10_firstOf 19 = .ok (.if_icmp .ge 72, 3) := by decide +kernel
theorem dX10_firstOf_22 : decode cX10_firstOf 22 = .ok (.aload_n 0, 1) := by decide +kernel
theorem dX10_firstOf_23 : decode cX10_firstOf 23 = .ok (.iload 5, 2) := by decide +kernel
theorem dX10_firstOf_25 : decode cX10_firstOf 25 = .ok (.iload_n 3, 1) := by decide +kernel
theorem dX10_firstOf_26 : decode cX10_firstOf 26 = .ok (.invokevirtual 64, 3) := by decide +kernel
theorem dX10_firstOf_29 : decode cX10_firstOf 29 = .ok (.ifCond .eq 56, 3) := by decide +kernel
theorem dX10_firstOf_32 : decode cX10_firstOf 32 = .ok (.iload_n 2, 1) := by decide +kernel
theorem dX10_firstOf_33 : decode cX10_firstOf 33 = .ok (.iconst (-1), 1) := by decide +kernel
theorem dX10_firstOf_34 : decode cX10_firstOf 34 = .ok (.if_icmp .eq 29, 3) := by decide +kernel
theorem dX10_firstOf_37 : decode cX10_firstOf 37 = .ok (.aload_n 0, 1) := by decide +kernel
theorem dX10_firstOf_38 : decode cX10_firstOf 38 = .ok (.iload 5, 2) := by decide +kernel
theorem dX10_firstOf_40 : decode cX10_firstOf 40 = .ok (.iconst 3, 1) := by decide +kernel
theorem dX10_firstOf_41 : decode cX10_firstOf 41 = .ok (.invokevirtual 44, 3) := by decide +kernel
theorem dX10_firstOf_44 : decode cX10_firstOf 44 = .ok (.iconst 1, 1) := by decide +kernel
theorem dX10_firstOf_45 : decode cX10_firstOf 45 = .ok (.if_icmp .le 7, 3) := by decide +kernel
theorem dX10_firstOf_48 : decode cX10_firstOf 48 = .ok (.iconst 1, 1) := by decide +kernel
theorem dX10_firstOf_49 : decode cX10_firstOf 49 = .ok (.goto 4, 3) := by decide +kernel
theorem dX10_firstOf_52 : decode cX10_firstOf 52 = .ok (.iconst 0, 1) := by decide +kernel
theorem dX10_firstOf_53 : decode cX10_firstOf 53 = .ok (.invokestatic 57, 3) := by decide +kernel
theorem dX10_firstOf_56 : decode cX10_firstOf 56 = .ok (.iload_n 2, 1) := by decide +kernel
theorem dX10_firstOf_57 : decode cX10_firstOf 57 = .ok (.if_icmp .eq 6, 3) := by decide +kernel
theorem dX10_firstOf_60 : decode cX10_firstOf 60 = .ok (.goto 25, 3) := by decide +kernel
theorem dX10_firstOf_63 : decode cX10_firstOf 63 = .ok (.iload 4, 2) := by decide +kernel
theorem dX10_firstOf_65 : decode cX10_firstOf 65 = .ok (.iconst (-1), 1) := by decide +kernel
theorem dX10_firstOf_66 : decode cX10_firstOf 66 = .ok (.if_icmp .eq 15, 3) := by decide +kernel
theorem dX10_firstOf_69 : decode cX10_firstOf 69 = .ok (.aload_n 0, 1) := by decide +kernel
theorem dX10_firstOf_70 : decode cX10_firstOf 70 = .ok (.iload_n 1, 1) := by decide +kernel
theorem dX10_firstOf_71 : decode cX10_firstOf 71 = .ok (.iload 5, 2) := by decide +kernel
theorem dX10_firstOf_73 : decode cX10_firstOf 73 = .ok (.iload 4, 2) := by decide +kernel
theorem dX10_firstOf_75 : decode cX10_firstOf 75 = .ok (.invokevirtual 53, 3) := by decide +kernel
theorem dX10_firstOf_78 : decode cX10_firstOf 78 = .ok (.ifCond .eq 7, 3) := by decide +kernel
theorem dX10_firstOf_81 : decode cX10_firstOf 81 = .ok (.iload 5, 2) := by decide +kernel
theorem dX10_firstOf_83 : decode cX10_firstOf 83 = .ok (.istore 4, 2) := by decide +kernel
theorem dX10_firstOf_85 : decode cX10_firstOf 85 = .ok (.iinc 5 1, 3) := by decide +kernel
theorem dX10_firstOf_88 : decode cX10_firstOf 88 = .ok (.goto (-82), 3) := by decide +kernel
theorem dX10_firstOf_91 : decode cX10_firstOf 91 = .ok (.iload 4, 2) := by decide +kernel
theorem dX10_firstOf_93 : decode cX10_firstOf 93 = .ok (.ireturn, 1) := by decide +kernel
theorem dX10_heaviest_0 : decode cX10_heaviest 0 = .ok (.iconst (-1), 1) := by decide +kernel
theorem dX10_heaviest_1 : decode cX10_heaviest 1 = .ok (.istore_n 2, 1) := by decide +kernel
theorem dX10_heaviest_2 : decode cX10_heaviest 2 = .ok (.iconst 0, 1) := by decide +kernel
theorem dX10_heaviest_3 : decode cX10_heaviest 3 = .ok (.istore_n 3, 1) := by decide +kernel
theorem dX10_heaviest_4 : decode cX10_heaviest 4 = .ok (.iload_n 3, 1) := by decide +kernel
theorem dX10_heaviest_5 : decode cX10_heaviest 5 = .ok (.aload_n 0, 1) := by decide +kernel
theorem dX10_heaviest_6 : decode cX10_heaviest 6 = .ok (.getfield 17, 3) := by decide +kernel
theorem dX10_heaviest_9 : decode cX10_heaviest 9 = .ok (.aload_n 0, 1) := by decide +kernel
theorem dX10_heaviest_10 : decode cX10_heaviest 10 = .ok (.getfield 41, 3) := by decide +kernel
theorem dX10_heaviest_13 : decode cX10_heaviest 13 = .ok (.iconst 0, 1) := by decide +kernel
theorem dX10_heaviest_14 : decode cX10_heaviest 14 = .ok (.iadd, 1) := by decide +kernel
theorem dX10_heaviest_15 : decode cX10_heaviest 15 = .ok (.iaload, 1) := by decide +kernel
theorem dX10_heaviest_16 : decode cX10_heaviest 16 = .ok (.if_icmp .ge 68, 3) := by decide +kernel
theorem dX10_heaviest_19 : decode cX10_heaviest 19 = .ok (.aload_n 0, 1) := by decide +kernel
theorem dX10_heaviest_20 : decode cX10_heaviest 20 = .ok (.iload_n 3, 1) := by decide +kernel
theorem dX10_heaviest_21 : decode cX10_heaviest 21 = .ok (.iload_n 1, 1) := by decide +kernel
theorem dX10_heaviest_22 : decode cX10_heaviest 22 = .ok (.invokevirtual 64, 3) := by decide +kernel
theorem dX10_heaviest_25 : decode cX10_heaviest 25 = .ok (.ifCond .ne 6, 3) := by decide +kernel
theorem dX10_heaviest_28 : decode cX10_heaviest 28 = .ok (.goto 50, 3) := by decide +kernel
theorem dX10_heaviest_31 : decode cX10_heaviest 31 = .ok (.iload_n 2, 1) := by decide +kernel
theorem dX10_heaviest_32 : decode cX10_heaviest 32 = .ok (.iconst (-1), 1) := by decide +kernel
theorem dX10_heaviest_33 : decode cX10_heaviest 33 = .ok (.if_icmp .eq 43, 3) := by decide +kernel
theorem dX10_heaviest_36 : decode cX10_heaviest 36 = .ok (.aload_n 0, 1) := by decide +kernel
theorem dX10_heaviest_37 : decode cX10_heaviest 37 = .ok (.iload_n 3, 1) := by decide +kernel
theorem dX10_heaviest_38 : decode cX10_heaviest 38 = .ok (.iconst 2, 1) := by decide +kernel
theorem dX10_heaviest_39 : decode cX10_heaviest 39 = .ok (.invokevirtual 44, 3) := by decide +kernel
theorem dX10_heaviest_42 : decode cX10_heaviest 42 = .ok (.aload_n 0, 1) := by decide +kernel
theorem dX10_heaviest_43 : decode cX10_heaviest 43 = .ok (.iload_n 2, 1) := by decide +kernel
theorem dX10_heaviest_44 : decode cX10_heaviest 44 = .ok (.iconst 2, 1) := by decide +kernel
theorem dX10_heaviest_45 : decode cX10_heaviest 45 = .ok (.invokevirtual 44, 3) := by decide +kernel
theorem dX10_heaviest_48 : decode cX10_heaviest 48 = .ok (.if_icmp .gt 28, 3) := by decide +kernel
theorem dX10_heaviest_51 : decode cX10_heaviest 51 = .ok (.aload_n 0, 1) := by decide +kernel
theorem dX10_heaviest_52 : decode cX10_heaviest 52 = .ok (.iload_n 3, 1) := by decide +kernel
theorem dX10_heaviest_53 : decode cX10_heaviest 53 = .ok (.iconst 2, 1) := by decide +kernel
theorem dX10_heaviest_54 : decode cX10_heaviest 54 = .ok (.invokevirtual 44, 3) := by decide +kernel
theorem dX10_heaviest_57 : decode cX10_heaviest 57 = .ok (.aload_n 0, 1) := by decide +kernel
theorem dX10_heaviest_58 : decode cX10_heaviest 58 = .ok (.iload_n 2, 1) := by decide +kernel
theorem dX10_heaviest_59 : decode cX10_heaviest 59 = .ok (.iconst 2, 1) := by decide +kernel
theorem dX10_heaviest_60 : decode cX10_heaviest 60 = .ok (.invokevirtual 44, 3) := by decide +kernel
theorem dX10_heaviest_63 : decode cX10_heaviest 63 = .ok (.if_icmp .ne 15, 3) := by decide +kernel
theorem dX10_heaviest_66 : decode cX10_heaviest 66 = .ok (.aload_n 0, 1) := by decide +kernel
theorem dX10_heaviest_67 : decode cX10_heaviest 67 = .ok (.iconst 0, 1) := by decide +kernel
theorem dX10_heaviest_68 : decode cX10_heaviest 68 = .ok (.iload_n 3, 1) := by decide +kernel
theorem dX10_heaviest_69 : decode cX10_heaviest 69 = .ok (.iload_n 2, 1) := by decide +kernel
theorem dX10_heaviest_70 : decode cX10_heaviest 70 = .ok (.invokevirtual 53, 3) := by decide +kernel
theorem dX10_heaviest_73 : decode cX10_heaviest 73 = .ok (.ifCond .eq 5, 3) := by decide +kernel
theorem dX10_heaviest_76 : decode cX10_heaviest 76 = .ok (.iload_n 3, 1) := by decide +kernel
theorem dX10_heaviest_77 : decode cX10_heaviest 77 = .ok (.istore_n 2, 1) := by decide +kernel
theorem dX10_heaviest_78 : decode cX10_heaviest 78 = .ok (.iinc 3 1, 3) := by decide +kernel
theorem dX10_heaviest_81 : decode cX10_heaviest 81 = .ok (.goto (-77), 3) := by decide +kernel
theorem dX10_heaviest_84 : decode cX10_heaviest 84 = .ok (.iload_n 2, 1) := by decide +kernel
theorem dX10_heaviest_85 : decode cX10_heaviest 85 = .ok (.ireturn, 1) := by decide +kernel
theorem dX10_byBalance_0 : decode cX10_byBalance 0 = .ok (.iconst 0, 1) := by decide +kernel
theorem dX10_byBalance_1 : decode cX10_byBalance 1 = .ok (.istore_n 2, 1) := by decide +kernel
theorem dX10_byBalance_2 : decode cX10_byBalance 2 = .ok (.iconst 0, 1) := by decide +kernel
theorem dX10_byBalance_3 : decode cX10_byBalance 3 = .ok (.istore_n 3, 1) := by decide +kernel
theorem dX10_byBalance_4 : decode cX10_byBalance 4 = .ok (.iload_n 3, 1) := by decide +kernel
theorem dX10_byBalance_5 : decode cX10_byBalance 5 = .ok (.aload_n 0, 1) := by decide +kernel
theorem dX10_byBalance_6 : decode cX10_byBalance 6 = .ok (.getfield 17, 3) := by decide +kernel
theorem dX10_byBalance_9 : decode cX10_byBalance 9 = .ok (.aload_n 0, 1) := by decide +kernel
theorem dX10_byBalance_10 : decode cX10_byBalance 10 = .ok (.getfield 41, 3) := by decide +kernel
theorem dX10_byBalance_13 : decode cX10_byBalance 13 = .ok (.iconst 0, 1) := by decide +kernel
theorem dX10_byBalance_14 : decode cX10_byBalance 14 = .ok (.iadd, 1) := by decide +kernel
theorem dX10_byBalance_15 : decode cX10_byBalance 15 = .ok (.iaload, 1) := by decide +kernel
theorem dX10_byBalance_16 : decode cX10_byBalance 16 = .ok (.if_icmp .ge 32, 3) := by decide +kernel
theorem dX10_byBalance_19 : decode cX10_byBalance 19 = .ok (.iload_n 2, 1) := by decide +kernel
theorem dX10_byBalance_20 : decode cX10_byBalance 20 = .ok (.aload_n 0, 1) := by decide +kernel
theorem dX10_byBalance_21 : decode cX10_byBalance 21 = .ok (.iload_n 3, 1) := by decide +kernel
theorem dX10_byBalance_22 : decode cX10_byBalance 22 = .ok (.iconst 3, 1) := by decide +kernel
theorem dX10_byBalance_23 : decode cX10_byBalance 23 = .ok (.invokevirtual 44, 3) := by decide +kernel
theorem dX10_byBalance_26 : decode cX10_byBalance 26 = .ok (.iconst 1, 1) := by decide +kernel
theorem dX10_byBalance_27 : decode cX10_byBalance 27 = .ok (.if_icmp .ne 12, 3) := by decide +kernel
theorem dX10_byBalance_30 : decode cX10_byBalance 30 = .ok (.aload_n 0, 1) := by decide +kernel
theorem dX10_byBalance_31 : decode cX10_byBalance 31 = .ok (.iload_n 3, 1) := by decide +kernel
theorem dX10_byBalance_32 : decode cX10_byBalance 32 = .ok (.iconst 2, 1) := by decide +kernel
theorem dX10_byBalance_33 : decode cX10_byBalance 33 = .ok (.invokevirtual 44, 3) := by decide +kernel
theorem dX10_byBalance_36 : decode cX10_byBalance 36 = .ok (.goto 4, 3) := by decide +kernel
theorem dX10_byBalance_39 : decode cX10_byBalance 39 = .ok (.iconst 0, 1) := by decide +kernel
theorem dX10_byBalance_40 : decode cX10_byBalance 40 = .ok (.iadd, 1) := by decide +kernel
theorem dX10_byBalance_41 : decode cX10_byBalance 41 = .ok (.istore_n 2, 1) := by decide +kernel
theorem dX10_byBalance_42 : decode cX10_byBalance 42 = .ok (.iinc 3 1, 3) := by decide +kernel
theorem dX10_byBalance_45 : decode cX10_byBalance 45 = .ok (.goto (-41), 3) := by decide +kernel
theorem dX10_byBalance_48 : decode cX10_byBalance 48 = .ok (.iload_n 2, 1) := by decide +kernel
theorem dX10_byBalance_49 : decode cX10_byBalance 49 = .ok (.aload_n 0, 1) := by decide +kernel
theorem dX10_byBalance_50 : decode cX10_byBalance 50 = .ok (.getfield 17, 3) := by decide +kernel
theorem dX10_byBalance_53 : decode cX10_byBalance 53 = .ok (.aload_n 0, 1) := by decide +kernel
theorem dX10_byBalance_54 : decode cX10_byBalance 54 = .ok (.getfield 41, 3) := by decide +kernel
theorem dX10_byBalance_57 : decode cX10_byBalance 57 = .ok (.iconst 3, 1) := by decide +kernel
theorem dX10_byBalance_58 : decode cX10_byBalance 58 = .ok (.iadd, 1) := by decide +kernel
theorem dX10_byBalance_59 : decode cX10_byBalance 59 = .ok (.iaload, 1) := by decide +kernel
theorem dX10_byBalance_60 : decode cX10_byBalance 60 = .ok (.if_icmp .le 7, 3) := by decide +kernel
theorem dX10_byBalance_63 : decode cX10_byBalance 63 = .ok (.iconst 0, 1) := by decide +kernel
theorem dX10_byBalance_64 : decode cX10_byBalance 64 = .ok (.goto 4, 3) := by decide +kernel
theorem dX10_byBalance_67 : decode cX10_byBalance 67 = .ok (.iconst 1, 1) := by decide +kernel
theorem dX10_byBalance_68 : decode cX10_byBalance 68 = .ok (.istore_n 3, 1) := by decide +kernel
theorem dX10_byBalance_69 : decode cX10_byBalance 69 = .ok (.aload_n 0, 1) := by decide +kernel
theorem dX10_byBalance_70 : decode cX10_byBalance 70 = .ok (.iconst 0, 1) := by decide +kernel
theorem dX10_byBalance_71 : decode cX10_byBalance 71 = .ok (.iload_n 3, 1) := by decide +kernel
theorem dX10_byBalance_72 : decode cX10_byBalance 72 = .ok (.iload_n 1, 1) := by decide +kernel
theorem dX10_byBalance_73 : decode cX10_byBalance 73 = .ok (.invokevirtual 68, 3) := by decide +kernel
theorem dX10_byBalance_76 : decode cX10_byBalance 76 = .ok (.istore 4, 2) := by decide +kernel
theorem dX10_byBalance_78 : decode cX10_byBalance 78 = .ok (.iload 4, 2) := by decide +kernel
theorem dX10_byBalance_80 : decode cX10_byBalance 80 = .ok (.iconst (-1), 1) := by decide +kernel
theorem dX10_byBalance_81 : decode cX10_byBalance 81 = .ok (.if_icmp .eq 8, 3) := by decide +kernel
theorem dX10_byBalance_84 : decode cX10_byBalance 84 = .ok (.iload 4, 2) := by decide +kernel
theorem dX10_byBalance_86 : decode cX10_byBalance 86 = .ok (.goto 12, 3) := by decide +kernel
theorem dX10_byBalance_89 : decode cX10_byBalance 89 = .ok (.aload_n 0, 1) := by decide +kernel
theorem dX10_byBalance_90 : decode cX10_byBalance 90 = .ok (.iconst 0, 1) := by decide +kernel
theorem dX10_byBalance_91 : decode cX10_byBalance 91 = .ok (.iconst 1, 1) := by decide +kernel
theorem dX10_byBalance_92 : decode cX10_byBalance 92 = .ok (.iload_n 3, 1) := by decide +kernel
theorem dX10_byBalance_93 : decode cX10_byBalance 93 = .ok (.isub, 1) := by decide +kernel
theorem dX10_byBalance_94 : decode cX10_byBalance 94 = .ok (.iload_n 1, 1) := by decide +kernel
theorem dX10_byBalance_95 : decode cX10_byBalance 95 = .ok (.invokevirtual 68, 3) := by decide +kernel
theorem dX10_byBalance_98 : decode cX10_byBalance 98 = .ok (.ireturn, 1) := by decide +kernel
theorem dX10_chosen_0 : decode cX10_chosen 0 = .ok (.iload_n 1, 1) := by decide +kernel
theorem dX10_chosen_1 : decode cX10_chosen 1 = .ok (.tableswitch 74 0 3 #[31, 39, 47, 68], 31) := by decide +kernel
theorem dX10_chosen_32 : decode cX10_chosen 32 = .ok (.aload_n 0, 1) := by decide +kernel
theorem dX10_chosen_33 : decode cX10_chosen 33 = .ok (.iconst 0, 1) := by decide +kernel
theorem dX10_chosen_34 : decode cX10_chosen 34 = .ok (.iconst (-1), 1) := by decide +kernel
theorem dX10_chosen_35 : decode cX10_chosen 35 = .ok (.iload_n 2, 1) := by decide +kernel
theorem dX10_chosen_36 : decode cX10_chosen 36 = .ok (.invokevirtual 68, 3) := by decide +kernel
theorem dX10_chosen_39 : decode cX10_chosen 39 = .ok (.ireturn, 1) := by decide +kernel
theorem dX10_chosen_40 : decode cX10_chosen 40 = .ok (.aload_n 0, 1) := by decide +kernel
theorem dX10_chosen_41 : decode cX10_chosen 41 = .ok (.iconst 1, 1) := by decide +kernel
theorem dX10_chosen_42 : decode cX10_chosen 42 = .ok (.iconst (-1), 1) := by decide +kernel
theorem dX10_chosen_43 : decode cX10_chosen 43 = .ok (.iload_n 2, 1) := by decide +kernel
theorem dX10_chosen_44 : decode cX10_chosen 44 = .ok (.invokevirtual 68, 3) := by decide +kernel
theorem dX10_chosen_47 : decode cX10_chosen 47 = .ok (.ireturn, 1) := by decide +kernel
theorem dX10_chosen_48 : decode cX10_chosen 48 = .ok (.aload_n 0, 1) := by decide +kernel
theorem dX10_chosen_49 : decode cX10_chosen 49 = .ok (.aload_n 0, 1) := by decide +kernel
theorem dX10_chosen_50 : decode cX10_chosen 50 = .ok (.getfield 17, 3) := by decide +kernel
theorem dX10_chosen_53 : decode cX10_chosen 53 = .ok (.aload_n 0, 1) := by decide +kernel
theorem dX10_chosen_54 : decode cX10_chosen 54 = .ok (.getfield 41, 3) := by decide +kernel
theorem dX10_chosen_57 : decode cX10_chosen 57 = .ok (.bipush 16, 2) := by decide +kernel
theorem dX10_chosen_59 : decode cX10_chosen 59 = .ok (.iadd, 1) := by decide +kernel
theorem dX10_chosen_60 : decode cX10_chosen 60 = .ok (.iaload, 1) := by decide +kernel
theorem dX10_chosen_61 : decode cX10_chosen 61 = .ok (.iconst 2, 1) := by decide +kernel
theorem dX10_chosen_62 : decode cX10_chosen 62 = .ok (.irem, 1) := by decide +kernel
theorem dX10_chosen_63 : decode cX10_chosen 63 = .ok (.iconst (-1), 1) := by decide +kernel
theorem dX10_chosen_64 : decode cX10_chosen 64 = .ok (.iload_n 2, 1) := by decide +kernel
theorem dX10_chosen_65 : decode cX10_chosen 65 = .ok (.invokevirtual 68, 3) := by decide +kernel
theorem dX10_chosen_68 : decode cX10_chosen 68 = .ok (.ireturn, 1) := by decide +kernel
theorem dX10_chosen_69 : decode cX10_chosen 69 = .ok (.aload_n 0, 1) := by decide +kernel
theorem dX10_chosen_70 : decode cX10_chosen 70 = .ok (.iload_n 2, 1) := by decide +kernel
theorem dX10_chosen_71 : decode cX10_chosen 71 = .ok (.invokevirtual 72, 3) := by decide +kernel
theorem dX10_chosen_74 : decode cX10_chosen 74 = .ok (.ireturn, 1) := by decide +kernel
theorem dX10_chosen_75 : decode cX10_chosen 75 = .ok (.aload_n 0, 1) := by decide +kernel
theorem dX10_chosen_76 : decode cX10_chosen 76 = .ok (.iload_n 2, 1) := by decide +kernel
theorem dX10_chosen_77 : decode cX10_chosen 77 = .ok (.invokevirtual 76, 3) := by decide +kernel
theorem dX10_chosen_80 : decode cX10_chosen 80 = .ok (.ireturn, 1) := by decide +kernel
theorem dX10_ghostAt_0 : decode cX10_ghostAt 0 = .ok (.aload_n 0, 1) := by decide +kernel
theorem dX10_ghostAt_1 : decode cX10_ghostAt 1 = .ok (.getfield 41, 3) := by decide +kernel
theorem dX10_ghostAt_4 : decode cX10_ghostAt 4 = .ok (.sipush 444, 3) := by decide +kernel
theorem dX10_ghostAt_7 : decode cX10_ghostAt 7 = .ok (.iadd, 1) := by decide +kernel
theorem dX10_ghostAt_8 : decode cX10_ghostAt 8 = .ok (.bipush 16, 2) := by decide +kernel
theorem dX10_ghostAt_10 : decode cX10_ghostAt 10 = .ok (.iload_n 1, 1) := by decide +kernel
theorem dX10_ghostAt_11 : decode cX10_ghostAt 11 = .ok (.imul, 1) := by decide +kernel
theorem dX10_ghostAt_12 : decode cX10_ghostAt 12 = .ok (.iadd, 1) := by decide +kernel
theorem dX10_ghostAt_13 : decode cX10_ghostAt 13 = .ok (.iload_n 2, 1) := by decide +kernel
theorem dX10_ghostAt_14 : decode cX10_ghostAt 14 = .ok (.iadd, 1) := by decide +kernel
theorem dX10_ghostAt_15 : decode cX10_ghostAt 15 = .ok (.ireturn, 1) := by decide +kernel
theorem dX10_ghostOf_0 : decode cX10_ghostOf 0 = .ok (.iconst 0, 1) := by decide +kernel
theorem dX10_ghostOf_1 : decode cX10_ghostOf 1 = .ok (.istore_n 3, 1) := by decide +kernel
theorem dX10_ghostOf_2 : decode cX10_ghostOf 2 = .ok (.iload_n 3, 1) := by decide +kernel
theorem dX10_ghostOf_3 : decode cX10_ghostOf 3 = .ok (.aload_n 0, 1) := by decide +kernel
theorem dX10_ghostOf_4 : decode cX10_ghostOf 4 = .ok (.getfield 17, 3) := by decide +kernel
theorem dX10_ghostOf_7 : decode cX10_ghostOf 7 = .ok (.aload_n 0, 1) := by decide +kernel
theorem dX10_ghostOf_8 : decode cX10_ghostOf 8 = .ok (.getfield 41, 3) := by decide +kernel
theorem dX10_ghostOf_11 : decode cX10_ghostOf 11 = .ok (.bipush 19, 2) := by decide +kernel
theorem dX10_ghostOf_13 : decode cX10_ghostOf 13 = .ok (.iadd, 1) := by decide +kernel
theorem dX10_ghostOf_14 : decode cX10_ghostOf 14 = .ok (.iload_n 1, 1) := by decide +kernel
theorem dX10_ghostOf_15 : decode cX10_ghostOf 15 = .ok (.iadd, 1) := by decide +kernel
theorem dX10_ghostOf_16 : decode cX10_ghostOf 16 = .ok (.iaload, 1) := by decide +kernel
theorem dX10_ghostOf_17 : decode cX10_ghostOf 17 = .ok (.if_icmp .ge 26, 3) := by decide +kernel
theorem dX10_ghostOf_20 : decode cX10_ghostOf 20 = .ok (.aload_n 0, 1) := by decide +kernel
theorem dX10_ghostOf_21 : decode cX10_ghostOf 21 = .ok (.getfield 17, 3) := by decide +kernel
theorem dX10_ghostOf_24 : decode cX10_ghostOf 24 = .ok (.aload_n 0, 1) := by decide +kernel
theorem dX10_ghostOf_25 : decode cX10_ghostOf 25 = .ok (.iload_n 1, 1) := by decide +kernel
theorem dX10_ghostOf_26 : decode cX10_ghostOf 26 = .ok (.iload_n 3, 1) := by decide +kernel
theorem dX10_ghostOf_27 : decode cX10_ghostOf 27 = .ok (.invokevirtual 79, 3) := by decide +kernel
theorem dX10_ghostOf_30 : decode cX10_ghostOf 30 = .ok (.iaload, 1) := by decide +kernel
theorem dX10_ghostOf_31 : decode cX10_ghostOf 31 = .ok (.iload_n 2, 1) := by decide +kernel
theorem dX10_ghostOf_32 : decode cX10_ghostOf 32 = .ok (.if_icmp .ne 5, 3) := by decide +kernel
theorem dX10_ghostOf_35 : decode cX10_ghostOf 35 = .ok (.iload_n 3, 1) := by decide +kernel
theorem dX10_ghostOf_36 : decode cX10_ghostOf 36 = .ok (.ireturn, 1) := by decide +kernel
theorem dX10_ghostOf_37 : decode cX10_ghostOf 37 = .ok (.iinc 3 1, 3) := by decide +kernel
theorem dX10_ghostOf_40 : decode cX10_ghostOf 40 = .ok (.goto (-38), 3) := by decide +kernel
theorem dX10_ghostOf_43 : decode cX10_ghostOf 43 = .ok (.iconst (-1), 1) := by decide +kernel
theorem dX10_ghostOf_44 : decode cX10_ghostOf 44 = .ok (.ireturn, 1) := by decide +kernel
theorem dX10_noGhost_0 : decode cX10_noGhost 0 = .ok (.aload_n 0, 1) := by decide +kernel
theorem dX10_noGhost_1 : decode cX10_noGhost 1 = .ok (.iload_n 1, 1) := by decide +kernel
theorem dX10_noGhost_2 : decode cX10_noGhost 2 = .ok (.iload_n 2, 1) := by decide +kernel
theorem dX10_noGhost_3 : decode cX10_noGhost 3 = .ok (.invokevirtual 82, 3) := by decide +kernel
theorem dX10_noGhost_6 : decode cX10_noGhost 6 = .ok (.istore_n 3, 1) := by decide +kernel
theorem dX10_noGhost_7 : decode cX10_noGhost 7 = .ok (.iload_n 3, 1) := by decide +kernel
theorem dX10_noGhost_8 : decode cX10_noGhost 8 = .ok (.iconst (-1), 1) := by decide +kernel
theorem dX10_noGhost_9 : decode cX10_noGhost 9 = .ok (.if_icmp .ne 4, 3) := by decide +kernel
theorem dX10_noGhost_12 : decode cX10_noGhost 12 = .ok (.return_, 1) := by decide +kernel
theorem dX10_noGhost_13 : decode cX10_noGhost 13 = .ok (.aload_n 0, 1) := by decide +kernel
theorem dX10_noGhost_14 : decode cX10_noGhost 14 = .ok (.getfield 17, 3) := by decide +kernel
theorem dX10_noGhost_17 : decode cX10_noGhost 17 = .ok (.aload_n 0, 1) := by decide +kernel
theorem dX10_noGhost_18 : decode cX10_noGhost 18 = .ok (.getfield 41, 3) := by decide +kernel
theorem dX10_noGhost_21 : decode cX10_noGhost 21 = .ok (.bipush 19, 2) := by decide +kernel
theorem dX10_noGhost_23 : decode cX10_noGhost 23 = .ok (.iadd, 1) := by decide +kernel
theorem dX10_noGhost_24 : decode cX10_noGhost 24 = .ok (.iload_n 1, 1) := by decide +kernel
theorem dX10_noGhost_25 : decode cX10_noGhost 25 = .ok (.iadd, 1) := by decide +kernel
theorem dX10_noGhost_26 : decode cX10_noGhost 26 = .ok (.dup2, 1) := by decide +kernel
theorem dX10_noGhost_27 : decode cX10_noGhost 27 = .ok (.iaload, 1) := by decide +kernel
theorem dX10_noGhost_28 : decode cX10_noGhost 28 = .ok (.iconst 1, 1) := by decide +kernel
theorem dX10_noGhost_29 : decode cX10_noGhost 29 = .ok (.isub, 1) := by decide +kernel
theorem dX10_noGhost_30 : decode cX10_noGhost 30 = .ok (.iastore, 1) := by decide +kernel
theorem dX10_noGhost_31 : decode cX10_noGhost 31 = .ok (.iload_n 3, 1) := by decide +kernel
theorem dX10_noGhost_32 : decode cX10_noGhost 32 = .ok (.istore 4, 2) := by decide +kernel
theorem dX10_noGhost_34 : decode cX10_noGhost 34 = .ok (.iload 4, 2) := by decide +kernel
theorem dX10_noGhost_36 : decode cX10_noGhost 36 = .ok (.aload_n 0, 1) := by decide +kernel
theorem dX10_noGhost_37 : decode cX10_noGhost 37 = .ok (.getfield 17, 3) := by decide +kernel
theorem dX10_noGhost_40 : decode cX10_noGhost 40 = .ok (.aload_n 0, 1) := by decide +kernel
theorem dX10_noGhost_41 : decode cX10_noGhost 41 = .ok (.getfield 41, 3) := by decide +kernel
theorem dX10_noGhost_44 : decode cX10_noGhost 44 = .ok (.bipush 19, 2) := by decide +kernel
theorem dX10_noGhost_46 : decode cX10_noGhost 46 = .ok (.iadd, 1) := by decide +kernel
theorem dX10_noGhost_47 : decode cX10_noGhost 47 = .ok (.iload_n 1, 1) := by decide +kernel
theorem dX10_noGhost_48 : decode cX10_noGhost 48 = .ok (.iadd, 1) := by decide +kernel
theorem dX10_noGhost_49 : decode cX10_noGhost 49 = .ok (.iaload, 1) := by decide +kernel
theorem dX10_noGhost_50 : decode cX10_noGhost 50 = .ok (.if_icmp .ge 35, 3) := by decide +kernel
theorem dX10_noGhost_53 : decode cX10_noGhost 53 = .ok (.aload_n 0, 1) := by decide +kernel
theorem dX10_noGhost_54 : decode cX10_noGhost 54 = .ok (.getfield 17, 3) := by decide +kernel
theorem dX10_noGhost_57 : decode cX10_noGhost 57 = .ok (.aload_n 0, 1) := by decide +kernel
theorem dX10_noGhost_58 : decode cX10_noGhost 58 = .ok (.iload_n 1, 1) := by decide +kernel
theorem dX10_noGhost_59 : decode cX10_noGhost 59 = .ok (.iload 4, 2) := by decide +kernel
theorem dX10_noGhost_61 : decode cX10_noGhost 61 = .ok (.invokevirtual 79, 3) := by decide +kernel
theorem dX10_noGhost_64 : decode cX10_noGhost 64 = .ok (.aload_n 0, 1) := by decide +kernel
theorem dX10_noGhost_65 : decode cX10_noGhost 65 = .ok (.getfield 17, 3) := by decide +kernel
theorem dX10_noGhost_68 : decode cX10_noGhost 68 = .ok (.aload_n 0, 1) := by decide +kernel
theorem dX10_noGhost_69 : decode cX10_noGhost 69 = .ok (.iload_n 1, 1) := by decide +kernel
theorem dX10_noGhost_70 : decode cX10_noGhost 70 = .ok (.iload 4, 2) := by decide +kernel
theorem dX10_noGhost_72 : decode cX10_noGhost 72 = .ok (.iconst 1, 1) := by decide +kernel
theorem dX10_noGhost_73 : decode cX10_noGhost 73 = .ok (.iadd, 1) := by decide +kernel
theorem dX10_noGhost_74 : decode cX10_noGhost 74 = .ok (.invokevirtual 79, 3) := by decide +kernel
theorem dX10_noGhost_77 : decode cX10_noGhost 77 = .ok (.iaload, 1) := by decide +kernel
theorem dX10_noGhost_78 : decode cX10_noGhost 78 = .ok (.iastore, 1) := by decide +kernel
theorem dX10_noGhost_79 : decode cX10_noGhost 79 = .ok (.iinc 4 1, 3) := by decide +kernel
theorem dX10_noGhost_82 : decode cX10_noGhost 82 = .ok (.goto (-48), 3) := by decide +kernel
theorem dX10_noGhost_85 : decode cX10_noGhost 85 = .ok (.return_, 1) := by decide +kernel
theorem dX10_isGhost_0 : decode cX10_isGhost 0 = .ok (.aload_n 0, 1) := by decide +kernel
theorem dX10_isGhost_1 : decode cX10_isGhost 1 = .ok (.iconst 0, 1) := by decide +kernel
theorem dX10_isGhost_2 : decode cX10_isGhost 2 = .ok (.iload_n 2, 1) := by decide +kernel
theorem dX10_isGhost_3 : decode cX10_isGhost 3 = .ok (.invokevirtual 85, 3) := by decide +kernel
theorem dX10_isGhost_6 : decode cX10_isGhost 6 = .ok (.aload_n 0, 1) := by decide +kernel
theorem dX10_isGhost_7 : decode cX10_isGhost 7 = .ok (.iconst 1, 1) := by decide +kernel
theorem dX10_isGhost_8 : decode cX10_isGhost 8 = .ok (.iload_n 2, 1) := by decide +kernel
theorem dX10_isGhost_9 : decode cX10_isGhost 9 = .ok (.invokevirtual 85, 3) := by decide +kernel
theorem dX10_isGhost_12 : decode cX10_isGhost 12 = .ok (.aload_n 0, 1) := by decide +kernel
theorem dX10_isGhost_13 : decode cX10_isGhost 13 = .ok (.getfield 17, 3) := by decide +kernel
theorem dX10_isGhost_16 : decode cX10_isGhost 16 = .ok (.aload_n 0, 1) := by decide +kernel
theorem dX10_isGhost_17 : decode cX10_isGhost 17 = .ok (.getfield 41, 3) := by decide +kernel
theorem dX10_isGhost_20 : decode cX10_isGhost 20 = .ok (.bipush 19, 2) := by decide +kernel
theorem dX10_isGhost_22 : decode cX10_isGhost 22 = .ok (.iadd, 1) := by decide +kernel
theorem dX10_isGhost_23 : decode cX10_isGhost 23 = .ok (.iload_n 1, 1) := by decide +kernel
theorem dX10_isGhost_24 : decode cX10_isGhost 24 = .ok (.iadd, 1) := by decide +kernel
theorem dX10_isGhost_25 : decode cX10_isGhost 25 = .ok (.bipush 16, 2) := by decide +kernel
theorem dX10_isGhost_27 : decode cX10_isGhost 27 = .ok (.aload_n 0, 1) := by decide +kernel
theorem dX10_isGhost_28 : decode cX10_isGhost 28 = .ok (.getfield 17, 3) := by decide +kernel
theorem dX10_isGhost_31 : decode cX10_isGhost 31 = .ok (.aload_n 0, 1) := by decide +kernel
theorem dX10_isGhost_32 : decode cX10_isGhost 32 = .ok (.getfield 41, 3) := by decide +kernel
theorem dX10_isGhost_35 : decode cX10_isGhost 35 = .ok (.bipush 19, 2) := by decide +kernel
theorem dX10_isGhost_37 : decode cX10_isGhost 37 = .ok (.iadd, 1) := by decide +kernel
theorem dX10_isGhost_38 : decode cX10_isGhost 38 = .ok (.iload_n 1, 1) := by decide +kernel
theorem dX10_isGhost_39 : decode cX10_isGhost 39 = .ok (.iadd, 1) := by decide +kernel
theorem dX10_isGhost_40 : decode cX10_isGhost 40 = .ok (.iaload, 1) := by decide +kernel
theorem dX10_isGhost_41 : decode cX10_isGhost 41 = .ok (.iconst 1, 1) := by decide +kernel
theorem dX10_isGhost_42 : decode cX10_isGhost 42 = .ok (.iadd, 1) := by decide +kernel
theorem dX10_isGhost_43 : decode cX10_isGhost 43 = .ok (.invokestatic 7, 3) := by decide +kernel
theorem dX10_isGhost_46 : decode cX10_isGhost 46 = .ok (.iastore, 1) := by decide +kernel
theorem dX10_isGhost_47 : decode cX10_isGhost 47 = .ok (.aload_n 0, 1) := by decide +kernel
theorem dX10_isGhost_48 : decode cX10_isGhost 48 = .ok (.getfield 17, 3) := by decide +kernel
theorem dX10_isGhost_51 : decode cX10_isGhost 51 = .ok (.aload_n 0, 1) := by decide +kernel
theorem dX10_isGhost_52 : decode cX10_isGhost 52 = .ok (.getfield 41, 3) := by decide +kernel
theorem dX10_isGhost_55 : decode cX10_isGhost 55 = .ok (.bipush 19, 2) := by decide +kernel
theorem dX10_isGhost_57 : decode cX10_isGhost 57 = .ok (.iadd, 1) := by decide +kernel
theorem dX10_isGhost_58 : decode cX10_isGhost 58 = .ok (.iload_n 1, 1) := by decide +kernel
theorem dX10_isGhost_59 : decode cX10_isGhost 59 = .ok (.iadd, 1) := by decide +kernel
theorem dX10_isGhost_60 : decode cX10_isGhost 60 = .ok (.iaload, 1) := by decide +kernel
theorem dX10_isGhost_61 : decode cX10_isGhost 61 = .ok (.iconst 1, 1) := by decide +kernel
theorem dX10_isGhost_62 : decode cX10_isGhost 62 = .ok (.isub, 1) := by decide +kernel
theorem dX10_isGhost_63 : decode cX10_isGhost 63 = .ok (.istore_n 3, 1) := by decide +kernel
theorem dX10_isGhost_64 : decode cX10_isGhost 64 = .ok (.iload_n 3, 1) := by decide +kernel
theorem dX10_isGhost_65 : decode cX10_isGhost 65 = .ok (.ifCond .le 33, 3) := by decide +kernel
theorem dX10_isGhost_68 : decode cX10_isGhost 68 = .ok (.aload_n 0, 1) := by decide +kernel
theorem dX10_isGhost_69 : decode cX10_isGhost 69 = .ok (.getfield 17, 3) := by decide +kernel
theorem dX10_isGhost_72 : decode cX10_isGhost 72 = .ok (.aload_n 0, 1) := by decide +kernel
theorem dX10_isGhost_73 : decode cX10_isGhost 73 = .ok (.iload_n 1, 1) := by decide +kernel
theorem dX10_isGhost_74 : decode cX10_isGhost 74 = .ok (.iload_n 3, 1) := by decide +kernel
theorem dX10_isGhost_75 : decode cX10_isGhost 75 = .ok (.invokevirtual 79, 3) := by decide +kernel
theorem dX10_isGhost_78 : decode cX10_isGhost 78 = .ok (.aload_n 0, 1) := by decide +kernel
theorem dX10_isGhost_79 : decode cX10_isGhost 79 = .ok (.getfield 17, 3) := by decide +kernel
theorem dX10_isGhost_82 : decode cX10_isGhost 82 = .ok (.aload_n 0, 1) := by decide +kernel
theorem dX10_isGhost_83 : decode cX10_isGhost 83 = .ok (.iload_n 1, 1) := by decide +kernel
theorem dX10_isGhost_84 : decode cX10_isGhost 84 = .ok (.iload_n 3, 1) := by decide +kernel
theorem dX10_isGhost_85 : decode cX10_isGhost 85 = .ok (.iconst 1, 1) := by decide +kernel
theorem dX10_isGhost_86 : decode cX10_isGhost 86 = .ok (.isub, 1) := by decide +kernel
theorem dX10_isGhost_87 : decode cX10_isGhost 87 = .ok (.invokevirtual 79, 3) := by decide +kernel
theorem dX10_isGhost_90 : decode cX10_isGhost 90 = .ok (.iaload, 1) := by decide +kernel
theorem dX10_isGhost_91 : decode cX10_isGhost 91 = .ok (.iastore, 1) := by decide +kernel
theorem dX10_isGhost_92 : decode cX10_isGhost 92 = .ok (.iinc 3 (-1), 3) := by decide +kernel
theorem dX10_isGhost_95 : decode cX10_isGhost 95 = .ok (.goto (-31), 3) := by decide +kernel
theorem dX10_isGhost_98 : decode cX10_isGhost 98 = .ok (.aload_n 0, 1) := by decide +kernel
theorem dX10_isGhost_99 : decode cX10_isGhost 99 = .ok (.getfield 17, 3) := by decide +kernel
theorem dX10_isGhost_102 : decode cX10_isGhost 102 = .ok (.aload_n 0, 1) := by decide +kernel
theorem dX10_isGhost_103 : decode cX10_isGhost 103 = .ok (.iload_n 1, 1) := by decide +kernel
theorem dX10_isGhost_104 : decode cX10_isGhost 104 = .ok (.iconst 0, 1) := by decide +kernel
theorem dX10_isGhost_105 : decode cX10_isGhost 105 = .ok (.invokevirtual 79, 3) := by decide +kernel
theorem dX10_isGhost_108 : decode cX10_isGhost 108 = .ok (.iload_n 2, 1) := by decide +kernel
theorem dX10_isGhost_109 : decode cX10_isGhost 109 = .ok (.iastore, 1) := by decide +kernel
theorem dX10_isGhost_110 : decode cX10_isGhost 110 = .ok (.return_, 1) := by decide +kernel
theorem dX10_evicts_0 : decode cX10_evicts 0 = .ok (.aload_n 0, 1) := by decide +kernel
theorem dX10_evicts_1 : decode cX10_evicts 1 = .ok (.getfield 17, 3) := by decide +kernel
theorem dX10_evicts_4 : decode cX10_evicts 4 = .ok (.aload_n 0, 1) := by decide +kernel
theorem dX10_evicts_5 : decode cX10_evicts 5 = .ok (.getfield 41, 3) := by decide +kernel
theorem dX10_evicts_8 : decode cX10_evicts 8 = .ok (.iconst 2, 1) := by decide +kernel
theorem dX10_evicts_9 : decode cX10_evicts 9 = .ok (.iadd, 1) := by decide +kernel
theorem dX10_evicts_10 : decode cX10_evicts 10 = .ok (.iaload, 1) := by decide +kernel
theorem dX10_evicts_11 : decode cX10_evicts 11 = .ok (.istore_n 2, 1) := by decide +kernel
theorem dX10_evicts_12 : decode cX10_evicts 12 = .ok (.aload_n 0, 1) := by decide +kernel
theorem dX10_evicts_13 : decode cX10_evicts 13 = .ok (.iload_n 2, 1) := by decide +kernel
theorem dX10_evicts_14 : decode cX10_evicts 14 = .ok (.iload_n 1, 1) := by decide +kernel
theorem dX10_evicts_15 : decode cX10_evicts 15 = .ok (.invokevirtual 88, 3) := by decide +kernel
theorem dX10_evicts_18 : decode cX10_evicts 18 = .ok (.istore_n 3, 1) := by decide +kernel
theorem dX10_evicts_19 : decode cX10_evicts 19 = .ok (.iload_n 3, 1) := by decide +kernel
theorem dX10_evicts_20 : decode cX10_evicts 20 = .ok (.iconst (-1), 1) := by decide +kernel
theorem dX10_evicts_21 : decode cX10_evicts 21 = .ok (.if_icmp .ne 5, 3) := by decide +kernel
theorem dX10_evicts_24 : decode cX10_evicts 24 = .ok (.iconst 0, 1) := by decide +kernel
theorem dX10_evicts_25 : decode cX10_evicts 25 = .ok (.ireturn, 1) := by decide +kernel
theorem dX10_evicts_26 : decode cX10_evicts 26 = .ok (.aload_n 0, 1) := by decide +kernel
theorem dX10_evicts_27 : decode cX10_evicts 27 = .ok (.iconst 2, 1) := by decide +kernel
theorem dX10_evicts_28 : decode cX10_evicts 28 = .ok (.aload_n 0, 1) := by decide +kernel
theorem dX10_evicts_29 : decode cX10_evicts 29 = .ok (.iload_n 3, 1) := by decide +kernel
theorem dX10_evicts_30 : decode cX10_evicts 30 = .ok (.iconst 0, 1) := by decide +kernel
theorem dX10_evicts_31 : decode cX10_evicts 31 = .ok (.invokevirtual 44, 3) := by decide +kernel
theorem dX10_evicts_34 : decode cX10_evicts 34 = .ok (.aload_n 0, 1) := by decide +kernel
theorem dX10_evicts_35 : decode cX10_evicts 35 = .ok (.iload_n 3, 1) := by decide +kernel
theorem dX10_evicts_36 : decode cX10_evicts 36 = .ok (.iconst 1, 1) := by decide +kernel
theorem dX10_evicts_37 : decode cX10_evicts 37 = .ok (.invokevirtual 44, 3) := by decide +kernel
theorem dX10_evicts_40 : decode cX10_evicts 40 = .ok (.aload_n 0, 1) := by decide +kernel
theorem dX10_evicts_41 : decode cX10_evicts 41 = .ok (.iload_n 3, 1) := by decide +kernel
theorem dX10_evicts_42 : decode cX10_evicts 42 = .ok (.iconst 2, 1) := by decide +kernel
theorem dX10_evicts_43 : decode cX10_evicts 43 = .ok (.invokevirtual 44, 3) := by decide +kernel
theorem dX10_evicts_46 : decode cX10_evicts 46 = .ok (.invokevirtual 91, 3) := by decide +kernel
theorem dX10_evicts_49 : decode cX10_evicts 49 = .ok (.aload_n 0, 1) := by decide +kernel
theorem dX10_evicts_50 : decode cX10_evicts 50 = .ok (.getfield 25, 3) := by decide +kernel
theorem dX10_evicts_53 : decode cX10_evicts 53 = .ok (.aload_n 0, 1) := by decide +kernel
theorem dX10_evicts_54 : decode cX10_evicts 54 = .ok (.getfield 95, 3) := by decide +kernel
theorem dX10_evicts_57 : decode cX10_evicts 57 = .ok (.sipush 128, 3) := by decide +kernel
theorem dX10_evicts_60 : decode cX10_evicts 60 = .ok (.irem, 1) := by decide +kernel
theorem dX10_evicts_61 : decode cX10_evicts 61 = .ok (.aload_n 0, 1) := by decide +kernel
theorem dX10_evicts_62 : decode cX10_evicts 62 = .ok (.iload_n 3, 1) := by decide +kernel
theorem dX10_evicts_63 : decode cX10_evicts 63 = .ok (.iconst 0, 1) := by decide +kernel
theorem dX10_evicts_64 : decode cX10_evicts 64 = .ok (.invokevirtual 44, 3) := by decide +kernel
theorem dX10_evicts_67 : decode cX10_evicts 67 = .ok (.iastore, 1) := by decide +kernel
theorem dX10_evicts_68 : decode cX10_evicts 68 = .ok (.aload_n 0, 1) := by decide +kernel
theorem dX10_evicts_69 : decode cX10_evicts 69 = .ok (.dup, 1) := by decide +kernel
theorem dX10_evicts_70 : decode cX10_evicts 70 = .ok (.getfield 95, 3) := by decide +kernel
theorem dX10_evicts_73 : decode cX10_evicts 73 = .ok (.iconst 1, 1) := by decide +kernel
theorem dX10_evicts_74 : decode cX10_evicts 74 = .ok (.iadd, 1) := by decide +kernel
theorem dX10_evicts_75 : decode cX10_evicts 75 = .ok (.putfield 95, 3) := by decide +kernel
theorem dX10_evicts_78 : decode cX10_evicts 78 = .ok (.aload_n 0, 1) := by decide +kernel
theorem dX10_evicts_79 : decode cX10_evicts 79 = .ok (.getfield 17, 3) := by decide +kernel
theorem dX10_evicts_82 : decode cX10_evicts 82 = .ok (.aload_n 0, 1) := by decide +kernel
theorem dX10_evicts_83 : decode cX10_evicts 83 = .ok (.getfield 41, 3) := by decide +kernel
theorem dX10_evicts_86 : decode cX10_evicts 86 = .ok (.bipush 10, 2) := by decide +kernel
theorem dX10_evicts_88 : decode cX10_evicts 88 = .ok (.iadd, 1) := by decide +kernel
theorem dX10_evicts_89 : decode cX10_evicts 89 = .ok (.dup2, 1) := by decide +kernel
theorem dX10_evicts_90 : decode cX10_evicts 90 = .ok (.iaload, 1) := by decide +kernel
theorem dX10_evicts_91 : decode cX10_evicts 91 = .ok (.iconst 1, 1) := by decide +kernel
theorem dX10_evicts_92 : decode cX10_evicts 92 = .ok (.iadd, 1) := by decide +kernel
theorem dX10_evicts_93 : decode cX10_evicts 93 = .ok (.iastore, 1) := by decide +kernel
theorem dX10_evicts_94 : decode cX10_evicts 94 = .ok (.aload_n 0, 1) := by decide +kernel
theorem dX10_evicts_95 : decode cX10_evicts 95 = .ok (.getfield 17, 3) := by decide +kernel
theorem dX10_evicts_98 : decode cX10_evicts 98 = .ok (.aload_n 0, 1) := by decide +kernel
theorem dX10_evicts_99 : decode cX10_evicts 99 = .ok (.getfield 41, 3) := by decide +kernel
theorem dX10_evicts_102 : decode cX10_evicts 102 = .ok (.bipush 16, 2) := by decide +kernel
theorem dX10_evicts_104 : decode cX10_evicts 104 = .ok (.iadd, 1) := by decide +kernel
theorem dX10_evicts_105 : decode cX10_evicts 105 = .ok (.dup2, 1) := by decide +kernel
theorem dX10_evicts_106 : decode cX10_evicts 106 = .ok (.iaload, 1) := by decide +kernel
theorem dX10_evicts_107 : decode cX10_evicts 107 = .ok (.iload_n 2, 1) := by decide +kernel
theorem dX10_evicts_108 : decode cX10_evicts 108 = .ok (.iconst 2, 1) := by decide +kernel
theorem dX10_evicts_109 : decode cX10_evicts 109 = .ok (.if_icmp .ne 7, 3) := by decide +kernel
theorem dX10_evicts_112 : decode cX10_evicts 112 = .ok (.iconst 1, 1) := by decide +kernel
theorem dX10_evicts_113 : decode cX10_evicts 113 = .ok (.goto 4, 3) := by decide +kernel
theorem dX10_evicts_116 : decode cX10_evicts 116 = .ok (.iconst 0, 1) := by decide +kernel
theorem dX10_evicts_117 : decode cX10_evicts 117 = .ok (.invokestatic 57, 3) := by decide +kernel
theorem dX10_evicts_120 : decode cX10_evicts 120 = .ok (.iadd, 1) := by decide +kernel
theorem dX10_evicts_121 : decode cX10_evicts 121 = .ok (.iastore, 1) := by decide +kernel
theorem dX10_evicts_122 : decode cX10_evicts 122 = .ok (.aload_n 0, 1) := by decide +kernel
theorem dX10_evicts_123 : decode cX10_evicts 123 = .ok (.aload_n 0, 1) := by decide +kernel
theorem dX10_evicts_124 : decode cX10_evicts 124 = .ok (.iload_n 3, 1) := by decide +kernel
theorem dX10_evicts_125 : decode cX10_evicts 125 = .ok (.iconst 3, 1) := by decide +kernel
theorem dX10_evicts_126 : decode cX10_evicts 126 = .ok (.invokevirtual 44, 3) := by decide +kernel
theorem dX10_evicts_129 : decode cX10_evicts 129 = .ok (.iconst 1, 1) := by decide +kernel
theorem dX10_evicts_130 : decode cX10_evicts 130 = .ok (.if_icmp .le 7, 3) := by decide +kernel
theorem dX10_evicts_133 : decode cX10_evicts 133 = .ok (.iconst 1, 1) := by decide +kernel
theorem dX10_evicts_134 : decode cX10_evicts 134 = .ok (.goto 4, 3) := by decide +kernel
theorem dX10_evicts_137 : decode cX10_evicts 137 = .ok (.iconst 0, 1) := by decide +kernel
theorem dX10_evicts_138 : decode cX10_evicts 138 = .ok (.invokestatic 57, 3) := by decide +kernel
theorem dX10_evicts_141 : decode cX10_evicts 141 = .ok (.aload_n 0, 1) := by decide +kernel
theorem dX10_evicts_142 : decode cX10_evicts 142 = .ok (.iload_n 3, 1) := by decide +kernel
theorem dX10_evicts_143 : decode cX10_evicts 143 = .ok (.iconst 0, 1) := by decide +kernel
theorem dX10_evicts_144 : decode cX10_evicts 144 = .ok (.invokevirtual 44, 3) := by decide +kernel
theorem dX10_evicts_147 : decode cX10_evicts 147 = .ok (.invokevirtual 98, 3) := by decide +kernel
theorem dX10_evicts_150 : decode cX10_evicts 150 = .ok (.aload_n 0, 1) := by decide +kernel
theorem dX10_evicts_151 : decode cX10_evicts 151 = .ok (.iload_n 3, 1) := by decide +kernel
theorem dX10_evicts_152 : decode cX10_evicts 152 = .ok (.invokevirtual 101, 3) := by decide +kernel
theorem dX10_evicts_155 : decode cX10_evicts 155 = .ok (.iconst 1, 1) := by decide +kernel
theorem dX10_evicts_156 : decode cX10_evicts 156 = .ok (.ireturn, 1) := by decide +kernel
theorem dX10_tells_0 : decode cX10_tells 0 = .ok (.aload_n 0, 1) := by decide +kernel
theorem dX10_tells_1 : decode cX10_tells 1 = .ok (.getfield 105, 3) := by decide +kernel
theorem dX10_tells_4 : decode cX10_tells 4 = .ok (.ifCond .eq 4, 3) := by decide +kernel
theorem dX10_tells_7 : decode cX10_tells 7 = .ok (.return_, 1) := by decide +kernel
theorem dX10_tells_8 : decode cX10_tells 8 = .ok (.aload_n 0, 1) := by decide +kernel
theorem dX10_tells_9 : decode cX10_tells 9 = .ok (.getfield 109, 3) := by decide +kernel
theorem dX10_tells_12 : decode cX10_tells 12 = .ok (.bipush 100, 2) := by decide +kernel
theorem dX10_tells_14 : decode cX10_tells 14 = .ok (.if_icmp .ge 75, 3) := by decide +kernel
theorem dX10_tells_17 : decode cX10_tells 17 = .ok (.aload_n 0, 1) := by decide +kernel
theorem dX10_tells_18 : decode cX10_tells 18 = .ok (.getfield 28, 3) := by decide +kernel
theorem dX10_tells_21 : decode cX10_tells 21 = .ok (.iconst 5, 1) := by decide +kernel
theorem dX10_tells_22 : decode cX10_tells 22 = .ok (.aload_n 0, 1) := by decide +kernel
theorem dX10_tells_23 : decode cX10_tells 23 = .ok (.getfield 109, 3) := by decide +kernel
theorem dX10_tells_26 : decode cX10_tells 26 = .ok (.imul, 1) := by decide +kernel
theorem dX10_tells_27 : decode cX10_tells 27 = .ok (.iload_n 1, 1) := by decide +kernel
theorem dX10_tells_28 : decode cX10_tells 28 = .ok (.iastore, 1) := by decide +kernel
theorem dX10_tells_29 : decode cX10_tells 29 = .ok (.aload_n 0, 1) := by decide +kernel
theorem dX10_tells_30 : decode cX10_tells 30 = .ok (.getfield 28, 3) := by decide +kernel
theorem dX10_tells_33 : decode cX10_tells 33 = .ok (.iconst 5, 1) := by decide +kernel
theorem dX10_tells_34 : decode cX10_tells 34 = .ok (.aload_n 0, 1) := by decide +kernel
theorem dX10_tells_35 : decode cX10_tells 35 = .ok (.getfield 109, 3) := by decide +kernel
theorem dX10_tells_38 : decode cX10_tells 38 = .ok (.imul, 1) := by decide +kernel
theorem dX10_tells_39 : decode cX10_tells 39 = .ok (.iconst 1, 1) := by decide +kernel
theorem dX10_tells_40 : decode cX10_tells 40 = .ok (.iadd, 1) := by decide +kernel
theorem dX10_tells_41 : decode cX10_tells 41 = .ok (.iload_n 2, 1) := by decide +kernel
theorem dX10_tells_42 : decode cX10_tells 42 = .ok (.iastore, 1) := by decide +kernel
theorem dX10_tells_43 : decode cX10_tells 43 = .ok (.aload_n 0, 1) := by decide +kernel
theorem dX10_tells_44 : decode cX10_tells 44 = .ok (.getfield 28, 3) := by decide +kernel
theorem dX10_tells_47 : decode cX10_tells 47 = .ok (.iconst 5, 1) := by decide +kernel
theorem dX10_tells_48 : decode cX10_tells 48 = .ok (.aload_n 0, 1) := by decide +kernel
theorem dX10_tells_49 : decode cX10_tells 49 = .ok (.getfield 109, 3) := by decide +kernel
theorem dX10_tells_52 : decode cX10_tells 52 = .ok (.imul, 1) := by decide +kernel
theorem dX10_tells_53 : decode cX10_tells 53 = .ok (.iconst 2, 1) := by decide +kernel
theorem dX10_tells_54 : decode cX10_tells 54 = .ok (.iadd, 1) := by decide +kernel
theorem dX10_tells_55 : decode cX10_tells 55 = .ok (.iload_n 3, 1) := by decide +kernel
theorem dX10_tells_56 : decode cX10_tells 56 = .ok (.iastore, 1) := by decide +kernel
theorem dX10_tells_57 : decode cX10_tells 57 = .ok (.aload_n 0, 1) := by decide +kernel
theorem dX10_tells_58 : decode cX10_tells 58 = .ok (.getfield 28, 3) := by decide +kernel
theorem dX10_tells_61 : decode cX10_tells 61 = .ok (.iconst 5, 1) := by decide +kernel
theorem dX10_tells_62 : decode cX10_tells 62 = .ok (.aload_n 0, 1) := by decide +kernel
theorem dX10_tells_63 : decode cX10_tells 63 = .ok (.getfield 109, 3) := by decide +kernel
theorem dX10_tells_66 : decode cX10_tells 66 = .ok (.imul, 1) := by decide +kernel
theorem dX10_tells_67 : decode cX10_tells 67 = .ok (.iconst 3, 1) := by decide +kernel
theorem dX10_tells_68 : decode cX10_tells 68 = .ok (.iadd, 1) := by decide +kernel
theorem dX10_tells_69 : decode cX10_tells 69 = .ok (.iload 4, 2) := by decide +kernel
theorem dX10_tells_71 : decode cX10_tells 71 = .ok (.iastore, 1) := by decide +kernel
theorem dX10_tells_72 : decode cX10_tells 72 = .ok (.aload_n 0, 1) := by decide +kernel
theorem dX10_tells_73 : decode cX10_tells 73 = .ok (.getfield 28, 3) := by decide +kernel
theorem dX10_tells_76 : decode cX10_tells 76 = .ok (.iconst 5, 1) := by decide +kernel
theorem dX10_tells_77 : decode cX10_tells 77 = .ok (.aload_n 0, 1) := by decide +kernel
theorem dX10_tells_78 : decode cX10_tells 78 = .ok (.getfield 109, 3) := by decide +kernel
theorem dX10_tells_81 : decode cX10_tells 81 = .ok (.imul, 1) := by decide +kernel
theorem dX10_tells_82 : decode cX10_tells 82 = .ok (.iconst 4, 1) := by decide +kernel
theorem dX10_tells_83 : decode cX10_tells 83 = .ok (.iadd, 1) := by decide +kernel
theorem dX10_tells_84 : decode cX10_tells 84 = .ok (.aload_n 0, 1) := by decide +kernel
theorem dX10_tells_85 : decode cX10_tells 85 = .ok (.getfield 112, 3) := by decide +kernel
theorem dX10_tells_88 : decode cX10_tells 88 = .ok (.iastore, 1) := by decide +kernel
theorem dX10_tells_89 : decode cX10_tells 89 = .ok (.aload_n 0, 1) := by decide +kernel
theorem dX10_tells_90 : decode cX10_tells 90 = .ok (.dup, 1) := by decide +kernel
theorem dX10_tells_91 : decode cX10_tells 91 = .ok (.getfield 109, 3) := by decide +kernel
theorem dX10_tells_94 : decode cX10_tells 94 = .ok (.iconst 1, 1) := by decide +kernel
theorem dX10_tells_95 : decode cX10_tells 95 = .ok (.iadd, 1) := by decide +kernel
theorem dX10_tells_96 : decode cX10_tells 96 = .ok (.putfield 109, 3) := by decide +kernel
theorem dX10_tells_99 : decode cX10_tells 99 = .ok (.return_, 1) := by decide +kernel
theorem dX10_call_0 : decode cX10_call 0 = .ok (.aload_n 0, 1) := by decide +kernel
theorem dX10_call_1 : decode cX10_call 1 = .ok (.iconst 0, 1) := by decide +kernel
theorem dX10_call_2 : decode cX10_call 2 = .ok (.putfield 1, 3) := by decide +kernel
theorem dX10_call_5 : decode cX10_call 5 = .ok (.aload_n 0, 1) := by decide +kernel
theorem dX10_call_6 : decode cX10_call 6 = .ok (.iconst 0, 1) := by decide +kernel
theorem dX10_call_7 : decode cX10_call 7 = .ok (.putfield 109, 3) := by decide +kernel
theorem dX10_call_10 : decode cX10_call 10 = .ok (.aload_n 0, 1) := by decide +kernel
theorem dX10_call_11 : decode cX10_call 11 = .ok (.iconst 0, 1) := by decide +kernel
theorem dX10_call_12 : decode cX10_call 12 = .ok (.putfield 112, 3) := by decide +kernel
theorem dX10_call_15 : decode cX10_call 15 = .ok (.return_, 1) := by decide +kernel
theorem dX10_hearerAt_0 : decode cX10_hearerAt 0 = .ok (.aload_n 0, 1) := by decide +kernel
theorem dX10_hearerAt_1 : decode cX10_hearerAt 1 = .ok (.getfield 41, 3) := by decide +kernel
theorem dX10_hearerAt_4 : decode cX10_hearerAt 4 = .ok (.sipush 476, 3) := by decide +kernel
theorem dX10_hearerAt_7 : decode cX10_hearerAt 7 = .ok (.iadd, 1) := by decide +kernel
theorem dX10_hearerAt_8 : decode cX10_hearerAt 8 = .ok (.bipush 9, 2) := by decide +kernel
theorem dX10_hearerAt_10 : decode cX10_hearerAt 10 = .ok (.iload_n 1, 1) := by decide +kernel
theorem dX10_hearerAt_11 : decode cX10_hearerAt 11 = .ok (.imul, 1) := by decide +kernel
theorem dX10_hearerAt_12 : decode cX10_hearerAt 12 = .ok (.iadd, 1) := by decide +kernel
theorem dX10_hearerAt_13 : decode cX10_hearerAt 13 = .ok (.ireturn, 1) := by decide +kernel
theorem dX10_isHeardBy_0 : decode cX10_isHeardBy 0 = .ok (.aload_n 0, 1) := by decide +kernel
theorem dX10_isHeardBy_1 : decode cX10_isHeardBy 1 = .ok (.iload_n 1, 1) := by decide +kernel
theorem dX10_isHeardBy_2 : decode cX10_isHeardBy 2 = .ok (.invokevirtual 115, 3) := by decide +kernel
theorem dX10_isHeardBy_5 : decode cX10_isHeardBy 5 = .ok (.istore 4, 2) := by decide +kernel
theorem dX10_isHeardBy_7 : decode cX10_isHeardBy 7 = .ok (.aload_n 0, 1) := by decide +kernel
theorem dX10_isHeardBy_8 : decode cX10_isHeardBy 8 = .ok (.getfield 17, 3) := by decide +kernel
theorem dX10_isHeardBy_11 : decode cX10_isHeardBy 11 = .ok (.iload 4, 2) := by decide +kernel
theorem dX10_isHeardBy_13 : decode cX10_isHeardBy 13 = .ok (.bipush 6, 2) := by decide +kernel
theorem dX10_isHeardBy_15 : decode cX10_isHeardBy 15 = .ok (.iadd, 1) := by decide +kernel
theorem dX10_isHeardBy_16 : decode cX10_isHeardBy 16 = .ok (.iaload, 1) := by decide +kernel
theorem dX10_isHeardBy_17 : decode cX10_isHeardBy 17 = .ok (.iconst 1, 1) := by decide +kernel
theorem dX10_isHeardBy_18 : decode cX10_isHeardBy 18 = .ok (.if_icmp .ne 56, 3) := by decide +kernel
theorem dX10_isHeardBy_21 : decode cX10_isHeardBy 21 = .ok (.aload_n 0, 1) := by decide +kernel
theorem dX10_isHeardBy_22 : decode cX10_isHeardBy 22 = .ok (.getfield 17, 3) := by decide +kernel
theorem dX10_isHeardBy_25 : decode cX10_isHeardBy 25 = .ok (.iload 4, 2) := by decide +kernel
theorem dX10_isHeardBy_27 : decode cX10_isHeardBy 27 = .ok (.iconst 0, 1) := by decide +kernel
theorem dX10_isHeardBy_28 : decode cX10_isHeardBy 28 = .ok (.iadd, 1) := by decide +kernel
theorem dX10_isHeardBy_29 : decode cX10_isHeardBy 29 = .ok (.iaload, 1) := by decide +kernel
theorem dX10_isHeardBy_30 : decode cX10_isHeardBy 30 = .ok (.iconst (-1), 1) := by decide +kernel
theorem dX10_isHeardBy_31 : decode cX10_isHeardBy 31 = .ok (.if_icmp .eq 16, 3) := by decide +kernel
theorem dX10_isHeardBy_34 : decode cX10_isHeardBy 34 = .ok (.aload_n 0, 1) := by decide +kernel
theorem dX10_isHeardBy_35 : decode cX10_isHeardBy 35 = .ok (.getfield 17, 3) := by decide +kernel
theorem dX10_isHeardBy_38 : decode cX10_isHeardBy 38 = .ok (.iload 4, 2) := by decide +kernel
theorem dX10_isHeardBy_40 : decode cX10_isHeardBy 40 = .ok (.iconst 0, 1) := by decide +kernel
theorem dX10_isHeardBy_41 : decode cX10_isHeardBy 41 = .ok (.iadd, 1) := by decide +kernel
theorem dX10_isHeardBy_42 : decode cX10_isHeardBy 42 = .ok (.iaload, 1) := by decide +kernel
theorem dX10_isHeardBy_43 : decode cX10_isHeardBy 43 = .ok (.iload_n 2, 1) := by decide +kernel
theorem dX10_isHeardBy_44 : decode cX10_isHeardBy 44 = .ok (.if_icmp .ne 30, 3) := by decide +kernel
theorem dX10_isHeardBy_47 : decode cX10_isHeardBy 47 = .ok (.iload_n 3, 1) := by decide +kernel
theorem dX10_isHeardBy_48 : decode cX10_isHeardBy 48 = .ok (.aload_n 0, 1) := by decide +kernel
theorem dX10_isHeardBy_49 : decode cX10_isHeardBy 49 = .ok (.getfield 17, 3) := by decide +kernel
theorem dX10_isHeardBy_52 : decode cX10_isHeardBy 52 = .ok (.iload 4, 2) := by decide +kernel
theorem dX10_isHeardBy_54 : decode cX10_isHeardBy 54 = .ok (.iconst 1, 1) := by decide +kernel
theorem dX10_isHeardBy_55 : decode cX10_isHeardBy 55 = .ok (.iadd, 1) := by decide +kernel
theorem dX10_isHeardBy_56 : decode cX10_isHeardBy 56 = .ok (.iaload, 1) := by decide +kernel
theorem dX10_isHeardBy_57 : decode cX10_isHeardBy 57 = .ok (.irem, 1) := by decide +kernel
theorem dX10_isHeardBy_58 : decode cX10_isHeardBy 58 = .ok (.aload_n 0, 1) := by decide +kernel
theorem dX10_isHeardBy_59 : decode cX10_isHeardBy 59 = .ok (.getfield 17, 3) := by decide +kernel
theorem dX10_isHeardBy_62 : decode cX10_isHeardBy 62 = .ok (.iload 4, 2) := by decide +kernel
theorem dX10_isHeardBy_64 : decode cX10_isHeardBy 64 = .ok (.iconst 2, 1) := by decide +kernel
theorem dX10_isHeardBy_65 : decode cX10_isHeardBy 65 = .ok (.iadd, 1) := by decide +kernel
theorem dX10_isHeardBy_66 : decode cX10_isHeardBy 66 = .ok (.iaload, 1) := by decide +kernel
theorem dX10_isHeardBy_67 : decode cX10_isHeardBy 67 = .ok (.if_icmp .ne 7, 3) := by decide +kernel
theorem dX10_isHeardBy_70 : decode cX10_isHeardBy 70 = .ok (.iconst 1, 1) := by decide +kernel
theorem dX10_isHeardBy_71 : decode cX10_isHeardBy 71 = .ok (.goto 4, 3) := by decide +kernel
theorem dX10_isHeardBy_74 : decode cX10_isHeardBy 74 = .ok (.iconst 0, 1) := by decide +kernel
theorem dX10_isHeardBy_75 : decode cX10_isHeardBy 75 = .ok (.ireturn, 1) := by decide +kernel
theorem dX10_pins_0 : decode cX10_pins 0 = .ok (.aload_n 0, 1) := by decide +kernel
theorem dX10_pins_1 : decode cX10_pins 1 = .ok (.iload_n 1, 1) := by decide +kernel
theorem dX10_pins_2 : decode cX10_pins 2 = .ok (.invokevirtual 118, 3) := by decide +kernel
theorem dX10_pins_5 : decode cX10_pins 5 = .ok (.istore_n 3, 1) := by decide +kernel
theorem dX10_pins_6 : decode cX10_pins 6 = .ok (.iload_n 3, 1) := by decide +kernel
theorem dX10_pins_7 : decode cX10_pins 7 = .ok (.iconst (-1), 1) := by decide +kernel
theorem dX10_pins_8 : decode cX10_pins 8 = .ok (.if_icmp .eq 14, 3) := by decide +kernel
theorem dX10_pins_11 : decode cX10_pins 11 = .ok (.aload_n 0, 1) := by decide +kernel
theorem dX10_pins_12 : decode cX10_pins 12 = .ok (.iload_n 3, 1) := by decide +kernel
theorem dX10_pins_13 : decode cX10_pins 13 = .ok (.bipush 6, 2) := by decide +kernel
theorem dX10_pins_15 : decode cX10_pins 15 = .ok (.invokevirtual 44, 3) := by decide +kernel
theorem dX10_pins_18 : decode cX10_pins 18 = .ok (.iload_n 2, 1) := by decide +kernel
theorem dX10_pins_19 : decode cX10_pins 19 = .ok (.if_icmp .ne 5, 3) := by decide +kernel
theorem dX10_pins_22 : decode cX10_pins 22 = .ok (.iconst 0, 1) := by decide +kernel
theorem dX10_pins_23 : decode cX10_pins 23 = .ok (.ireturn, 1) := by decide +kernel
theorem dX10_pins_24 : decode cX10_pins 24 = .ok (.aload_n 0, 1) := by decide +kernel
theorem dX10_pins_25 : decode cX10_pins 25 = .ok (.iload_n 3, 1) := by decide +kernel
theorem dX10_pins_26 : decode cX10_pins 26 = .ok (.bipush 6, 2) := by decide +kernel
theorem dX10_pins_28 : decode cX10_pins 28 = .ok (.iload_n 2, 1) := by decide +kernel
theorem dX10_pins_29 : decode cX10_pins 29 = .ok (.invokevirtual 121, 3) := by decide +kernel
theorem dX10_pins_32 : decode cX10_pins 32 = .ok (.iconst 1, 1) := by decide +kernel
theorem dX10_pins_33 : decode cX10_pins 33 = .ok (.ireturn, 1) := by decide +kernel
theorem dX10_capsBy_0 : decode cX10_capsBy 0 = .ok (.aload_n 0, 1) := by decide +kernel
theorem dX10_capsBy_1 : decode cX10_capsBy 1 = .ok (.getfield 17, 3) := by decide +kernel
theorem dX10_capsBy_4 : decode cX10_capsBy 4 = .ok (.aload_n 0, 1) := by decide +kernel
theorem dX10_capsBy_5 : decode cX10_capsBy 5 = .ok (.getfield 41, 3) := by decide +kernel
theorem dX10_capsBy_8 : decode cX10_capsBy 8 = .ok (.iconst 1, 1) := by decide +kernel
theorem dX10_capsBy_9 : decode cX10_capsBy 9 = .ok (.iadd, 1) := by decide +kernel
theorem dX10_capsBy_10 : decode cX10_capsBy 10 = .ok (.iaload, 1) := by decide +kernel
theorem dX10_capsBy_11 : decode cX10_capsBy 11 = .ok (.iload_n 1, 1) := by decide +kernel
theorem dX10_capsBy_12 : decode cX10_capsBy 12 = .ok (.iadd, 1) := by decide +kernel
theorem dX10_capsBy_13 : decode cX10_capsBy 13 = .ok (.istore_n 2, 1) := by decide +kernel
theorem dX10_capsBy_14 : decode cX10_capsBy 14 = .ok (.iload_n 1, 1) := by decide +kernel
theorem dX10_capsBy_15 : decode cX10_capsBy 15 = .ok (.ifCond .eq 24, 3) := by decide +kernel
theorem dX10_capsBy_18 : decode cX10_capsBy 18 = .ok (.iload_n 2, 1) := by decide +kernel
theorem dX10_capsBy_19 : decode cX10_capsBy 19 = .ok (.i2l, 1) := by decide +kernel
theorem dX10_capsBy_20 : decode cX10_capsBy 20 = .ok (.lconst 0, 1) := by decide +kernel
theorem dX10_capsBy_21 : decode cX10_capsBy 21 = .ok (.ldc2_w 125, 3) := by decide +kernel
theorem dX10_capsBy_24 : decode cX10_capsBy 24 = .ok (.invokestatic 49, 3) := by decide +kernel
theorem dX10_capsBy_27 : decode cX10_capsBy 27 = .ok (.ifCond .eq 12, 3) := by decide +kernel
theorem dX10_capsBy_30 : decode cX10_capsBy 30 = .ok (.aload_n 0, 1) := by decide +kernel
theorem dX10_capsBy_31 : decode cX10_capsBy 31 = .ok (.iconst (-1), 1) := by decide +kernel
theorem dX10_capsBy_32 : decode cX10_capsBy 32 = .ok (.invokevirtual 127, 3) := by decide +kernel
theorem dX10_capsBy_35 : decode cX10_capsBy 35 = .ok (.iload_n 2, 1) := by decide +kernel
theorem dX10_capsBy_36 : decode cX10_capsBy 36 = .ok (.if_icmp .le 5, 3) := by decide +kernel
theorem dX10_capsBy_39 : decode cX10_capsBy 39 = .ok (.iconst 0, 1) := by decide +kernel
theorem dX10_capsBy_40 : decode cX10_capsBy 40 = .ok (.ireturn, 1) := by decide +kernel
theorem dX10_capsBy_41 : decode cX10_capsBy 41 = .ok (.aload_n 0, 1) := by decide +kernel
theorem dX10_capsBy_42 : decode cX10_capsBy 42 = .ok (.iload_n 2, 1) := by decide +kernel
theorem dX10_capsBy_43 : decode cX10_capsBy 43 = .ok (.invokevirtual 130, 3) := by decide +kernel
theorem dX10_capsBy_46 : decode cX10_capsBy 46 = .ok (.pop, 1) := by decide +kernel
theorem dX10_capsBy_47 : decode cX10_capsBy 47 = .ok (.iconst 1, 1) := by decide +kernel
theorem dX10_capsBy_48 : decode cX10_capsBy 48 = .ok (.ireturn, 1) := by decide +kernel
theorem dX10_acts_0 : decode cX10_acts 0 = .ok (.aload_n 0, 1) := by decide +kernel
theorem dX10_acts_1 : decode cX10_acts 1 = .ok (.iload_n 1, 1) := by decide +kernel
theorem dX10_acts_2 : decode cX10_acts 2 = .ok (.invokevirtual 115, 3) := by decide +kernel
theorem dX10_acts_5 : decode cX10_acts 5 = .ok (.istore 4, 2) := by decide +kernel
theorem dX10_acts_7 : decode cX10_acts 7 = .ok (.aload_n 0, 1) := by decide +kernel
theorem dX10_acts_8 : decode cX10_acts 8 = .ok (.getfield 17, 3) := by decide +kernel
theorem dX10_acts_11 : decode cX10_acts 11 = .ok (.iload 4, 2) := by decide +kernel
theorem dX10_acts_13 : decode cX10_acts 13 = .ok (.iconst 4, 1) := by decide +kernel
theorem dX10_acts_14 : decode cX10_acts 14 = .ok (.iadd, 1) := by decide +kernel
theorem dX10_acts_15 : decode cX10_acts 15 = .ok (.iaload, 1) := by decide +kernel
theorem dX10_acts_16 : decode cX10_acts 16 = .ok (.istore 5, 2) := by decide +kernel
theorem dX10_acts_18 : decode cX10_acts 18 = .ok (.iload_n 2, 1) := by decide +kernel
theorem dX10_acts_19 : decode cX10_acts 19 = .ok (.iload 5, 2) := by decide +kernel
theorem dX10_acts_21 : decode cX10_acts 21 = .ok (.iadd, 1) := by decide +kernel
theorem dX10_acts_22 : decode cX10_acts 22 = .ok (.sipush 1000, 3) := by decide +kernel
theorem dX10_acts_25 : decode cX10_acts 25 = .ok (.irem, 1) := by decide +kernel
theorem dX10_acts_26 : decode cX10_acts 26 = .ok (.sipush 1000, 3) := by decide +kernel
theorem dX10_acts_29 : decode cX10_acts 29 = .ok (.iadd, 1) := by decide +kernel
theorem dX10_acts_30 : decode cX10_acts 30 = .ok (.sipush 1000, 3) := by decide +kernel
theorem dX10_acts_33 : decode cX10_acts 33 = .ok (.irem, 1) := by decide +kernel
theorem dX10_acts_34 : decode cX10_acts 34 = .ok (.istore 6, 2) := by decide +kernel
theorem dX10_acts_36 : decode cX10_acts 36 = .ok (.aload_n 0, 1) := by decide +kernel
theorem dX10_acts_37 : decode cX10_acts 37 = .ok (.getfield 17, 3) := by decide +kernel
theorem dX10_acts_40 : decode cX10_acts 40 = .ok (.iload 4, 2) := by decide +kernel
theorem dX10_acts_42 : decode cX10_acts 42 = .ok (.iconst 3, 1) := by decide +kernel
theorem dX10_acts_43 : decode cX10_acts 43 = .ok (.iadd, 1) := by decide +kernel
theorem dX10_acts_44 : decode cX10_acts 44 = .ok (.iaload, 1) := by decide +kernel
theorem dX10_acts_45 : decode cX10_acts 45 = .ok (.tableswitch 103 1 6 #[39, 66, 73, 80, 88, 96], 39) := by decide +kernel
theorem dX10_acts_84 : decode cX10_acts 84 = .ok (.aload_n 0, 1) := by decide +kernel
theorem dX10_acts_85 : decode cX10_acts 85 = .ok (.iload 6, 2) := by decide +kernel
theorem dX10_acts_87 : decode cX10_acts 87 = .ok (.iload_n 3, 1) := by decide +kernel
theorem dX10_acts_88 : decode cX10_acts 88 = .ok (.aload_n 0, 1) := by decide +kernel
theorem dX10_acts_89 : decode cX10_acts 89 = .ok (.getfield 17, 3) := by decide +kernel
theorem dX10_acts_92 : decode cX10_acts 92 = .ok (.iload 4, 2) := by decide +kernel
theorem dX10_acts_94 : decode cX10_acts 94 = .ok (.iconst 5, 1) := by decide +kernel
theorem dX10_acts_95 : decode cX10_acts 95 = .ok (.iadd, 1) := by decide +kernel
theorem dX10_acts_96 : decode cX10_acts 96 = .ok (.iaload, 1) := by decide +kernel
theorem dX10_acts_97 : decode cX10_acts 97 = .ok (.iconst (-1), 1) := by decide +kernel
theorem dX10_acts_98 : decode cX10_acts 98 = .ok (.invokevirtual 133, 3) := by decide +kernel
theorem dX10_acts_101 : decode cX10_acts 101 = .ok (.iconst (-1), 1) := by decide +kernel
theorem dX10_acts_102 : decode cX10_acts 102 = .ok (.if_icmp .eq 7, 3) := by decide +kernel
theorem dX10_acts_105 : decode cX10_acts 105 = .ok (.iconst 1, 1) := by decide +kernel
theorem dX10_acts_106 : decode cX10_acts 106 = .ok (.goto 4, 3) := by decide +kernel
theorem dX10_acts_109 : decode cX10_acts 109 = .ok (.iconst 0, 1) := by decide +kernel
theorem dX10_acts_110 : decode cX10_acts 110 = .ok (.ireturn, 1) := by decide +kernel
theorem dX10_acts_111 : decode cX10_acts 111 = .ok (.aload_n 0, 1) := by decide +kernel
theorem dX10_acts_112 : decode cX10_acts 112 = .ok (.iload 6, 2) := by decide +kernel
theorem dX10_acts_114 : decode cX10_acts 114 = .ok (.invokevirtual 137, 3) := by decide +kernel
theorem dX10_acts_117 : decode cX10_acts 117 = .ok (.ireturn, 1) := by decide +kernel
theorem dX10_acts_118 : decode cX10_acts 118 = .ok (.aload_n 0, 1) := by decide +kernel
theorem dX10_acts_119 : decode cX10_acts 119 = .ok (.iload 6, 2) := by decide +kernel
theorem dX10_acts_121 : decode cX10_acts 121 = .ok (.invokevirtual 141, 3) := by decide +kernel
theorem dX10_acts_124 : decode cX10_acts 124 = .ok (.ireturn, 1) := by decide +kernel
theorem dX10_acts_125 : decode cX10_acts 125 = .ok (.aload_n 0, 1) := by decide +kernel
theorem dX10_acts_126 : decode cX10_acts 126 = .ok (.iload 6, 2) := by decide +kernel
theorem dX10_acts_128 : decode cX10_acts 128 = .ok (.iconst 1, 1) := by decide +kernel
theorem dX10_acts_129 : decode cX10_acts 129 = .ok (.invokevirtual 144, 3) := by decide +kernel
theorem dX10_acts_132 : decode cX10_acts 132 = .ok (.ireturn, 1) := by decide +kernel
theorem dX10_acts_133 : decode cX10_acts 133 = .ok (.aload_n 0, 1) := by decide +kernel
theorem dX10_acts_134 : decode cX10_acts 134 = .ok (.iload 6, 2) := by decide +kernel
theorem dX10_acts_136 : decode cX10_acts 136 = .ok (.iconst 0, 1) := by decide +kernel
theorem dX10_acts_137 : decode cX10_acts 137 = .ok (.invokevirtual 144, 3) := by decide +kernel
theorem dX10_acts_140 : decode cX10_acts 140 = .ok (.ireturn, 1) := by decide +kernel
theorem dX10_acts_141 : decode cX10_acts 141 = .ok (.aload_n 0, 1) := by decide +kernel
theorem dX10_acts_142 : decode cX10_acts 142 = .ok (.iload 5, 2) := by decide +kernel
theorem dX10_acts_144 : decode cX10_acts 144 = .ok (.invokevirtual 147, 3) := by decide +kernel
theorem dX10_acts_147 : decode cX10_acts 147 = .ok (.ireturn, 1) := by decide +kernel
theorem dX10_acts_148 : decode cX10_acts 148 = .ok (.iconst 0, 1) := by decide +kernel
theorem dX10_acts_149 : decode cX10_acts 149 = .ok (.ireturn, 1) := by decide +kernel
theorem dX10_logs_0 : decode cX10_logs 0 = .ok (.aload_n 0, 1) := by decide +kernel
theorem dX10_logs_1 : decode cX10_logs 1 = .ok (.getfield 17, 3) := by decide +kernel
theorem dX10_logs_4 : decode cX10_logs 4 = .ok (.aload_n 0, 1) := by decide +kernel
theorem dX10_logs_5 : decode cX10_logs 5 = .ok (.getfield 41, 3) := by decide +kernel
theorem dX10_logs_8 : decode cX10_logs 8 = .ok (.bipush 18, 2) := by decide +kernel
theorem dX10_logs_10 : decode cX10_logs 10 = .ok (.iadd, 1) := by decide +kernel
theorem dX10_logs_11 : decode cX10_logs 11 = .ok (.bipush 40, 2) := by decide +kernel
theorem dX10_logs_13 : decode cX10_logs 13 = .ok (.aload_n 0, 1) := by decide +kernel
theorem dX10_logs_14 : decode cX10_logs 14 = .ok (.getfield 17, 3) := by decide +kernel
theorem dX10_logs_17 : decode cX10_logs 17 = .ok (.aload_n 0, 1) := by decide +kernel
theorem dX10_logs_18 : decode cX10_logs 18 = .ok (.getfield 41, 3) := by decide +kernel
theorem dX10_logs_21 : decode cX10_logs 21 = .ok (.bipush 18, 2) := by decide +kernel
theorem dX10_logs_23 : decode cX10_logs 23 = .ok (.iadd, 1) := by decide +kernel
theorem dX10_logs_24 : decode cX10_logs 24 = .ok (.iaload, 1) := by decide +kernel
theorem dX10_logs_25 : decode cX10_logs 25 = .ok (.iconst 1, 1) := by decide +kernel
theorem dX10_logs_26 : decode cX10_logs 26 = .ok (.iadd, 1) := by decide +kernel
theorem dX10_logs_27 : decode cX10_logs 27 = .ok (.invokestatic 7, 3) := by decide +kernel
theorem dX10_logs_30 : decode cX10_logs 30 = .ok (.iastore, 1) := by decide +kernel
theorem dX10_logs_31 : decode cX10_logs 31 = .ok (.iconst 5, 1) := by decide +kernel
theorem dX10_logs_32 : decode cX10_logs 32 = .ok (.aload_n 0, 1) := by decide +kernel
theorem dX10_logs_33 : decode cX10_logs 33 = .ok (.getfield 17, 3) := by decide +kernel
theorem dX10_logs_36 : decode cX10_logs 36 = .ok (.aload_n 0, 1) := by decide +kernel
theorem dX10_logs_37 : decode cX10_logs 37 = .ok (.getfield 41, 3) := by decide +kernel
theorem dX10_logs_40 : decode cX10_logs 40 = .ok (.bipush 18, 2) := by decide +kernel
theorem dX10_logs_42 : decode cX10_logs 42 = .ok (.iadd, 1) := by decide +kernel
theorem dX10_logs_43 : decode cX10_logs 43 = .ok (.iaload, 1) := by decide +kernel
theorem dX10_logs_44 : decode cX10_logs 44 = .ok (.imul, 1) := by decide +kernel
theorem dX10_logs_45 : decode cX10_logs 45 = .ok (.iconst 1, 1) := by decide +kernel
theorem dX10_logs_46 : decode cX10_logs 46 = .ok (.isub, 1) := by decide +kernel
theorem dX10_logs_47 : decode cX10_logs 47 = .ok (.istore 5, 2) := by decide +kernel
theorem dX10_logs_49 : decode cX10_logs 49 = .ok (.iload 5, 2) := by decide +kernel
theorem dX10_logs_51 : decode cX10_logs 51 = .ok (.iconst 5, 1) := by decide +kernel
theorem dX10_logs_52 : decode cX10_logs 52 = .ok (.if_icmp .lt 43, 3) := by decide +kernel
theorem dX10_logs_55 : decode cX10_logs 55 = .ok (.aload_n 0, 1) := by decide +kernel
theorem dX10_logs_56 : decode cX10_logs 56 = .ok (.getfield 17, 3) := by decide +kernel
theorem dX10_logs_59 : decode cX10_logs 59 = .ok (.aload_n 0, 1) := by decide +kernel
theorem dX10_logs_60 : decode cX10_logs 60 = .ok (.getfield 41, 3) := by decide +kernel
theorem dX10_logs_63 : decode cX10_logs 63 = .ok (.sipush 548, 3) := by decide +kernel
theorem dX10_logs_66 : decode cX10_logs 66 = .ok (.iadd, 1) := by decide +kernel
theorem dX10_logs_67 : decode cX10_logs 67 = .ok (.iload 5, 2) := by decide +kernel
theorem dX10_logs_69 : decode cX10_logs 69 = .ok (.iadd, 1) := by decide +kernel
theorem dX10_logs_70 : decode cX10_logs 70 = .ok (.aload_n 0, 1) := by decide +kernel
theorem dX10_logs_71 : decode cX10_logs 71 = .ok (.getfield 17, 3) := by decide +kernel
theorem dX10_logs_74 : decode cX10_logs 74 = .ok (.aload_n 0, 1) := by decide +kernel
theorem dX10_logs_75 : decode cX10_logs 75 = .ok (.getfield 41, 3) := by decide +kernel
theorem dX10_logs_78 : decode cX10_logs 78 = .ok (.sipush 548, 3) := by decide +kernel
theorem dX10_logs_81 : decode cX10_logs 81 = .ok (.iadd, 1) := by decide +kernel
theorem dX10_logs_82 : decode cX10_logs 82 = .ok (.iload 5, 2) := by decide +kernel
theorem dX10_logs_84 : decode cX10_logs 84 = .ok (.iadd, 1) := by decide +kernel
theorem dX10_logs_85 : decode cX10_logs 85 = .ok (.iconst 5, 1) := by decide +kernel
theorem dX10_logs_86 : decode cX10_logs 86 = .ok (.isub, 1) := by decide +kernel
theorem dX10_logs_87 : decode cX10_logs 87 = .ok (.iaload, 1) := by decide +kernel
theorem dX10_logs_88 : decode cX10_logs 88 = .ok (.iastore, 1) := by decide +kernel
theorem dX10_logs_89 : decode cX10_logs 89 = .ok (.iinc 5 (-1), 3) := by decide +kernel
theorem dX10_logs_92 : decode cX10_logs 92 = .ok (.goto (-43), 3) := by decide +kernel
theorem dX10_logs_95 : decode cX10_logs 95 = .ok (.aload_n 0, 1) := by decide +kernel
theorem dX10_logs_96 : decode cX10_logs 96 = .ok (.getfield 17, 3) := by decide +kernel
theorem dX10_logs_99 : decode cX10_logs 99 = .ok (.aload_n 0, 1) := by decide +kernel
theorem dX10_logs_100 : decode cX10_logs 100 = .ok (.getfield 41, 3) := by decide +kernel
theorem dX10_logs_103 : decode cX10_logs 103 = .ok (.sipush 548, 3) := by decide +kernel
theorem dX10_logs_106 : decode cX10_logs 106 = .ok (.iadd, 1) := by decide +kernel
theorem dX10_logs_107 : decode cX10_logs 107 = .ok (.iload_n 1, 1) := by decide +kernel
theorem dX10_logs_108 : decode cX10_logs 108 = .ok (.iastore, 1) := by decide +kernel
theorem dX10_logs_109 : decode cX10_logs 109 = .ok (.aload_n 0, 1) := by decide +kernel
theorem dX10_logs_110 : decode cX10_logs 110 = .ok (.getfield 17, 3) := by decide +kernel
theorem dX10_logs_113 : decode cX10_logs 113 = .ok (.aload_n 0, 1) := by decide +kernel
theorem dX10_logs_114 : decode cX10_logs 114 = .ok (.getfield 41, 3) := by decide +kernel
theorem dX10_logs_117 : decode cX10_logs 117 = .ok (.sipush 548, 3) := by decide +kernel
theorem dX10_logs_120 : decode cX10_logs 120 = .ok (.iadd, 1) := by decide +kernel
theorem dX10_logs_121 : decode cX10_logs 121 = .ok (.iconst 1, 1) := by decide +kernel
theorem dX10_logs_122 : decode cX10_logs 122 = .ok (.iadd, 1) := by decide +kernel
theorem dX10_logs_123 : decode cX10_logs 123 = .ok (.iload_n 2, 1) := by decide +kernel
