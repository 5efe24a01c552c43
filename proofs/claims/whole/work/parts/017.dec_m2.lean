theorem dX10_draw_8 : decode cX10_draw 8 = .ok (.lmul, 1) := by decide +kernel
theorem dX10_draw_9 : decode cX10_draw 9 = .ok (.ldc2_w 231, 3) := by decide +kernel
theorem dX10_draw_12 : decode cX10_draw 12 = .ok (.ladd, 1) := by decide +kernel
theorem dX10_draw_13 : decode cX10_draw 13 = .ok (.ldc2_w 233, 3) := by decide +kernel
theorem dX10_draw_16 : decode cX10_draw 16 = .ok (.lrem, 1) := by decide +kernel
theorem dX10_draw_17 : decode cX10_draw 17 = .ok (.putfield 227, 3) := by decide +kernel
theorem dX10_draw_20 : decode cX10_draw 20 = .ok (.aload_n 0, 1) := by decide +kernel
theorem dX10_draw_21 : decode cX10_draw 21 = .ok (.getfield 227, 3) := by decide +kernel
theorem dX10_draw_24 : decode cX10_draw 24 = .ok (.ldc2_w 235, 3) := by decide +kernel
theorem dX10_draw_27 : decode cX10_draw 27 = .ok (.ldiv, 1) := by decide +kernel
theorem dX10_draw_28 : decode cX10_draw 28 = .ok (.iload_n 1, 1) := by decide +kernel
theorem dX10_draw_29 : decode cX10_draw 29 = .ok (.i2l, 1) := by decide +kernel
theorem dX10_draw_30 : decode cX10_draw 30 = .ok (.lrem, 1) := by decide +kernel
theorem dX10_draw_31 : decode cX10_draw 31 = .ok (.l2i, 1) := by decide +kernel
theorem dX10_draw_32 : decode cX10_draw 32 = .ok (.ireturn, 1) := by decide +kernel
theorem dX10_step_0 : decode cX10_step 0 = .ok (.aload_n 0, 1) := by decide +kernel
theorem dX10_step_1 : decode cX10_step 1 = .ok (.bipush 8, 2) := by decide +kernel
theorem dX10_step_3 : decode cX10_step 3 = .ok (.invokevirtual 237, 3) := by decide +kernel
theorem dX10_step_6 : decode cX10_step 6 = .ok (.istore_n 1, 1) := by decide +kernel
theorem dX10_step_7 : decode cX10_step 7 = .ok (.aload_n 0, 1) := by decide +kernel
theorem dX10_step_8 : decode cX10_step 8 = .ok (.bipush 40, 2) := by decide +kernel
theorem dX10_step_10 : decode cX10_step 10 = .ok (.invokevirtual 237, 3) := by decide +kernel
theorem dX10_step_13 : decode cX10_step 13 = .ok (.istore_n 2, 1) := by decide +kernel
theorem dX10_step_14 : decode cX10_step 14 = .ok (.aload_n 0, 1) := by decide +kernel
theorem dX10_step_15 : decode cX10_step 15 = .ok (.bipush 9, 2) := by decide +kernel
theorem dX10_step_17 : decode cX10_step 17 = .ok (.invokevirtual 237, 3) := by decide +kernel
theorem dX10_step_20 : decode cX10_step 20 = .ok (.iconst 1, 1) := by decide +kernel
theorem dX10_step_21 : decode cX10_step 21 = .ok (.iadd, 1) := by decide +kernel
theorem dX10_step_22 : decode cX10_step 22 = .ok (.istore_n 3, 1) := by decide +kernel
theorem dX10_step_23 : decode cX10_step 23 = .ok (.iload_n 1, 1) := by decide +kernel
theorem dX10_step_24 : decode cX10_step 24 = .ok (.iconst 4, 1) := by decide +kernel
theorem dX10_step_25 : decode cX10_step 25 = .ok (.if_icmp .ge 18, 3) := by decide +kernel
theorem dX10_step_28 : decode cX10_step 28 = .ok (.aload_n 0, 1) := by decide +kernel
theorem dX10_step_29 : decode cX10_step 29 = .ok (.iload_n 2, 1) := by decide +kernel
theorem dX10_step_30 : decode cX10_step 30 = .ok (.invokevirtual 206, 3) := by decide +kernel
theorem dX10_step_33 : decode cX10_step 33 = .ok (.iconst 1, 1) := by decide +kernel
theorem dX10_step_34 : decode cX10_step 34 = .ok (.if_icmp .ne 7, 3) := by decide +kernel
theorem dX10_step_37 : decode cX10_step 37 = .ok (.iconst 1, 1) := by decide +kernel
theorem dX10_step_38 : decode cX10_step 38 = .ok (.goto 4, 3) := by decide +kernel
theorem dX10_step_41 : decode cX10_step 41 = .ok (.iconst 0, 1) := by decide +kernel
theorem dX10_step_42 : decode cX10_step 42 = .ok (.ireturn, 1) := by decide +kernel
theorem dX10_step_43 : decode cX10_step 43 = .ok (.iload_n 1, 1) := by decide +kernel
theorem dX10_step_44 : decode cX10_step 44 = .ok (.bipush 7, 2) := by decide +kernel
theorem dX10_step_46 : decode cX10_step 46 = .ok (.if_icmp .ge 15, 3) := by decide +kernel
theorem dX10_step_49 : decode cX10_step 49 = .ok (.aload_n 0, 1) := by decide +kernel
theorem dX10_step_50 : decode cX10_step 50 = .ok (.iload_n 2, 1) := by decide +kernel
theorem dX10_step_51 : decode cX10_step 51 = .ok (.iload_n 2, 1) := by decide +kernel
theorem dX10_step_52 : decode cX10_step 52 = .ok (.iload_n 3, 1) := by decide +kernel
theorem dX10_step_53 : decode cX10_step 53 = .ok (.iconst 0, 1) := by decide +kernel
theorem dX10_step_54 : decode cX10_step 54 = .ok (.invokevirtual 203, 3) := by decide +kernel
theorem dX10_step_57 : decode cX10_step 57 = .ok (.pop, 1) := by decide +kernel
theorem dX10_step_58 : decode cX10_step 58 = .ok (.goto 14, 3) := by decide +kernel
theorem dX10_step_61 : decode cX10_step 61 = .ok (.aload_n 0, 1) := by decide +kernel
theorem dX10_step_62 : decode cX10_step 62 = .ok (.iload_n 2, 1) := by decide +kernel
theorem dX10_step_63 : decode cX10_step 63 = .ok (.iconst 1, 1) := by decide +kernel
theorem dX10_step_64 : decode cX10_step 64 = .ok (.iload_n 2, 1) := by decide +kernel
theorem dX10_step_65 : decode cX10_step 65 = .ok (.iconst 2, 1) := by decide +kernel
theorem dX10_step_66 : decode cX10_step 66 = .ok (.irem, 1) := by decide +kernel
theorem dX10_step_67 : decode cX10_step 67 = .ok (.isub, 1) := by decide +kernel
theorem dX10_step_68 : decode cX10_step 68 = .ok (.invokevirtual 144, 3) := by decide +kernel
theorem dX10_step_71 : decode cX10_step 71 = .ok (.pop, 1) := by decide +kernel
theorem dX10_step_72 : decode cX10_step 72 = .ok (.iconst 0, 1) := by decide +kernel
theorem dX10_step_73 : decode cX10_step 73 = .ok (.ireturn, 1) := by decide +kernel
theorem dX10_chance_0 : decode cX10_chance 0 = .ok (.aload_n 0, 1) := by decide +kernel
theorem dX10_chance_1 : decode cX10_chance 1 = .ok (.iconst 0, 1) := by decide +kernel
theorem dX10_chance_2 : decode cX10_chance 2 = .ok (.putfield 1, 3) := by decide +kernel
theorem dX10_chance_5 : decode cX10_chance 5 = .ok (.iload_n 1, 1) := by decide +kernel
theorem dX10_chance_6 : decode cX10_chance 6 = .ok (.ifCond .lt 15, 3) := by decide +kernel
theorem dX10_chance_9 : decode cX10_chance 9 = .ok (.iload_n 2, 1) := by decide +kernel
theorem dX10_chance_10 : decode cX10_chance 10 = .ok (.i2l, 1) := by decide +kernel
theorem dX10_chance_11 : decode cX10_chance 11 = .ok (.lconst 0, 1) := by decide +kernel
theorem dX10_chance_12 : decode cX10_chance 12 = .ok (.ldc2_w 240, 3) := by decide +kernel
theorem dX10_chance_15 : decode cX10_chance 15 = .ok (.invokestatic 49, 3) := by decide +kernel
theorem dX10_chance_18 : decode cX10_chance 18 = .ok (.ifCond .ne 6, 3) := by decide +kernel
theorem dX10_chance_21 : decode cX10_chance 21 = .ok (.bipush (-2), 2) := by decide +kernel
theorem dX10_chance_23 : decode cX10_chance 23 = .ok (.ireturn, 1) := by decide +kernel
theorem dX10_chance_24 : decode cX10_chance 24 = .ok (.aload_n 0, 1) := by decide +kernel
theorem dX10_chance_25 : decode cX10_chance 25 = .ok (.iload_n 1, 1) := by decide +kernel
theorem dX10_chance_26 : decode cX10_chance 26 = .ok (.i2l, 1) := by decide +kernel
theorem dX10_chance_27 : decode cX10_chance 27 = .ok (.putfield 227, 3) := by decide +kernel
theorem dX10_chance_30 : decode cX10_chance 30 = .ok (.iconst 0, 1) := by decide +kernel
theorem dX10_chance_31 : decode cX10_chance 31 = .ok (.istore_n 3, 1) := by decide +kernel
theorem dX10_chance_32 : decode cX10_chance 32 = .ok (.iconst 0, 1) := by decide +kernel
theorem dX10_chance_33 : decode cX10_chance 33 = .ok (.istore 4, 2) := by decide +kernel
theorem dX10_chance_35 : decode cX10_chance 35 = .ok (.iload 4, 2) := by decide +kernel
theorem dX10_chance_37 : decode cX10_chance 37 = .ok (.iload_n 2, 1) := by decide +kernel
theorem dX10_chance_38 : decode cX10_chance 38 = .ok (.if_icmp .ge 19, 3) := by decide +kernel
theorem dX10_chance_41 : decode cX10_chance 41 = .ok (.iload_n 3, 1) := by decide +kernel
theorem dX10_chance_42 : decode cX10_chance 42 = .ok (.aload_n 0, 1) := by decide +kernel
theorem dX10_chance_43 : decode cX10_chance 43 = .ok (.invokevirtual 242, 3) := by decide +kernel
theorem dX10_chance_46 : decode cX10_chance 46 = .ok (.invokestatic 57, 3) := by decide +kernel
theorem dX10_chance_49 : decode cX10_chance 49 = .ok (.iadd, 1) := by decide +kernel
theorem dX10_chance_50 : decode cX10_chance 50 = .ok (.istore_n 3, 1) := by decide +kernel
theorem dX10_chance_51 : decode cX10_chance 51 = .ok (.iinc 4 1, 3) := by decide +kernel
theorem dX10_chance_54 : decode cX10_chance 54 = .ok (.goto (-19), 3) := by decide +kernel
theorem dX10_chance_57 : decode cX10_chance 57 = .ok (.iload_n 3, 1) := by decide +kernel
theorem dX10_chance_58 : decode cX10_chance 58 = .ok (.ireturn, 1) := by decide +kernel
theorem dX10_keep_0 : decode cX10_keep 0 = .ok (.aload_n 0, 1) := by decide +kernel
theorem dX10_keep_1 : decode cX10_keep 1 = .ok (.iconst 0, 1) := by decide +kernel
theorem dX10_keep_2 : decode cX10_keep 2 = .ok (.putfield 1, 3) := by decide +kernel
theorem dX10_keep_5 : decode cX10_keep 5 = .ok (.iload_n 1, 1) := by decide +kernel
theorem dX10_keep_6 : decode cX10_keep 6 = .ok (.i2l, 1) := by decide +kernel
theorem dX10_keep_7 : decode cX10_keep 7 = .ok (.lconst 0, 1) := by decide +kernel
theorem dX10_keep_8 : decode cX10_keep 8 = .ok (.lconst 1, 1) := by decide +kernel
theorem dX10_keep_9 : decode cX10_keep 9 = .ok (.invokestatic 49, 3) := by decide +kernel
theorem dX10_keep_12 : decode cX10_keep 12 = .ok (.ifCond .ne 6, 3) := by decide +kernel
theorem dX10_keep_15 : decode cX10_keep 15 = .ok (.bipush (-2), 2) := by decide +kernel
theorem dX10_keep_17 : decode cX10_keep 17 = .ok (.ireturn, 1) := by decide +kernel
theorem dX10_keep_18 : decode cX10_keep 18 = .ok (.aload_n 0, 1) := by decide +kernel
theorem dX10_keep_19 : decode cX10_keep 19 = .ok (.sipush 848, 3) := by decide +kernel
theorem dX10_keep_22 : decode cX10_keep 22 = .ok (.iload_n 1, 1) := by decide +kernel
theorem dX10_keep_23 : decode cX10_keep 23 = .ok (.iconst 1, 1) := by decide +kernel
theorem dX10_keep_24 : decode cX10_keep 24 = .ok (.iadd, 1) := by decide +kernel
theorem dX10_keep_25 : decode cX10_keep 25 = .ok (.imul, 1) := by decide +kernel
theorem dX10_keep_26 : decode cX10_keep 26 = .ok (.iconst 0, 1) := by decide +kernel
theorem dX10_keep_27 : decode cX10_keep 27 = .ok (.invokevirtual 246, 3) := by decide +kernel
theorem dX10_keep_30 : decode cX10_keep 30 = .ok (.aload_n 0, 1) := by decide +kernel
theorem dX10_keep_31 : decode cX10_keep 31 = .ok (.getfield 21, 3) := by decide +kernel
theorem dX10_keep_34 : decode cX10_keep 34 = .ok (.iload_n 1, 1) := by decide +kernel
theorem dX10_keep_35 : decode cX10_keep 35 = .ok (.iconst 1, 1) := by decide +kernel
theorem dX10_keep_36 : decode cX10_keep 36 = .ok (.bastore, 1) := by decide +kernel
theorem dX10_keep_37 : decode cX10_keep 37 = .ok (.aload_n 0, 1) := by decide +kernel
theorem dX10_keep_38 : decode cX10_keep 38 = .ok (.getfield 17, 3) := by decide +kernel
theorem dX10_keep_41 : decode cX10_keep 41 = .ok (.iconst 0, 1) := by decide +kernel
theorem dX10_keep_42 : decode cX10_keep 42 = .ok (.iaload, 1) := by decide +kernel
theorem dX10_keep_43 : decode cX10_keep 43 = .ok (.ireturn, 1) := by decide +kernel
theorem dX10_back_0 : decode cX10_back 0 = .ok (.aload_n 0, 1) := by decide +kernel
theorem dX10_back_1 : decode cX10_back 1 = .ok (.iconst 0, 1) := by decide +kernel
theorem dX10_back_2 : decode cX10_back 2 = .ok (.putfield 1, 3) := by decide +kernel
theorem dX10_back_5 : decode cX10_back 5 = .ok (.iload_n 1, 1) := by decide +kernel
theorem dX10_back_6 : decode cX10_back 6 = .ok (.i2l, 1) := by decide +kernel
theorem dX10_back_7 : decode cX10_back 7 = .ok (.lconst 0, 1) := by decide +kernel
theorem dX10_back_8 : decode cX10_back 8 = .ok (.lconst 1, 1) := by decide +kernel
theorem dX10_back_9 : decode cX10_back 9 = .ok (.invokestatic 49, 3) := by decide +kernel
theorem dX10_back_12 : decode cX10_back 12 = .ok (.ifCond .ne 6, 3) := by decide +kernel
theorem dX10_back_15 : decode cX10_back 15 = .ok (.bipush (-2), 2) := by decide +kernel
theorem dX10_back_17 : decode cX10_back 17 = .ok (.ireturn, 1) := by decide +kernel
theorem dX10_back_18 : decode cX10_back 18 = .ok (.aload_n 0, 1) := by decide +kernel
theorem dX10_back_19 : decode cX10_back 19 = .ok (.getfield 21, 3) := by decide +kernel
theorem dX10_back_22 : decode cX10_back 22 = .ok (.iload_n 1, 1) := by decide +kernel
theorem dX10_back_23 : decode cX10_back 23 = .ok (.baload, 1) := by decide +kernel
theorem dX10_back_24 : decode cX10_back 24 = .ok (.ifCond .ne 6, 3) := by decide +kernel
theorem dX10_back_27 : decode cX10_back 27 = .ok (.bipush (-3), 2) := by decide +kernel
theorem dX10_back_29 : decode cX10_back 29 = .ok (.ireturn, 1) := by decide +kernel
theorem dX10_back_30 : decode cX10_back 30 = .ok (.aload_n 0, 1) := by decide +kernel
theorem dX10_back_31 : decode cX10_back 31 = .ok (.iconst 0, 1) := by decide +kernel
theorem dX10_back_32 : decode cX10_back 32 = .ok (.sipush 848, 3) := by decide +kernel
theorem dX10_back_35 : decode cX10_back 35 = .ok (.iload_n 1, 1) := by decide +kernel
theorem dX10_back_36 : decode cX10_back 36 = .ok (.iconst 1, 1) := by decide +kernel
theorem dX10_back_37 : decode cX10_back 37 = .ok (.iadd, 1) := by decide +kernel
theorem dX10_back_38 : decode cX10_back 38 = .ok (.imul, 1) := by decide +kernel
theorem dX10_back_39 : decode cX10_back 39 = .ok (.invokevirtual 246, 3) := by decide +kernel
theorem dX10_back_42 : decode cX10_back 42 = .ok (.aload_n 0, 1) := by decide +kernel
theorem dX10_back_43 : decode cX10_back 43 = .ok (.getfield 17, 3) := by decide +kernel
theorem dX10_back_46 : decode cX10_back 46 = .ok (.iconst 0, 1) := by decide +kernel
theorem dX10_back_47 : decode cX10_back 47 = .ok (.iaload, 1) := by decide +kernel
theorem dX10_back_48 : decode cX10_back 48 = .ok (.ireturn, 1) := by decide +kernel
theorem dX10_entry_0 : decode cX10_entry 0 = .ok (.aload_n 0, 1) := by decide +kernel
theorem dX10_entry_1 : decode cX10_entry 1 = .ok (.iconst 0, 1) := by decide +kernel
theorem dX10_entry_2 : decode cX10_entry 2 = .ok (.putfield 1, 3) := by decide +kernel
theorem dX10_entry_5 : decode cX10_entry 5 = .ok (.aload_n 0, 1) := by decide +kernel
theorem dX10_entry_6 : decode cX10_entry 6 = .ok (.iload_n 1, 1) := by decide +kernel
theorem dX10_entry_7 : decode cX10_entry 7 = .ok (.invokevirtual 118, 3) := by decide +kernel
theorem dX10_entry_10 : decode cX10_entry 10 = .ok (.istore_n 3, 1) := by decide +kernel
theorem dX10_entry_11 : decode cX10_entry 11 = .ok (.iload_n 3, 1) := by decide +kernel
theorem dX10_entry_12 : decode cX10_entry 12 = .ok (.iconst (-1), 1) := by decide +kernel
theorem dX10_entry_13 : decode cX10_entry 13 = .ok (.if_icmp .eq 15, 3) := by decide +kernel
theorem dX10_entry_16 : decode cX10_entry 16 = .ok (.iload_n 2, 1) := by decide +kernel
theorem dX10_entry_17 : decode cX10_entry 17 = .ok (.i2l, 1) := by decide +kernel
theorem dX10_entry_18 : decode cX10_entry 18 = .ok (.lconst 0, 1) := by decide +kernel
theorem dX10_entry_19 : decode cX10_entry 19 = .ok (.ldc2_w 249, 3) := by decide +kernel
theorem dX10_entry_22 : decode cX10_entry 22 = .ok (.invokestatic 49, 3) := by decide +kernel
theorem dX10_entry_25 : decode cX10_entry 25 = .ok (.ifCond .ne 7, 3) := by decide +kernel
theorem dX10_entry_28 : decode cX10_entry 28 = .ok (.sipush (-10000), 3) := by decide +kernel
theorem dX10_entry_31 : decode cX10_entry 31 = .ok (.ireturn, 1) := by decide +kernel
theorem dX10_entry_32 : decode cX10_entry 32 = .ok (.iload_n 2, 1) := by decide +kernel
theorem dX10_entry_33 : decode cX10_entry 33 = .ok (.bipush 6, 2) := by decide +kernel
theorem dX10_entry_35 : decode cX10_entry 35 = .ok (.if_icmp .ge 14, 3) := by decide +kernel
theorem dX10_entry_38 : decode cX10_entry 38 = .ok (.aload_n 0, 1) := by decide +kernel
theorem dX10_entry_39 : decode cX10_entry 39 = .ok (.iload_n 3, 1) := by decide +kernel
theorem dX10_entry_40 : decode cX10_entry 40 = .ok (.iload_n 2, 1) := by decide +kernel
theorem dX10_entry_41 : decode cX10_entry 41 = .ok (.iconst 1, 1) := by decide +kernel
theorem dX10_entry_42 : decode cX10_entry 42 = .ok (.iadd, 1) := by decide +kernel
theorem dX10_entry_43 : decode cX10_entry 43 = .ok (.invokevirtual 44, 3) := by decide +kernel
theorem dX10_entry_46 : decode cX10_entry 46 = .ok (.goto 12, 3) := by decide +kernel
theorem dX10_entry_49 : decode cX10_entry 49 = .ok (.aload_n 0, 1) := by decide +kernel
theorem dX10_entry_50 : decode cX10_entry 50 = .ok (.iload_n 2, 1) := by decide +kernel
theorem dX10_entry_51 : decode cX10_entry 51 = .ok (.bipush 6, 2) := by decide +kernel
theorem dX10_entry_53 : decode cX10_entry 53 = .ok (.isub, 1) := by decide +kernel
theorem dX10_entry_54 : decode cX10_entry 54 = .ok (.iload_n 3, 1) := by decide +kernel
theorem dX10_entry_55 : decode cX10_entry 55 = .ok (.invokevirtual 61, 3) := by decide +kernel
theorem dX10_entry_58 : decode cX10_entry 58 = .ok (.ireturn, 1) := by decide +kernel
theorem dX10_order_0 : decode cX10_order 0 = .ok (.aload_n 0, 1) := by decide +kernel
theorem dX10_order_1 : decode cX10_order 1 = .ok (.iconst 0, 1) := by decide +kernel
theorem dX10_order_2 : decode cX10_order 2 = .ok (.putfield 1, 3) := by decide +kernel
theorem dX10_order_5 : decode cX10_order 5 = .ok (.iload_n 1, 1) := by decide +kernel
theorem dX10_order_6 : decode cX10_order 6 = .ok (.i2l, 1) := by decide +kernel
theorem dX10_order_7 : decode cX10_order 7 = .ok (.lconst 0, 1) := by decide +kernel
theorem dX10_order_8 : decode cX10_order 8 = .ok (.lconst 1, 1) := by decide +kernel
theorem dX10_order_9 : decode cX10_order 9 = .ok (.invokestatic 49, 3) := by decide +kernel
theorem dX10_order_12 : decode cX10_order 12 = .ok (.ifCond .eq 30, 3) := by decide +kernel
theorem dX10_order_15 : decode cX10_order 15 = .ok (.iload_n 2, 1) := by decide +kernel
theorem dX10_order_16 : decode cX10_order 16 = .ok (.i2l, 1) := by decide +kernel
theorem dX10_order_17 : decode cX10_order 17 = .ok (.lconst 0, 1) := by decide +kernel
theorem dX10_order_18 : decode cX10_order 18 = .ok (.aload_n 0, 1) := by decide +kernel
theorem dX10_order_19 : decode cX10_order 19 = .ok (.getfield 17, 3) := by decide +kernel
theorem dX10_order_22 : decode cX10_order 22 = .ok (.iconst 0, 1) := by decide +kernel
theorem dX10_order_23 : decode cX10_order 23 = .ok (.iaload, 1) := by decide +kernel
theorem dX10_order_24 : decode cX10_order 24 = .ok (.iconst 1, 1) := by decide +kernel
theorem dX10_order_25 : decode cX10_order 25 = .ok (.isub, 1) := by decide +kernel
theorem dX10_order_26 : decode cX10_order 26 = .ok (.i2l, 1) := by decide +kernel
theorem dX10_order_27 : decode cX10_order 27 = .ok (.invokestatic 49, 3) := by decide +kernel
theorem dX10_order_30 : decode cX10_order 30 = .ok (.ifCond .eq 12, 3) := by decide +kernel
theorem dX10_order_33 : decode cX10_order 33 = .ok (.aload_n 0, 1) := by decide +kernel
theorem dX10_order_34 : decode cX10_order 34 = .ok (.iload_n 1, 1) := by decide +kernel
theorem dX10_order_35 : decode cX10_order 35 = .ok (.iload_n 2, 1) := by decide +kernel
theorem dX10_order_36 : decode cX10_order 36 = .ok (.invokevirtual 251, 3) := by decide +kernel
theorem dX10_order_39 : decode cX10_order 39 = .ok (.goto 4, 3) := by decide +kernel
theorem dX10_order_42 : decode cX10_order 42 = .ok (.iconst (-1), 1) := by decide +kernel
theorem dX10_order_43 : decode cX10_order 43 = .ok (.ireturn, 1) := by decide +kernel
theorem dX10_ghost_0 : decode cX10_ghost 0 = .ok (.aload_n 0, 1) := by decide +kernel
theorem dX10_ghost_1 : decode cX10_ghost 1 = .ok (.iconst 0, 1) := by decide +kernel
theorem dX10_ghost_2 : decode cX10_ghost 2 = .ok (.putfield 1, 3) := by decide +kernel
theorem dX10_ghost_5 : decode cX10_ghost 5 = .ok (.iload_n 1, 1) := by decide +kernel
theorem dX10_ghost_6 : decode cX10_ghost 6 = .ok (.i2l, 1) := by decide +kernel
theorem dX10_ghost_7 : decode cX10_ghost 7 = .ok (.lconst 0, 1) := by decide +kernel
theorem dX10_ghost_8 : decode cX10_ghost 8 = .ok (.lconst 1, 1) := by decide +kernel
theorem dX10_ghost_9 : decode cX10_ghost 9 = .ok (.invokestatic 49, 3) := by decide +kernel
theorem dX10_ghost_12 : decode cX10_ghost 12 = .ok (.ifCond .eq 38, 3) := by decide +kernel
theorem dX10_ghost_15 : decode cX10_ghost 15 = .ok (.iload_n 2, 1) := by decide +kernel
theorem dX10_ghost_16 : decode cX10_ghost 16 = .ok (.i2l, 1) := by decide +kernel
theorem dX10_ghost_17 : decode cX10_ghost 17 = .ok (.lconst 0, 1) := by decide +kernel
theorem dX10_ghost_18 : decode cX10_ghost 18 = .ok (.aload_n 0, 1) := by decide +kernel
theorem dX10_ghost_19 : decode cX10_ghost 19 = .ok (.getfield 17, 3) := by decide +kernel
theorem dX10_ghost_22 : decode cX10_ghost 22 = .ok (.bipush 19, 2) := by decide +kernel
theorem dX10_ghost_24 : decode cX10_ghost 24 = .ok (.iload_n 1, 1) := by decide +kernel
theorem dX10_ghost_25 : decode cX10_ghost 25 = .ok (.iadd, 1) := by decide +kernel
theorem dX10_ghost_26 : decode cX10_ghost 26 = .ok (.iaload, 1) := by decide +kernel
theorem dX10_ghost_27 : decode cX10_ghost 27 = .ok (.iconst 1, 1) := by decide +kernel
theorem dX10_ghost_28 : decode cX10_ghost 28 = .ok (.isub, 1) := by decide +kernel
theorem dX10_ghost_29 : decode cX10_ghost 29 = .ok (.i2l, 1) := by decide +kernel
theorem dX10_ghost_30 : decode cX10_ghost 30 = .ok (.invokestatic 49, 3) := by decide +kernel
theorem dX10_ghost_33 : decode cX10_ghost 33 = .ok (.ifCond .eq 17, 3) := by decide +kernel
theorem dX10_ghost_36 : decode cX10_ghost 36 = .ok (.aload_n 0, 1) := by decide +kernel
theorem dX10_ghost_37 : decode cX10_ghost 37 = .ok (.getfield 17, 3) := by decide +kernel
theorem dX10_ghost_40 : decode cX10_ghost 40 = .ok (.aload_n 0, 1) := by decide +kernel
theorem dX10_ghost_41 : decode cX10_ghost 41 = .ok (.iload_n 1, 1) := by decide +kernel
theorem dX10_ghost_42 : decode cX10_ghost 42 = .ok (.iload_n 2, 1) := by decide +kernel
theorem dX10_ghost_43 : decode cX10_ghost 43 = .ok (.invokevirtual 79, 3) := by decide +kernel
theorem dX10_ghost_46 : decode cX10_ghost 46 = .ok (.iaload, 1) := by decide +kernel
theorem dX10_ghost_47 : decode cX10_ghost 47 = .ok (.goto 4, 3) := by decide +kernel
theorem dX10_ghost_50 : decode cX10_ghost 50 = .ok (.iconst (-1), 1) := by decide +kernel
theorem dX10_ghost_51 : decode cX10_ghost 51 = .ok (.ireturn, 1) := by decide +kernel
theorem dX10_countAbove_0 : decode cX10_countAbove 0 = .ok (.iconst (-1), 1) := by decide +kernel
theorem dX10_countAbove_1 : decode cX10_countAbove 1 = .ok (.istore_n 2, 1) := by decide +kernel
theorem dX10_countAbove_2 : decode cX10_countAbove 2 = .ok (.iconst 0, 1) := by decide +kernel
theorem dX10_countAbove_3 : decode cX10_countAbove 3 = .ok (.istore_n 3, 1) := by decide +kernel
theorem dX10_countAbove_4 : decode cX10_countAbove 4 = .ok (.iload_n 3, 1) := by decide +kernel
theorem dX10_countAbove_5 : decode cX10_countAbove 5 = .ok (.aload_n 0, 1) := by decide +kernel
theorem dX10_countAbove_6 : decode cX10_countAbove 6 = .ok (.getfield 17, 3) := by decide +kernel
theorem dX10_countAbove_9 : decode cX10_countAbove 9 = .ok (.iconst 0, 1) := by decide +kernel
theorem dX10_countAbove_10 : decode cX10_countAbove 10 = .ok (.iaload, 1) := by decide +kernel
theorem dX10_countAbove_11 : decode cX10_countAbove 11 = .ok (.if_icmp .ge 41, 3) := by decide +kernel
theorem dX10_countAbove_14 : decode cX10_countAbove 14 = .ok (.aload_n 0, 1) := by decide +kernel
theorem dX10_countAbove_15 : decode cX10_countAbove 15 = .ok (.iload_n 3, 1) := by decide +kernel
theorem dX10_countAbove_16 : decode cX10_countAbove 16 = .ok (.iconst 3, 1) := by decide +kernel
theorem dX10_countAbove_17 : decode cX10_countAbove 17 = .ok (.invokevirtual 44, 3) := by decide +kernel
theorem dX10_countAbove_20 : decode cX10_countAbove 20 = .ok (.iload_n 1, 1) := by decide +kernel
theorem dX10_countAbove_21 : decode cX10_countAbove 21 = .ok (.if_icmp .le 25, 3) := by decide +kernel
theorem dX10_countAbove_24 : decode cX10_countAbove 24 = .ok (.iload_n 2, 1) := by decide +kernel
theorem dX10_countAbove_25 : decode cX10_countAbove 25 = .ok (.iconst (-1), 1) := by decide +kernel
theorem dX10_countAbove_26 : decode cX10_countAbove 26 = .ok (.if_icmp .eq 13, 3) := by decide +kernel
theorem dX10_countAbove_29 : decode cX10_countAbove 29 = .ok (.aload_n 0, 1) := by decide +kernel
theorem dX10_countAbove_30 : decode cX10_countAbove 30 = .ok (.iload_n 3, 1) := by decide +kernel
theorem dX10_countAbove_31 : decode cX10_countAbove 31 = .ok (.iconst 3, 1) := by decide +kernel
theorem dX10_countAbove_32 : decode cX10_countAbove 32 = .ok (.invokevirtual 44, 3) := by decide +kernel
theorem dX10_countAbove_35 : decode cX10_countAbove 35 = .ok (.iload_n 2, 1) := by decide +kernel
theorem dX10_countAbove_36 : decode cX10_countAbove 36 = .ok (.if_icmp .ge 10, 3) := by decide +kernel
theorem dX10_countAbove_39 : decode cX10_countAbove 39 = .ok (.aload_n 0, 1) := by decide +kernel
theorem dX10_countAbove_40 : decode cX10_countAbove 40 = .ok (.iload_n 3, 1) := by decide +kernel
theorem dX10_countAbove_41 : decode cX10_countAbove 41 = .ok (.iconst 3, 1) := by decide +kernel
theorem dX10_countAbove_42 : decode cX10_countAbove 42 = .ok (.invokevirtual 44, 3) := by decide +kernel
theorem dX10_countAbove_45 : decode cX10_countAbove 45 = .ok (.istore_n 2, 1) := by decide +kernel
theorem dX10_countAbove_46 : decode cX10_countAbove 46 = .ok (.iinc 3 1, 3) := by decide +kernel
theorem dX10_countAbove_49 : decode cX10_countAbove 49 = .ok (.goto (-45), 3) := by decide +kernel
theorem dX10_countAbove_52 : decode cX10_countAbove 52 = .ok (.iload_n 2, 1) := by decide +kernel
theorem dX10_countAbove_53 : decode cX10_countAbove 53 = .ok (.ireturn, 1) := by decide +kernel
theorem dX10_unlike_0 : decode cX10_unlike 0 = .ok (.iconst 0, 1) := by decide +kernel
theorem dX10_unlike_1 : decode cX10_unlike 1 = .ok (.istore_n 1, 1) := by decide +kernel
theorem dX10_unlike_2 : decode cX10_unlike 2 = .ok (.aload_n 0, 1) := by decide +kernel
theorem dX10_unlike_3 : decode cX10_unlike 3 = .ok (.iconst (-1), 1) := by decide +kernel
theorem dX10_unlike_4 : decode cX10_unlike 4 = .ok (.invokevirtual 254, 3) := by decide +kernel
theorem dX10_unlike_7 : decode cX10_unlike 7 = .ok (.istore_n 2, 1) := by decide +kernel
theorem dX10_unlike_8 : decode cX10_unlike 8 = .ok (.iload_n 2, 1) := by decide +kernel
theorem dX10_unlike_9 : decode cX10_unlike 9 = .ok (.iconst (-1), 1) := by decide +kernel
theorem dX10_unlike_10 : decode cX10_unlike 10 = .ok (.if_icmp .eq 15, 3) := by decide +kernel
theorem dX10_unlike_13 : decode cX10_unlike 13 = .ok (.iinc 1 1, 3) := by decide +kernel
theorem dX10_unlike_16 : decode cX10_unlike 16 = .ok (.aload_n 0, 1) := by decide +kernel
theorem dX10_unlike_17 : decode cX10_unlike 17 = .ok (.iload_n 2, 1) := by decide +kernel
theorem dX10_unlike_18 : decode cX10_unlike 18 = .ok (.invokevirtual 254, 3) := by decide +kernel
theorem dX10_unlike_21 : decode cX10_unlike 21 = .ok (.istore_n 2, 1) := by decide +kernel
theorem dX10_unlike_22 : decode cX10_unlike 22 = .ok (.goto (-14), 3) := by decide +kernel
theorem dX10_unlike_25 : decode cX10_unlike 25 = .ok (.iload_n 1, 1) := by decide +kernel
theorem dX10_unlike_26 : decode cX10_unlike 26 = .ok (.ireturn, 1) := by decide +kernel
theorem dX10_ofCount_0 : decode cX10_ofCount 0 = .ok (.iconst 0, 1) := by decide +kernel
theorem dX10_ofCount_1 : decode cX10_ofCount 1 = .ok (.istore_n 3, 1) := by decide +kernel
theorem dX10_ofCount_2 : decode cX10_ofCount 2 = .ok (.iconst 0, 1) := by decide +kernel
theorem dX10_ofCount_3 : decode cX10_ofCount 3 = .ok (.istore 4, 2) := by decide +kernel
theorem dX10_ofCount_5 : decode cX10_ofCount 5 = .ok (.iload 4, 2) := by decide +kernel
theorem dX10_ofCount_7 : decode cX10_ofCount 7 = .ok (.aload_n 0, 1) := by decide +kernel
theorem dX10_ofCount_8 : decode cX10_ofCount 8 = .ok (.getfield 17, 3) := by decide +kernel
theorem dX10_ofCount_11 : decode cX10_ofCount 11 = .ok (.iconst 0, 1) := by decide +kernel
theorem dX10_ofCount_12 : decode cX10_ofCount 12 = .ok (.iaload, 1) := by decide +kernel
theorem dX10_ofCount_13 : decode cX10_ofCount 13 = .ok (.if_icmp .ge 38, 3) := by decide +kernel
theorem dX10_ofCount_16 : decode cX10_ofCount 16 = .ok (.aload_n 0, 1) := by decide +kernel
theorem dX10_ofCount_17 : decode cX10_ofCount 17 = .ok (.iload 4, 2) := by decide +kernel
theorem dX10_ofCount_19 : decode cX10_ofCount 19 = .ok (.iconst 3, 1) := by decide +kernel
theorem dX10_ofCount_20 : decode cX10_ofCount 20 = .ok (.invokevirtual 44, 3) := by decide +kernel
theorem dX10_ofCount_23 : decode cX10_ofCount 23 = .ok (.iload_n 1, 1) := by decide +kernel
theorem dX10_ofCount_24 : decode cX10_ofCount 24 = .ok (.if_icmp .ne 21, 3) := by decide +kernel
theorem dX10_ofCount_27 : decode cX10_ofCount 27 = .ok (.iload_n 3, 1) := by decide +kernel
theorem dX10_ofCount_28 : decode cX10_ofCount 28 = .ok (.iload_n 2, 1) := by decide +kernel
theorem dX10_ofCount_29 : decode cX10_ofCount 29 = .ok (.ifCond .ne 7, 3) := by decide +kernel
theorem dX10_ofCount_32 : decode cX10_ofCount 32 = .ok (.iconst 1, 1) := by decide +kernel
theorem dX10_ofCount_33 : decode cX10_ofCount 33 = .ok (.goto 10, 3) := by decide +kernel
theorem dX10_ofCount_36 : decode cX10_ofCount 36 = .ok (.aload_n 0, 1) := by decide +kernel
theorem dX10_ofCount_37 : decode cX10_ofCount 37 = .ok (.iload 4, 2) := by decide +kernel
theorem dX10_ofCount_39 : decode cX10_ofCount 39 = .ok (.iconst 2, 1) := by decide +kernel
theorem dX10_ofCount_40 : decode cX10_ofCount 40 = .ok (.invokevirtual 44, 3) := by decide +kernel
theorem dX10_ofCount_43 : decode cX10_ofCount 43 = .ok (.iadd, 1) := by decide +kernel
theorem dX10_ofCount_44 : decode cX10_ofCount 44 = .ok (.istore_n 3, 1) := by decide +kernel
theorem dX10_ofCount_45 : decode cX10_ofCount 45 = .ok (.iinc 4 1, 3) := by decide +kernel
theorem dX10_ofCount_48 : decode cX10_ofCount 48 = .ok (.goto (-43), 3) := by decide +kernel
theorem dX10_ofCount_51 : decode cX10_ofCount 51 = .ok (.iload_n 2, 1) := by decide +kernel
theorem dX10_ofCount_52 : decode cX10_ofCount 52 = .ok (.iconst 1, 1) := by decide +kernel
theorem dX10_ofCount_53 : decode cX10_ofCount 53 = .ok (.if_icmp .ne 7, 3) := by decide +kernel
theorem dX10_ofCount_56 : decode cX10_ofCount 56 = .ok (.iload_n 1, 1) := by decide +kernel
theorem dX10_ofCount_57 : decode cX10_ofCount 57 = .ok (.goto 4, 3) := by decide +kernel
theorem dX10_ofCount_60 : decode cX10_ofCount 60 = .ok (.iload_n 3, 1) := by decide +kernel
theorem dX10_ofCount_61 : decode cX10_ofCount 61 = .ok (.ireturn, 1) := by decide +kernel
theorem dX10_bucket_0 : decode cX10_bucket 0 = .ok (.aload_n 0, 1) := by decide +kernel
theorem dX10_bucket_1 : decode cX10_bucket 1 = .ok (.iconst 0, 1) := by decide +kernel
theorem dX10_bucket_2 : decode cX10_bucket 2 = .ok (.putfield 1, 3) := by decide +kernel
theorem dX10_bucket_5 : decode cX10_bucket 5 = .ok (.iload_n 1, 1) := by decide +kernel
theorem dX10_bucket_6 : decode cX10_bucket 6 = .ok (.iconst (-1), 1) := by decide +kernel
theorem dX10_bucket_7 : decode cX10_bucket 7 = .ok (.if_icmp .ne 8, 3) := by decide +kernel
theorem dX10_bucket_10 : decode cX10_bucket 10 = .ok (.aload_n 0, 1) := by decide +kernel
theorem dX10_bucket_11 : decode cX10_bucket 11 = .ok (.invokevirtual 257, 3) := by decide +kernel
theorem dX10_bucket_14 : decode cX10_bucket 14 = .ok (.ireturn, 1) := by decide +kernel
theorem dX10_bucket_15 : decode cX10_bucket 15 = .ok (.iload_n 1, 1) := by decide +kernel
theorem dX10_bucket_16 : decode cX10_bucket 16 = .ok (.i2l, 1) := by decide +kernel
theorem dX10_bucket_17 : decode cX10_bucket 17 = .ok (.lconst 0, 1) := by decide +kernel
theorem dX10_bucket_18 : decode cX10_bucket 18 = .ok (.aload_n 0, 1) := by decide +kernel
theorem dX10_bucket_19 : decode cX10_bucket 19 = .ok (.invokevirtual 257, 3) := by decide +kernel
theorem dX10_bucket_22 : decode cX10_bucket 22 = .ok (.iconst 1, 1) := by decide +kernel
theorem dX10_bucket_23 : decode cX10_bucket 23 = .ok (.isub, 1) := by decide +kernel
theorem dX10_bucket_24 : decode cX10_bucket 24 = .ok (.i2l, 1) := by decide +kernel
theorem dX10_bucket_25 : decode cX10_bucket 25 = .ok (.invokestatic 49, 3) := by decide +kernel
theorem dX10_bucket_28 : decode cX10_bucket 28 = .ok (.ifCond .eq 15, 3) := by decide +kernel
theorem dX10_bucket_31 : decode cX10_bucket 31 = .ok (.iload_n 2, 1) := by decide +kernel
theorem dX10_bucket_32 : decode cX10_bucket 32 = .ok (.i2l, 1) := by decide +kernel
theorem dX10_bucket_33 : decode cX10_bucket 33 = .ok (.lconst 0, 1) := by decide +kernel
theorem dX10_bucket_34 : decode cX10_bucket 34 = .ok (.ldc2_w 260, 3) := by decide +kernel
theorem dX10_bucket_37 : decode cX10_bucket 37 = .ok (.invokestatic 49, 3) := by decide +kernel
theorem dX10_bucket_40 : decode cX10_bucket 40 = .ok (.ifCond .ne 5, 3) := by decide +kernel
theorem dX10_bucket_43 : decode cX10_bucket 43 = .ok (.iconst (-1), 1) := by decide +kernel
theorem dX10_bucket_44 : decode cX10_bucket 44 = .ok (.ireturn, 1) := by decide +kernel
theorem dX10_bucket_45 : decode cX10_bucket 45 = .ok (.aload_n 0, 1) := by decide +kernel
theorem dX10_bucket_46 : decode cX10_bucket 46 = .ok (.iconst (-1), 1) := by decide +kernel
theorem dX10_bucket_47 : decode cX10_bucket 47 = .ok (.invokevirtual 254, 3) := by decide +kernel
theorem dX10_bucket_50 : decode cX10_bucket 50 = .ok (.istore_n 3, 1) := by decide +kernel
theorem dX10_bucket_51 : decode cX10_bucket 51 = .ok (.iconst 0, 1) := by decide +kernel
theorem dX10_bucket_52 : decode cX10_bucket 52 = .ok (.istore 4, 2) := by decide +kernel
theorem dX10_bucket_54 : decode cX10_bucket 54 = .ok (.iload 4, 2) := by decide +kernel
theorem dX10_bucket_56 : decode cX10_bucket 56 = .ok (.iload_n 1, 1) := by decide +kernel
theorem dX10_bucket_57 : decode cX10_bucket 57 = .ok (.if_icmp .ge 15, 3) := by decide +kernel
theorem dX10_bucket_60 : decode cX10_bucket 60 = .ok (.aload_n 0, 1) := by decide +kernel
theorem dX10_bucket_61 : decode cX10_bucket 61 = .ok (.iload_n 3, 1) := by decide +kernel
theorem dX10_bucket_62 : decode cX10_bucket 62 = .ok (.invokevirtual 254, 3) := by decide +kernel
theorem dX10_bucket_65 : decode cX10_bucket 65 = .ok (.istore_n 3, 1) := by decide +kernel
theorem dX10_bucket_66 : decode cX10_bucket 66 = .ok (.iinc 4 1, 3) := by decide +kernel
theorem dX10_bucket_69 : decode cX10_bucket 69 = .ok (.goto (-15), 3) := by decide +kernel
theorem dX10_bucket_72 : decode cX10_bucket 72 = .ok (.aload_n 0, 1) := by decide +kernel
theorem dX10_bucket_73 : decode cX10_bucket 73 = .ok (.iload_n 3, 1) := by decide +kernel
theorem dX10_bucket_74 : decode cX10_bucket 74 = .ok (.iload_n 2, 1) := by decide +kernel
theorem dX10_bucket_75 : decode cX10_bucket 75 = .ok (.invokevirtual 262, 3) := by decide +kernel
theorem dX10_bucket_78 : decode cX10_bucket 78 = .ok (.ireturn, 1) := by decide +kernel
theorem dX10_listener_0 : decode cX10_listener 0 = .ok (.aload_n 0, 1) := by decide +kernel
theorem dX10_listener_1 : decode cX10_listener 1 = .ok (.iconst 0, 1) := by decide +kernel
theorem dX10_listener_2 : decode cX10_listener 2 = .ok (.putfield 1, 3) := by decide +kernel
theorem dX10_listener_5 : decode cX10_listener 5 = .ok (.aload_n 0, 1) := by decide +kernel
theorem dX10_listener_6 : decode cX10_listener 6 = .ok (.iload_n 1, 1) := by decide +kernel
theorem dX10_listener_7 : decode cX10_listener 7 = .ok (.invokevirtual 222, 3) := by decide +kernel
theorem dX10_listener_10 : decode cX10_listener 10 = .ok (.ifCond .eq 33, 3) := by decide +kernel
theorem dX10_listener_13 : decode cX10_listener 13 = .ok (.iload_n 2, 1) := by decide +kernel
theorem dX10_listener_14 : decode cX10_listener 14 = .ok (.i2l, 1) := by decide +kernel
theorem dX10_listener_15 : decode cX10_listener 15 = .ok (.lconst 0, 1) := by decide +kernel
theorem dX10_listener_16 : decode cX10_listener 16 = .ok (.ldc2_w 260, 3) := by decide +kernel
theorem dX10_listener_19 : decode cX10_listener 19 = .ok (.invokestatic 49, 3) := by decide +kernel
theorem dX10_listener_22 : decode cX10_listener 22 = .ok (.ifCond .eq 21, 3) := by decide +kernel
theorem dX10_listener_25 : decode cX10_listener 25 = .ok (.aload_n 0, 1) := by decide +kernel
theorem dX10_listener_26 : decode cX10_listener 26 = .ok (.getfield 17, 3) := by decide +kernel
theorem dX10_listener_29 : decode cX10_listener 29 = .ok (.aload_n 0, 1) := by decide +kernel
theorem dX10_listener_30 : decode cX10_listener 30 = .ok (.iload_n 1, 1) := by decide +kernel
theorem dX10_listener_31 : decode cX10_listener 31 = .ok (.invokevirtual 115, 3) := by decide +kernel
theorem dX10_listener_34 : decode cX10_listener 34 = .ok (.bipush 6, 2) := by decide +kernel
theorem dX10_listener_36 : decode cX10_listener 36 = .ok (.iadd, 1) := by decide +kernel
theorem dX10_listener_37 : decode cX10_listener 37 = .ok (.iload_n 2, 1) := by decide +kernel
theorem dX10_listener_38 : decode cX10_listener 38 = .ok (.iadd, 1) := by decide +kernel
theorem dX10_listener_39 : decode cX10_listener 39 = .ok (.iaload, 1) := by decide +kernel
theorem dX10_listener_40 : decode cX10_listener 40 = .ok (.goto 4, 3) := by decide +kernel
theorem dX10_listener_43 : decode cX10_listener 43 = .ok (.iconst (-1), 1) := by decide +kernel
theorem dX10_listener_44 : decode cX10_listener 44 = .ok (.ireturn, 1) := by decide +kernel
theorem dX10_heard_0 : decode cX10_heard 0 = .ok (.aload_n 0, 1) := by decide +kernel
theorem dX10_heard_1 : decode cX10_heard 1 = .ok (.iconst 0, 1) := by decide +kernel
theorem dX10_heard_2 : decode cX10_heard 2 = .ok (.putfield 1, 3) := by decide +kernel
theorem dX10_heard_5 : decode cX10_heard 5 = .ok (.iload_n 1, 1) := by decide +kernel
theorem dX10_heard_6 : decode cX10_heard 6 = .ok (.i2l, 1) := by decide +kernel
theorem dX10_heard_7 : decode cX10_heard 7 = .ok (.lconst 0, 1) := by decide +kernel
theorem dX10_heard_8 : decode cX10_heard 8 = .ok (.aload_n 0, 1) := by decide +kernel
theorem dX10_heard_9 : decode cX10_heard 9 = .ok (.getfield 17, 3) := by decide +kernel
theorem dX10_heard_12 : decode cX10_heard 12 = .ok (.bipush 18, 2) := by decide +kernel
theorem dX10_heard_14 : decode cX10_heard 14 = .ok (.iaload, 1) := by decide +kernel
theorem dX10_heard_15 : decode cX10_heard 15 = .ok (.iconst 1, 1) := by decide +kernel
theorem dX10_heard_16 : decode cX10_heard 16 = .ok (.isub, 1) := by decide +kernel
theorem dX10_heard_17 : decode cX10_heard 17 = .ok (.i2l, 1) := by decide +kernel
theorem dX10_heard_18 : decode cX10_heard 18 = .ok (.invokestatic 49, 3) := by decide +kernel
theorem dX10_heard_21 : decode cX10_heard 21 = .ok (.ifCond .eq 32, 3) := by decide +kernel
theorem dX10_heard_24 : decode cX10_heard 24 = .ok (.iload_n 2, 1) := by decide +kernel
theorem dX10_heard_25 : decode cX10_heard 25 = .ok (.i2l, 1) := by decide +kernel
theorem dX10_heard_26 : decode cX10_heard 26 = .ok (.lconst 0, 1) := by decide +kernel
theorem dX10_heard_27 : decode cX10_heard 27 = .ok (.ldc2_w 209, 3) := by decide +kernel
theorem dX10_heard_30 : decode cX10_heard 30 = .ok (.invokestatic 49, 3) := by decide +kernel
theorem dX10_heard_33 : decode cX10_heard 33 = .ok (.ifCond .eq 20, 3) := by decide +kernel
theorem dX10_heard_36 : decode cX10_heard 36 = .ok (.aload_n 0, 1) := by decide +kernel
theorem dX10_heard_37 : decode cX10_heard 37 = .ok (.getfield 17, 3) := by decide +kernel
theorem dX10_heard_40 : decode cX10_heard 40 = .ok (.sipush 548, 3) := by decide +kernel
theorem dX10_heard_43 : decode cX10_heard 43 = .ok (.iconst 5, 1) := by decide +kernel
theorem dX10_heard_44 : decode cX10_heard 44 = .ok (.iload_n 1, 1) := by decide +kernel
theorem dX10_heard_45 : decode cX10_heard 45 = .ok (.imul, 1) := by decide +kernel
theorem dX10_heard_46 : decode cX10_heard 46 = .ok (.iadd, 1) := by decide +kernel
theorem dX10_heard_47 : decode cX10_heard 47 = .ok (.iload_n 2, 1) := by decide +kernel
theorem dX10_heard_48 : decode cX10_heard 48 = .ok (.iadd, 1) := by decide +kernel
theorem dX10_heard_49 : decode cX10_heard 49 = .ok (.iaload, 1) := by decide +kernel
theorem dX10_heard_50 : decode cX10_heard 50 = .ok (.goto 4, 3) := by decide +kernel
theorem dX10_heard_53 : decode cX10_heard 53 = .ok (.iconst (-1), 1) := by decide +kernel
theorem dX10_heard_54 : decode cX10_heard 54 = .ok (.ireturn, 1) := by decide +kernel
theorem dX10_request_0 : decode cX10_request 0 = .ok (.aload_n 0, 1) := by decide +kernel
theorem dX10_request_1 : decode cX10_request 1 = .ok (.iconst 0, 1) := by decide +kernel
theorem dX10_request_2 : decode cX10_request 2 = .ok (.putfield 1, 3) := by decide +kernel
theorem dX10_request_5 : decode cX10_request 5 = .ok (.iload_n 1, 1) := by decide +kernel
theorem dX10_request_6 : decode cX10_request 6 = .ok (.i2l, 1) := by decide +kernel
theorem dX10_request_7 : decode cX10_request 7 = .ok (.lconst 0, 1) := by decide +kernel
theorem dX10_request_8 : decode cX10_request 8 = .ok (.aload_n 0, 1) := by decide +kernel
theorem dX10_request_9 : decode cX10_request 9 = .ok (.getfield 17, 3) := by decide +kernel
theorem dX10_request_12 : decode cX10_request 12 = .ok (.bipush 14, 2) := by decide +kernel
theorem dX10_request_14 : decode cX10_request 14 = .ok (.iaload, 1) := by decide +kernel
theorem dX10_request_15 : decode cX10_request 15 = .ok (.iconst 1, 1) := by decide +kernel
theorem dX10_request_16 : decode cX10_request 16 = .ok (.isub, 1) := by decide +kernel
theorem dX10_request_17 : decode cX10_request 17 = .ok (.i2l, 1) := by decide +kernel
theorem dX10_request_18 : decode cX10_request 18 = .ok (.invokestatic 49, 3) := by decide +kernel
theorem dX10_request_21 : decode cX10_request 21 = .ok (.ifCond .eq 16, 3) := by decide +kernel
theorem dX10_request_24 : decode cX10_request 24 = .ok (.aload_n 0, 1) := by decide +kernel
theorem dX10_request_25 : decode cX10_request 25 = .ok (.getfield 17, 3) := by decide +kernel
theorem dX10_request_28 : decode cX10_request 28 = .ok (.sipush 748, 3) := by decide +kernel
theorem dX10_request_31 : decode cX10_request 31 = .ok (.iload_n 1, 1) := by decide +kernel
theorem dX10_request_32 : decode cX10_request 32 = .ok (.iadd, 1) := by decide +kernel
theorem dX10_request_33 : decode cX10_request 33 = .ok (.iaload, 1) := by decide +kernel
theorem dX10_request_34 : decode cX10_request 34 = .ok (.goto 4, 3) := by decide +kernel
theorem dX10_request_37 : decode cX10_request 37 = .ok (.iconst (-1), 1) := by decide +kernel
theorem dX10_request_38 : decode cX10_request 38 = .ok (.ireturn, 1) := by decide +kernel
theorem dX10_victim_0 : decode cX10_victim 0 = .ok (.aload_n 0, 1) := by decide +kernel
theorem dX10_victim_1 : decode cX10_victim 1 = .ok (.iconst 0, 1) := by decide +kernel
theorem dX10_victim_2 : decode cX10_victim 2 = .ok (.putfield 1, 3) := by decide +kernel
theorem dX10_victim_5 : decode cX10_victim 5 = .ok (.iload_n 1, 1) := by decide +kernel
theorem dX10_victim_6 : decode cX10_victim 6 = .ok (.i2l, 1) := by decide +kernel
theorem dX10_victim_7 : decode cX10_victim 7 = .ok (.lconst 0, 1) := by decide +kernel
theorem dX10_victim_8 : decode cX10_victim 8 = .ok (.ldc2_w 209, 3) := by decide +kernel
theorem dX10_victim_11 : decode cX10_victim 11 = .ok (.invokestatic 49, 3) := by decide +kernel
theorem dX10_victim_14 : decode cX10_victim 14 = .ok (.ifCond .ne 5, 3) := by decide +kernel
theorem dX10_victim_17 : decode cX10_victim 17 = .ok (.iconst (-1), 1) := by decide +kernel
theorem dX10_victim_18 : decode cX10_victim 18 = .ok (.ireturn, 1) := by decide +kernel
theorem dX10_victim_19 : decode cX10_victim 19 = .ok (.aload_n 0, 1) := by decide +kernel
theorem dX10_victim_20 : decode cX10_victim 20 = .ok (.iload_n 1, 1) := by decide +kernel
theorem dX10_victim_21 : decode cX10_victim 21 = .ok (.iconst (-1), 1) := by decide +kernel
theorem dX10_victim_22 : decode cX10_victim 22 = .ok (.invokevirtual 88, 3) := by decide +kernel
theorem dX10_victim_25 : decode cX10_victim 25 = .ok (.istore_n 2, 1) := by decide +kernel
theorem dX10_victim_26 : decode cX10_victim 26 = .ok (.iload_n 2, 1) := by decide +kernel
theorem dX10_victim_27 : decode cX10_victim 27 = .ok (.iconst (-1), 1) := by decide +kernel
theorem dX10_victim_28 : decode cX10_victim 28 = .ok (.if_icmp .ne 7, 3) := by decide +kernel
theorem dX10_victim_31 : decode cX10_victim 31 = .ok (.iconst (-1), 1) := by decide +kernel
theorem dX10_victim_32 : decode cX10_victim 32 = .ok (.goto 9, 3) := by decide +kernel
theorem dX10_victim_35 : decode cX10_victim 35 = .ok (.aload_n 0, 1) := by decide +kernel
theorem dX10_victim_36 : decode cX10_victim 36 = .ok (.iload_n 2, 1) := by decide +kernel
theorem dX10_victim_37 : decode cX10_victim 37 = .ok (.iconst 0, 1) := by decide +kernel
theorem dX10_victim_38 : decode cX10_victim 38 = .ok (.invokevirtual 44, 3) := by decide +kernel
theorem dX10_victim_41 : decode cX10_victim 41 = .ok (.ireturn, 1) := by decide +kernel
theorem dX10_toPaper_0 : decode cX10_toPaper 0 = .ok (.aload_n 0, 1) := by decide +kernel
theorem dX10_toPaper_1 : decode cX10_toPaper 1 = .ok (.sipush 2544, 3) := by decide +kernel
theorem dX10_toPaper_4 : decode cX10_toPaper 4 = .ok (.iconst 0, 1) := by decide +kernel
theorem dX10_toPaper_5 : decode cX10_toPaper 5 = .ok (.invokevirtual 246, 3) := by decide +kernel
theorem dX10_toPaper_8 : decode cX10_toPaper 8 = .ok (.aload_n 0, 1) := by decide +kernel
theorem dX10_toPaper_9 : decode cX10_toPaper 9 = .ok (.sipush 2544, 3) := by decide +kernel
theorem dX10_toPaper_12 : decode cX10_toPaper 12 = .ok (.putfield 41, 3) := by decide +kernel
theorem dX10_toPaper_15 : decode cX10_toPaper 15 = .ok (.aload_n 0, 1) := by decide +kernel
theorem dX10_toPaper_16 : decode cX10_toPaper 16 = .ok (.iconst 1, 1) := by decide +kernel
theorem dX10_toPaper_17 : decode cX10_toPaper 17 = .ok (.putfield 105, 3) := by decide +kernel
theorem dX10_toPaper_20 : decode cX10_toPaper 20 = .ok (.aload_n 0, 1) := by decide +kernel
theorem dX10_toPaper_21 : decode cX10_toPaper 21 = .ok (.iconst 0, 1) := by decide +kernel
theorem dX10_toPaper_22 : decode cX10_toPaper 22 = .ok (.putfield 95, 3) := by decide +kernel
theorem dX10_toPaper_25 : decode cX10_toPaper 25 = .ok (.return_, 1) := by decide +kernel
theorem dX10_makesRoom_0 : decode cX10_makesRoom 0 = .ok (.aload_n 0, 1) := by decide +kernel
theorem dX10_makesRoom_1 : decode cX10_makesRoom 1 = .ok (.invokevirtual 265, 3) := by decide +kernel
theorem dX10_makesRoom_4 : decode cX10_makesRoom 4 = .ok (.aload_n 0, 1) := by decide +kernel
theorem dX10_makesRoom_5 : decode cX10_makesRoom 5 = .ok (.getfield 17, 3) := by decide +kernel
theorem dX10_makesRoom_8 : decode cX10_makesRoom 8 = .ok (.aload_n 0, 1) := by decide +kernel
theorem dX10_makesRoom_9 : decode cX10_makesRoom 9 = .ok (.getfield 41, 3) := by decide +kernel
theorem dX10_makesRoom_12 : decode cX10_makesRoom 12 = .ok (.iconst 0, 1) := by decide +kernel
theorem dX10_makesRoom_13 : decode cX10_makesRoom 13 = .ok (.iadd, 1) := by decide +kernel
theorem dX10_makesRoom_14 : decode cX10_makesRoom 14 = .ok (.iaload, 1) := by decide +kernel
theorem dX10_makesRoom_15 : decode cX10_makesRoom 15 = .ok (.bipush 60, 2) := by decide +kernel
theorem dX10_makesRoom_17 : decode cX10_makesRoom 17 = .ok (.if_icmp .ne 12, 3) := by decide +kernel
theorem dX10_makesRoom_20 : decode cX10_makesRoom 20 = .ok (.aload_n 0, 1) := by decide +kernel
theorem dX10_makesRoom_21 : decode cX10_makesRoom 21 = .ok (.iconst (-1), 1) := by decide +kernel
theorem dX10_makesRoom_22 : decode cX10_makesRoom 22 = .ok (.invokevirtual 173, 3) := by decide +kernel
theorem dX10_makesRoom_25 : decode cX10_makesRoom 25 = .ok (.pop, 1) := by decide +kernel
theorem dX10_makesRoom_26 : decode cX10_makesRoom 26 = .ok (.goto (-22), 3) := by decide +kernel
theorem dX10_makesRoom_29 : decode cX10_makesRoom 29 = .ok (.aload_n 0, 1) := by decide +kernel
theorem dX10_makesRoom_30 : decode cX10_makesRoom 30 = .ok (.invokevirtual 179, 3) := by decide +kernel
theorem dX10_makesRoom_33 : decode cX10_makesRoom 33 = .ok (.iload_n 1, 1) := by decide +kernel
theorem dX10_makesRoom_34 : decode cX10_makesRoom 34 = .ok (.iadd, 1) := by decide +kernel
theorem dX10_makesRoom_35 : decode cX10_makesRoom 35 = .ok (.aload_n 0, 1) := by decide +kernel
theorem dX10_makesRoom_36 : decode cX10_makesRoom 36 = .ok (.getfield 17, 3) := by decide +kernel
theorem dX10_makesRoom_39 : decode cX10_makesRoom 39 = .ok (.aload_n 0, 1) := by decide +kernel
theorem dX10_makesRoom_40 : decode cX10_makesRoom 40 = .ok (.getfield 41, 3) := by decide +kernel
theorem dX10_makesRoom_43 : decode cX10_makesRoom 43 = .ok (.iconst 1, 1) := by decide +kernel
theorem dX10_makesRoom_44 : decode cX10_makesRoom 44 = .ok (.iadd, 1) := by decide +kernel
theorem dX10_makesRoom_45 : decode cX10_makesRoom 45 = .ok (.iaload, 1) := by decide +kernel
theorem dX10_makesRoom_46 : decode cX10_makesRoom 46 = .ok (.if_icmp .le 12, 3) := by decide +kernel
theorem dX10_makesRoom_49 : decode cX10_makesRoom 49 = .ok (.aload_n 0, 1) := by decide +kernel
theorem dX10_makesRoom_50 : decode cX10_makesRoom 50 = .ok (.iconst (-1), 1) := by decide +kernel
theorem dX10_makesRoom_51 : decode cX10_makesRoom 51 = .ok (.invokevirtual 173, 3) := by decide +kernel
theorem dX10_makesRoom_54 : decode cX10_makesRoom 54 = .ok (.pop, 1) := by decide +kernel
theorem dX10_makesRoom_55 : decode cX10_makesRoom 55 = .ok (.goto (-26), 3) := by decide +kernel
theorem dX10_makesRoom_58 : decode cX10_makesRoom 58 = .ok (.aload_n 0, 1) := by decide +kernel
theorem dX10_makesRoom_59 : decode cX10_makesRoom 59 = .ok (.invokevirtual 268, 3) := by decide +kernel
theorem dX10_makesRoom_62 : decode cX10_makesRoom 62 = .ok (.return_, 1) := by decide +kernel
theorem dX10_comesBack_0 : decode cX10_comesBack 0 = .ok (.aload_n 0, 1) := by decide +kernel
theorem dX10_comesBack_1 : decode cX10_comesBack 1 = .ok (.iconst 0, 1) := by decide +kernel
theorem dX10_comesBack_2 : decode cX10_comesBack 2 = .ok (.putfield 41, 3) := by decide +kernel
theorem dX10_comesBack_5 : decode cX10_comesBack 5 = .ok (.aload_n 0, 1) := by decide +kernel
theorem dX10_comesBack_6 : decode cX10_comesBack 6 = .ok (.iconst 0, 1) := by decide +kernel
theorem dX10_comesBack_7 : decode cX10_comesBack 7 = .ok (.putfield 105, 3) := by decide +kernel
theorem dX10_comesBack_10 : decode cX10_comesBack 10 = .ok (.return_, 1) := by decide +kernel
theorem dX10_victims_0 : decode cX10_victims 0 = .ok (.aload_n 0, 1) := by decide +kernel
theorem dX10_victims_1 : decode cX10_victims 1 = .ok (.iconst 0, 1) := by decide +kernel
theorem dX10_victims_2 : decode cX10_victims 2 = .ok (.putfield 1, 3) := by decide +kernel
theorem dX10_victims_5 : decode cX10_victims 5 = .ok (.iload_n 1, 1) := by decide +kernel
theorem dX10_victims_6 : decode cX10_victims 6 = .ok (.i2l, 1) := by decide +kernel
theorem dX10_victims_7 : decode cX10_victims 7 = .ok (.lconst 1, 1) := by decide +kernel
theorem dX10_victims_8 : decode cX10_victims 8 = .ok (.ldc2_w 201, 3) := by decide +kernel
theorem dX10_victims_11 : decode cX10_victims 11 = .ok (.invokestatic 49, 3) := by decide +kernel
theorem dX10_victims_14 : decode cX10_victims 14 = .ok (.ifCond .eq 17, 3) := by decide +kernel
theorem dX10_victims_17 : decode cX10_victims 17 = .ok (.iload_n 2, 1) := by decide +kernel
theorem dX10_victims_18 : decode cX10_victims 18 = .ok (.iconst (-1), 1) := by decide +kernel
theorem dX10_victims_19 : decode cX10_victims 19 = .ok (.if_icmp .lt 12, 3) := by decide +kernel
theorem dX10_victims_22 : decode cX10_victims 22 = .ok (.aload_n 0, 1) := by decide +kernel
theorem dX10_victims_23 : decode cX10_victims 23 = .ok (.iconst (-1), 1) := by decide +kernel
theorem dX10_victims_24 : decode cX10_victims 24 = .ok (.iload_n 1, 1) := by decide +kernel
theorem dX10_victims_25 : decode cX10_victims 25 = .ok (.invokevirtual 167, 3) := by decide +kernel
theorem dX10_victims_28 : decode cX10_victims 28 = .ok (.ifCond .eq 5, 3) := by decide +kernel
theorem dX10_victims_31 : decode cX10_victims 31 = .ok (.iconst (-1), 1) := by decide +kernel
theorem dX10_victims_32 : decode cX10_victims 32 = .ok (.ireturn, 1) := by decide +kernel
theorem dX10_victims_33 : decode cX10_victims 33 = .ok (.aload_n 0, 1) := by decide +kernel
theorem dX10_victims_34 : decode cX10_victims 34 = .ok (.iload_n 1, 1) := by decide +kernel
theorem dX10_victims_35 : decode cX10_victims 35 = .ok (.invokevirtual 271, 3) := by decide +kernel
theorem dX10_victims_38 : decode cX10_victims 38 = .ok (.iload_n 2, 1) := by decide +kernel
theorem dX10_victims_39 : decode cX10_victims 39 = .ok (.iconst (-1), 1) := by decide +kernel
theorem dX10_victims_40 : decode cX10_victims 40 = .ok (.if_icmp .ne 10, 3) := by decide +kernel
theorem dX10_victims_43 : decode cX10_victims 43 = .ok (.aload_n 0, 1) := by decide +kernel
theorem dX10_victims_44 : decode cX10_victims 44 = .ok (.getfield 95, 3) := by decide +kernel
theorem dX10_victims_47 : decode cX10_victims 47 = .ok (.goto 21, 3) := by decide +kernel
theorem dX10_victims_50 : decode cX10_victims 50 = .ok (.iload_n 2, 1) := by decide +kernel
theorem dX10_victims_51 : decode cX10_victims 51 = .ok (.aload_n 0, 1) := by decide +kernel
theorem dX10_victims_52 : decode cX10_victims 52 = .ok (.getfield 95, 3) := by decide +kernel
theorem dX10_victims_55 : decode cX10_victims 55 = .ok (.if_icmp .ge 12, 3) := by decide +kernel
theorem dX10_victims_58 : decode cX10_victims 58 = .ok (.aload_n 0, 1) := by decide +kernel
theorem dX10_victims_59 : decode cX10_victims 59 = .ok (.getfield 25, 3) := by decide +kernel
theorem dX10_victims_62 : decode cX10_victims 62 = .ok (.iload_n 2, 1) := by decide +kernel
theorem dX10_victims_63 : decode cX10_victims 63 = .ok (.iaload, 1) := by decide +kernel
theorem dX10_victims_64 : decode cX10_victims 64 = .ok (.goto 4, 3) := by decide +kernel
theorem dX10_victims_67 : decode cX10_victims 67 = .ok (.iconst (-1), 1) := by decide +kernel
theorem dX10_victims_68 : decode cX10_victims 68 = .ok (.ireturn, 1) := by decide +kernel
theorem dX10_room_0 : decode cX10_room 0 = .ok (.aload_n 0, 1) := by decide +kernel
theorem dX10_room_1 : decode cX10_room 1 = .ok (.iconst 0, 1) := by decide +kernel
theorem dX10_room_2 : decode cX10_room 2 = .ok (.putfield 1, 3) := by decide +kernel
theorem dX10_room_5 : decode cX10_room 5 = .ok (.iload_n 1, 1) := by decide +kernel
theorem dX10_room_6 : decode cX10_room 6 = .ok (.ifCond .ne 45, 3) := by decide +kernel
theorem dX10_room_9 : decode cX10_room 9 = .ok (.aload_n 0, 1) := by decide +kernel
theorem dX10_room_10 : decode cX10_room 10 = .ok (.getfield 17, 3) := by decide +kernel
theorem dX10_room_13 : decode cX10_room 13 = .ok (.iconst 0, 1) := by decide +kernel
theorem dX10_room_14 : decode cX10_room 14 = .ok (.iaload, 1) := by decide +kernel
theorem dX10_room_15 : decode cX10_room 15 = .ok (.bipush 60, 2) := by decide +kernel
theorem dX10_room_17 : decode cX10_room 17 = .ok (.if_icmp .ne 16, 3) := by decide +kernel
theorem dX10_room_20 : decode cX10_room 20 = .ok (.aload_n 0, 1) := by decide +kernel
theorem dX10_room_21 : decode cX10_room 21 = .ok (.invokevirtual 160, 3) := by decide +kernel
theorem dX10_room_24 : decode cX10_room 24 = .ok (.bipush 60, 2) := by decide +kernel
theorem dX10_room_26 : decode cX10_room 26 = .ok (.if_icmp .ne 7, 3) := by decide +kernel
theorem dX10_room_29 : decode cX10_room 29 = .ok (.iconst 0, 1) := by decide +kernel
theorem dX10_room_30 : decode cX10_room 30 = .ok (.goto 20, 3) := by decide +kernel
theorem dX10_room_33 : decode cX10_room 33 = .ok (.bipush 99, 2) := by decide +kernel
theorem dX10_room_35 : decode cX10_room 35 = .ok (.aload_n 0, 1) := by decide +kernel
theorem dX10_room_36 : decode cX10_room 36 = .ok (.getfield 17, 3) := by decide +kernel
theorem dX10_room_39 : decode cX10_room 39 = .ok (.iconst 1, 1) := by decide +kernel
theorem dX10_room_40 : decode cX10_room 40 = .ok (.iaload, 1) := by decide +kernel
theorem dX10_room_41 : decode cX10_room 41 = .ok (.aload_n 0, 1) := by decide +kernel
theorem dX10_room_42 : decode cX10_room 42 = .ok (.iconst (-1), 1) := by decide +kernel
theorem dX10_room_43 : decode cX10_room 43 = .ok (.invokevirtual 127, 3) := by decide +kernel
theorem dX10_room_46 : decode cX10_room 46 = .ok (.isub, 1) := by decide +kernel
theorem dX10_room_47 : decode cX10_room 47 = .ok (.invokestatic 7, 3) := by decide +kernel
theorem dX10_room_50 : decode cX10_room 50 = .ok (.ireturn, 1) := by decide +kernel
theorem dX10_room_51 : decode cX10_room 51 = .ok (.iload_n 1, 1) := by decide +kernel
theorem dX10_room_52 : decode cX10_room 52 = .ok (.iconst 1, 1) := by decide +kernel
theorem dX10_room_53 : decode cX10_room 53 = .ok (.if_icmp .eq 7, 3) := by decide +kernel
theorem dX10_room_56 : decode cX10_room 56 = .ok (.iconst (-1), 1) := by decide +kernel
theorem dX10_room_57 : decode cX10_room 57 = .ok (.goto 34, 3) := by decide +kernel
theorem dX10_room_60 : decode cX10_room 60 = .ok (.aload_n 0, 1) := by decide +kernel
theorem dX10_room_61 : decode cX10_room 61 = .ok (.getfield 17, 3) := by decide +kernel
theorem dX10_room_64 : decode cX10_room 64 = .ok (.iconst 0, 1) := by decide +kernel
theorem dX10_room_65 : decode cX10_room 65 = .ok (.iaload, 1) := by decide +kernel
theorem dX10_room_66 : decode cX10_room 66 = .ok (.bipush 60, 2) := by decide +kernel
theorem dX10_room_68 : decode cX10_room 68 = .ok (.if_icmp .ne 7, 3) := by decide +kernel
theorem dX10_room_71 : decode cX10_room 71 = .ok (.iconst 0, 1) := by decide +kernel
theorem dX10_room_72 : decode cX10_room 72 = .ok (.goto 19, 3) := by decide +kernel
theorem dX10_room_75 : decode cX10_room 75 = .ok (.bipush 99, 2) := by decide +kernel
theorem dX10_room_77 : decode cX10_room 77 = .ok (.aload_n 0, 1) := by decide +kernel
theorem dX10_room_78 : decode cX10_room 78 = .ok (.getfield 17, 3) := by decide +kernel
theorem dX10_room_81 : decode cX10_room 81 = .ok (.iconst 1, 1) := by decide +kernel
theorem dX10_room_82 : decode cX10_room 82 = .ok (.iaload, 1) := by decide +kernel
theorem dX10_room_83 : decode cX10_room 83 = .ok (.aload_n 0, 1) := by decide +kernel
theorem dX10_room_84 : decode cX10_room 84 = .ok (.invokevirtual 179, 3) := by decide +kernel
theorem dX10_room_87 : decode cX10_room 87 = .ok (.isub, 1) := by decide +kernel
theorem dX10_room_88 : decode cX10_room 88 = .ok (.invokestatic 7, 3) := by decide +kernel
theorem dX10_room_91 : decode cX10_room 91 = .ok (.ireturn, 1) := by decide +kernel
theorem dX10_kept_0 : decode cX10_kept 0 = .ok (.aload_n 0, 1) := by decide +kernel
theorem dX10_kept_1 : decode cX10_kept 1 = .ok (.iconst 0, 1) := by decide +kernel
theorem dX10_kept_2 : decode cX10_kept 2 = .ok (.putfield 1, 3) := by decide +kernel
theorem dX10_kept_5 : decode cX10_kept 5 = .ok (.iload_n 1, 1) := by decide +kernel
theorem dX10_kept_6 : decode cX10_kept 6 = .ok (.i2l, 1) := by decide +kernel
theorem dX10_kept_7 : decode cX10_kept 7 = .ok (.lconst 0, 1) := by decide +kernel
theorem dX10_kept_8 : decode cX10_kept 8 = .ok (.ldc2_w 125, 3) := by decide +kernel
theorem dX10_kept_11 : decode cX10_kept 11 = .ok (.invokestatic 49, 3) := by decide +kernel
theorem dX10_kept_14 : decode cX10_kept 14 = .ok (.ifCond .eq 17, 3) := by decide +kernel
theorem dX10_kept_17 : decode cX10_kept 17 = .ok (.aload_n 0, 1) := by decide +kernel
theorem dX10_kept_18 : decode cX10_kept 18 = .ok (.iconst (-1), 1) := by decide +kernel
theorem dX10_kept_19 : decode cX10_kept 19 = .ok (.invokevirtual 127, 3) := by decide +kernel
theorem dX10_kept_22 : decode cX10_kept 22 = .ok (.iload_n 1, 1) := by decide +kernel
theorem dX10_kept_23 : decode cX10_kept 23 = .ok (.if_icmp .gt 8, 3) := by decide +kernel
theorem dX10_kept_26 : decode cX10_kept 26 = .ok (.iload_n 2, 1) := by decide +kernel
theorem dX10_kept_27 : decode cX10_kept 27 = .ok (.iconst (-1), 1) := by decide +kernel
theorem dX10_kept_28 : decode cX10_kept 28 = .ok (.if_icmp .ge 5, 3) := by decide +kernel
theorem dX10_kept_31 : decode cX10_kept 31 = .ok (.iconst (-1), 1) := by decide +kernel
theorem dX10_kept_32 : decode cX10_kept 32 = .ok (.ireturn, 1) := by decide +kernel
theorem dX10_kept_33 : decode cX10_kept 33 = .ok (.aload_n 0, 1) := by decide +kernel
theorem dX10_kept_34 : decode cX10_kept 34 = .ok (.invokevirtual 265, 3) := by decide +kernel
theorem dX10_kept_37 : decode cX10_kept 37 = .ok (.aload_n 0, 1) := by decide +kernel
theorem dX10_kept_38 : decode cX10_kept 38 = .ok (.iload_n 1, 1) := by decide +kernel
theorem dX10_kept_39 : decode cX10_kept 39 = .ok (.invokevirtual 130, 3) := by decide +kernel
theorem dX10_kept_42 : decode cX10_kept 42 = .ok (.pop, 1) := by decide +kernel
theorem dX10_kept_43 : decode cX10_kept 43 = .ok (.iload_n 2, 1) := by decide +kernel
theorem dX10_kept_44 : decode cX10_kept 44 = .ok (.iconst (-1), 1) := by decide +kernel
theorem dX10_kept_45 : decode cX10_kept 45 = .ok (.if_icmp .ne 17, 3) := by decide +kernel
theorem dX10_kept_48 : decode cX10_kept 48 = .ok (.aload_n 0, 1) := by decide +kernel
theorem dX10_kept_49 : decode cX10_kept 49 = .ok (.getfield 17, 3) := by decide +kernel
theorem dX10_kept_52 : decode cX10_kept 52 = .ok (.aload_n 0, 1) := by decide +kernel
theorem dX10_kept_53 : decode cX10_kept 53 = .ok (.getfield 41, 3) := by decide +kernel
theorem dX10_kept_56 : decode cX10_kept 56 = .ok (.iconst 0, 1) := by decide +kernel
theorem dX10_kept_57 : decode cX10_kept 57 = .ok (.iadd, 1) := by decide +kernel
theorem dX10_kept_58 : decode cX10_kept 58 = .ok (.iaload, 1) := by decide +kernel
theorem dX10_kept_59 : decode cX10_kept 59 = .ok (.goto 28, 3) := by decide +kernel
theorem dX10_kept_62 : decode cX10_kept 62 = .ok (.iload_n 2, 1) := by decide +kernel
theorem dX10_kept_63 : decode cX10_kept 63 = .ok (.aload_n 0, 1) := by decide +kernel
theorem dX10_kept_64 : decode cX10_kept 64 = .ok (.getfield 17, 3) := by decide +kernel
theorem dX10_kept_67 : decode cX10_kept 67 = .ok (.aload_n 0, 1) := by decide +kernel
theorem dX10_kept_68 : decode cX10_kept 68 = .ok (.getfield 41, 3) := by decide +kernel
theorem dX10_kept_71 : decode cX10_kept 71 = .ok (.iconst 0, 1) := by decide +kernel
theorem dX10_kept_72 : decode cX10_kept 72 = .ok (.iadd, 1) := by decide +kernel
theorem dX10_kept_73 : decode cX10_kept 73 = .ok (.iaload, 1) := by decide +kernel
theorem dX10_kept_74 : decode cX10_kept 74 = .ok (.if_icmp .ge 12, 3) := by decide +kernel
theorem dX10_kept_77 : decode cX10_kept 77 = .ok (.aload_n 0, 1) := by decide +kernel
theorem dX10_kept_78 : decode cX10_kept 78 = .ok (.iconst 0, 1) := by decide +kernel
theorem dX10_kept_79 : decode cX10_kept 79 = .ok (.iload_n 2, 1) := by decide +kernel
theorem dX10_kept_80 : decode cX10_kept 80 = .ok (.invokevirtual 251, 3) := by decide +kernel
theorem dX10_kept_83 : decode cX10_kept 83 = .ok (.goto 4, 3) := by decide +kernel
theorem dX10_kept_86 : decode cX10_kept 86 = .ok (.iconst (-1), 1) := by decide +kernel
theorem dX10_kept_87 : decode cX10_kept 87 = .ok (.istore_n 3, 1) := by decide +kernel
theorem dX10_kept_88 : decode cX10_kept 88 = .ok (.aload_n 0, 1) := by decide +kernel
theorem dX10_kept_89 : decode cX10_kept 89 = .ok (.invokevirtual 268, 3) := by decide +kernel
theorem dX10_kept_92 : decode cX10_kept 92 = .ok (.iload_n 3, 1) := by decide +kernel
theorem dX10_kept_93 : decode cX10_kept 93 = .ok (.ireturn, 1) := by decide +kernel
theorem dX10_pack_0 : decode cX10_pack 0 = .ok (.aload_n 0, 1) := by decide +kernel
theorem dX10_pack_1 : decode cX10_pack 1 = .ok (.iconst 0, 1) := by decide +kernel
theorem dX10_pack_2 : decode cX10_pack 2 = .ok (.putfield 1, 3) := by decide +kernel
theorem dX10_pack_5 : decode cX10_pack 5 = .ok (.iload_n 1, 1) := by decide +kernel
theorem dX10_pack_6 : decode cX10_pack 6 = .ok (.aload_n 0, 1) := by decide +kernel
theorem dX10_pack_7 : decode cX10_pack 7 = .ok (.iconst (-1), 1) := by decide +kernel
theorem dX10_pack_8 : decode cX10_pack 8 = .ok (.invokevirtual 127, 3) := by decide +kernel
theorem dX10_pack_11 : decode cX10_pack 11 = .ok (.isub, 1) := by decide +kernel
theorem dX10_pack_12 : decode cX10_pack 12 = .ok (.istore_n 2, 1) := by decide +kernel
theorem dX10_pack_13 : decode cX10_pack 13 = .ok (.iload_n 1, 1) := by decide +kernel
theorem dX10_pack_14 : decode cX10_pack 14 = .ok (.i2l, 1) := by decide +kernel
theorem dX10_pack_15 : decode cX10_pack 15 = .ok (.lconst 0, 1) := by decide +kernel
theorem dX10_pack_16 : decode cX10_pack 16 = .ok (.ldc2_w 125, 3) := by decide +kernel
theorem dX10_pack_19 : decode cX10_pack 19 = .ok (.invokestatic 49, 3) := by decide +kernel
theorem dX10_pack_22 : decode cX10_pack 22 = .ok (.ifCond .eq 7, 3) := by decide +kernel
theorem dX10_pack_25 : decode cX10_pack 25 = .ok (.iload_n 2, 1) := by decide +kernel
theorem dX10_pack_26 : decode cX10_pack 26 = .ok (.ifCond .ge 5, 3) := by decide +kernel
theorem dX10_pack_29 : decode cX10_pack 29 = .ok (.iconst (-1), 1) := by decide +kernel
theorem dX10_pack_30 : decode cX10_pack 30 = .ok (.ireturn, 1) := by decide +kernel
theorem dX10_pack_31 : decode cX10_pack 31 = .ok (.iconst 0, 1) := by decide +kernel
theorem dX10_pack_32 : decode cX10_pack 32 = .ok (.istore_n 3, 1) := by decide +kernel
theorem dX10_pack_33 : decode cX10_pack 33 = .ok (.iconst 0, 1) := by decide +kernel
theorem dX10_pack_34 : decode cX10_pack 34 = .ok (.istore 4, 2) := by decide +kernel
theorem dX10_pack_36 : decode cX10_pack 36 = .ok (.iload 4, 2) := by decide +kernel
theorem dX10_pack_38 : decode cX10_pack 38 = .ok (.iload_n 2, 1) := by decide +kernel
theorem dX10_pack_39 : decode cX10_pack 39 = .ok (.if_icmp .gt 17, 3) := by decide +kernel
theorem dX10_pack_42 : decode cX10_pack 42 = .ok (.aload_n 0, 1) := by decide +kernel
theorem dX10_pack_43 : decode cX10_pack 43 = .ok (.getfield 31, 3) := by decide +kernel
theorem dX10_pack_46 : decode cX10_pack 46 = .ok (.iload 4, 2) := by decide +kernel
theorem dX10_pack_48 : decode cX10_pack 48 = .ok (.iconst 0, 1) := by decide +kernel
theorem dX10_pack_49 : decode cX10_pack 49 = .ok (.iastore, 1) := by decide +kernel
theorem dX10_pack_50 : decode cX10_pack 50 = .ok (.iinc 4 1, 3) := by decide +kernel
theorem dX10_pack_53 : decode cX10_pack 53 = .ok (.goto (-17), 3) := by decide +kernel
theorem dX10_pack_56 : decode cX10_pack 56 = .ok (.iconst 0, 1) := by decide +kernel
theorem dX10_pack_57 : decode cX10_pack 57 = .ok (.istore 4, 2) := by decide +kernel
theorem dX10_pack_59 : decode cX10_pack 59 = .ok (.iload 4, 2) := by decide +kernel
theorem dX10_pack_61 : decode cX10_pack 61 = .ok (.aload_n 0, 1) := by decide +kernel
theorem dX10_pack_62 : decode cX10_pack 62 = .ok (.getfield 17, 3) := by decide +kernel
theorem dX10_pack_65 : decode cX10_pack 65 = .ok (.iconst 0, 1) := by decide +kernel
theorem dX10_pack_66 : decode cX10_pack 66 = .ok (.iaload, 1) := by decide +kernel
theorem dX10_pack_67 : decode cX10_pack 67 = .ok (.if_icmp .ge 111, 3) := by decide +kernel
theorem dX10_pack_70 : decode cX10_pack 70 = .ok (.aload_n 0, 1) := by decide +kernel
theorem dX10_pack_71 : decode cX10_pack 71 = .ok (.iload 4, 2) := by decide +kernel
theorem dX10_pack_73 : decode cX10_pack 73 = .ok (.bipush 6, 2) := by decide +kernel
theorem dX10_pack_75 : decode cX10_pack 75 = .ok (.invokevirtual 44, 3) := by decide +kernel
theorem dX10_pack_78 : decode cX10_pack 78 = .ok (.iconst 1, 1) := by decide +kernel
theorem dX10_pack_79 : decode cX10_pack 79 = .ok (.if_icmp .ne 16, 3) := by decide +kernel
theorem dX10_pack_82 : decode cX10_pack 82 = .ok (.iload_n 3, 1) := by decide +kernel
theorem dX10_pack_83 : decode cX10_pack 83 = .ok (.aload_n 0, 1) := by decide +kernel
theorem dX10_pack_84 : decode cX10_pack 84 = .ok (.iload 4, 2) := by decide +kernel
theorem dX10_pack_86 : decode cX10_pack 86 = .ok (.iconst 3, 1) := by decide +kernel
theorem dX10_pack_87 : decode cX10_pack 87 = .ok (.invokevirtual 44, 3) := by decide +kernel
theorem dX10_pack_90 : decode cX10_pack 90 = .ok (.iadd, 1) := by decide +kernel
theorem dX10_pack_91 : decode cX10_pack 91 = .ok (.istore_n 3, 1) := by decide +kernel
theorem dX10_pack_92 : decode cX10_pack 92 = .ok (.goto 80, 3) := by decide +kernel
theorem dX10_pack_95 : decode cX10_pack 95 = .ok (.iload_n 2, 1) := by decide +kernel
theorem dX10_pack_96 : decode cX10_pack 96 = .ok (.istore 5, 2) := by decide +kernel
theorem dX10_pack_98 : decode cX10_pack 98 = .ok (.iload 5, 2) := by decide +kernel
theorem dX10_pack_100 : decode cX10_pack 100 = .ok (.aload_n 0, 1) := by decide +kernel
theorem dX10_pack_101 : decode cX10_pack 101 = .ok (.iload 4, 2) := by decide +kernel
theorem dX10_pack_103 : decode cX10_pack 103 = .ok (.iconst 2, 1) := by decide +kernel
theorem dX10_pack_104 : decode cX10_pack 104 = .ok (.invokevirtual 44, 3) := by decide +kernel
theorem dX10_pack_107 : decode cX10_pack 107 = .ok (.if_icmp .lt 65, 3) := by decide +kernel
theorem dX10_pack_110 : decode cX10_pack 110 = .ok (.aload_n 0, 1) := by decide +kernel
theorem dX10_pack_111 : decode cX10_pack 111 = .ok (.getfield 31, 3) := by decide +kernel
theorem dX10_pack_114 : decode cX10_pack 114 = .ok (.iload 5, 2) := by decide +kernel
theorem dX10_pack_116 : decode cX10_pack 116 = .ok (.aload_n 0, 1) := by decide +kernel
theorem dX10_pack_117 : decode cX10_pack 117 = .ok (.iload 4, 2) := by decide +kernel
theorem dX10_pack_119 : decode cX10_pack 119 = .ok (.iconst 2, 1) := by decide +kernel
theorem dX10_pack_120 : decode cX10_pack 120 = .ok (.invokevirtual 44, 3) := by decide +kernel
theorem dX10_pack_123 : decode cX10_pack 123 = .ok (.isub, 1) := by decide +kernel
theorem dX10_pack_124 : decode cX10_pack 124 = .ok (.iaload, 1) := by decide +kernel
theorem dX10_pack_125 : decode cX10_pack 125 = .ok (.aload_n 0, 1) := by decide +kernel
theorem dX10_pack_126 : decode cX10_pack 126 = .ok (.iload 4, 2) := by decide +kernel
theorem dX10_pack_128 : decode cX10_pack 128 = .ok (.iconst 3, 1) := by decide +kernel
theorem dX10_pack_129 : decode cX10_pack 129 = .ok (.invokevirtual 44, 3) := by decide +kernel
theorem dX10_pack_132 : decode cX10_pack 132 = .ok (.iadd, 1) := by decide +kernel
theorem dX10_pack_133 : decode cX10_pack 133 = .ok (.istore 6, 2) := by decide +kernel
theorem dX10_pack_135 : decode cX10_pack 135 = .ok (.aload_n 0, 1) := by decide +kernel
theorem dX10_pack_136 : decode cX10_pack 136 = .ok (.getfield 31, 3) := by decide +kernel
theorem dX10_pack_139 : decode cX10_pack 139 = .ok (.iload 5, 2) := by decide +kernel
theorem dX10_pack_141 : decode cX10_pack 141 = .ok (.iload 6, 2) := by decide +kernel
theorem dX10_pack_143 : decode cX10_pack 143 = .ok (.aload_n 0, 1) := by decide +kernel
theorem dX10_pack_144 : decode cX10_pack 144 = .ok (.getfield 31, 3) := by decide +kernel
theorem dX10_pack_147 : decode cX10_pack 147 = .ok (.iload 5, 2) := by decide +kernel
theorem dX10_pack_149 : decode cX10_pack 149 = .ok (.iaload, 1) := by decide +kernel
theorem dX10_pack_150 : decode cX10_pack 150 = .ok (.if_icmp .le 8, 3) := by decide +kernel
theorem dX10_pack_153 : decode cX10_pack 153 = .ok (.iload 6, 2) := by decide +kernel
theorem dX10_pack_155 : decode cX10_pack 155 = .ok (.goto 10, 3) := by decide +kernel
theorem dX10_pack_158 : decode cX10_pack 158 = .ok (.aload_n 0, 1) := by decide +kernel
theorem dX10_pack_159 : decode cX10_pack 159 = .ok (.getfield 31, 3) := by decide +kernel
theorem dX10_pack_162 : decode cX10_pack 162 = .ok (.iload 5, 2) := by decide +kernel
theorem dX10_pack_164 : decode cX10_pack 164 = .ok (.iaload, 1) := by decide +kernel
theorem dX10_pack_165 : decode cX10_pack 165 = .ok (.iastore, 1) := by decide +kernel
theorem dX10_pack_166 : decode cX10_pack 166 = .ok (.iinc 5 (-1), 3) := by decide +kernel
theorem dX10_pack_169 : decode cX10_pack 169 = .ok (.goto (-71), 3) := by decide +kernel
theorem dX10_pack_172 : decode cX10_pack 172 = .ok (.iinc 4 1, 3) := by decide +kernel
theorem dX10_pack_175 : decode cX10_pack 175 = .ok (.goto (-116), 3) := by decide +kernel
theorem dX10_pack_178 : decode cX10_pack 178 = .ok (.iload_n 3, 1) := by decide +kernel
theorem dX10_pack_179 : decode cX10_pack 179 = .ok (.aload_n 0, 1) := by decide +kernel
theorem dX10_pack_180 : decode cX10_pack 180 = .ok (.getfield 31, 3) := by decide +kernel
theorem dX10_pack_183 : decode cX10_pack 183 = .ok (.iload_n 2, 1) := by decide +kernel
theorem dX10_pack_184 : decode cX10_pack 184 = .ok (.iaload, 1) := by decide +kernel
theorem dX10_pack_185 : decode cX10_pack 185 = .ok (.iadd, 1) := by decide +kernel
theorem dX10_pack_186 : decode cX10_pack 186 = .ok (.ireturn, 1) := by decide +kernel
theorem dX10_hearsKind_0 : decode cX10_hearsKind 0 = .ok (.aload_n 0, 1) := by decide +kernel
theorem dX10_hearsKind_1 : decode cX10_hearsKind 1 = .ok (.getfield 17, 3) := by decide +kernel
theorem dX10_hearsKind_4 : decode cX10_hearsKind 4 = .ok (.aload_n 0, 1) := by decide +kernel
theorem dX10_hearsKind_5 : decode cX10_hearsKind 5 = .ok (.iload_n 1, 1) := by decide +kernel
theorem dX10_hearsKind_6 : decode cX10_hearsKind 6 = .ok (.invokevirtual 115, 3) := by decide +kernel
theorem dX10_hearsKind_9 : decode cX10_hearsKind 9 = .ok (.iconst 0, 1) := by decide +kernel
theorem dX10_hearsKind_10 : decode cX10_hearsKind 10 = .ok (.iadd, 1) := by decide +kernel
theorem dX10_hearsKind_11 : decode cX10_hearsKind 11 = .ok (.iaload, 1) := by decide +kernel
theorem dX10_hearsKind_12 : decode cX10_hearsKind 12 = .ok (.iconst (-1), 1) := by decide +kernel
theorem dX10_hearsKind_13 : decode cX10_hearsKind 13 = .ok (.if_icmp .eq 19, 3) := by decide +kernel
theorem dX10_hearsKind_16 : decode cX10_hearsKind 16 = .ok (.aload_n 0, 1) := by decide +kernel
theorem dX10_hearsKind_17 : decode cX10_hearsKind 17 = .ok (.getfield 17, 3) := by decide +kernel
theorem dX10_hearsKind_20 : decode cX10_hearsKind 20 = .ok (.aload_n 0, 1) := by decide +kernel
theorem dX10_hearsKind_21 : decode cX10_hearsKind 21 = .ok (.iload_n 1, 1) := by decide +kernel
theorem dX10_hearsKind_22 : decode cX10_hearsKind 22 = .ok (.invokevirtual 115, 3) := by decide +kernel
theorem dX10_hearsKind_25 : decode cX10_hearsKind 25 = .ok (.iconst 0, 1) := by decide +kernel
theorem dX10_hearsKind_26 : decode cX10_hearsKind 26 = .ok (.iadd, 1) := by decide +kernel
theorem dX10_hearsKind_27 : decode cX10_hearsKind 27 = .ok (.iaload, 1) := by decide +kernel
theorem dX10_hearsKind_28 : decode cX10_hearsKind 28 = .ok (.iload_n 2, 1) := by decide +kernel
theorem dX10_hearsKind_29 : decode cX10_hearsKind 29 = .ok (.if_icmp .ne 7, 3) := by decide +kernel
theorem dX10_hearsKind_32 : decode cX10_hearsKind 32 = .ok (.iconst 1, 1) := by decide +kernel
theorem dX10_hearsKind_33 : decode cX10_hearsKind 33 = .ok (.goto 4, 3) := by decide +kernel
theorem dX10_hearsKind_36 : decode cX10_hearsKind 36 = .ok (.iconst 0, 1) := by decide +kernel
theorem dX10_hearsKind_37 : decode cX10_hearsKind 37 = .ok (.ireturn, 1) := by decide +kernel
theorem dX10_meets_0 : decode cX10_meets 0 = .ok (.aload_n 0, 1) := by decide +kernel
theorem dX10_meets_1 : decode cX10_meets 1 = .ok (.iload_n 1, 1) := by decide +kernel
theorem dX10_meets_2 : decode cX10_meets 2 = .ok (.invokevirtual 115, 3) := by decide +kernel
theorem dX10_meets_5 : decode cX10_meets 5 = .ok (.istore_n 3, 1) := by decide +kernel
theorem dX10_meets_6 : decode cX10_meets 6 = .ok (.aload_n 0, 1) := by decide +kernel
theorem dX10_meets_7 : decode cX10_meets 7 = .ok (.iload_n 2, 1) := by decide +kernel
theorem dX10_meets_8 : decode cX10_meets 8 = .ok (.invokevirtual 115, 3) := by decide +kernel
theorem dX10_meets_11 : decode cX10_meets 11 = .ok (.istore 4, 2) := by decide +kernel
theorem dX10_meets_13 : decode cX10_meets 13 = .ok (.aload_n 0, 1) := by decide +kernel
theorem dX10_meets_14 : decode cX10_meets 14 = .ok (.getfield 17, 3) := by decide +kernel
theorem dX10_meets_17 : decode cX10_meets 17 = .ok (.iload_n 3, 1) := by decide +kernel
theorem dX10_meets_18 : decode cX10_meets 18 = .ok (.iconst 2, 1) := by decide +kernel
theorem dX10_meets_19 : decode cX10_meets 19 = .ok (.iadd, 1) := by decide +kernel
theorem dX10_meets_20 : decode cX10_meets 20 = .ok (.iaload, 1) := by decide +kernel
theorem dX10_meets_21 : decode cX10_meets 21 = .ok (.istore 5, 2) := by decide +kernel
theorem dX10_meets_23 : decode cX10_meets 23 = .ok (.iload 5, 2) := by decide +kernel
theorem dX10_meets_25 : decode cX10_meets 25 = .ok (.sipush 1000, 3) := by decide +kernel
theorem dX10_meets_28 : decode cX10_meets 28 = .ok (.if_icmp .ge 70, 3) := by decide +kernel
theorem dX10_meets_31 : decode cX10_meets 31 = .ok (.iload 5, 2) := by decide +kernel
theorem dX10_meets_33 : decode cX10_meets 33 = .ok (.aload_n 0, 1) := by decide +kernel
theorem dX10_meets_34 : decode cX10_meets 34 = .ok (.getfield 17, 3) := by decide +kernel
theorem dX10_meets_37 : decode cX10_meets 37 = .ok (.iload_n 3, 1) := by decide +kernel
theorem dX10_meets_38 : decode cX10_meets 38 = .ok (.iconst 4, 1) := by decide +kernel
theorem dX10_meets_39 : decode cX10_meets 39 = .ok (.iadd, 1) := by decide +kernel
theorem dX10_meets_40 : decode cX10_meets 40 = .ok (.iaload, 1) := by decide +kernel
theorem dX10_meets_41 : decode cX10_meets 41 = .ok (.iadd, 1) := by decide +kernel
theorem dX10_meets_42 : decode cX10_meets 42 = .ok (.sipush 1000, 3) := by decide +kernel
theorem dX10_meets_45 : decode cX10_meets 45 = .ok (.irem, 1) := by decide +kernel
theorem dX10_meets_46 : decode cX10_meets 46 = .ok (.sipush 1000, 3) := by decide +kernel
theorem dX10_meets_49 : decode cX10_meets 49 = .ok (.iadd, 1) := by decide +kernel
theorem dX10_meets_50 : decode cX10_meets 50 = .ok (.sipush 1000, 3) := by decide +kernel
theorem dX10_meets_53 : decode cX10_meets 53 = .ok (.irem, 1) := by decide +kernel
theorem dX10_meets_54 : decode cX10_meets 54 = .ok (.istore 6, 2) := by decide +kernel
theorem dX10_meets_56 : decode cX10_meets 56 = .ok (.iload 6, 2) := by decide +kernel
theorem dX10_meets_58 : decode cX10_meets 58 = .ok (.aload_n 0, 1) := by decide +kernel
theorem dX10_meets_59 : decode cX10_meets 59 = .ok (.getfield 17, 3) := by decide +kernel
theorem dX10_meets_62 : decode cX10_meets 62 = .ok (.iload 4, 2) := by decide +kernel
theorem dX10_meets_64 : decode cX10_meets 64 = .ok (.iconst 1, 1) := by decide +kernel
theorem dX10_meets_65 : decode cX10_meets 65 = .ok (.iadd, 1) := by decide +kernel
theorem dX10_meets_66 : decode cX10_meets 66 = .ok (.iaload, 1) := by decide +kernel
theorem dX10_meets_67 : decode cX10_meets 67 = .ok (.irem, 1) := by decide +kernel
theorem dX10_meets_68 : decode cX10_meets 68 = .ok (.aload_n 0, 1) := by decide +kernel
theorem dX10_meets_69 : decode cX10_meets 69 = .ok (.getfield 17, 3) := by decide +kernel
theorem dX10_meets_72 : decode cX10_meets 72 = .ok (.iload 4, 2) := by decide +kernel
theorem dX10_meets_74 : decode cX10_meets 74 = .ok (.iconst 2, 1) := by decide +kernel
theorem dX10_meets_75 : decode cX10_meets 75 = .ok (.iadd, 1) := by decide +kernel
theorem dX10_meets_76 : decode cX10_meets 76 = .ok (.iaload, 1) := by decide +kernel
theorem dX10_meets_77 : decode cX10_meets 77 = .ok (.if_icmp .ne 5, 3) := by decide +kernel
theorem dX10_meets_80 : decode cX10_meets 80 = .ok (.iconst 1, 1) := by decide +kernel
theorem dX10_meets_81 : decode cX10_meets 81 = .ok (.ireturn, 1) := by decide +kernel
theorem dX10_meets_82 : decode cX10_meets 82 = .ok (.iload 5, 2) := by decide +kernel
theorem dX10_meets_84 : decode cX10_meets 84 = .ok (.aload_n 0, 1) := by decide +kernel
theorem dX10_meets_85 : decode cX10_meets 85 = .ok (.getfield 17, 3) := by decide +kernel
theorem dX10_meets_88 : decode cX10_meets 88 = .ok (.iload_n 3, 1) := by decide +kernel
theorem dX10_meets_89 : decode cX10_meets 89 = .ok (.iconst 1, 1) := by decide +kernel
theorem dX10_meets_90 : decode cX10_meets 90 = .ok (.iadd, 1) := by decide +kernel
theorem dX10_meets_91 : decode cX10_meets 91 = .ok (.iaload, 1) := by decide +kernel
theorem dX10_meets_92 : decode cX10_meets 92 = .ok (.iadd, 1) := by decide +kernel
theorem dX10_meets_93 : decode cX10_meets 93 = .ok (.istore 5, 2) := by decide +kernel
theorem dX10_meets_95 : decode cX10_meets 95 = .ok (.goto (-72), 3) := by decide +kernel
theorem dX10_meets_98 : decode cX10_meets 98 = .ok (.iconst 0, 1) := by decide +kernel
theorem dX10_meets_99 : decode cX10_meets 99 = .ok (.ireturn, 1) := by decide +kernel
theorem dX10_doesWake_0 : decode cX10_doesWake 0 = .ok (.aload_n 0, 1) := by decide +kernel
theorem dX10_doesWake_1 : decode cX10_doesWake 1 = .ok (.getfield 17, 3) := by decide +kernel
theorem dX10_doesWake_4 : decode cX10_doesWake 4 = .ok (.aload_n 0, 1) := by decide +kernel
theorem dX10_doesWake_5 : decode cX10_doesWake 5 = .ok (.iload_n 1, 1) := by decide +kernel
theorem dX10_doesWake_6 : decode cX10_doesWake 6 = .ok (.invokevirtual 115, 3) := by decide +kernel
theorem dX10_doesWake_9 : decode cX10_doesWake 9 = .ok (.iconst 3, 1) := by decide +kernel
theorem dX10_doesWake_10 : decode cX10_doesWake 10 = .ok (.iadd, 1) := by decide +kernel
theorem dX10_doesWake_11 : decode cX10_doesWake 11 = .ok (.iaload, 1) := by decide +kernel
theorem dX10_doesWake_12 : decode cX10_doesWake 12 = .ok (.istore_n 3, 1) := by decide +kernel
theorem dX10_doesWake_13 : decode cX10_doesWake 13 = .ok (.iload_n 3, 1) := by decide +kernel
theorem dX10_doesWake_14 : decode cX10_doesWake 14 = .ok (.tableswitch 168 1 6 #[38, 90, 114, 168, 168, 138], 38) := by decide +kernel
theorem dX10_doesWake_52 : decode cX10_doesWake 52 = .ok (.aload_n 0, 1) := by decide +kernel
theorem dX10_doesWake_53 : decode cX10_doesWake 53 = .ok (.iload_n 2, 1) := by decide +kernel
theorem dX10_doesWake_54 : decode cX10_doesWake 54 = .ok (.iconst 2, 1) := by decide +kernel
theorem dX10_doesWake_55 : decode cX10_doesWake 55 = .ok (.invokevirtual 274, 3) := by decide +kernel
theorem dX10_doesWake_58 : decode cX10_doesWake 58 = .ok (.ifCond .ne 40, 3) := by decide +kernel
theorem dX10_doesWake_61 : decode cX10_doesWake 61 = .ok (.aload_n 0, 1) := by decide +kernel
theorem dX10_doesWake_62 : decode cX10_doesWake 62 = .ok (.iload_n 2, 1) := by decide +kernel
theorem dX10_doesWake_63 : decode cX10_doesWake 63 = .ok (.iconst 0, 1) := by decide +kernel
theorem dX10_doesWake_64 : decode cX10_doesWake 64 = .ok (.invokevirtual 274, 3) := by decide +kernel
theorem dX10_doesWake_67 : decode cX10_doesWake 67 = .ok (.ifCond .ne 22, 3) := by decide +kernel
theorem dX10_doesWake_70 : decode cX10_doesWake 70 = .ok (.aload_n 0, 1) := by decide +kernel
theorem dX10_doesWake_71 : decode cX10_doesWake 71 = .ok (.iload_n 2, 1) := by decide +kernel
theorem dX10_doesWake_72 : decode cX10_doesWake 72 = .ok (.iconst 1, 1) := by decide +kernel
theorem dX10_doesWake_73 : decode cX10_doesWake 73 = .ok (.invokevirtual 274, 3) := by decide +kernel
theorem dX10_doesWake_76 : decode cX10_doesWake 76 = .ok (.ifCond .ne 13, 3) := by decide +kernel
theorem dX10_doesWake_79 : decode cX10_doesWake 79 = .ok (.aload_n 0, 1) := by decide +kernel
theorem dX10_doesWake_80 : decode cX10_doesWake 80 = .ok (.iload_n 2, 1) := by decide +kernel
theorem dX10_doesWake_81 : decode cX10_doesWake 81 = .ok (.bipush 6, 2) := by decide +kernel
theorem dX10_doesWake_83 : decode cX10_doesWake 83 = .ok (.invokevirtual 274, 3) := by decide +kernel
theorem dX10_doesWake_86 : decode cX10_doesWake 86 = .ok (.ifCond .eq 16, 3) := by decide +kernel
theorem dX10_doesWake_89 : decode cX10_doesWake 89 = .ok (.aload_n 0, 1) := by decide +kernel
theorem dX10_doesWake_90 : decode cX10_doesWake 90 = .ok (.iload_n 1, 1) := by decide +kernel
theorem dX10_doesWake_91 : decode cX10_doesWake 91 = .ok (.iload_n 2, 1) := by decide +kernel
theorem dX10_doesWake_92 : decode cX10_doesWake 92 = .ok (.invokevirtual 277, 3) := by decide +kernel
theorem dX10_doesWake_95 : decode cX10_doesWake 95 = .ok (.ifCond .eq 7, 3) := by decide +kernel
theorem dX10_doesWake_98 : decode cX10_doesWake 98 = .ok (.iconst 1, 1) := by decide +kernel
theorem dX10_doesWake_99 : decode cX10_doesWake 99 = .ok (.goto 4, 3) := by decide +kernel
theorem dX10_doesWake_102 : decode cX10_doesWake 102 = .ok (.iconst 0, 1) := by decide +kernel
theorem dX10_doesWake_103 : decode cX10_doesWake 103 = .ok (.ireturn, 1) := by decide +kernel
theorem dX10_doesWake_104 : decode cX10_doesWake 104 = .ok (.aload_n 0, 1) := by decide +kernel
theorem dX10_doesWake_105 : decode cX10_doesWake 105 = .ok (.iload_n 2, 1) := by decide +kernel
theorem dX10_doesWake_106 : decode cX10_doesWake 106 = .ok (.iconst 5, 1) := by decide +kernel
theorem dX10_doesWake_107 : decode cX10_doesWake 107 = .ok (.invokevirtual 274, 3) := by decide +kernel
theorem dX10_doesWake_110 : decode cX10_doesWake 110 = .ok (.ifCond .eq 16, 3) := by decide +kernel
theorem dX10_doesWake_113 : decode cX10_doesWake 113 = .ok (.aload_n 0, 1) := by decide +kernel
theorem dX10_doesWake_114 : decode cX10_doesWake 114 = .ok (.iload_n 1, 1) := by decide +kernel
theorem dX10_doesWake_115 : decode cX10_doesWake 115 = .ok (.iload_n 2, 1) := by decide +kernel
theorem dX10_doesWake_116 : decode cX10_doesWake 116 = .ok (.invokevirtual 277, 3) := by decide +kernel
theorem dX10_doesWake_119 : decode cX10_doesWake 119 = .ok (.ifCond .eq 7, 3) := by decide +kernel
theorem dX10_doesWake_122 : decode cX10_doesWake 122 = .ok (.iconst 1, 1) := by decide +kernel
theorem dX10_doesWake_123 : decode cX10_doesWake 123 = .ok (.goto 4, 3) := by decide +kernel
theorem dX10_doesWake_126 : decode cX10_doesWake 126 = .ok (.iconst 0, 1) := by decide +kernel
theorem dX10_doesWake_127 : decode cX10_doesWake 127 = .ok (.ireturn, 1) := by decide +kernel
theorem dX10_doesWake_128 : decode cX10_doesWake 128 = .ok (.aload_n 0, 1) := by decide +kernel
theorem dX10_doesWake_129 : decode cX10_doesWake 129 = .ok (.iload_n 2, 1) := by decide +kernel
theorem dX10_doesWake_130 : decode cX10_doesWake 130 = .ok (.iconst 4, 1) := by decide +kernel
theorem dX10_doesWake_131 : decode cX10_doesWake 131 = .ok (.invokevirtual 274, 3) := by decide +kernel
theorem dX10_doesWake_134 : decode cX10_doesWake 134 = .ok (.ifCond .eq 16, 3) := by decide +kernel
theorem dX10_doesWake_137 : decode cX10_doesWake 137 = .ok (.aload_n 0, 1) := by decide +kernel
theorem dX10_doesWake_138 : decode cX10_doesWake 138 = .ok (.iload_n 1, 1) := by decide +kernel
theorem dX10_doesWake_139 : decode cX10_doesWake 139 = .ok (.iload_n 2, 1) := by decide +kernel
theorem dX10_doesWake_140 : decode cX10_doesWake 140 = .ok (.invokevirtual 277, 3) := by decide +kernel
theorem dX10_doesWake_143 : decode cX10_doesWake 143 = .ok (.ifCond .eq 7, 3) := by decide +kernel
theorem dX10_doesWake_146 : decode cX10_doesWake 146 = .ok (.iconst 1, 1) := by decide +kernel
theorem dX10_doesWake_147 : decode cX10_doesWake 147 = .ok (.goto 4, 3) := by decide +kernel
theorem dX10_doesWake_150 : decode cX10_doesWake 150 = .ok (.iconst 0, 1) := by decide +kernel
theorem dX10_doesWake_151 : decode cX10_doesWake 151 = .ok (.ireturn, 1) := by decide +kernel
theorem dX10_doesWake_152 : decode cX10_doesWake 152 = .ok (.aload_n 0, 1) := by decide +kernel
theorem dX10_doesWake_153 : decode cX10_doesWake 153 = .ok (.getfield 17, 3) := by decide +kernel
theorem dX10_doesWake_156 : decode cX10_doesWake 156 = .ok (.aload_n 0, 1) := by decide +kernel
theorem dX10_doesWake_157 : decode cX10_doesWake 157 = .ok (.iload_n 1, 1) := by decide +kernel
theorem dX10_doesWake_158 : decode cX10_doesWake 158 = .ok (.invokevirtual 115, 3) := by decide +kernel
theorem dX10_doesWake_161 : decode cX10_doesWake 161 = .ok (.iconst 4, 1) := by decide +kernel
theorem dX10_doesWake_162 : decode cX10_doesWake 162 = .ok (.iadd, 1) := by decide +kernel
theorem dX10_doesWake_163 : decode cX10_doesWake 163 = .ok (.iaload, 1) := by decide +kernel
theorem dX10_doesWake_164 : decode cX10_doesWake 164 = .ok (.ifCond .ge 16, 3) := by decide +kernel
theorem dX10_doesWake_167 : decode cX10_doesWake 167 = .ok (.aload_n 0, 1) := by decide +kernel
theorem dX10_doesWake_168 : decode cX10_doesWake 168 = .ok (.iload_n 2, 1) := by decide +kernel
theorem dX10_doesWake_169 : decode cX10_doesWake 169 = .ok (.iconst 2, 1) := by decide +kernel
theorem dX10_doesWake_170 : decode cX10_doesWake 170 = .ok (.invokevirtual 274, 3) := by decide +kernel
theorem dX10_doesWake_173 : decode cX10_doesWake 173 = .ok (.ifCond .eq 7, 3) := by decide +kernel
theorem dX10_doesWake_176 : decode cX10_doesWake 176 = .ok (.iconst 1, 1) := by decide +kernel
theorem dX10_doesWake_177 : decode cX10_doesWake 177 = .ok (.goto 4, 3) := by decide +kernel
theorem dX10_doesWake_180 : decode cX10_doesWake 180 = .ok (.iconst 0, 1) := by decide +kernel
theorem dX10_doesWake_181 : decode cX10_doesWake 181 = .ok (.ireturn, 1) := by decide +kernel
theorem dX10_doesWake_182 : decode cX10_doesWake 182 = .ok (.iconst 0, 1) := by decide +kernel
theorem dX10_doesWake_183 : decode cX10_doesWake 183 = .ok (.ireturn, 1) := by decide +kernel
theorem dX10_wakes_0 : decode cX10_wakes 0 = .ok (.aload_n 0, 1) := by decide +kernel
theorem dX10_wakes_1 : decode cX10_wakes 1 = .ok (.iconst 0, 1) := by decide +kernel
theorem dX10_wakes_2 : decode cX10_wakes 2 = .ok (.putfield 1, 3) := by decide +kernel
theorem dX10_wakes_5 : decode cX10_wakes 5 = .ok (.aload_n 0, 1) := by decide +kernel
theorem dX10_wakes_6 : decode cX10_wakes 6 = .ok (.iload_n 1, 1) := by decide +kernel
theorem dX10_wakes_7 : decode cX10_wakes 7 = .ok (.invokevirtual 222, 3) := by decide +kernel
theorem dX10_wakes_10 : decode cX10_wakes 10 = .ok (.ifCond .eq 23, 3) := by decide +kernel
theorem dX10_wakes_13 : decode cX10_wakes 13 = .ok (.aload_n 0, 1) := by decide +kernel
theorem dX10_wakes_14 : decode cX10_wakes 14 = .ok (.iload_n 2, 1) := by decide +kernel
theorem dX10_wakes_15 : decode cX10_wakes 15 = .ok (.invokevirtual 222, 3) := by decide +kernel
theorem dX10_wakes_18 : decode cX10_wakes 18 = .ok (.ifCond .eq 15, 3) := by decide +kernel
theorem dX10_wakes_21 : decode cX10_wakes 21 = .ok (.aload_n 0, 1) := by decide +kernel
theorem dX10_wakes_22 : decode cX10_wakes 22 = .ok (.iload_n 1, 1) := by decide +kernel
theorem dX10_wakes_23 : decode cX10_wakes 23 = .ok (.iload_n 2, 1) := by decide +kernel
theorem dX10_wakes_24 : decode cX10_wakes 24 = .ok (.invokevirtual 280, 3) := by decide +kernel
theorem dX10_wakes_27 : decode cX10_wakes 27 = .ok (.invokestatic 57, 3) := by decide +kernel
theorem dX10_wakes_30 : decode cX10_wakes 30 = .ok (.goto 4, 3) := by decide +kernel
theorem dX10_wakes_33 : decode cX10_wakes 33 = .ok (.iconst (-1), 1) := by decide +kernel
theorem dX10_wakes_34 : decode cX10_wakes 34 = .ok (.ireturn, 1) := by decide +kernel
theorem dX10_ring_0 : decode cX10_ring 0 = .ok (.aload_n 0, 1) := by decide +kernel
theorem dX10_ring_1 : decode cX10_ring 1 = .ok (.iconst 0, 1) := by decide +kernel
theorem dX10_ring_2 : decode cX10_ring 2 = .ok (.putfield 1, 3) := by decide +kernel
theorem dX10_ring_5 : decode cX10_ring 5 = .ok (.aload_n 0, 1) := by decide +kernel
theorem dX10_ring_6 : decode cX10_ring 6 = .ok (.iload_n 1, 1) := by decide +kernel
theorem dX10_ring_7 : decode cX10_ring 7 = .ok (.invokevirtual 222, 3) := by decide +kernel
theorem dX10_ring_10 : decode cX10_ring 10 = .ok (.ifCond .ne 5, 3) := by decide +kernel
theorem dX10_ring_13 : decode cX10_ring 13 = .ok (.iconst (-1), 1) := by decide +kernel
theorem dX10_ring_14 : decode cX10_ring 14 = .ok (.ireturn, 1) := by decide +kernel
theorem dX10_ring_15 : decode cX10_ring 15 = .ok (.iconst 1, 1) := by decide +kernel
theorem dX10_ring_16 : decode cX10_ring 16 = .ok (.iload_n 1, 1) := by decide +kernel
theorem dX10_ring_17 : decode cX10_ring 17 = .ok (.ishl, 1) := by decide +kernel
theorem dX10_ring_18 : decode cX10_ring 18 = .ok (.istore_n 2, 1) := by decide +kernel
theorem dX10_ring_19 : decode cX10_ring 19 = .ok (.iconst 1, 1) := by decide +kernel
theorem dX10_ring_20 : decode cX10_ring 20 = .ok (.istore_n 3, 1) := by decide +kernel
theorem dX10_ring_21 : decode cX10_ring 21 = .ok (.iload_n 3, 1) := by decide +kernel
theorem dX10_ring_22 : decode cX10_ring 22 = .ok (.bipush 8, 2) := by decide +kernel
theorem dX10_ring_24 : decode cX10_ring 24 = .ok (.if_icmp .gt 99, 3) := by decide +kernel
theorem dX10_ring_27 : decode cX10_ring 27 = .ok (.iconst 0, 1) := by decide +kernel
theorem dX10_ring_28 : decode cX10_ring 28 = .ok (.istore 4, 2) := by decide +kernel
theorem dX10_ring_30 : decode cX10_ring 30 = .ok (.iconst 0, 1) := by decide +kernel
theorem dX10_ring_31 : decode cX10_ring 31 = .ok (.istore 5, 2) := by decide +kernel
theorem dX10_ring_33 : decode cX10_ring 33 = .ok (.iload 5, 2) := by decide +kernel
theorem dX10_ring_35 : decode cX10_ring 35 = .ok (.aload_n 0, 1) := by decide +kernel
theorem dX10_ring_36 : decode cX10_ring 36 = .ok (.getfield 17, 3) := by decide +kernel
theorem dX10_ring_39 : decode cX10_ring 39 = .ok (.bipush 7, 2) := by decide +kernel
theorem dX10_ring_41 : decode cX10_ring 41 = .ok (.iaload, 1) := by decide +kernel
theorem dX10_ring_42 : decode cX10_ring 42 = .ok (.if_icmp .ge 60, 3) := by decide +kernel
theorem dX10_ring_45 : decode cX10_ring 45 = .ok (.iconst 0, 1) := by decide +kernel
theorem dX10_ring_46 : decode cX10_ring 46 = .ok (.istore 6, 2) := by decide +kernel
theorem dX10_ring_48 : decode cX10_ring 48 = .ok (.iload 6, 2) := by decide +kernel
theorem dX10_ring_50 : decode cX10_ring 50 = .ok (.aload_n 0, 1) := by decide +kernel
theorem dX10_ring_51 : decode cX10_ring 51 = .ok (.getfield 17, 3) := by decide +kernel
theorem dX10_ring_54 : decode cX10_ring 54 = .ok (.bipush 7, 2) := by decide +kernel
theorem dX10_ring_56 : decode cX10_ring 56 = .ok (.iaload, 1) := by decide +kernel
theorem dX10_ring_57 : decode cX10_ring 57 = .ok (.if_icmp .ge 39, 3) := by decide +kernel
theorem dX10_ring_60 : decode cX10_ring 60 = .ok (.iload_n 2, 1) := by decide +kernel
theorem dX10_ring_61 : decode cX10_ring 61 = .ok (.iload 5, 2) := by decide +kernel
theorem dX10_ring_63 : decode cX10_ring 63 = .ok (.ishr, 1) := by decide +kernel
theorem dX10_ring_64 : decode cX10_ring 64 = .ok (.iconst 1, 1) := by decide +kernel
theorem dX10_ring_65 : decode cX10_ring 65 = .ok (.iand, 1) := by decide +kernel
theorem dX10_ring_66 : decode cX10_ring 66 = .ok (.iconst 1, 1) := by decide +kernel
theorem dX10_ring_67 : decode cX10_ring 67 = .ok (.if_icmp .ne 23, 3) := by decide +kernel
theorem dX10_ring_70 : decode cX10_ring 70 = .ok (.aload_n 0, 1) := by decide +kernel
theorem dX10_ring_71 : decode cX10_ring 71 = .ok (.iload 5, 2) := by decide +kernel
theorem dX10_ring_73 : decode cX10_ring 73 = .ok (.iload 6, 2) := by decide +kernel
theorem dX10_ring_75 : decode cX10_ring 75 = .ok (.invokevirtual 280, 3) := by decide +kernel
theorem dX10_ring_78 : decode cX10_ring 78 = .ok (.ifCond .eq 12, 3) := by decide +kernel
theorem dX10_ring_81 : decode cX10_ring 81 = .ok (.iload 4, 2) := by decide +kernel
theorem dX10_ring_83 : decode cX10_ring 83 = .ok (.iconst 1, 1) := by decide +kernel
theorem dX10_ring_84 : decode cX10_ring 84 = .ok (.iload 6, 2) := by decide +kernel
theorem dX10_ring_86 : decode cX10_ring 86 = .ok (.ishl, 1) := by decide +kernel
theorem dX10_ring_87 : decode cX10_ring 87 = .ok (.ior, 1) := by decide +kernel
theorem dX10_ring_88 : decode cX10_ring 88 = .ok (.istore 4, 2) := by decide +kernel
theorem dX10_ring_90 : decode cX10_ring 90 = .ok (.iinc 6 1, 3) := by decide +kernel
theorem dX10_ring_93 : decode cX10_ring 93 = .ok (.goto (-45), 3) := by decide +kernel
theorem dX10_ring_96 : decode cX10_ring 96 = .ok (.iinc 5 1, 3) := by decide +kernel
theorem dX10_ring_99 : decode cX10_ring 99 = .ok (.goto (-66), 3) := by decide +kernel
theorem dX10_ring_102 : decode cX10_ring 102 = .ok (.iload 4, 2) := by decide +kernel
theorem dX10_ring_104 : decode cX10_ring 104 = .ok (.iload_n 1, 1) := by decide +kernel
theorem dX10_ring_105 : decode cX10_ring 105 = .ok (.ishr, 1) := by decide +kernel
theorem dX10_ring_106 : decode cX10_ring 106 = .ok (.iconst 1, 1) := by decide +kernel
theorem dX10_ring_107 : decode cX10_ring 107 = .ok (.iand, 1) := by decide +kernel
theorem dX10_ring_108 : decode cX10_ring 108 = .ok (.iconst 1, 1) := by decide +kernel
theorem dX10_ring_109 : decode cX10_ring 109 = .ok (.if_icmp .ne 5, 3) := by decide +kernel
theorem dX10_ring_112 : decode cX10_ring 112 = .ok (.iload_n 3, 1) := by decide +kernel
theorem dX10_ring_113 : decode cX10_ring 113 = .ok (.ireturn, 1) := by decide +kernel
theorem dX10_ring_114 : decode cX10_ring 114 = .ok (.iload 4, 2) := by decide +kernel
theorem dX10_ring_116 : decode cX10_ring 116 = .ok (.istore_n 2, 1) := by decide +kernel
theorem dX10_ring_117 : decode cX10_ring 117 = .ok (.iinc 3 1, 3) := by decide +kernel
theorem dX10_ring_120 : decode cX10_ring 120 = .ok (.goto (-99), 3) := by decide +kernel
theorem dX10_ring_123 : decode cX10_ring 123 = .ok (.iconst 0, 1) := by decide +kernel
theorem dX10_ring_124 : decode cX10_ring 124 = .ok (.ireturn, 1) := by decide +kernel
theorem dX10_isNewFrom_0 : decode cX10_isNewFrom 0 = .ok (.iload_n 1, 1) := by decide +kernel
theorem dX10_isNewFrom_1 : decode cX10_isNewFrom 1 = .ok (.istore_n 3, 1) := by decide +kernel
theorem dX10_isNewFrom_2 : decode cX10_isNewFrom 2 = .ok (.iload_n 3, 1) := by decide +kernel
theorem dX10_isNewFrom_3 : decode cX10_isNewFrom 3 = .ok (.iload_n 2, 1) := by decide +kernel
theorem dX10_isNewFrom_4 : decode cX10_isNewFrom 4 = .ok (.if_icmp .ge 34, 3) := by decide +kernel
theorem dX10_isNewFrom_7 : decode cX10_isNewFrom 7 = .ok (.aload_n 0, 1) := by decide +kernel
theorem dX10_isNewFrom_8 : decode cX10_isNewFrom 8 = .ok (.getfield 17, 3) := by decide +kernel
theorem dX10_isNewFrom_11 : decode cX10_isNewFrom 11 = .ok (.sipush 748, 3) := by decide +kernel
theorem dX10_isNewFrom_14 : decode cX10_isNewFrom 14 = .ok (.iload_n 3, 1) := by decide +kernel
theorem dX10_isNewFrom_15 : decode cX10_isNewFrom 15 = .ok (.iadd, 1) := by decide +kernel
theorem dX10_isNewFrom_16 : decode cX10_isNewFrom 16 = .ok (.iaload, 1) := by decide +kernel
theorem dX10_isNewFrom_17 : decode cX10_isNewFrom 17 = .ok (.aload_n 0, 1) := by decide +kernel
theorem dX10_isNewFrom_18 : decode cX10_isNewFrom 18 = .ok (.getfield 17, 3) := by decide +kernel
theorem dX10_isNewFrom_21 : decode cX10_isNewFrom 21 = .ok (.sipush 748, 3) := by decide +kernel
theorem dX10_isNewFrom_24 : decode cX10_isNewFrom 24 = .ok (.iload_n 2, 1) := by decide +kernel
theorem dX10_isNewFrom_25 : decode cX10_isNewFrom 25 = .ok (.iadd, 1) := by decide +kernel
theorem dX10_isNewFrom_26 : decode cX10_isNewFrom 26 = .ok (.iaload, 1) := by decide +kernel
theorem dX10_isNewFrom_27 : decode cX10_isNewFrom 27 = .ok (.if_icmp .ne 5, 3) := by decide +kernel
theorem dX10_isNewFrom_30 : decode cX10_isNewFrom 30 = .ok (.iconst 0, 1) := by decide +kernel
theorem dX10_isNewFrom_31 : decode cX10_isNewFrom 31 = .ok (.ireturn, 1) := by decide +kernel
theorem dX10_isNewFrom_32 : decode cX10_isNewFrom 32 = .ok (.iinc 3 1, 3) := by decide +kernel
theorem dX10_isNewFrom_35 : decode cX10_isNewFrom 35 = .ok (.goto (-33), 3) := by decide +kernel
theorem dX10_isNewFrom_38 : decode cX10_isNewFrom 38 = .ok (.iconst 1, 1) := by decide +kernel
theorem dX10_isNewFrom_39 : decode cX10_isNewFrom 39 = .ok (.ireturn, 1) := by decide +kernel
theorem dX10_distance_0 : decode cX10_distance 0 = .ok (.aload_n 0, 1) := by decide +kernel
theorem dX10_distance_1 : decode cX10_distance 1 = .ok (.iconst 0, 1) := by decide +kernel
theorem dX10_distance_2 : decode cX10_distance 2 = .ok (.putfield 1, 3) := by decide +kernel
theorem dX10_distance_5 : decode cX10_distance 5 = .ok (.iload_n 1, 1) := by decide +kernel
theorem dX10_distance_6 : decode cX10_distance 6 = .ok (.i2l, 1) := by decide +kernel
theorem dX10_distance_7 : decode cX10_distance 7 = .ok (.lconst 0, 1) := by decide +kernel
theorem dX10_distance_8 : decode cX10_distance 8 = .ok (.aload_n 0, 1) := by decide +kernel
theorem dX10_distance_9 : decode cX10_distance 9 = .ok (.getfield 17, 3) := by decide +kernel
theorem dX10_distance_12 : decode cX10_distance 12 = .ok (.bipush 14, 2) := by decide +kernel
theorem dX10_distance_14 : decode cX10_distance 14 = .ok (.iaload, 1) := by decide +kernel
theorem dX10_distance_15 : decode cX10_distance 15 = .ok (.iconst 1, 1) := by decide +kernel
theorem dX10_distance_16 : decode cX10_distance 16 = .ok (.isub, 1) := by decide +kernel
theorem dX10_distance_17 : decode cX10_distance 17 = .ok (.i2l, 1) := by decide +kernel
theorem dX10_distance_18 : decode cX10_distance 18 = .ok (.invokestatic 49, 3) := by decide +kernel
theorem dX10_distance_21 : decode cX10_distance 21 = .ok (.ifCond .ne 5, 3) := by decide +kernel
theorem dX10_distance_24 : decode cX10_distance 24 = .ok (.iconst (-1), 1) := by decide +kernel
theorem dX10_distance_25 : decode cX10_distance 25 = .ok (.ireturn, 1) := by decide +kernel
theorem dX10_distance_26 : decode cX10_distance 26 = .ok (.iload_n 1, 1) := by decide +kernel
theorem dX10_distance_27 : decode cX10_distance 27 = .ok (.iconst 1, 1) := by decide +kernel
theorem dX10_distance_28 : decode cX10_distance 28 = .ok (.isub, 1) := by decide +kernel
theorem dX10_distance_29 : decode cX10_distance 29 = .ok (.istore_n 2, 1) := by decide +kernel
theorem dX10_distance_30 : decode cX10_distance 30 = .ok (.iload_n 2, 1) := by decide +kernel
theorem dX10_distance_31 : decode cX10_distance 31 = .ok (.ifCond .lt 32, 3) := by decide +kernel
theorem dX10_distance_34 : decode cX10_distance 34 = .ok (.aload_n 0, 1) := by decide +kernel
theorem dX10_distance_35 : decode cX10_distance 35 = .ok (.getfield 17, 3) := by decide +kernel
theorem dX10_distance_38 : decode cX10_distance 38 = .ok (.sipush 748, 3) := by decide +kernel
theorem dX10_distance_41 : decode cX10_distance 41 = .ok (.iload_n 2, 1) := by decide +kernel
theorem dX10_distance_42 : decode cX10_distance 42 = .ok (.iadd, 1) := by decide +kernel
theorem dX10_distance_43 : decode cX10_distance 43 = .ok (.iaload, 1) := by decide +kernel
theorem dX10_distance_44 : decode cX10_distance 44 = .ok (.aload_n 0, 1) := by decide +kernel
theorem dX10_distance_45 : decode cX10_distance 45 = .ok (.getfield 17, 3) := by decide +kernel
theorem dX10_distance_48 : decode cX10_distance 48 = .ok (.sipush 748, 3) := by decide +kernel
theorem dX10_distance_51 : decode cX10_distance 51 = .ok (.iload_n 1, 1) := by decide +kernel
theorem dX10_distance_52 : decode cX10_distance 52 = .ok (.iadd, 1) := by decide +kernel
theorem dX10_distance_53 : decode cX10_distance 53 = .ok (.iaload, 1) := by decide +kernel
theorem dX10_distance_54 : decode cX10_distance 54 = .ok (.if_icmp .eq 9, 3) := by decide +kernel
theorem dX10_distance_57 : decode cX10_distance 57 = .ok (.iinc 2 (-1), 3) := by decide +kernel
theorem dX10_distance_60 : decode cX10_distance 60 = .ok (.goto (-30), 3) := by decide +kernel
theorem dX10_distance_63 : decode cX10_distance 63 = .ok (.iload_n 2, 1) := by decide +kernel
theorem dX10_distance_64 : decode cX10_distance 64 = .ok (.ifCond .ge 5, 3) := by decide +kernel
theorem dX10_distance_67 : decode cX10_distance 67 = .ok (.iconst (-1), 1) := by decide +kernel
theorem dX10_distance_68 : decode cX10_distance 68 = .ok (.ireturn, 1) := by decide +kernel
theorem dX10_distance_69 : decode cX10_distance 69 = .ok (.iconst 0, 1) := by decide +kernel
theorem dX10_distance_70 : decode cX10_distance 70 = .ok (.istore_n 3, 1) := by decide +kernel
theorem dX10_distance_71 : decode cX10_distance 71 = .ok (.iload_n 2, 1) := by decide +kernel
theorem dX10_distance_72 : decode cX10_distance 72 = .ok (.iconst 1, 1) := by decide +kernel
theorem dX10_distance_73 : decode cX10_distance 73 = .ok (.iadd, 1) := by decide +kernel
theorem dX10_distance_74 : decode cX10_distance 74 = .ok (.istore 4, 2) := by decide +kernel
theorem dX10_distance_76 : decode cX10_distance 76 = .ok (.iload 4, 2) := by decide +kernel
theorem dX10_distance_78 : decode cX10_distance 78 = .ok (.iload_n 1, 1) := by decide +kernel
theorem dX10_distance_79 : decode cX10_distance 79 = .ok (.if_icmp .ge 24, 3) := by decide +kernel
theorem dX10_distance_82 : decode cX10_distance 82 = .ok (.iload_n 3, 1) := by decide +kernel
theorem dX10_distance_83 : decode cX10_distance 83 = .ok (.aload_n 0, 1) := by decide +kernel
theorem dX10_distance_84 : decode cX10_distance 84 = .ok (.iload_n 2, 1) := by decide +kernel
theorem dX10_distance_85 : decode cX10_distance 85 = .ok (.iconst 1, 1) := by decide +kernel
theorem dX10_distance_86 : decode cX10_distance 86 = .ok (.iadd, 1) := by decide +kernel
theorem dX10_distance_87 : decode cX10_distance 87 = .ok (.iload 4, 2) := by decide +kernel
theorem dX10_distance_89 : decode cX10_distance 89 = .ok (.invokevirtual 283, 3) := by decide +kernel
theorem dX10_distance_92 : decode cX10_distance 92 = .ok (.invokestatic 57, 3) := by decide +kernel
theorem dX10_distance_95 : decode cX10_distance 95 = .ok (.iadd, 1) := by decide +kernel
theorem dX10_distance_96 : decode cX10_distance 96 = .ok (.istore_n 3, 1) := by decide +kernel
theorem dX10_distance_97 : decode cX10_distance 97 = .ok (.iinc 4 1, 3) := by decide +kernel
theorem dX10_distance_100 : decode cX10_distance 100 = .ok (.goto (-24), 3) := by decide +kernel
theorem dX10_distance_103 : decode cX10_distance 103 = .ok (.iload_n 3, 1) := by decide +kernel
theorem dX10_distance_104 : decode cX10_distance 104 = .ok (.ireturn, 1) := by decide +kernel
theorem dX10_nextOf_0 : decode cX10_nextOf 0 = .ok (.iload_n 2, 1) := by decide +kernel
theorem dX10_nextOf_1 : decode cX10_nextOf 1 = .ok (.iconst 1, 1) := by decide +kernel
theorem dX10_nextOf_2 : decode cX10_nextOf 2 = .ok (.iadd, 1) := by decide +kernel
theorem dX10_nextOf_3 : decode cX10_nextOf 3 = .ok (.istore_n 3, 1) := by decide +kernel
theorem dX10_nextOf_4 : decode cX10_nextOf 4 = .ok (.iload_n 3, 1) := by decide +kernel
theorem dX10_nextOf_5 : decode cX10_nextOf 5 = .ok (.aload_n 0, 1) := by decide +kernel
theorem dX10_nextOf_6 : decode cX10_nextOf 6 = .ok (.getfield 17, 3) := by decide +kernel
theorem dX10_nextOf_9 : decode cX10_nextOf 9 = .ok (.bipush 14, 2) := by decide +kernel
theorem dX10_nextOf_11 : decode cX10_nextOf 11 = .ok (.iaload, 1) := by decide +kernel
theorem dX10_nextOf_12 : decode cX10_nextOf 12 = .ok (.if_icmp .ge 25, 3) := by decide +kernel
theorem dX10_nextOf_15 : decode cX10_nextOf 15 = .ok (.aload_n 0, 1) := by decide +kernel
theorem dX10_nextOf_16 : decode cX10_nextOf 16 = .ok (.getfield 17, 3) := by decide +kernel
theorem dX10_nextOf_19 : decode cX10_nextOf 19 = .ok (.sipush 748, 3) := by decide +kernel
theorem dX10_nextOf_22 : decode cX10_nextOf 22 = .ok (.iload_n 3, 1) := by decide +kernel
theorem dX10_nextOf_23 : decode cX10_nextOf 23 = .ok (.iadd, 1) := by decide +kernel
theorem dX10_nextOf_24 : decode cX10_nextOf 24 = .ok (.iaload, 1) := by decide +kernel
theorem dX10_nextOf_25 : decode cX10_nextOf 25 = .ok (.iload_n 1, 1) := by decide +kernel
theorem dX10_nextOf_26 : decode cX10_nextOf 26 = .ok (.if_icmp .ne 5, 3) := by decide +kernel
theorem dX10_nextOf_29 : decode cX10_nextOf 29 = .ok (.iload_n 3, 1) := by decide +kernel
theorem dX10_nextOf_30 : decode cX10_nextOf 30 = .ok (.ireturn, 1) := by decide +kernel
theorem dX10_nextOf_31 : decode cX10_nextOf 31 = .ok (.iinc 3 1, 3) := by decide +kernel
theorem dX10_nextOf_34 : decode cX10_nextOf 34 = .ok (.goto (-30), 3) := by decide +kernel
theorem dX10_nextOf_37 : decode cX10_nextOf 37 = .ok (.bipush 100, 2) := by decide +kernel
theorem dX10_nextOf_39 : decode cX10_nextOf 39 = .ok (.ireturn, 1) := by decide +kernel
theorem dX10_goesFarthest_0 : decode cX10_goesFarthest 0 = .ok (.iconst 0, 1) := by decide +kernel
theorem dX10_goesFarthest_1 : decode cX10_goesFarthest 1 = .ok (.istore_n 2, 1) := by decide +kernel
theorem dX10_goesFarthest_2 : decode cX10_goesFarthest 2 = .ok (.iconst 1, 1) := by decide +kernel
theorem dX10_goesFarthest_3 : decode cX10_goesFarthest 3 = .ok (.istore_n 3, 1) := by decide +kernel
theorem dX10_goesFarthest_4 : decode cX10_goesFarthest 4 = .ok (.iload_n 3, 1) := by decide +kernel
theorem dX10_goesFarthest_5 : decode cX10_goesFarthest 5 = .ok (.aload_n 0, 1) := by decide +kernel
theorem dX10_goesFarthest_6 : decode cX10_goesFarthest 6 = .ok (.getfield 17, 3) := by decide +kernel
theorem dX10_goesFarthest_9 : decode cX10_goesFarthest 9 = .ok (.aload_n 0, 1) := by decide +kernel
theorem dX10_goesFarthest_10 : decode cX10_goesFarthest 10 = .ok (.getfield 41, 3) := by decide +kernel
theorem dX10_goesFarthest_13 : decode cX10_goesFarthest 13 = .ok (.iconst 0, 1) := by decide +kernel
theorem dX10_goesFarthest_14 : decode cX10_goesFarthest 14 = .ok (.iadd, 1) := by decide +kernel
theorem dX10_goesFarthest_15 : decode cX10_goesFarthest 15 = .ok (.iaload, 1) := by decide +kernel
theorem dX10_goesFarthest_16 : decode cX10_goesFarthest 16 = .ok (.if_icmp .ge 66, 3) := by decide +kernel
theorem dX10_goesFarthest_19 : decode cX10_goesFarthest 19 = .ok (.aload_n 0, 1) := by decide +kernel
theorem dX10_goesFarthest_20 : decode cX10_goesFarthest 20 = .ok (.aload_n 0, 1) := by decide +kernel
theorem dX10_goesFarthest_21 : decode cX10_goesFarthest 21 = .ok (.iload_n 3, 1) := by decide +kernel
