theorem dX9_keep_6 : decode cX9_keep 6 = .ok (.ifCond .ne 6, 3) := by decide +kernel
theorem dX9_keep_9 : decode cX9_keep 9 = .ok (.bipush (-2), 2) := by decide +kernel
theorem dX9_keep_11 : decode cX9_keep 11 = .ok (.ireturn, 1) := by decide +kernel
theorem dX9_keep_12 : decode cX9_keep 12 = .ok (.aload_n 0, 1) := by decide +kernel
theorem dX9_keep_13 : decode cX9_keep 13 = .ok (.getfield 19, 3) := by decide +kernel
theorem dX9_keep_16 : decode cX9_keep 16 = .ok (.iload_n 1, 1) := by decide +kernel
theorem dX9_keep_17 : decode cX9_keep 17 = .ok (.aaload, 1) := by decide +kernel
theorem dX9_keep_18 : decode cX9_keep 18 = .ok (.astore_n 2, 1) := by decide +kernel
theorem dX9_keep_19 : decode cX9_keep 19 = .ok (.aload_n 2, 1) := by decide +kernel
theorem dX9_keep_20 : decode cX9_keep 20 = .ok (.ifnonnull 18, 3) := by decide +kernel
theorem dX9_keep_23 : decode cX9_keep 23 = .ok (.new 7, 3) := by decide +kernel
theorem dX9_keep_26 : decode cX9_keep 26 = .ok (.dup, 1) := by decide +kernel
theorem dX9_keep_27 : decode cX9_keep 27 = .ok (.invokespecial 9, 3) := by decide +kernel
theorem dX9_keep_30 : decode cX9_keep 30 = .ok (.astore_n 2, 1) := by decide +kernel
theorem dX9_keep_31 : decode cX9_keep 31 = .ok (.aload_n 0, 1) := by decide +kernel
theorem dX9_keep_32 : decode cX9_keep 32 = .ok (.getfield 19, 3) := by decide +kernel
theorem dX9_keep_35 : decode cX9_keep 35 = .ok (.iload_n 1, 1) := by decide +kernel
theorem dX9_keep_36 : decode cX9_keep 36 = .ok (.aload_n 2, 1) := by decide +kernel
theorem dX9_keep_37 : decode cX9_keep 37 = .ok (.aastore, 1) := by decide +kernel
theorem dX9_keep_38 : decode cX9_keep 38 = .ok (.aload_n 2, 1) := by decide +kernel
theorem dX9_keep_39 : decode cX9_keep 39 = .ok (.aload_n 0, 1) := by decide +kernel
theorem dX9_keep_40 : decode cX9_keep 40 = .ok (.getfield 10, 3) := by decide +kernel
theorem dX9_keep_43 : decode cX9_keep 43 = .ok (.invokevirtual 117, 3) := by decide +kernel
theorem dX9_keep_46 : decode cX9_keep 46 = .ok (.aload_n 0, 1) := by decide +kernel
theorem dX9_keep_47 : decode cX9_keep 47 = .ok (.getfield 10, 3) := by decide +kernel
theorem dX9_keep_50 : decode cX9_keep 50 = .ok (.getfield 56, 3) := by decide +kernel
theorem dX9_keep_53 : decode cX9_keep 53 = .ok (.getfield 73, 3) := by decide +kernel
theorem dX9_keep_56 : decode cX9_keep 56 = .ok (.getfield 121, 3) := by decide +kernel
theorem dX9_keep_59 : decode cX9_keep 59 = .ok (.ireturn, 1) := by decide +kernel
theorem dX9_back_0 : decode cX9_back 0 = .ok (.iload_n 1, 1) := by decide +kernel
theorem dX9_back_1 : decode cX9_back 1 = .ok (.iconst 0, 1) := by decide +kernel
theorem dX9_back_2 : decode cX9_back 2 = .ok (.iconst 1, 1) := by decide +kernel
theorem dX9_back_3 : decode cX9_back 3 = .ok (.invokestatic 41, 3) := by decide +kernel
theorem dX9_back_6 : decode cX9_back 6 = .ok (.ifCond .ne 6, 3) := by decide +kernel
theorem dX9_back_9 : decode cX9_back 9 = .ok (.bipush (-2), 2) := by decide +kernel
theorem dX9_back_11 : decode cX9_back 11 = .ok (.ireturn, 1) := by decide +kernel
theorem dX9_back_12 : decode cX9_back 12 = .ok (.aload_n 0, 1) := by decide +kernel
theorem dX9_back_13 : decode cX9_back 13 = .ok (.getfield 19, 3) := by decide +kernel
theorem dX9_back_16 : decode cX9_back 16 = .ok (.iload_n 1, 1) := by decide +kernel
theorem dX9_back_17 : decode cX9_back 17 = .ok (.aaload, 1) := by decide +kernel
theorem dX9_back_18 : decode cX9_back 18 = .ok (.astore_n 2, 1) := by decide +kernel
theorem dX9_back_19 : decode cX9_back 19 = .ok (.aload_n 2, 1) := by decide +kernel
theorem dX9_back_20 : decode cX9_back 20 = .ok (.ifnonnull 6, 3) := by decide +kernel
theorem dX9_back_23 : decode cX9_back 23 = .ok (.bipush (-3), 2) := by decide +kernel
theorem dX9_back_25 : decode cX9_back 25 = .ok (.ireturn, 1) := by decide +kernel
theorem dX9_back_26 : decode cX9_back 26 = .ok (.aload_n 0, 1) := by decide +kernel
theorem dX9_back_27 : decode cX9_back 27 = .ok (.getfield 10, 3) := by decide +kernel
theorem dX9_back_30 : decode cX9_back 30 = .ok (.aload_n 2, 1) := by decide +kernel
theorem dX9_back_31 : decode cX9_back 31 = .ok (.invokevirtual 117, 3) := by decide +kernel
theorem dX9_back_34 : decode cX9_back 34 = .ok (.aload_n 0, 1) := by decide +kernel
theorem dX9_back_35 : decode cX9_back 35 = .ok (.getfield 10, 3) := by decide +kernel
theorem dX9_back_38 : decode cX9_back 38 = .ok (.getfield 56, 3) := by decide +kernel
theorem dX9_back_41 : decode cX9_back 41 = .ok (.getfield 73, 3) := by decide +kernel
theorem dX9_back_44 : decode cX9_back 44 = .ok (.getfield 121, 3) := by decide +kernel
theorem dX9_back_47 : decode cX9_back 47 = .ok (.ireturn, 1) := by decide +kernel
theorem dX9_entry_0 : decode cX9_entry 0 = .ok (.aload_n 0, 1) := by decide +kernel
theorem dX9_entry_1 : decode cX9_entry 1 = .ok (.getfield 10, 3) := by decide +kernel
theorem dX9_entry_4 : decode cX9_entry 4 = .ok (.getfield 56, 3) := by decide +kernel
theorem dX9_entry_7 : decode cX9_entry 7 = .ok (.getfield 73, 3) := by decide +kernel
theorem dX9_entry_10 : decode cX9_entry 10 = .ok (.astore_n 3, 1) := by decide +kernel
theorem dX9_entry_11 : decode cX9_entry 11 = .ok (.aload_n 3, 1) := by decide +kernel
theorem dX9_entry_12 : decode cX9_entry 12 = .ok (.iload_n 1, 1) := by decide +kernel
theorem dX9_entry_13 : decode cX9_entry 13 = .ok (.invokevirtual 124, 3) := by decide +kernel
theorem dX9_entry_16 : decode cX9_entry 16 = .ok (.istore 4, 2) := by decide +kernel
theorem dX9_entry_18 : decode cX9_entry 18 = .ok (.iload 4, 2) := by decide +kernel
theorem dX9_entry_20 : decode cX9_entry 20 = .ok (.iconst (-1), 1) := by decide +kernel
theorem dX9_entry_21 : decode cX9_entry 21 = .ok (.if_icmp .ne 7, 3) := by decide +kernel
theorem dX9_entry_24 : decode cX9_entry 24 = .ok (.sipush (-10000), 3) := by decide +kernel
theorem dX9_entry_27 : decode cX9_entry 27 = .ok (.ireturn, 1) := by decide +kernel
theorem dX9_entry_28 : decode cX9_entry 28 = .ok (.iload_n 2, 1) := by decide +kernel
theorem dX9_entry_29 : decode cX9_entry 29 = .ok (.tableswitch 114 0 7 #[47, 55, 63, 71, 79, 87, 98, 106], 47) := by decide +kernel
theorem dX9_entry_76 : decode cX9_entry 76 = .ok (.aload_n 3, 1) := by decide +kernel
theorem dX9_entry_77 : decode cX9_entry 77 = .ok (.getfield 127, 3) := by decide +kernel
theorem dX9_entry_80 : decode cX9_entry 80 = .ok (.iload 4, 2) := by decide +kernel
theorem dX9_entry_82 : decode cX9_entry 82 = .ok (.iaload, 1) := by decide +kernel
theorem dX9_entry_83 : decode cX9_entry 83 = .ok (.ireturn, 1) := by decide +kernel
theorem dX9_entry_84 : decode cX9_entry 84 = .ok (.aload_n 3, 1) := by decide +kernel
theorem dX9_entry_85 : decode cX9_entry 85 = .ok (.getfield 130, 3) := by decide +kernel
theorem dX9_entry_88 : decode cX9_entry 88 = .ok (.iload 4, 2) := by decide +kernel
theorem dX9_entry_90 : decode cX9_entry 90 = .ok (.iaload, 1) := by decide +kernel
theorem dX9_entry_91 : decode cX9_entry 91 = .ok (.ireturn, 1) := by decide +kernel
theorem dX9_entry_92 : decode cX9_entry 92 = .ok (.aload_n 3, 1) := by decide +kernel
theorem dX9_entry_93 : decode cX9_entry 93 = .ok (.getfield 133, 3) := by decide +kernel
theorem dX9_entry_96 : decode cX9_entry 96 = .ok (.iload 4, 2) := by decide +kernel
theorem dX9_entry_98 : decode cX9_entry 98 = .ok (.iaload, 1) := by decide +kernel
theorem dX9_entry_99 : decode cX9_entry 99 = .ok (.ireturn, 1) := by decide +kernel
theorem dX9_entry_100 : decode cX9_entry 100 = .ok (.aload_n 3, 1) := by decide +kernel
theorem dX9_entry_101 : decode cX9_entry 101 = .ok (.getfield 136, 3) := by decide +kernel
theorem dX9_entry_104 : decode cX9_entry 104 = .ok (.iload 4, 2) := by decide +kernel
theorem dX9_entry_106 : decode cX9_entry 106 = .ok (.iaload, 1) := by decide +kernel
theorem dX9_entry_107 : decode cX9_entry 107 = .ok (.ireturn, 1) := by decide +kernel
theorem dX9_entry_108 : decode cX9_entry 108 = .ok (.aload_n 3, 1) := by decide +kernel
theorem dX9_entry_109 : decode cX9_entry 109 = .ok (.getfield 139, 3) := by decide +kernel
theorem dX9_entry_112 : decode cX9_entry 112 = .ok (.iload 4, 2) := by decide +kernel
theorem dX9_entry_114 : decode cX9_entry 114 = .ok (.iaload, 1) := by decide +kernel
theorem dX9_entry_115 : decode cX9_entry 115 = .ok (.ireturn, 1) := by decide +kernel
theorem dX9_entry_116 : decode cX9_entry 116 = .ok (.aload_n 3, 1) := by decide +kernel
theorem dX9_entry_117 : decode cX9_entry 117 = .ok (.getfield 142, 3) := by decide +kernel
theorem dX9_entry_120 : decode cX9_entry 120 = .ok (.iload 4, 2) := by decide +kernel
theorem dX9_entry_122 : decode cX9_entry 122 = .ok (.baload, 1) := by decide +kernel
theorem dX9_entry_123 : decode cX9_entry 123 = .ok (.invokestatic 106, 3) := by decide +kernel
theorem dX9_entry_126 : decode cX9_entry 126 = .ok (.ireturn, 1) := by decide +kernel
theorem dX9_entry_127 : decode cX9_entry 127 = .ok (.aload_n 3, 1) := by decide +kernel
theorem dX9_entry_128 : decode cX9_entry 128 = .ok (.iconst 0, 1) := by decide +kernel
theorem dX9_entry_129 : decode cX9_entry 129 = .ok (.iload 4, 2) := by decide +kernel
theorem dX9_entry_131 : decode cX9_entry 131 = .ok (.invokevirtual 146, 3) := by decide +kernel
theorem dX9_entry_134 : decode cX9_entry 134 = .ok (.ireturn, 1) := by decide +kernel
theorem dX9_entry_135 : decode cX9_entry 135 = .ok (.aload_n 3, 1) := by decide +kernel
theorem dX9_entry_136 : decode cX9_entry 136 = .ok (.iconst 1, 1) := by decide +kernel
theorem dX9_entry_137 : decode cX9_entry 137 = .ok (.iload 4, 2) := by decide +kernel
theorem dX9_entry_139 : decode cX9_entry 139 = .ok (.invokevirtual 146, 3) := by decide +kernel
theorem dX9_entry_142 : decode cX9_entry 142 = .ok (.ireturn, 1) := by decide +kernel
theorem dX9_entry_143 : decode cX9_entry 143 = .ok (.sipush (-10000), 3) := by decide +kernel
theorem dX9_entry_146 : decode cX9_entry 146 = .ok (.ireturn, 1) := by decide +kernel
theorem dX9_order_0 : decode cX9_order 0 = .ok (.iload_n 1, 1) := by decide +kernel
theorem dX9_order_1 : decode cX9_order 1 = .ok (.invokestatic 149, 3) := by decide +kernel
theorem dX9_order_4 : decode cX9_order 4 = .ok (.ifCond .eq 21, 3) := by decide +kernel
theorem dX9_order_7 : decode cX9_order 7 = .ok (.aload_n 0, 1) := by decide +kernel
theorem dX9_order_8 : decode cX9_order 8 = .ok (.getfield 10, 3) := by decide +kernel
theorem dX9_order_11 : decode cX9_order 11 = .ok (.getfield 56, 3) := by decide +kernel
theorem dX9_order_14 : decode cX9_order 14 = .ok (.getfield 73, 3) := by decide +kernel
theorem dX9_order_17 : decode cX9_order 17 = .ok (.iload_n 1, 1) := by decide +kernel
theorem dX9_order_18 : decode cX9_order 18 = .ok (.iload_n 2, 1) := by decide +kernel
theorem dX9_order_19 : decode cX9_order 19 = .ok (.invokevirtual 152, 3) := by decide +kernel
theorem dX9_order_22 : decode cX9_order 22 = .ok (.goto 4, 3) := by decide +kernel
theorem dX9_order_25 : decode cX9_order 25 = .ok (.iconst (-1), 1) := by decide +kernel
theorem dX9_order_26 : decode cX9_order 26 = .ok (.ireturn, 1) := by decide +kernel
theorem dX9_ghost_0 : decode cX9_ghost 0 = .ok (.iload_n 1, 1) := by decide +kernel
theorem dX9_ghost_1 : decode cX9_ghost 1 = .ok (.lookupswitch 57 #[(0, 27), (1, 42)], 27) := by decide +kernel
theorem dX9_ghost_28 : decode cX9_ghost 28 = .ok (.aload_n 0, 1) := by decide +kernel
theorem dX9_ghost_29 : decode cX9_ghost 29 = .ok (.getfield 10, 3) := by decide +kernel
theorem dX9_ghost_32 : decode cX9_ghost 32 = .ok (.getfield 56, 3) := by decide +kernel
theorem dX9_ghost_35 : decode cX9_ghost 35 = .ok (.getfield 155, 3) := by decide +kernel
theorem dX9_ghost_38 : decode cX9_ghost 38 = .ok (.iload_n 2, 1) := by decide +kernel
theorem dX9_ghost_39 : decode cX9_ghost 39 = .ok (.invokevirtual 159, 3) := by decide +kernel
theorem dX9_ghost_42 : decode cX9_ghost 42 = .ok (.ireturn, 1) := by decide +kernel
theorem dX9_ghost_43 : decode cX9_ghost 43 = .ok (.aload_n 0, 1) := by decide +kernel
theorem dX9_ghost_44 : decode cX9_ghost 44 = .ok (.getfield 10, 3) := by decide +kernel
theorem dX9_ghost_47 : decode cX9_ghost 47 = .ok (.getfield 56, 3) := by decide +kernel
theorem dX9_ghost_50 : decode cX9_ghost 50 = .ok (.getfield 163, 3) := by decide +kernel
theorem dX9_ghost_53 : decode cX9_ghost 53 = .ok (.iload_n 2, 1) := by decide +kernel
theorem dX9_ghost_54 : decode cX9_ghost 54 = .ok (.invokevirtual 159, 3) := by decide +kernel
theorem dX9_ghost_57 : decode cX9_ghost 57 = .ok (.ireturn, 1) := by decide +kernel
theorem dX9_ghost_58 : decode cX9_ghost 58 = .ok (.iconst (-1), 1) := by decide +kernel
theorem dX9_ghost_59 : decode cX9_ghost 59 = .ok (.ireturn, 1) := by decide +kernel
theorem dX9_bucket_0 : decode cX9_bucket 0 = .ok (.aload_n 0, 1) := by decide +kernel
theorem dX9_bucket_1 : decode cX9_bucket 1 = .ok (.getfield 10, 3) := by decide +kernel
theorem dX9_bucket_4 : decode cX9_bucket 4 = .ok (.getfield 56, 3) := by decide +kernel
theorem dX9_bucket_7 : decode cX9_bucket 7 = .ok (.getfield 73, 3) := by decide +kernel
theorem dX9_bucket_10 : decode cX9_bucket 10 = .ok (.astore_n 3, 1) := by decide +kernel
theorem dX9_bucket_11 : decode cX9_bucket 11 = .ok (.iload_n 1, 1) := by decide +kernel
theorem dX9_bucket_12 : decode cX9_bucket 12 = .ok (.iconst (-1), 1) := by decide +kernel
theorem dX9_bucket_13 : decode cX9_bucket 13 = .ok (.if_icmp .ne 8, 3) := by decide +kernel
theorem dX9_bucket_16 : decode cX9_bucket 16 = .ok (.aload_n 3, 1) := by decide +kernel
theorem dX9_bucket_17 : decode cX9_bucket 17 = .ok (.invokevirtual 166, 3) := by decide +kernel
theorem dX9_bucket_20 : decode cX9_bucket 20 = .ok (.ireturn, 1) := by decide +kernel
theorem dX9_bucket_21 : decode cX9_bucket 21 = .ok (.aload_n 3, 1) := by decide +kernel
theorem dX9_bucket_22 : decode cX9_bucket 22 = .ok (.iload_n 1, 1) := by decide +kernel
theorem dX9_bucket_23 : decode cX9_bucket 23 = .ok (.invokevirtual 170, 3) := by decide +kernel
theorem dX9_bucket_26 : decode cX9_bucket 26 = .ok (.istore 4, 2) := by decide +kernel
theorem dX9_bucket_28 : decode cX9_bucket 28 = .ok (.iload 4, 2) := by decide +kernel
theorem dX9_bucket_30 : decode cX9_bucket 30 = .ok (.iconst (-1), 1) := by decide +kernel
theorem dX9_bucket_31 : decode cX9_bucket 31 = .ok (.if_icmp .ne 5, 3) := by decide +kernel
theorem dX9_bucket_34 : decode cX9_bucket 34 = .ok (.iconst (-1), 1) := by decide +kernel
theorem dX9_bucket_35 : decode cX9_bucket 35 = .ok (.ireturn, 1) := by decide +kernel
theorem dX9_bucket_36 : decode cX9_bucket 36 = .ok (.iload_n 2, 1) := by decide +kernel
theorem dX9_bucket_37 : decode cX9_bucket 37 = .ok (.tableswitch 44 0 2 #[27, 34, 37], 27) := by decide +kernel
theorem dX9_bucket_64 : decode cX9_bucket 64 = .ok (.aload_n 3, 1) := by decide +kernel
theorem dX9_bucket_65 : decode cX9_bucket 65 = .ok (.iload 4, 2) := by decide +kernel
theorem dX9_bucket_67 : decode cX9_bucket 67 = .ok (.invokevirtual 173, 3) := by decide +kernel
theorem dX9_bucket_70 : decode cX9_bucket 70 = .ok (.ireturn, 1) := by decide +kernel
theorem dX9_bucket_71 : decode cX9_bucket 71 = .ok (.iload 4, 2) := by decide +kernel
theorem dX9_bucket_73 : decode cX9_bucket 73 = .ok (.ireturn, 1) := by decide +kernel
theorem dX9_bucket_74 : decode cX9_bucket 74 = .ok (.aload_n 3, 1) := by decide +kernel
theorem dX9_bucket_75 : decode cX9_bucket 75 = .ok (.iload 4, 2) := by decide +kernel
theorem dX9_bucket_77 : decode cX9_bucket 77 = .ok (.invokevirtual 176, 3) := by decide +kernel
theorem dX9_bucket_80 : decode cX9_bucket 80 = .ok (.ireturn, 1) := by decide +kernel
theorem dX9_bucket_81 : decode cX9_bucket 81 = .ok (.iconst (-1), 1) := by decide +kernel
theorem dX9_bucket_82 : decode cX9_bucket 82 = .ok (.ireturn, 1) := by decide +kernel
theorem dX9_listener_0 : decode cX9_listener 0 = .ok (.aload_n 0, 1) := by decide +kernel
theorem dX9_listener_1 : decode cX9_listener 1 = .ok (.getfield 10, 3) := by decide +kernel
theorem dX9_listener_4 : decode cX9_listener 4 = .ok (.iload_n 1, 1) := by decide +kernel
theorem dX9_listener_5 : decode cX9_listener 5 = .ok (.invokevirtual 98, 3) := by decide +kernel
theorem dX9_listener_8 : decode cX9_listener 8 = .ok (.astore_n 3, 1) := by decide +kernel
theorem dX9_listener_9 : decode cX9_listener 9 = .ok (.aload_n 3, 1) := by decide +kernel
theorem dX9_listener_10 : decode cX9_listener 10 = .ok (.ifnonnull 5, 3) := by decide +kernel
theorem dX9_listener_13 : decode cX9_listener 13 = .ok (.iconst (-1), 1) := by decide +kernel
theorem dX9_listener_14 : decode cX9_listener 14 = .ok (.ireturn, 1) := by decide +kernel
theorem dX9_listener_15 : decode cX9_listener 15 = .ok (.iload_n 2, 1) := by decide +kernel
theorem dX9_listener_16 : decode cX9_listener 16 = .ok (.tableswitch 46 0 2 #[28, 36, 41], 28) := by decide +kernel
theorem dX9_listener_44 : decode cX9_listener 44 = .ok (.aload_n 3, 1) := by decide +kernel
theorem dX9_listener_45 : decode cX9_listener 45 = .ok (.getfield 102, 3) := by decide +kernel
theorem dX9_listener_48 : decode cX9_listener 48 = .ok (.invokestatic 106, 3) := by decide +kernel
theorem dX9_listener_51 : decode cX9_listener 51 = .ok (.ireturn, 1) := by decide +kernel
theorem dX9_listener_52 : decode cX9_listener 52 = .ok (.aload_n 3, 1) := by decide +kernel
theorem dX9_listener_53 : decode cX9_listener 53 = .ok (.getfield 179, 3) := by decide +kernel
theorem dX9_listener_56 : decode cX9_listener 56 = .ok (.ireturn, 1) := by decide +kernel
theorem dX9_listener_57 : decode cX9_listener 57 = .ok (.aload_n 3, 1) := by decide +kernel
theorem dX9_listener_58 : decode cX9_listener 58 = .ok (.getfield 182, 3) := by decide +kernel
theorem dX9_listener_61 : decode cX9_listener 61 = .ok (.ireturn, 1) := by decide +kernel
theorem dX9_listener_62 : decode cX9_listener 62 = .ok (.iconst (-1), 1) := by decide +kernel
theorem dX9_listener_63 : decode cX9_listener 63 = .ok (.ireturn, 1) := by decide +kernel
theorem dX9_heard_0 : decode cX9_heard 0 = .ok (.aload_n 0, 1) := by decide +kernel
theorem dX9_heard_1 : decode cX9_heard 1 = .ok (.getfield 10, 3) := by decide +kernel
theorem dX9_heard_4 : decode cX9_heard 4 = .ok (.getfield 185, 3) := by decide +kernel
theorem dX9_heard_7 : decode cX9_heard 7 = .ok (.astore_n 3, 1) := by decide +kernel
theorem dX9_heard_8 : decode cX9_heard 8 = .ok (.aload_n 3, 1) := by decide +kernel
theorem dX9_heard_9 : decode cX9_heard 9 = .ok (.iload_n 1, 1) := by decide +kernel
theorem dX9_heard_10 : decode cX9_heard 10 = .ok (.invokevirtual 189, 3) := by decide +kernel
theorem dX9_heard_13 : decode cX9_heard 13 = .ok (.istore 4, 2) := by decide +kernel
theorem dX9_heard_15 : decode cX9_heard 15 = .ok (.iload 4, 2) := by decide +kernel
theorem dX9_heard_17 : decode cX9_heard 17 = .ok (.iconst (-1), 1) := by decide +kernel
theorem dX9_heard_18 : decode cX9_heard 18 = .ok (.if_icmp .ne 5, 3) := by decide +kernel
theorem dX9_heard_21 : decode cX9_heard 21 = .ok (.iconst (-1), 1) := by decide +kernel
theorem dX9_heard_22 : decode cX9_heard 22 = .ok (.ireturn, 1) := by decide +kernel
theorem dX9_heard_23 : decode cX9_heard 23 = .ok (.iload_n 2, 1) := by decide +kernel
theorem dX9_heard_24 : decode cX9_heard 24 = .ok (.tableswitch 76 0 4 #[36, 44, 52, 60, 68], 36) := by decide +kernel
theorem dX9_heard_60 : decode cX9_heard 60 = .ok (.aload_n 3, 1) := by decide +kernel
theorem dX9_heard_61 : decode cX9_heard 61 = .ok (.getfield 194, 3) := by decide +kernel
theorem dX9_heard_64 : decode cX9_heard 64 = .ok (.iload 4, 2) := by decide +kernel
theorem dX9_heard_66 : decode cX9_heard 66 = .ok (.iaload, 1) := by decide +kernel
theorem dX9_heard_67 : decode cX9_heard 67 = .ok (.ireturn, 1) := by decide +kernel
theorem dX9_heard_68 : decode cX9_heard 68 = .ok (.aload_n 3, 1) := by decide +kernel
theorem dX9_heard_69 : decode cX9_heard 69 = .ok (.getfield 197, 3) := by decide +kernel
theorem dX9_heard_72 : decode cX9_heard 72 = .ok (.iload 4, 2) := by decide +kernel
theorem dX9_heard_74 : decode cX9_heard 74 = .ok (.iaload, 1) := by decide +kernel
theorem dX9_heard_75 : decode cX9_heard 75 = .ok (.ireturn, 1) := by decide +kernel
theorem dX9_heard_76 : decode cX9_heard 76 = .ok (.aload_n 3, 1) := by decide +kernel
theorem dX9_heard_77 : decode cX9_heard 77 = .ok (.getfield 200, 3) := by decide +kernel
theorem dX9_heard_80 : decode cX9_heard 80 = .ok (.iload 4, 2) := by decide +kernel
theorem dX9_heard_82 : decode cX9_heard 82 = .ok (.iaload, 1) := by decide +kernel
theorem dX9_heard_83 : decode cX9_heard 83 = .ok (.ireturn, 1) := by decide +kernel
theorem dX9_heard_84 : decode cX9_heard 84 = .ok (.aload_n 3, 1) := by decide +kernel
theorem dX9_heard_85 : decode cX9_heard 85 = .ok (.getfield 203, 3) := by decide +kernel
theorem dX9_heard_88 : decode cX9_heard 88 = .ok (.iload 4, 2) := by decide +kernel
theorem dX9_heard_90 : decode cX9_heard 90 = .ok (.iaload, 1) := by decide +kernel
theorem dX9_heard_91 : decode cX9_heard 91 = .ok (.ireturn, 1) := by decide +kernel
theorem dX9_heard_92 : decode cX9_heard 92 = .ok (.aload_n 3, 1) := by decide +kernel
theorem dX9_heard_93 : decode cX9_heard 93 = .ok (.getfield 204, 3) := by decide +kernel
theorem dX9_heard_96 : decode cX9_heard 96 = .ok (.iload 4, 2) := by decide +kernel
theorem dX9_heard_98 : decode cX9_heard 98 = .ok (.iaload, 1) := by decide +kernel
theorem dX9_heard_99 : decode cX9_heard 99 = .ok (.ireturn, 1) := by decide +kernel
theorem dX9_heard_100 : decode cX9_heard 100 = .ok (.iconst (-1), 1) := by decide +kernel
theorem dX9_heard_101 : decode cX9_heard 101 = .ok (.ireturn, 1) := by decide +kernel
theorem dX9_request_0 : decode cX9_request 0 = .ok (.iload_n 1, 1) := by decide +kernel
theorem dX9_request_1 : decode cX9_request 1 = .ok (.iconst 0, 1) := by decide +kernel
theorem dX9_request_2 : decode cX9_request 2 = .ok (.aload_n 0, 1) := by decide +kernel
theorem dX9_request_3 : decode cX9_request 3 = .ok (.getfield 10, 3) := by decide +kernel
theorem dX9_request_6 : decode cX9_request 6 = .ok (.getfield 207, 3) := by decide +kernel
theorem dX9_request_9 : decode cX9_request 9 = .ok (.getfield 211, 3) := by decide +kernel
theorem dX9_request_12 : decode cX9_request 12 = .ok (.iconst 1, 1) := by decide +kernel
theorem dX9_request_13 : decode cX9_request 13 = .ok (.isub, 1) := by decide +kernel
theorem dX9_request_14 : decode cX9_request 14 = .ok (.invokestatic 41, 3) := by decide +kernel
theorem dX9_request_17 : decode cX9_request 17 = .ok (.ifCond .eq 18, 3) := by decide +kernel
theorem dX9_request_20 : decode cX9_request 20 = .ok (.aload_n 0, 1) := by decide +kernel
theorem dX9_request_21 : decode cX9_request 21 = .ok (.getfield 10, 3) := by decide +kernel
theorem dX9_request_24 : decode cX9_request 24 = .ok (.getfield 207, 3) := by decide +kernel
theorem dX9_request_27 : decode cX9_request 27 = .ok (.getfield 214, 3) := by decide +kernel
theorem dX9_request_30 : decode cX9_request 30 = .ok (.iload_n 1, 1) := by decide +kernel
theorem dX9_request_31 : decode cX9_request 31 = .ok (.iaload, 1) := by decide +kernel
theorem dX9_request_32 : decode cX9_request 32 = .ok (.goto 4, 3) := by decide +kernel
theorem dX9_request_35 : decode cX9_request 35 = .ok (.iconst (-1), 1) := by decide +kernel
theorem dX9_request_36 : decode cX9_request 36 = .ok (.ireturn, 1) := by decide +kernel
theorem dX9_victim_0 : decode cX9_victim 0 = .ok (.aload_n 0, 1) := by decide +kernel
theorem dX9_victim_1 : decode cX9_victim 1 = .ok (.getfield 10, 3) := by decide +kernel
theorem dX9_victim_4 : decode cX9_victim 4 = .ok (.getfield 56, 3) := by decide +kernel
theorem dX9_victim_7 : decode cX9_victim 7 = .ok (.astore_n 2, 1) := by decide +kernel
theorem dX9_victim_8 : decode cX9_victim 8 = .ok (.aload_n 2, 1) := by decide +kernel
theorem dX9_victim_9 : decode cX9_victim 9 = .ok (.getfield 73, 3) := by decide +kernel
theorem dX9_victim_12 : decode cX9_victim 12 = .ok (.aload_n 2, 1) := by decide +kernel
theorem dX9_victim_13 : decode cX9_victim 13 = .ok (.iload_n 1, 1) := by decide +kernel
theorem dX9_victim_14 : decode cX9_victim 14 = .ok (.iconst (-1), 1) := by decide +kernel
theorem dX9_victim_15 : decode cX9_victim 15 = .ok (.invokevirtual 215, 3) := by decide +kernel
theorem dX9_victim_18 : decode cX9_victim 18 = .ok (.invokevirtual 218, 3) := by decide +kernel
theorem dX9_victim_21 : decode cX9_victim 21 = .ok (.ireturn, 1) := by decide +kernel
theorem dX9_victims_0 : decode cX9_victims 0 = .ok (.iload_n 1, 1) := by decide +kernel
theorem dX9_victims_1 : decode cX9_victims 1 = .ok (.invokestatic 38, 3) := by decide +kernel
theorem dX9_victims_4 : decode cX9_victims 4 = .ok (.ifCond .eq 18, 3) := by decide +kernel
theorem dX9_victims_7 : decode cX9_victims 7 = .ok (.aload_n 0, 1) := by decide +kernel
theorem dX9_victims_8 : decode cX9_victims 8 = .ok (.getfield 10, 3) := by decide +kernel
theorem dX9_victims_11 : decode cX9_victims 11 = .ok (.getfield 56, 3) := by decide +kernel
theorem dX9_victims_14 : decode cX9_victims 14 = .ok (.iconst (-1), 1) := by decide +kernel
theorem dX9_victims_15 : decode cX9_victims 15 = .ok (.iload_n 1, 1) := by decide +kernel
theorem dX9_victims_16 : decode cX9_victims 16 = .ok (.invokevirtual 221, 3) := by decide +kernel
theorem dX9_victims_19 : decode cX9_victims 19 = .ok (.ifCond .eq 5, 3) := by decide +kernel
theorem dX9_victims_22 : decode cX9_victims 22 = .ok (.iconst (-1), 1) := by decide +kernel
theorem dX9_victims_23 : decode cX9_victims 23 = .ok (.ireturn, 1) := by decide +kernel
theorem dX9_victims_24 : decode cX9_victims 24 = .ok (.aload_n 0, 1) := by decide +kernel
theorem dX9_victims_25 : decode cX9_victims 25 = .ok (.invokevirtual 225, 3) := by decide +kernel
theorem dX9_victims_28 : decode cX9_victims 28 = .ok (.astore_n 3, 1) := by decide +kernel
theorem dX9_victims_29 : decode cX9_victims 29 = .ok (.iconst 0, 1) := by decide +kernel
theorem dX9_victims_30 : decode cX9_victims 30 = .ok (.istore 4, 2) := by decide +kernel
theorem dX9_victims_32 : decode cX9_victims 32 = .ok (.iload 4, 2) := by decide +kernel
theorem dX9_victims_34 : decode cX9_victims 34 = .ok (.bipush 60, 2) := by decide +kernel
theorem dX9_victims_36 : decode cX9_victims 36 = .ok (.if_icmp .ge 30, 3) := by decide +kernel
theorem dX9_victims_39 : decode cX9_victims 39 = .ok (.aload_n 3, 1) := by decide +kernel
theorem dX9_victims_40 : decode cX9_victims 40 = .ok (.iload_n 1, 1) := by decide +kernel
theorem dX9_victims_41 : decode cX9_victims 41 = .ok (.invokevirtual 229, 3) := by decide +kernel
theorem dX9_victims_44 : decode cX9_victims 44 = .ok (.ifCond .eq 22, 3) := by decide +kernel
theorem dX9_victims_47 : decode cX9_victims 47 = .ok (.aload_n 3, 1) := by decide +kernel
theorem dX9_victims_48 : decode cX9_victims 48 = .ok (.aload_n 3, 1) := by decide +kernel
theorem dX9_victims_49 : decode cX9_victims 49 = .ok (.aload_n 3, 1) := by decide +kernel
theorem dX9_victims_50 : decode cX9_victims 50 = .ok (.getfield 69, 3) := by decide +kernel
theorem dX9_victims_53 : decode cX9_victims 53 = .ok (.iconst (-1), 1) := by decide +kernel
theorem dX9_victims_54 : decode cX9_victims 54 = .ok (.invokevirtual 215, 3) := by decide +kernel
theorem dX9_victims_57 : decode cX9_victims 57 = .ok (.invokevirtual 232, 3) := by decide +kernel
theorem dX9_victims_60 : decode cX9_victims 60 = .ok (.iinc 4 1, 3) := by decide +kernel
theorem dX9_victims_63 : decode cX9_victims 63 = .ok (.goto (-31), 3) := by decide +kernel
theorem dX9_victims_66 : decode cX9_victims 66 = .ok (.aload_n 3, 1) := by decide +kernel
theorem dX9_victims_67 : decode cX9_victims 67 = .ok (.getfield 236, 3) := by decide +kernel
theorem dX9_victims_70 : decode cX9_victims 70 = .ok (.astore 4, 2) := by decide +kernel
theorem dX9_victims_72 : decode cX9_victims 72 = .ok (.iload_n 2, 1) := by decide +kernel
theorem dX9_victims_73 : decode cX9_victims 73 = .ok (.iconst (-1), 1) := by decide +kernel
theorem dX9_victims_74 : decode cX9_victims 74 = .ok (.if_icmp .ne 9, 3) := by decide +kernel
theorem dX9_victims_77 : decode cX9_victims 77 = .ok (.aload 4, 2) := by decide +kernel
theorem dX9_victims_79 : decode cX9_victims 79 = .ok (.getfield 240, 3) := by decide +kernel
theorem dX9_victims_82 : decode cX9_victims 82 = .ok (.ireturn, 1) := by decide +kernel
theorem dX9_victims_83 : decode cX9_victims 83 = .ok (.iload_n 2, 1) := by decide +kernel
theorem dX9_victims_84 : decode cX9_victims 84 = .ok (.iconst 0, 1) := by decide +kernel
theorem dX9_victims_85 : decode cX9_victims 85 = .ok (.aload 4, 2) := by decide +kernel
theorem dX9_victims_87 : decode cX9_victims 87 = .ok (.getfield 240, 3) := by decide +kernel
theorem dX9_victims_90 : decode cX9_victims 90 = .ok (.iconst 1, 1) := by decide +kernel
theorem dX9_victims_91 : decode cX9_victims 91 = .ok (.isub, 1) := by decide +kernel
theorem dX9_victims_92 : decode cX9_victims 92 = .ok (.invokestatic 41, 3) := by decide +kernel
theorem dX9_victims_95 : decode cX9_victims 95 = .ok (.ifCond .eq 13, 3) := by decide +kernel
theorem dX9_victims_98 : decode cX9_victims 98 = .ok (.aload 4, 2) := by decide +kernel
theorem dX9_victims_100 : decode cX9_victims 100 = .ok (.getfield 243, 3) := by decide +kernel
theorem dX9_victims_103 : decode cX9_victims 103 = .ok (.iload_n 2, 1) := by decide +kernel
theorem dX9_victims_104 : decode cX9_victims 104 = .ok (.iaload, 1) := by decide +kernel
theorem dX9_victims_105 : decode cX9_victims 105 = .ok (.goto 4, 3) := by decide +kernel
theorem dX9_victims_108 : decode cX9_victims 108 = .ok (.iconst (-1), 1) := by decide +kernel
theorem dX9_victims_109 : decode cX9_victims 109 = .ok (.ireturn, 1) := by decide +kernel
theorem dX9_room_0 : decode cX9_room 0 = .ok (.aload_n 0, 1) := by decide +kernel
theorem dX9_room_1 : decode cX9_room 1 = .ok (.getfield 10, 3) := by decide +kernel
theorem dX9_room_4 : decode cX9_room 4 = .ok (.getfield 56, 3) := by decide +kernel
theorem dX9_room_7 : decode cX9_room 7 = .ok (.astore_n 2, 1) := by decide +kernel
theorem dX9_room_8 : decode cX9_room 8 = .ok (.aload_n 2, 1) := by decide +kernel
theorem dX9_room_9 : decode cX9_room 9 = .ok (.getfield 73, 3) := by decide +kernel
theorem dX9_room_12 : decode cX9_room 12 = .ok (.getfield 121, 3) := by decide +kernel
theorem dX9_room_15 : decode cX9_room 15 = .ok (.bipush 60, 2) := by decide +kernel
theorem dX9_room_17 : decode cX9_room 17 = .ok (.if_icmp .lt 7, 3) := by decide +kernel
theorem dX9_room_20 : decode cX9_room 20 = .ok (.iconst 1, 1) := by decide +kernel
theorem dX9_room_21 : decode cX9_room 21 = .ok (.goto 4, 3) := by decide +kernel
theorem dX9_room_24 : decode cX9_room 24 = .ok (.iconst 0, 1) := by decide +kernel
theorem dX9_room_25 : decode cX9_room 25 = .ok (.istore_n 3, 1) := by decide +kernel
theorem dX9_room_26 : decode cX9_room 26 = .ok (.iload_n 1, 1) := by decide +kernel
theorem dX9_room_27 : decode cX9_room 27 = .ok (.lookupswitch 99 #[(0, 25), (1, 73)], 25) := by decide +kernel
theorem dX9_room_52 : decode cX9_room 52 = .ok (.iload_n 3, 1) := by decide +kernel
theorem dX9_room_53 : decode cX9_room 53 = .ok (.ifCond .eq 17, 3) := by decide +kernel
theorem dX9_room_56 : decode cX9_room 56 = .ok (.aload_n 2, 1) := by decide +kernel
theorem dX9_room_57 : decode cX9_room 57 = .ok (.iconst 0, 1) := by decide +kernel
theorem dX9_room_58 : decode cX9_room 58 = .ok (.iconst (-1), 1) := by decide +kernel
theorem dX9_room_59 : decode cX9_room 59 = .ok (.invokevirtual 215, 3) := by decide +kernel
theorem dX9_room_62 : decode cX9_room 62 = .ok (.iconst (-1), 1) := by decide +kernel
theorem dX9_room_63 : decode cX9_room 63 = .ok (.if_icmp .ne 7, 3) := by decide +kernel
theorem dX9_room_66 : decode cX9_room 66 = .ok (.iconst 1, 1) := by decide +kernel
theorem dX9_room_67 : decode cX9_room 67 = .ok (.goto 4, 3) := by decide +kernel
theorem dX9_room_70 : decode cX9_room 70 = .ok (.iconst 0, 1) := by decide +kernel
theorem dX9_room_71 : decode cX9_room 71 = .ok (.istore 4, 2) := by decide +kernel
theorem dX9_room_73 : decode cX9_room 73 = .ok (.iload 4, 2) := by decide +kernel
theorem dX9_room_75 : decode cX9_room 75 = .ok (.ifCond .eq 7, 3) := by decide +kernel
theorem dX9_room_78 : decode cX9_room 78 = .ok (.iconst 0, 1) := by decide +kernel
theorem dX9_room_79 : decode cX9_room 79 = .ok (.goto 20, 3) := by decide +kernel
theorem dX9_room_82 : decode cX9_room 82 = .ok (.bipush 99, 2) := by decide +kernel
theorem dX9_room_84 : decode cX9_room 84 = .ok (.aload_n 2, 1) := by decide +kernel
theorem dX9_room_85 : decode cX9_room 85 = .ok (.getfield 244, 3) := by decide +kernel
theorem dX9_room_88 : decode cX9_room 88 = .ok (.aload_n 2, 1) := by decide +kernel
theorem dX9_room_89 : decode cX9_room 89 = .ok (.getfield 73, 3) := by decide +kernel
theorem dX9_room_92 : decode cX9_room 92 = .ok (.getfield 247, 3) := by decide +kernel
theorem dX9_room_95 : decode cX9_room 95 = .ok (.isub, 1) := by decide +kernel
theorem dX9_room_96 : decode cX9_room 96 = .ok (.invokestatic 250, 3) := by decide +kernel
theorem dX9_room_99 : decode cX9_room 99 = .ok (.ireturn, 1) := by decide +kernel
theorem dX9_room_100 : decode cX9_room 100 = .ok (.iload_n 3, 1) := by decide +kernel
theorem dX9_room_101 : decode cX9_room 101 = .ok (.ifCond .eq 7, 3) := by decide +kernel
theorem dX9_room_104 : decode cX9_room 104 = .ok (.iconst 0, 1) := by decide +kernel
theorem dX9_room_105 : decode cX9_room 105 = .ok (.goto 20, 3) := by decide +kernel
theorem dX9_room_108 : decode cX9_room 108 = .ok (.bipush 99, 2) := by decide +kernel
theorem dX9_room_110 : decode cX9_room 110 = .ok (.aload_n 2, 1) := by decide +kernel
theorem dX9_room_111 : decode cX9_room 111 = .ok (.getfield 244, 3) := by decide +kernel
theorem dX9_room_114 : decode cX9_room 114 = .ok (.aload_n 2, 1) := by decide +kernel
theorem dX9_room_115 : decode cX9_room 115 = .ok (.getfield 73, 3) := by decide +kernel
theorem dX9_room_118 : decode cX9_room 118 = .ok (.getfield 255, 3) := by decide +kernel
theorem dX9_room_121 : decode cX9_room 121 = .ok (.isub, 1) := by decide +kernel
theorem dX9_room_122 : decode cX9_room 122 = .ok (.invokestatic 250, 3) := by decide +kernel
theorem dX9_room_125 : decode cX9_room 125 = .ok (.ireturn, 1) := by decide +kernel
theorem dX9_room_126 : decode cX9_room 126 = .ok (.iconst (-1), 1) := by decide +kernel
theorem dX9_room_127 : decode cX9_room 127 = .ok (.ireturn, 1) := by decide +kernel
theorem dX9_kept_0 : decode cX9_kept 0 = .ok (.aload_n 0, 1) := by decide +kernel
theorem dX9_kept_1 : decode cX9_kept 1 = .ok (.invokevirtual 225, 3) := by decide +kernel
theorem dX9_kept_4 : decode cX9_kept 4 = .ok (.astore_n 3, 1) := by decide +kernel
theorem dX9_kept_5 : decode cX9_kept 5 = .ok (.aload_n 3, 1) := by decide +kernel
theorem dX9_kept_6 : decode cX9_kept 6 = .ok (.iload_n 1, 1) := by decide +kernel
theorem dX9_kept_7 : decode cX9_kept 7 = .ok (.invokevirtual 258, 3) := by decide +kernel
theorem dX9_kept_10 : decode cX9_kept 10 = .ok (.ifCond .ge 5, 3) := by decide +kernel
theorem dX9_kept_13 : decode cX9_kept 13 = .ok (.iconst (-1), 1) := by decide +kernel
theorem dX9_kept_14 : decode cX9_kept 14 = .ok (.ireturn, 1) := by decide +kernel
theorem dX9_kept_15 : decode cX9_kept 15 = .ok (.iload_n 2, 1) := by decide +kernel
theorem dX9_kept_16 : decode cX9_kept 16 = .ok (.iconst (-1), 1) := by decide +kernel
theorem dX9_kept_17 : decode cX9_kept 17 = .ok (.if_icmp .ne 13, 3) := by decide +kernel
theorem dX9_kept_20 : decode cX9_kept 20 = .ok (.aload_n 3, 1) := by decide +kernel
theorem dX9_kept_21 : decode cX9_kept 21 = .ok (.getfield 73, 3) := by decide +kernel
theorem dX9_kept_24 : decode cX9_kept 24 = .ok (.getfield 121, 3) := by decide +kernel
theorem dX9_kept_27 : decode cX9_kept 27 = .ok (.goto 12, 3) := by decide +kernel
theorem dX9_kept_30 : decode cX9_kept 30 = .ok (.aload_n 3, 1) := by decide +kernel
theorem dX9_kept_31 : decode cX9_kept 31 = .ok (.getfield 73, 3) := by decide +kernel
theorem dX9_kept_34 : decode cX9_kept 34 = .ok (.iconst 0, 1) := by decide +kernel
theorem dX9_kept_35 : decode cX9_kept 35 = .ok (.iload_n 2, 1) := by decide +kernel
theorem dX9_kept_36 : decode cX9_kept 36 = .ok (.invokevirtual 152, 3) := by decide +kernel
theorem dX9_kept_39 : decode cX9_kept 39 = .ok (.ireturn, 1) := by decide +kernel
theorem dX9_pack_0 : decode cX9_pack 0 = .ok (.aload_n 0, 1) := by decide +kernel
theorem dX9_pack_1 : decode cX9_pack 1 = .ok (.getfield 10, 3) := by decide +kernel
theorem dX9_pack_4 : decode cX9_pack 4 = .ok (.getfield 56, 3) := by decide +kernel
theorem dX9_pack_7 : decode cX9_pack 7 = .ok (.getfield 73, 3) := by decide +kernel
theorem dX9_pack_10 : decode cX9_pack 10 = .ok (.astore_n 2, 1) := by decide +kernel
theorem dX9_pack_11 : decode cX9_pack 11 = .ok (.iload_n 1, 1) := by decide +kernel
theorem dX9_pack_12 : decode cX9_pack 12 = .ok (.invokestatic 261, 3) := by decide +kernel
theorem dX9_pack_15 : decode cX9_pack 15 = .ok (.ifCond .eq 11, 3) := by decide +kernel
theorem dX9_pack_18 : decode cX9_pack 18 = .ok (.aload_n 2, 1) := by decide +kernel
theorem dX9_pack_19 : decode cX9_pack 19 = .ok (.getfield 247, 3) := by decide +kernel
theorem dX9_pack_22 : decode cX9_pack 22 = .ok (.iload_n 1, 1) := by decide +kernel
theorem dX9_pack_23 : decode cX9_pack 23 = .ok (.if_icmp .le 5, 3) := by decide +kernel
theorem dX9_pack_26 : decode cX9_pack 26 = .ok (.iconst (-1), 1) := by decide +kernel
theorem dX9_pack_27 : decode cX9_pack 27 = .ok (.ireturn, 1) := by decide +kernel
theorem dX9_pack_28 : decode cX9_pack 28 = .ok (.iload_n 1, 1) := by decide +kernel
theorem dX9_pack_29 : decode cX9_pack 29 = .ok (.aload_n 2, 1) := by decide +kernel
theorem dX9_pack_30 : decode cX9_pack 30 = .ok (.getfield 255, 3) := by decide +kernel
theorem dX9_pack_33 : decode cX9_pack 33 = .ok (.invokestatic 250, 3) := by decide +kernel
theorem dX9_pack_36 : decode cX9_pack 36 = .ok (.aload_n 2, 1) := by decide +kernel
theorem dX9_pack_37 : decode cX9_pack 37 = .ok (.getfield 247, 3) := by decide +kernel
theorem dX9_pack_40 : decode cX9_pack 40 = .ok (.isub, 1) := by decide +kernel
theorem dX9_pack_41 : decode cX9_pack 41 = .ok (.istore_n 3, 1) := by decide +kernel
theorem dX9_pack_42 : decode cX9_pack 42 = .ok (.iload_n 3, 1) := by decide +kernel
theorem dX9_pack_43 : decode cX9_pack 43 = .ok (.invokestatic 261, 3) := by decide +kernel
theorem dX9_pack_46 : decode cX9_pack 46 = .ok (.ifCond .ne 5, 3) := by decide +kernel
theorem dX9_pack_49 : decode cX9_pack 49 = .ok (.iconst (-1), 1) := by decide +kernel
theorem dX9_pack_50 : decode cX9_pack 50 = .ok (.ireturn, 1) := by decide +kernel
theorem dX9_pack_51 : decode cX9_pack 51 = .ok (.aload_n 0, 1) := by decide +kernel
theorem dX9_pack_52 : decode cX9_pack 52 = .ok (.getfield 30, 3) := by decide +kernel
theorem dX9_pack_55 : decode cX9_pack 55 = .ok (.iconst 0, 1) := by decide +kernel
theorem dX9_pack_56 : decode cX9_pack 56 = .ok (.iload_n 3, 1) := by decide +kernel
theorem dX9_pack_57 : decode cX9_pack 57 = .ok (.iconst 1, 1) := by decide +kernel
theorem dX9_pack_58 : decode cX9_pack 58 = .ok (.iadd, 1) := by decide +kernel
theorem dX9_pack_59 : decode cX9_pack 59 = .ok (.iconst 0, 1) := by decide +kernel
theorem dX9_pack_60 : decode cX9_pack 60 = .ok (.invokestatic 264, 3) := by decide +kernel
theorem dX9_pack_63 : decode cX9_pack 63 = .ok (.iconst 0, 1) := by decide +kernel
theorem dX9_pack_64 : decode cX9_pack 64 = .ok (.istore 4, 2) := by decide +kernel
theorem dX9_pack_66 : decode cX9_pack 66 = .ok (.iconst 0, 1) := by decide +kernel
theorem dX9_pack_67 : decode cX9_pack 67 = .ok (.istore 5, 2) := by decide +kernel
theorem dX9_pack_69 : decode cX9_pack 69 = .ok (.iload 5, 2) := by decide +kernel
theorem dX9_pack_71 : decode cX9_pack 71 = .ok (.aload_n 2, 1) := by decide +kernel
theorem dX9_pack_72 : decode cX9_pack 72 = .ok (.getfield 121, 3) := by decide +kernel
theorem dX9_pack_75 : decode cX9_pack 75 = .ok (.if_icmp .ge 53, 3) := by decide +kernel
theorem dX9_pack_78 : decode cX9_pack 78 = .ok (.aload_n 2, 1) := by decide +kernel
theorem dX9_pack_79 : decode cX9_pack 79 = .ok (.getfield 142, 3) := by decide +kernel
theorem dX9_pack_82 : decode cX9_pack 82 = .ok (.iload 5, 2) := by decide +kernel
theorem dX9_pack_84 : decode cX9_pack 84 = .ok (.baload, 1) := by decide +kernel
theorem dX9_pack_85 : decode cX9_pack 85 = .ok (.ifCond .eq 18, 3) := by decide +kernel
theorem dX9_pack_88 : decode cX9_pack 88 = .ok (.iload 4, 2) := by decide +kernel
theorem dX9_pack_90 : decode cX9_pack 90 = .ok (.aload_n 2, 1) := by decide +kernel
theorem dX9_pack_91 : decode cX9_pack 91 = .ok (.getfield 133, 3) := by decide +kernel
theorem dX9_pack_94 : decode cX9_pack 94 = .ok (.iload 5, 2) := by decide +kernel
theorem dX9_pack_96 : decode cX9_pack 96 = .ok (.iaload, 1) := by decide +kernel
theorem dX9_pack_97 : decode cX9_pack 97 = .ok (.iadd, 1) := by decide +kernel
theorem dX9_pack_98 : decode cX9_pack 98 = .ok (.istore 4, 2) := by decide +kernel
theorem dX9_pack_100 : decode cX9_pack 100 = .ok (.goto 22, 3) := by decide +kernel
theorem dX9_pack_103 : decode cX9_pack 103 = .ok (.aload_n 0, 1) := by decide +kernel
theorem dX9_pack_104 : decode cX9_pack 104 = .ok (.aload_n 2, 1) := by decide +kernel
theorem dX9_pack_105 : decode cX9_pack 105 = .ok (.getfield 130, 3) := by decide +kernel
theorem dX9_pack_108 : decode cX9_pack 108 = .ok (.iload 5, 2) := by decide +kernel
theorem dX9_pack_110 : decode cX9_pack 110 = .ok (.iaload, 1) := by decide +kernel
theorem dX9_pack_111 : decode cX9_pack 111 = .ok (.aload_n 2, 1) := by decide +kernel
theorem dX9_pack_112 : decode cX9_pack 112 = .ok (.getfield 133, 3) := by decide +kernel
theorem dX9_pack_115 : decode cX9_pack 115 = .ok (.iload 5, 2) := by decide +kernel
theorem dX9_pack_117 : decode cX9_pack 117 = .ok (.iaload, 1) := by decide +kernel
theorem dX9_pack_118 : decode cX9_pack 118 = .ok (.iload_n 3, 1) := by decide +kernel
theorem dX9_pack_119 : decode cX9_pack 119 = .ok (.invokevirtual 270, 3) := by decide +kernel
theorem dX9_pack_122 : decode cX9_pack 122 = .ok (.iinc 5 1, 3) := by decide +kernel
theorem dX9_pack_125 : decode cX9_pack 125 = .ok (.goto (-56), 3) := by decide +kernel
theorem dX9_pack_128 : decode cX9_pack 128 = .ok (.iload 4, 2) := by decide +kernel
theorem dX9_pack_130 : decode cX9_pack 130 = .ok (.aload_n 0, 1) := by decide +kernel
theorem dX9_pack_131 : decode cX9_pack 131 = .ok (.getfield 30, 3) := by decide +kernel
theorem dX9_pack_134 : decode cX9_pack 134 = .ok (.iload_n 3, 1) := by decide +kernel
theorem dX9_pack_135 : decode cX9_pack 135 = .ok (.iaload, 1) := by decide +kernel
theorem dX9_pack_136 : decode cX9_pack 136 = .ok (.iadd, 1) := by decide +kernel
theorem dX9_pack_137 : decode cX9_pack 137 = .ok (.ireturn, 1) := by decide +kernel
theorem dX9_wakes_0 : decode cX9_wakes 0 = .ok (.aload_n 0, 1) := by decide +kernel
theorem dX9_wakes_1 : decode cX9_wakes 1 = .ok (.getfield 10, 3) := by decide +kernel
theorem dX9_wakes_4 : decode cX9_wakes 4 = .ok (.iload_n 1, 1) := by decide +kernel
theorem dX9_wakes_5 : decode cX9_wakes 5 = .ok (.invokevirtual 98, 3) := by decide +kernel
theorem dX9_wakes_8 : decode cX9_wakes 8 = .ok (.astore_n 3, 1) := by decide +kernel
theorem dX9_wakes_9 : decode cX9_wakes 9 = .ok (.aload_n 0, 1) := by decide +kernel
theorem dX9_wakes_10 : decode cX9_wakes 10 = .ok (.getfield 10, 3) := by decide +kernel
theorem dX9_wakes_13 : decode cX9_wakes 13 = .ok (.iload_n 2, 1) := by decide +kernel
theorem dX9_wakes_14 : decode cX9_wakes 14 = .ok (.invokevirtual 98, 3) := by decide +kernel
theorem dX9_wakes_17 : decode cX9_wakes 17 = .ok (.astore 4, 2) := by decide +kernel
theorem dX9_wakes_19 : decode cX9_wakes 19 = .ok (.aload_n 3, 1) := by decide +kernel
theorem dX9_wakes_20 : decode cX9_wakes 20 = .ok (.ifnull 8, 3) := by decide +kernel
theorem dX9_wakes_23 : decode cX9_wakes 23 = .ok (.aload 4, 2) := by decide +kernel
theorem dX9_wakes_25 : decode cX9_wakes 25 = .ok (.ifnonnull 5, 3) := by decide +kernel
theorem dX9_wakes_28 : decode cX9_wakes 28 = .ok (.iconst (-1), 1) := by decide +kernel
theorem dX9_wakes_29 : decode cX9_wakes 29 = .ok (.ireturn, 1) := by decide +kernel
theorem dX9_wakes_30 : decode cX9_wakes 30 = .ok (.aload_n 3, 1) := by decide +kernel
theorem dX9_wakes_31 : decode cX9_wakes 31 = .ok (.aload 4, 2) := by decide +kernel
theorem dX9_wakes_33 : decode cX9_wakes 33 = .ok (.invokevirtual 274, 3) := by decide +kernel
theorem dX9_wakes_36 : decode cX9_wakes 36 = .ok (.invokestatic 106, 3) := by decide +kernel
theorem dX9_wakes_39 : decode cX9_wakes 39 = .ok (.ireturn, 1) := by decide +kernel
theorem dX9_ring_0 : decode cX9_ring 0 = .ok (.aload_n 0, 1) := by decide +kernel
theorem dX9_ring_1 : decode cX9_ring 1 = .ok (.getfield 10, 3) := by decide +kernel
theorem dX9_ring_4 : decode cX9_ring 4 = .ok (.iload_n 1, 1) := by decide +kernel
theorem dX9_ring_5 : decode cX9_ring 5 = .ok (.invokevirtual 98, 3) := by decide +kernel
theorem dX9_ring_8 : decode cX9_ring 8 = .ok (.ifnonnull 7, 3) := by decide +kernel
theorem dX9_ring_11 : decode cX9_ring 11 = .ok (.iconst (-1), 1) := by decide +kernel
theorem dX9_ring_12 : decode cX9_ring 12 = .ok (.goto 11, 3) := by decide +kernel
theorem dX9_ring_15 : decode cX9_ring 15 = .ok (.aload_n 0, 1) := by decide +kernel
theorem dX9_ring_16 : decode cX9_ring 16 = .ok (.getfield 10, 3) := by decide +kernel
theorem dX9_ring_19 : decode cX9_ring 19 = .ok (.iload_n 1, 1) := by decide +kernel
theorem dX9_ring_20 : decode cX9_ring 20 = .ok (.invokevirtual 278, 3) := by decide +kernel
theorem dX9_ring_23 : decode cX9_ring 23 = .ok (.ireturn, 1) := by decide +kernel
theorem dX9_stir_0 : decode cX9_stir 0 = .ok (.iload_n 1, 1) := by decide +kernel
theorem dX9_stir_1 : decode cX9_stir 1 = .ok (.invokestatic 34, 3) := by decide +kernel
theorem dX9_stir_4 : decode cX9_stir 4 = .ok (.ifCond .eq 25, 3) := by decide +kernel
theorem dX9_stir_7 : decode cX9_stir 7 = .ok (.iload_n 2, 1) := by decide +kernel
theorem dX9_stir_8 : decode cX9_stir 8 = .ok (.invokestatic 38, 3) := by decide +kernel
theorem dX9_stir_11 : decode cX9_stir 11 = .ok (.ifCond .eq 18, 3) := by decide +kernel
theorem dX9_stir_14 : decode cX9_stir 14 = .ok (.iload_n 3, 1) := by decide +kernel
theorem dX9_stir_15 : decode cX9_stir 15 = .ok (.iconst (-1), 1) := by decide +kernel
theorem dX9_stir_16 : decode cX9_stir 16 = .ok (.if_icmp .lt 13, 3) := by decide +kernel
theorem dX9_stir_19 : decode cX9_stir 19 = .ok (.iload 4, 2) := by decide +kernel
theorem dX9_stir_21 : decode cX9_stir 21 = .ok (.iconst 0, 1) := by decide +kernel
theorem dX9_stir_22 : decode cX9_stir 22 = .ok (.iconst 2, 1) := by decide +kernel
theorem dX9_stir_23 : decode cX9_stir 23 = .ok (.invokestatic 41, 3) := by decide +kernel
theorem dX9_stir_26 : decode cX9_stir 26 = .ok (.ifCond .ne 5, 3) := by decide +kernel
theorem dX9_stir_29 : decode cX9_stir 29 = .ok (.iconst (-1), 1) := by decide +kernel
theorem dX9_stir_30 : decode cX9_stir 30 = .ok (.ireturn, 1) := by decide +kernel
theorem dX9_stir_31 : decode cX9_stir 31 = .ok (.aload_n 0, 1) := by decide +kernel
theorem dX9_stir_32 : decode cX9_stir 32 = .ok (.getfield 16, 3) := by decide +kernel
theorem dX9_stir_35 : decode cX9_stir 35 = .ok (.aload_n 0, 1) := by decide +kernel
theorem dX9_stir_36 : decode cX9_stir 36 = .ok (.getfield 10, 3) := by decide +kernel
theorem dX9_stir_39 : decode cX9_stir 39 = .ok (.invokevirtual 117, 3) := by decide +kernel
theorem dX9_stir_42 : decode cX9_stir 42 = .ok (.aload_n 0, 1) := by decide +kernel
theorem dX9_stir_43 : decode cX9_stir 43 = .ok (.getfield 16, 3) := by decide +kernel
theorem dX9_stir_46 : decode cX9_stir 46 = .ok (.iload_n 1, 1) := by decide +kernel
theorem dX9_stir_47 : decode cX9_stir 47 = .ok (.iconst 0, 1) := by decide +kernel
theorem dX9_stir_48 : decode cX9_stir 48 = .ok (.iload_n 2, 1) := by decide +kernel
theorem dX9_stir_49 : decode cX9_stir 49 = .ok (.iconst 0, 1) := by decide +kernel
theorem dX9_stir_50 : decode cX9_stir 50 = .ok (.invokevirtual 45, 3) := by decide +kernel
theorem dX9_stir_53 : decode cX9_stir 53 = .ok (.pop, 1) := by decide +kernel
theorem dX9_stir_54 : decode cX9_stir 54 = .ok (.aload_n 0, 1) := by decide +kernel
theorem dX9_stir_55 : decode cX9_stir 55 = .ok (.getfield 16, 3) := by decide +kernel
theorem dX9_stir_58 : decode cX9_stir 58 = .ok (.getfield 56, 3) := by decide +kernel
theorem dX9_stir_61 : decode cX9_stir 61 = .ok (.getfield 236, 3) := by decide +kernel
theorem dX9_stir_64 : decode cX9_stir 64 = .ok (.astore 5, 2) := by decide +kernel
theorem dX9_stir_66 : decode cX9_stir 66 = .ok (.iload_n 3, 1) := by decide +kernel
theorem dX9_stir_67 : decode cX9_stir 67 = .ok (.iconst (-1), 1) := by decide +kernel
theorem dX9_stir_68 : decode cX9_stir 68 = .ok (.if_icmp .ne 58, 3) := by decide +kernel
theorem dX9_stir_71 : decode cX9_stir 71 = .ok (.iload 4, 2) := by decide +kernel
theorem dX9_stir_73 : decode cX9_stir 73 = .ok (.lookupswitch 39 #[(0, 27), (1, 33)], 27) := by decide +kernel
theorem dX9_stir_100 : decode cX9_stir 100 = .ok (.aload 5, 2) := by decide +kernel
theorem dX9_stir_102 : decode cX9_stir 102 = .ok (.getfield 240, 3) := by decide +kernel
theorem dX9_stir_105 : decode cX9_stir 105 = .ok (.ireturn, 1) := by decide +kernel
theorem dX9_stir_106 : decode cX9_stir 106 = .ok (.aload 5, 2) := by decide +kernel
theorem dX9_stir_108 : decode cX9_stir 108 = .ok (.getfield 281, 3) := by decide +kernel
theorem dX9_stir_111 : decode cX9_stir 111 = .ok (.ireturn, 1) := by decide +kernel
theorem dX9_stir_112 : decode cX9_stir 112 = .ok (.aload_n 0, 1) := by decide +kernel
theorem dX9_stir_113 : decode cX9_stir 113 = .ok (.getfield 16, 3) := by decide +kernel
theorem dX9_stir_116 : decode cX9_stir 116 = .ok (.getfield 56, 3) := by decide +kernel
theorem dX9_stir_119 : decode cX9_stir 119 = .ok (.getfield 73, 3) := by decide +kernel
theorem dX9_stir_122 : decode cX9_stir 122 = .ok (.getfield 121, 3) := by decide +kernel
theorem dX9_stir_125 : decode cX9_stir 125 = .ok (.ireturn, 1) := by decide +kernel
theorem dX9_stir_126 : decode cX9_stir 126 = .ok (.iload_n 3, 1) := by decide +kernel
theorem dX9_stir_127 : decode cX9_stir 127 = .ok (.aload 5, 2) := by decide +kernel
theorem dX9_stir_129 : decode cX9_stir 129 = .ok (.getfield 240, 3) := by decide +kernel
theorem dX9_stir_132 : decode cX9_stir 132 = .ok (.if_icmp .lt 5, 3) := by decide +kernel
theorem dX9_stir_135 : decode cX9_stir 135 = .ok (.iconst (-1), 1) := by decide +kernel
theorem dX9_stir_136 : decode cX9_stir 136 = .ok (.ireturn, 1) := by decide +kernel
theorem dX9_stir_137 : decode cX9_stir 137 = .ok (.iload 4, 2) := by decide +kernel
theorem dX9_stir_139 : decode cX9_stir 139 = .ok (.lookupswitch 41 #[(0, 25), (1, 33)], 25) := by decide +kernel
theorem dX9_stir_164 : decode cX9_stir 164 = .ok (.aload 5, 2) := by decide +kernel
theorem dX9_stir_166 : decode cX9_stir 166 = .ok (.getfield 284, 3) := by decide +kernel
theorem dX9_stir_169 : decode cX9_stir 169 = .ok (.iload_n 3, 1) := by decide +kernel
theorem dX9_stir_170 : decode cX9_stir 170 = .ok (.iaload, 1) := by decide +kernel
theorem dX9_stir_171 : decode cX9_stir 171 = .ok (.ireturn, 1) := by decide +kernel
theorem dX9_stir_172 : decode cX9_stir 172 = .ok (.aload 5, 2) := by decide +kernel
theorem dX9_stir_174 : decode cX9_stir 174 = .ok (.getfield 243, 3) := by decide +kernel
theorem dX9_stir_177 : decode cX9_stir 177 = .ok (.iload_n 3, 1) := by decide +kernel
theorem dX9_stir_178 : decode cX9_stir 178 = .ok (.iaload, 1) := by decide +kernel
theorem dX9_stir_179 : decode cX9_stir 179 = .ok (.ireturn, 1) := by decide +kernel
theorem dX9_stir_180 : decode cX9_stir 180 = .ok (.aload 5, 2) := by decide +kernel
theorem dX9_stir_182 : decode cX9_stir 182 = .ok (.getfield 285, 3) := by decide +kernel
theorem dX9_stir_185 : decode cX9_stir 185 = .ok (.iload_n 3, 1) := by decide +kernel
theorem dX9_stir_186 : decode cX9_stir 186 = .ok (.iaload, 1) := by decide +kernel
theorem dX9_stir_187 : decode cX9_stir 187 = .ok (.ireturn, 1) := by decide +kernel
theorem dX9_behind_0 : decode cX9_behind 0 = .ok (.iload_n 2, 1) := by decide +kernel
theorem dX9_behind_1 : decode cX9_behind 1 = .ok (.iconst 1, 1) := by decide +kernel
theorem dX9_behind_2 : decode cX9_behind 2 = .ok (.bipush 99, 2) := by decide +kernel
theorem dX9_behind_4 : decode cX9_behind 4 = .ok (.invokestatic 41, 3) := by decide +kernel
theorem dX9_behind_7 : decode cX9_behind 7 = .ok (.ifCond .eq 12, 3) := by decide +kernel
theorem dX9_behind_10 : decode cX9_behind 10 = .ok (.iload_n 3, 1) := by decide +kernel
theorem dX9_behind_11 : decode cX9_behind 11 = .ok (.iconst 0, 1) := by decide +kernel
theorem dX9_behind_12 : decode cX9_behind 12 = .ok (.iconst 2, 1) := by decide +kernel
theorem dX9_behind_13 : decode cX9_behind 13 = .ok (.invokestatic 41, 3) := by decide +kernel
theorem dX9_behind_16 : decode cX9_behind 16 = .ok (.ifCond .ne 5, 3) := by decide +kernel
theorem dX9_behind_19 : decode cX9_behind 19 = .ok (.iconst (-1), 1) := by decide +kernel
theorem dX9_behind_20 : decode cX9_behind 20 = .ok (.ireturn, 1) := by decide +kernel
theorem dX9_behind_21 : decode cX9_behind 21 = .ok (.aload_n 0, 1) := by decide +kernel
theorem dX9_behind_22 : decode cX9_behind 22 = .ok (.invokevirtual 225, 3) := by decide +kernel
theorem dX9_behind_25 : decode cX9_behind 25 = .ok (.getfield 73, 3) := by decide +kernel
theorem dX9_behind_28 : decode cX9_behind 28 = .ok (.astore 4, 2) := by decide +kernel
theorem dX9_behind_30 : decode cX9_behind 30 = .ok (.aload 4, 2) := by decide +kernel
theorem dX9_behind_32 : decode cX9_behind 32 = .ok (.iload_n 1, 1) := by decide +kernel
theorem dX9_behind_33 : decode cX9_behind 33 = .ok (.invokevirtual 124, 3) := by decide +kernel
theorem dX9_behind_36 : decode cX9_behind 36 = .ok (.istore 5, 2) := by decide +kernel
theorem dX9_behind_38 : decode cX9_behind 38 = .ok (.iload 5, 2) := by decide +kernel
theorem dX9_behind_40 : decode cX9_behind 40 = .ok (.iconst (-1), 1) := by decide +kernel
theorem dX9_behind_41 : decode cX9_behind 41 = .ok (.if_icmp .ne 5, 3) := by decide +kernel
theorem dX9_behind_44 : decode cX9_behind 44 = .ok (.iconst (-1), 1) := by decide +kernel
theorem dX9_behind_45 : decode cX9_behind 45 = .ok (.ireturn, 1) := by decide +kernel
theorem dX9_behind_46 : decode cX9_behind 46 = .ok (.aload 4, 2) := by decide +kernel
theorem dX9_behind_48 : decode cX9_behind 48 = .ok (.getfield 286, 3) := by decide +kernel
theorem dX9_behind_51 : decode cX9_behind 51 = .ok (.istore 6, 2) := by decide +kernel
theorem dX9_behind_53 : decode cX9_behind 53 = .ok (.iconst 0, 1) := by decide +kernel
theorem dX9_behind_54 : decode cX9_behind 54 = .ok (.istore 7, 2) := by decide +kernel
theorem dX9_behind_56 : decode cX9_behind 56 = .ok (.iload 7, 2) := by decide +kernel
theorem dX9_behind_58 : decode cX9_behind 58 = .ok (.iload_n 2, 1) := by decide +kernel
theorem dX9_behind_59 : decode cX9_behind 59 = .ok (.if_icmp .ge 16, 3) := by decide +kernel
theorem dX9_behind_62 : decode cX9_behind 62 = .ok (.aload 4, 2) := by decide +kernel
theorem dX9_behind_64 : decode cX9_behind 64 = .ok (.iload 5, 2) := by decide +kernel
theorem dX9_behind_66 : decode cX9_behind 66 = .ok (.invokevirtual 289, 3) := by decide +kernel
theorem dX9_behind_69 : decode cX9_behind 69 = .ok (.iinc 7 1, 3) := by decide +kernel
theorem dX9_behind_72 : decode cX9_behind 72 = .ok (.goto (-16), 3) := by decide +kernel
theorem dX9_behind_75 : decode cX9_behind 75 = .ok (.iload_n 3, 1) := by decide +kernel
theorem dX9_behind_76 : decode cX9_behind 76 = .ok (.lookupswitch 46 #[(0, 28), (1, 37)], 28) := by decide +kernel
theorem dX9_behind_104 : decode cX9_behind 104 = .ok (.aload 4, 2) := by decide +kernel
theorem dX9_behind_106 : decode cX9_behind 106 = .ok (.getfield 133, 3) := by decide +kernel
theorem dX9_behind_109 : decode cX9_behind 109 = .ok (.iload 5, 2) := by decide +kernel
theorem dX9_behind_111 : decode cX9_behind 111 = .ok (.iaload, 1) := by decide +kernel
theorem dX9_behind_112 : decode cX9_behind 112 = .ok (.ireturn, 1) := by decide +kernel
theorem dX9_behind_113 : decode cX9_behind 113 = .ok (.aload 4, 2) := by decide +kernel
theorem dX9_behind_115 : decode cX9_behind 115 = .ok (.iconst 1, 1) := by decide +kernel
theorem dX9_behind_116 : decode cX9_behind 116 = .ok (.iload 5, 2) := by decide +kernel
theorem dX9_behind_118 : decode cX9_behind 118 = .ok (.invokevirtual 146, 3) := by decide +kernel
theorem dX9_behind_121 : decode cX9_behind 121 = .ok (.ireturn, 1) := by decide +kernel
theorem dX9_behind_122 : decode cX9_behind 122 = .ok (.aload 4, 2) := by decide +kernel
theorem dX9_behind_124 : decode cX9_behind 124 = .ok (.getfield 286, 3) := by decide +kernel
theorem dX9_behind_127 : decode cX9_behind 127 = .ok (.iload 6, 2) := by decide +kernel
theorem dX9_behind_129 : decode cX9_behind 129 = .ok (.isub, 1) := by decide +kernel
theorem dX9_behind_130 : decode cX9_behind 130 = .ok (.ireturn, 1) := by decide +kernel
theorem dX9_turnOf_0 : decode cX9_turnOf 0 = .ok (.aload_n 0, 1) := by decide +kernel
theorem dX9_turnOf_1 : decode cX9_turnOf 1 = .ok (.invokevirtual 225, 3) := by decide +kernel
theorem dX9_turnOf_4 : decode cX9_turnOf 4 = .ok (.astore_n 2, 1) := by decide +kernel
theorem dX9_turnOf_5 : decode cX9_turnOf 5 = .ok (.aload_n 2, 1) := by decide +kernel
theorem dX9_turnOf_6 : decode cX9_turnOf 6 = .ok (.getfield 73, 3) := by decide +kernel
theorem dX9_turnOf_9 : decode cX9_turnOf 9 = .ok (.iload_n 1, 1) := by decide +kernel
theorem dX9_turnOf_10 : decode cX9_turnOf 10 = .ok (.invokevirtual 124, 3) := by decide +kernel
theorem dX9_turnOf_13 : decode cX9_turnOf 13 = .ok (.istore_n 3, 1) := by decide +kernel
theorem dX9_turnOf_14 : decode cX9_turnOf 14 = .ok (.iload_n 3, 1) := by decide +kernel
theorem dX9_turnOf_15 : decode cX9_turnOf 15 = .ok (.iconst (-1), 1) := by decide +kernel
theorem dX9_turnOf_16 : decode cX9_turnOf 16 = .ok (.if_icmp .eq 15, 3) := by decide +kernel
theorem dX9_turnOf_19 : decode cX9_turnOf 19 = .ok (.aload_n 2, 1) := by decide +kernel
theorem dX9_turnOf_20 : decode cX9_turnOf 20 = .ok (.getfield 73, 3) := by decide +kernel
theorem dX9_turnOf_23 : decode cX9_turnOf 23 = .ok (.getfield 142, 3) := by decide +kernel
theorem dX9_turnOf_26 : decode cX9_turnOf 26 = .ok (.iload_n 3, 1) := by decide +kernel
theorem dX9_turnOf_27 : decode cX9_turnOf 27 = .ok (.baload, 1) := by decide +kernel
theorem dX9_turnOf_28 : decode cX9_turnOf 28 = .ok (.ifCond .eq 5, 3) := by decide +kernel
theorem dX9_turnOf_31 : decode cX9_turnOf 31 = .ok (.iconst (-1), 1) := by decide +kernel
theorem dX9_turnOf_32 : decode cX9_turnOf 32 = .ok (.ireturn, 1) := by decide +kernel
theorem dX9_turnOf_33 : decode cX9_turnOf 33 = .ok (.iconst 0, 1) := by decide +kernel
theorem dX9_turnOf_34 : decode cX9_turnOf 34 = .ok (.istore 4, 2) := by decide +kernel
theorem dX9_turnOf_36 : decode cX9_turnOf 36 = .ok (.iload 4, 2) := by decide +kernel
theorem dX9_turnOf_38 : decode cX9_turnOf 38 = .ok (.bipush 60, 2) := by decide +kernel
theorem dX9_turnOf_40 : decode cX9_turnOf 40 = .ok (.if_icmp .ge 42, 3) := by decide +kernel
theorem dX9_turnOf_43 : decode cX9_turnOf 43 = .ok (.aload_n 2, 1) := by decide +kernel
theorem dX9_turnOf_44 : decode cX9_turnOf 44 = .ok (.aload_n 2, 1) := by decide +kernel
theorem dX9_turnOf_45 : decode cX9_turnOf 45 = .ok (.getfield 69, 3) := by decide +kernel
theorem dX9_turnOf_48 : decode cX9_turnOf 48 = .ok (.iconst (-1), 1) := by decide +kernel
theorem dX9_turnOf_49 : decode cX9_turnOf 49 = .ok (.invokevirtual 215, 3) := by decide +kernel
theorem dX9_turnOf_52 : decode cX9_turnOf 52 = .ok (.istore 5, 2) := by decide +kernel
theorem dX9_turnOf_54 : decode cX9_turnOf 54 = .ok (.aload_n 2, 1) := by decide +kernel
theorem dX9_turnOf_55 : decode cX9_turnOf 55 = .ok (.getfield 73, 3) := by decide +kernel
theorem dX9_turnOf_58 : decode cX9_turnOf 58 = .ok (.iload 5, 2) := by decide +kernel
theorem dX9_turnOf_60 : decode cX9_turnOf 60 = .ok (.invokevirtual 218, 3) := by decide +kernel
theorem dX9_turnOf_63 : decode cX9_turnOf 63 = .ok (.iload_n 1, 1) := by decide +kernel
theorem dX9_turnOf_64 : decode cX9_turnOf 64 = .ok (.if_icmp .ne 6, 3) := by decide +kernel
theorem dX9_turnOf_67 : decode cX9_turnOf 67 = .ok (.iload 4, 2) := by decide +kernel
theorem dX9_turnOf_69 : decode cX9_turnOf 69 = .ok (.ireturn, 1) := by decide +kernel
theorem dX9_turnOf_70 : decode cX9_turnOf 70 = .ok (.aload_n 2, 1) := by decide +kernel
theorem dX9_turnOf_71 : decode cX9_turnOf 71 = .ok (.iload 5, 2) := by decide +kernel
theorem dX9_turnOf_73 : decode cX9_turnOf 73 = .ok (.invokevirtual 232, 3) := by decide +kernel
theorem dX9_turnOf_76 : decode cX9_turnOf 76 = .ok (.iinc 4 1, 3) := by decide +kernel
theorem dX9_turnOf_79 : decode cX9_turnOf 79 = .ok (.goto (-43), 3) := by decide +kernel
theorem dX9_turnOf_82 : decode cX9_turnOf 82 = .ok (.iconst (-1), 1) := by decide +kernel
theorem dX9_turnOf_83 : decode cX9_turnOf 83 = .ok (.ireturn, 1) := by decide +kernel
theorem dX9_lead_0 : decode cX9_lead 0 = .ok (.iload_n 1, 1) := by decide +kernel
theorem dX9_lead_1 : decode cX9_lead 1 = .ok (.invokestatic 149, 3) := by decide +kernel
theorem dX9_lead_4 : decode cX9_lead 4 = .ok (.ifCond .eq 25, 3) := by decide +kernel
theorem dX9_lead_7 : decode cX9_lead 7 = .ok (.iload_n 2, 1) := by decide +kernel
theorem dX9_lead_8 : decode cX9_lead 8 = .ok (.ifCond .lt 21, 3) := by decide +kernel
theorem dX9_lead_11 : decode cX9_lead 11 = .ok (.aload_n 0, 1) := by decide +kernel
theorem dX9_lead_12 : decode cX9_lead 12 = .ok (.getfield 10, 3) := by decide +kernel
theorem dX9_lead_15 : decode cX9_lead 15 = .ok (.getfield 56, 3) := by decide +kernel
theorem dX9_lead_18 : decode cX9_lead 18 = .ok (.getfield 73, 3) := by decide +kernel
theorem dX9_lead_21 : decode cX9_lead 21 = .ok (.iload_n 1, 1) := by decide +kernel
theorem dX9_lead_22 : decode cX9_lead 22 = .ok (.iload_n 2, 1) := by decide +kernel
theorem dX9_lead_23 : decode cX9_lead 23 = .ok (.invokevirtual 292, 3) := by decide +kernel
theorem dX9_lead_26 : decode cX9_lead 26 = .ok (.goto 4, 3) := by decide +kernel
theorem dX9_lead_29 : decode cX9_lead 29 = .ok (.iconst (-1), 1) := by decide +kernel
theorem dX9_lead_30 : decode cX9_lead 30 = .ok (.ireturn, 1) := by decide +kernel
theorem dX9_logged_0 : decode cX9_logged 0 = .ok (.iload_n 1, 1) := by decide +kernel
theorem dX9_logged_1 : decode cX9_logged 1 = .ok (.iconst 0, 1) := by decide +kernel
theorem dX9_logged_2 : decode cX9_logged 2 = .ok (.bipush 6, 2) := by decide +kernel
theorem dX9_logged_4 : decode cX9_logged 4 = .ok (.invokestatic 41, 3) := by decide +kernel
theorem dX9_logged_7 : decode cX9_logged 7 = .ok (.ifCond .ne 5, 3) := by decide +kernel
theorem dX9_logged_10 : decode cX9_logged 10 = .ok (.iconst (-1), 1) := by decide +kernel
theorem dX9_logged_11 : decode cX9_logged 11 = .ok (.ireturn, 1) := by decide +kernel
theorem dX9_logged_12 : decode cX9_logged 12 = .ok (.iload_n 2, 1) := by decide +kernel
theorem dX9_logged_13 : decode cX9_logged 13 = .ok (.tableswitch 63 0 2 #[27, 39, 51], 27) := by decide +kernel
theorem dX9_logged_40 : decode cX9_logged 40 = .ok (.aload_n 0, 1) := by decide +kernel
theorem dX9_logged_41 : decode cX9_logged 41 = .ok (.getfield 10, 3) := by decide +kernel
theorem dX9_logged_44 : decode cX9_logged 44 = .ok (.getfield 185, 3) := by decide +kernel
theorem dX9_logged_47 : decode cX9_logged 47 = .ok (.iload_n 1, 1) := by decide +kernel
theorem dX9_logged_48 : decode cX9_logged 48 = .ok (.invokevirtual 295, 3) := by decide +kernel
theorem dX9_logged_51 : decode cX9_logged 51 = .ok (.ireturn, 1) := by decide +kernel
theorem dX9_logged_52 : decode cX9_logged 52 = .ok (.aload_n 0, 1) := by decide +kernel
theorem dX9_logged_53 : decode cX9_logged 53 = .ok (.getfield 10, 3) := by decide +kernel
theorem dX9_logged_56 : decode cX9_logged 56 = .ok (.getfield 185, 3) := by decide +kernel
theorem dX9_logged_59 : decode cX9_logged 59 = .ok (.iload_n 1, 1) := by decide +kernel
theorem dX9_logged_60 : decode cX9_logged 60 = .ok (.invokevirtual 298, 3) := by decide +kernel
theorem dX9_logged_63 : decode cX9_logged 63 = .ok (.ireturn, 1) := by decide +kernel
theorem dX9_logged_64 : decode cX9_logged 64 = .ok (.aload_n 0, 1) := by decide +kernel
theorem dX9_logged_65 : decode cX9_logged 65 = .ok (.getfield 10, 3) := by decide +kernel
theorem dX9_logged_68 : decode cX9_logged 68 = .ok (.getfield 185, 3) := by decide +kernel
theorem dX9_logged_71 : decode cX9_logged 71 = .ok (.iload_n 1, 1) := by decide +kernel
theorem dX9_logged_72 : decode cX9_logged 72 = .ok (.invokevirtual 301, 3) := by decide +kernel
theorem dX9_logged_75 : decode cX9_logged 75 = .ok (.ireturn, 1) := by decide +kernel
theorem dX9_logged_76 : decode cX9_logged 76 = .ok (.iconst (-1), 1) := by decide +kernel
theorem dX9_logged_77 : decode cX9_logged 77 = .ok (.ireturn, 1) := by decide +kernel
theorem dX9_hot_0 : decode cX9_hot 0 = .ok (.aload_n 0, 1) := by decide +kernel
theorem dX9_hot_1 : decode cX9_hot 1 = .ok (.getfield 26, 3) := by decide +kernel
theorem dX9_hot_4 : decode cX9_hot 4 = .ok (.aload_n 0, 1) := by decide +kernel
theorem dX9_hot_5 : decode cX9_hot 5 = .ok (.getfield 10, 3) := by decide +kernel
theorem dX9_hot_8 : decode cX9_hot 8 = .ok (.getfield 207, 3) := by decide +kernel
theorem dX9_hot_11 : decode cX9_hot 11 = .ok (.invokevirtual 304, 3) := by decide +kernel
theorem dX9_hot_14 : decode cX9_hot 14 = .ok (.iload_n 1, 1) := by decide +kernel
theorem dX9_hot_15 : decode cX9_hot 15 = .ok (.iconst (-1), 1) := by decide +kernel
theorem dX9_hot_16 : decode cX9_hot 16 = .ok (.if_icmp .ne 11, 3) := by decide +kernel
theorem dX9_hot_19 : decode cX9_hot 19 = .ok (.aload_n 0, 1) := by decide +kernel
theorem dX9_hot_20 : decode cX9_hot 20 = .ok (.getfield 26, 3) := by decide +kernel
theorem dX9_hot_23 : decode cX9_hot 23 = .ok (.invokevirtual 308, 3) := by decide +kernel
theorem dX9_hot_26 : decode cX9_hot 26 = .ok (.ireturn, 1) := by decide +kernel
theorem dX9_hot_27 : decode cX9_hot 27 = .ok (.aload_n 0, 1) := by decide +kernel
theorem dX9_hot_28 : decode cX9_hot 28 = .ok (.getfield 26, 3) := by decide +kernel
theorem dX9_hot_31 : decode cX9_hot 31 = .ok (.iload_n 1, 1) := by decide +kernel
theorem dX9_hot_32 : decode cX9_hot 32 = .ok (.invokevirtual 311, 3) := by decide +kernel
theorem dX9_hot_35 : decode cX9_hot 35 = .ok (.istore_n 3, 1) := by decide +kernel
theorem dX9_hot_36 : decode cX9_hot 36 = .ok (.iload_n 3, 1) := by decide +kernel
theorem dX9_hot_37 : decode cX9_hot 37 = .ok (.iconst (-1), 1) := by decide +kernel
theorem dX9_hot_38 : decode cX9_hot 38 = .ok (.if_icmp .ne 5, 3) := by decide +kernel
theorem dX9_hot_41 : decode cX9_hot 41 = .ok (.iconst (-1), 1) := by decide +kernel
theorem dX9_hot_42 : decode cX9_hot 42 = .ok (.ireturn, 1) := by decide +kernel
theorem dX9_hot_43 : decode cX9_hot 43 = .ok (.iload_n 2, 1) := by decide +kernel
theorem dX9_hot_44 : decode cX9_hot 44 = .ok (.lookupswitch 48 #[(0, 28), (1, 38)], 28) := by decide +kernel
theorem dX9_hot_72 : decode cX9_hot 72 = .ok (.aload_n 0, 1) := by decide +kernel
theorem dX9_hot_73 : decode cX9_hot 73 = .ok (.getfield 26, 3) := by decide +kernel
theorem dX9_hot_76 : decode cX9_hot 76 = .ok (.getfield 314, 3) := by decide +kernel
theorem dX9_hot_79 : decode cX9_hot 79 = .ok (.iload_n 3, 1) := by decide +kernel
theorem dX9_hot_80 : decode cX9_hot 80 = .ok (.iaload, 1) := by decide +kernel
theorem dX9_hot_81 : decode cX9_hot 81 = .ok (.ireturn, 1) := by decide +kernel
theorem dX9_hot_82 : decode cX9_hot 82 = .ok (.aload_n 0, 1) := by decide +kernel
theorem dX9_hot_83 : decode cX9_hot 83 = .ok (.getfield 26, 3) := by decide +kernel
theorem dX9_hot_86 : decode cX9_hot 86 = .ok (.getfield 315, 3) := by decide +kernel
theorem dX9_hot_89 : decode cX9_hot 89 = .ok (.iload_n 3, 1) := by decide +kernel
theorem dX9_hot_90 : decode cX9_hot 90 = .ok (.iaload, 1) := by decide +kernel
theorem dX9_hot_91 : decode cX9_hot 91 = .ok (.ireturn, 1) := by decide +kernel
theorem dX9_hot_92 : decode cX9_hot 92 = .ok (.iconst (-1), 1) := by decide +kernel
theorem dX9_hot_93 : decode cX9_hot 93 = .ok (.ireturn, 1) := by decide +kernel
theorem dX9_profile_0 : decode cX9_profile 0 = .ok (.iload_n 1, 1) := by decide +kernel
theorem dX9_profile_1 : decode cX9_profile 1 = .ok (.iconst (-1), 1) := by decide +kernel
theorem dX9_profile_2 : decode cX9_profile 2 = .ok (.if_icmp .ge 5, 3) := by decide +kernel
theorem dX9_profile_5 : decode cX9_profile 5 = .ok (.iconst 0, 1) := by decide +kernel
theorem dX9_profile_6 : decode cX9_profile 6 = .ok (.ireturn, 1) := by decide +kernel
theorem dX9_profile_7 : decode cX9_profile 7 = .ok (.aload_n 0, 1) := by decide +kernel
theorem dX9_profile_8 : decode cX9_profile 8 = .ok (.getfield 26, 3) := by decide +kernel
theorem dX9_profile_11 : decode cX9_profile 11 = .ok (.aload_n 0, 1) := by decide +kernel
theorem dX9_profile_12 : decode cX9_profile 12 = .ok (.getfield 10, 3) := by decide +kernel
theorem dX9_profile_15 : decode cX9_profile 15 = .ok (.getfield 207, 3) := by decide +kernel
theorem dX9_profile_18 : decode cX9_profile 18 = .ok (.invokevirtual 304, 3) := by decide +kernel
theorem dX9_profile_21 : decode cX9_profile 21 = .ok (.iconst 0, 1) := by decide +kernel
theorem dX9_profile_22 : decode cX9_profile 22 = .ok (.istore_n 2, 1) := by decide +kernel
theorem dX9_profile_23 : decode cX9_profile 23 = .ok (.iconst 0, 1) := by decide +kernel
theorem dX9_profile_24 : decode cX9_profile 24 = .ok (.istore_n 3, 1) := by decide +kernel
theorem dX9_profile_25 : decode cX9_profile 25 = .ok (.iload_n 3, 1) := by decide +kernel
theorem dX9_profile_26 : decode cX9_profile 26 = .ok (.aload_n 0, 1) := by decide +kernel
theorem dX9_profile_27 : decode cX9_profile 27 = .ok (.getfield 26, 3) := by decide +kernel
theorem dX9_profile_30 : decode cX9_profile 30 = .ok (.getfield 318, 3) := by decide +kernel
theorem dX9_profile_33 : decode cX9_profile 33 = .ok (.if_icmp .ge 24, 3) := by decide +kernel
theorem dX9_profile_36 : decode cX9_profile 36 = .ok (.aload_n 0, 1) := by decide +kernel
theorem dX9_profile_37 : decode cX9_profile 37 = .ok (.getfield 26, 3) := by decide +kernel
theorem dX9_profile_40 : decode cX9_profile 40 = .ok (.iload_n 3, 1) := by decide +kernel
theorem dX9_profile_41 : decode cX9_profile 41 = .ok (.invokevirtual 319, 3) := by decide +kernel
theorem dX9_profile_44 : decode cX9_profile 44 = .ok (.iload_n 1, 1) := by decide +kernel
theorem dX9_profile_45 : decode cX9_profile 45 = .ok (.if_icmp .ne 6, 3) := by decide +kernel
theorem dX9_profile_48 : decode cX9_profile 48 = .ok (.iinc 2 1, 3) := by decide +kernel
theorem dX9_profile_51 : decode cX9_profile 51 = .ok (.iinc 3 1, 3) := by decide +kernel
theorem dX9_profile_54 : decode cX9_profile 54 = .ok (.goto (-29), 3) := by decide +kernel
theorem dX9_profile_57 : decode cX9_profile 57 = .ok (.iload_n 2, 1) := by decide +kernel
theorem dX9_profile_58 : decode cX9_profile 58 = .ok (.ireturn, 1) := by decide +kernel
theorem dX9_agree_0 : decode cX9_agree 0 = .ok (.iload_n 1, 1) := by decide +kernel
theorem dX9_agree_1 : decode cX9_agree 1 = .ok (.invokestatic 322, 3) := by decide +kernel
theorem dX9_agree_4 : decode cX9_agree 4 = .ok (.ifCond .ne 5, 3) := by decide +kernel
theorem dX9_agree_7 : decode cX9_agree 7 = .ok (.iconst (-1), 1) := by decide +kernel
theorem dX9_agree_8 : decode cX9_agree 8 = .ok (.ireturn, 1) := by decide +kernel
theorem dX9_agree_9 : decode cX9_agree 9 = .ok (.aload_n 0, 1) := by decide +kernel
theorem dX9_agree_10 : decode cX9_agree 10 = .ok (.getfield 26, 3) := by decide +kernel
theorem dX9_agree_13 : decode cX9_agree 13 = .ok (.aload_n 0, 1) := by decide +kernel
theorem dX9_agree_14 : decode cX9_agree 14 = .ok (.getfield 10, 3) := by decide +kernel
theorem dX9_agree_17 : decode cX9_agree 17 = .ok (.getfield 207, 3) := by decide +kernel
theorem dX9_agree_20 : decode cX9_agree 20 = .ok (.invokevirtual 304, 3) := by decide +kernel
theorem dX9_agree_23 : decode cX9_agree 23 = .ok (.aload_n 0, 1) := by decide +kernel
theorem dX9_agree_24 : decode cX9_agree 24 = .ok (.getfield 26, 3) := by decide +kernel
theorem dX9_agree_27 : decode cX9_agree 27 = .ok (.iload_n 1, 1) := by decide +kernel
theorem dX9_agree_28 : decode cX9_agree 28 = .ok (.invokevirtual 325, 3) := by decide +kernel
theorem dX9_agree_31 : decode cX9_agree 31 = .ok (.iload_n 2, 1) := by decide +kernel
theorem dX9_agree_32 : decode cX9_agree 32 = .ok (.iconst (-1), 1) := by decide +kernel
theorem dX9_agree_33 : decode cX9_agree 33 = .ok (.if_icmp .ne 11, 3) := by decide +kernel
theorem dX9_agree_36 : decode cX9_agree 36 = .ok (.aload_n 0, 1) := by decide +kernel
theorem dX9_agree_37 : decode cX9_agree 37 = .ok (.getfield 26, 3) := by decide +kernel
theorem dX9_agree_40 : decode cX9_agree 40 = .ok (.getfield 328, 3) := by decide +kernel
theorem dX9_agree_43 : decode cX9_agree 43 = .ok (.ireturn, 1) := by decide +kernel
theorem dX9_agree_44 : decode cX9_agree 44 = .ok (.iload_n 2, 1) := by decide +kernel
theorem dX9_agree_45 : decode cX9_agree 45 = .ok (.iconst 0, 1) := by decide +kernel
theorem dX9_agree_46 : decode cX9_agree 46 = .ok (.aload_n 0, 1) := by decide +kernel
theorem dX9_agree_47 : decode cX9_agree 47 = .ok (.getfield 26, 3) := by decide +kernel
theorem dX9_agree_50 : decode cX9_agree 50 = .ok (.getfield 328, 3) := by decide +kernel
theorem dX9_agree_53 : decode cX9_agree 53 = .ok (.iconst 1, 1) := by decide +kernel
theorem dX9_agree_54 : decode cX9_agree 54 = .ok (.isub, 1) := by decide +kernel
theorem dX9_agree_55 : decode cX9_agree 55 = .ok (.invokestatic 41, 3) := by decide +kernel
theorem dX9_agree_58 : decode cX9_agree 58 = .ok (.ifCond .eq 15, 3) := by decide +kernel
theorem dX9_agree_61 : decode cX9_agree 61 = .ok (.aload_n 0, 1) := by decide +kernel
theorem dX9_agree_62 : decode cX9_agree 62 = .ok (.getfield 26, 3) := by decide +kernel
theorem dX9_agree_65 : decode cX9_agree 65 = .ok (.getfield 331, 3) := by decide +kernel
theorem dX9_agree_68 : decode cX9_agree 68 = .ok (.iload_n 2, 1) := by decide +kernel
theorem dX9_agree_69 : decode cX9_agree 69 = .ok (.iaload, 1) := by decide +kernel
theorem dX9_agree_70 : decode cX9_agree 70 = .ok (.goto 4, 3) := by decide +kernel
theorem dX9_agree_73 : decode cX9_agree 73 = .ok (.iconst (-1), 1) := by decide +kernel
theorem dX9_agree_74 : decode cX9_agree 74 = .ok (.ireturn, 1) := by decide +kernel
theorem dX9_regret_0 : decode cX9_regret 0 = .ok (.iload_n 3, 1) := by decide +kernel
theorem dX9_regret_1 : decode cX9_regret 1 = .ok (.iconst 0, 1) := by decide +kernel
theorem dX9_regret_2 : decode cX9_regret 2 = .ok (.iconst 1, 1) := by decide +kernel
theorem dX9_regret_3 : decode cX9_regret 3 = .ok (.invokestatic 41, 3) := by decide +kernel
theorem dX9_regret_6 : decode cX9_regret 6 = .ok (.ifCond .eq 12, 3) := by decide +kernel
theorem dX9_regret_9 : decode cX9_regret 9 = .ok (.aload_n 0, 1) := by decide +kernel
theorem dX9_regret_10 : decode cX9_regret 10 = .ok (.iload_n 1, 1) := by decide +kernel
theorem dX9_regret_11 : decode cX9_regret 11 = .ok (.iload_n 2, 1) := by decide +kernel
theorem dX9_regret_12 : decode cX9_regret 12 = .ok (.invokevirtual 334, 3) := by decide +kernel
theorem dX9_regret_15 : decode cX9_regret 15 = .ok (.ifCond .ne 5, 3) := by decide +kernel
theorem dX9_regret_18 : decode cX9_regret 18 = .ok (.iconst (-1), 1) := by decide +kernel
theorem dX9_regret_19 : decode cX9_regret 19 = .ok (.ireturn, 1) := by decide +kernel
theorem dX9_regret_20 : decode cX9_regret 20 = .ok (.iload_n 3, 1) := by decide +kernel
theorem dX9_regret_21 : decode cX9_regret 21 = .ok (.ifCond .ne 13, 3) := by decide +kernel
theorem dX9_regret_24 : decode cX9_regret 24 = .ok (.aload_n 0, 1) := by decide +kernel
theorem dX9_regret_25 : decode cX9_regret 25 = .ok (.getfield 26, 3) := by decide +kernel
theorem dX9_regret_28 : decode cX9_regret 28 = .ok (.invokevirtual 337, 3) := by decide +kernel
theorem dX9_regret_31 : decode cX9_regret 31 = .ok (.goto 10, 3) := by decide +kernel
theorem dX9_regret_34 : decode cX9_regret 34 = .ok (.aload_n 0, 1) := by decide +kernel
theorem dX9_regret_35 : decode cX9_regret 35 = .ok (.getfield 26, 3) := by decide +kernel
theorem dX9_regret_38 : decode cX9_regret 38 = .ok (.invokevirtual 340, 3) := by decide +kernel
theorem dX9_regret_41 : decode cX9_regret 41 = .ok (.ireturn, 1) := by decide +kernel
theorem dX9_distance_0 : decode cX9_distance 0 = .ok (.aload_n 0, 1) := by decide +kernel
theorem dX9_distance_1 : decode cX9_distance 1 = .ok (.getfield 26, 3) := by decide +kernel
theorem dX9_distance_4 : decode cX9_distance 4 = .ok (.aload_n 0, 1) := by decide +kernel
theorem dX9_distance_5 : decode cX9_distance 5 = .ok (.getfield 10, 3) := by decide +kernel
theorem dX9_distance_8 : decode cX9_distance 8 = .ok (.getfield 207, 3) := by decide +kernel
theorem dX9_distance_11 : decode cX9_distance 11 = .ok (.invokevirtual 304, 3) := by decide +kernel
theorem dX9_distance_14 : decode cX9_distance 14 = .ok (.aload_n 0, 1) := by decide +kernel
theorem dX9_distance_15 : decode cX9_distance 15 = .ok (.getfield 26, 3) := by decide +kernel
theorem dX9_distance_18 : decode cX9_distance 18 = .ok (.iload_n 1, 1) := by decide +kernel
theorem dX9_distance_19 : decode cX9_distance 19 = .ok (.invokevirtual 319, 3) := by decide +kernel
theorem dX9_distance_22 : decode cX9_distance 22 = .ok (.ireturn, 1) := by decide +kernel
theorem dX9_replay_0 : decode cX9_replay 0 = .ok (.iload_n 3, 1) := by decide +kernel
theorem dX9_replay_1 : decode cX9_replay 1 = .ok (.iconst 0, 1) := by decide +kernel
theorem dX9_replay_2 : decode cX9_replay 2 = .ok (.iconst 2, 1) := by decide +kernel
theorem dX9_replay_3 : decode cX9_replay 3 = .ok (.invokestatic 41, 3) := by decide +kernel
theorem dX9_replay_6 : decode cX9_replay 6 = .ok (.ifCond .eq 12, 3) := by decide +kernel
theorem dX9_replay_9 : decode cX9_replay 9 = .ok (.aload_n 0, 1) := by decide +kernel
theorem dX9_replay_10 : decode cX9_replay 10 = .ok (.iload_n 1, 1) := by decide +kernel
theorem dX9_replay_11 : decode cX9_replay 11 = .ok (.iload_n 2, 1) := by decide +kernel
theorem dX9_replay_12 : decode cX9_replay 12 = .ok (.invokevirtual 334, 3) := by decide +kernel
theorem dX9_replay_15 : decode cX9_replay 15 = .ok (.ifCond .ne 5, 3) := by decide +kernel
theorem dX9_replay_18 : decode cX9_replay 18 = .ok (.iconst (-1), 1) := by decide +kernel
theorem dX9_replay_19 : decode cX9_replay 19 = .ok (.ireturn, 1) := by decide +kernel
theorem dX9_replay_20 : decode cX9_replay 20 = .ok (.iload_n 3, 1) := by decide +kernel
theorem dX9_replay_21 : decode cX9_replay 21 = .ok (.lookupswitch 48 #[(0, 27), (1, 35)], 27) := by decide +kernel
theorem dX9_replay_48 : decode cX9_replay 48 = .ok (.aload_n 0, 1) := by decide +kernel
theorem dX9_replay_49 : decode cX9_replay 49 = .ok (.getfield 26, 3) := by decide +kernel
theorem dX9_replay_52 : decode cX9_replay 52 = .ok (.getfield 343, 3) := by decide +kernel
theorem dX9_replay_55 : decode cX9_replay 55 = .ok (.ireturn, 1) := by decide +kernel
theorem dX9_replay_56 : decode cX9_replay 56 = .ok (.aload_n 0, 1) := by decide +kernel
theorem dX9_replay_57 : decode cX9_replay 57 = .ok (.getfield 26, 3) := by decide +kernel
theorem dX9_replay_60 : decode cX9_replay 60 = .ok (.getfield 346, 3) := by decide +kernel
theorem dX9_replay_63 : decode cX9_replay 63 = .ok (.getfield 347, 3) := by decide +kernel
theorem dX9_replay_66 : decode cX9_replay 66 = .ok (.iconst 2, 1) := by decide +kernel
theorem dX9_replay_67 : decode cX9_replay 67 = .ok (.iaload, 1) := by decide +kernel
theorem dX9_replay_68 : decode cX9_replay 68 = .ok (.ireturn, 1) := by decide +kernel
theorem dX9_replay_69 : decode cX9_replay 69 = .ok (.aload_n 0, 1) := by decide +kernel
theorem dX9_replay_70 : decode cX9_replay 70 = .ok (.getfield 26, 3) := by decide +kernel
theorem dX9_replay_73 : decode cX9_replay 73 = .ok (.getfield 346, 3) := by decide +kernel
theorem dX9_replay_76 : decode cX9_replay 76 = .ok (.getfield 73, 3) := by decide +kernel
theorem dX9_replay_79 : decode cX9_replay 79 = .ok (.getfield 121, 3) := by decide +kernel
theorem dX9_replay_82 : decode cX9_replay 82 = .ok (.ireturn, 1) := by decide +kernel
theorem dX9_replayed_0 : decode cX9_replayed 0 = .ok (.aload_n 0, 1) := by decide +kernel
theorem dX9_replayed_1 : decode cX9_replayed 1 = .ok (.iload_n 1, 1) := by decide +kernel
theorem dX9_replayed_2 : decode cX9_replayed 2 = .ok (.iload_n 2, 1) := by decide +kernel
theorem dX9_replayed_3 : decode cX9_replayed 3 = .ok (.invokevirtual 334, 3) := by decide +kernel
theorem dX9_replayed_6 : decode cX9_replayed 6 = .ok (.ifCond .eq 21, 3) := by decide +kernel
theorem dX9_replayed_9 : decode cX9_replayed 9 = .ok (.aload_n 0, 1) := by decide +kernel
theorem dX9_replayed_10 : decode cX9_replayed 10 = .ok (.getfield 26, 3) := by decide +kernel
theorem dX9_replayed_13 : decode cX9_replayed 13 = .ok (.getfield 346, 3) := by decide +kernel
theorem dX9_replayed_16 : decode cX9_replayed 16 = .ok (.getfield 73, 3) := by decide +kernel
theorem dX9_replayed_19 : decode cX9_replayed 19 = .ok (.iconst 0, 1) := by decide +kernel
theorem dX9_replayed_20 : decode cX9_replayed 20 = .ok (.iload_n 3, 1) := by decide +kernel
theorem dX9_replayed_21 : decode cX9_replayed 21 = .ok (.invokevirtual 152, 3) := by decide +kernel
theorem dX9_replayed_24 : decode cX9_replayed 24 = .ok (.goto 4, 3) := by decide +kernel
theorem dX9_replayed_27 : decode cX9_replayed 27 = .ok (.iconst (-1), 1) := by decide +kernel
theorem dX9_replayed_28 : decode cX9_replayed 28 = .ok (.ireturn, 1) := by decide +kernel
theorem dX9_least_0 : decode cX9_least 0 = .ok (.iload_n 1, 1) := by decide +kernel
theorem dX9_least_1 : decode cX9_least 1 = .ok (.invokestatic 350, 3) := by decide +kernel
theorem dX9_least_4 : decode cX9_least 4 = .ok (.ifCond .eq 7, 3) := by decide +kernel
theorem dX9_least_7 : decode cX9_least 7 = .ok (.iload_n 2, 1) := by decide +kernel
theorem dX9_least_8 : decode cX9_least 8 = .ok (.ifCond .ge 5, 3) := by decide +kernel
theorem dX9_least_11 : decode cX9_least 11 = .ok (.iconst (-1), 1) := by decide +kernel
theorem dX9_least_12 : decode cX9_least 12 = .ok (.ireturn, 1) := by decide +kernel
theorem dX9_least_13 : decode cX9_least 13 = .ok (.aload_n 0, 1) := by decide +kernel
theorem dX9_least_14 : decode cX9_least 14 = .ok (.getfield 26, 3) := by decide +kernel
theorem dX9_least_17 : decode cX9_least 17 = .ok (.aload_n 0, 1) := by decide +kernel
theorem dX9_least_18 : decode cX9_least 18 = .ok (.getfield 10, 3) := by decide +kernel
theorem dX9_least_21 : decode cX9_least 21 = .ok (.getfield 207, 3) := by decide +kernel
theorem dX9_least_24 : decode cX9_least 24 = .ok (.invokevirtual 304, 3) := by decide +kernel
theorem dX9_least_27 : decode cX9_least 27 = .ok (.aload_n 0, 1) := by decide +kernel
theorem dX9_least_28 : decode cX9_least 28 = .ok (.getfield 26, 3) := by decide +kernel
theorem dX9_least_31 : decode cX9_least 31 = .ok (.iload_n 1, 1) := by decide +kernel
theorem dX9_least_32 : decode cX9_least 32 = .ok (.iload_n 2, 1) := by decide +kernel
theorem dX9_least_33 : decode cX9_least 33 = .ok (.invokevirtual 353, 3) := by decide +kernel
theorem dX9_least_36 : decode cX9_least 36 = .ok (.ireturn, 1) := by decide +kernel
theorem dX9_best_0 : decode cX9_best 0 = .ok (.iload_n 1, 1) := by decide +kernel
theorem dX9_best_1 : decode cX9_best 1 = .ok (.invokestatic 322, 3) := by decide +kernel
theorem dX9_best_4 : decode cX9_best 4 = .ok (.ifCond .eq 12, 3) := by decide +kernel
theorem dX9_best_7 : decode cX9_best 7 = .ok (.iload_n 2, 1) := by decide +kernel
theorem dX9_best_8 : decode cX9_best 8 = .ok (.iconst 0, 1) := by decide +kernel
theorem dX9_best_9 : decode cX9_best 9 = .ok (.iconst 1, 1) := by decide +kernel
theorem dX9_best_10 : decode cX9_best 10 = .ok (.invokestatic 41, 3) := by decide +kernel
theorem dX9_best_13 : decode cX9_best 13 = .ok (.ifCond .ne 5, 3) := by decide +kernel
theorem dX9_best_16 : decode cX9_best 16 = .ok (.iconst (-1), 1) := by decide +kernel
theorem dX9_best_17 : decode cX9_best 17 = .ok (.ireturn, 1) := by decide +kernel
theorem dX9_best_18 : decode cX9_best 18 = .ok (.aload_n 0, 1) := by decide +kernel
theorem dX9_best_19 : decode cX9_best 19 = .ok (.getfield 26, 3) := by decide +kernel
theorem dX9_best_22 : decode cX9_best 22 = .ok (.aload_n 0, 1) := by decide +kernel
theorem dX9_best_23 : decode cX9_best 23 = .ok (.getfield 10, 3) := by decide +kernel
theorem dX9_best_26 : decode cX9_best 26 = .ok (.getfield 207, 3) := by decide +kernel
theorem dX9_best_29 : decode cX9_best 29 = .ok (.invokevirtual 304, 3) := by decide +kernel
theorem dX9_best_32 : decode cX9_best 32 = .ok (.iconst 0, 1) := by decide +kernel
theorem dX9_best_33 : decode cX9_best 33 = .ok (.istore_n 3, 1) := by decide +kernel
theorem dX9_best_34 : decode cX9_best 34 = .ok (.iconst (-1), 1) := by decide +kernel
theorem dX9_best_35 : decode cX9_best 35 = .ok (.istore 4, 2) := by decide +kernel
theorem dX9_best_37 : decode cX9_best 37 = .ok (.iconst 0, 1) := by decide +kernel
theorem dX9_best_38 : decode cX9_best 38 = .ok (.istore 5, 2) := by decide +kernel
theorem dX9_best_40 : decode cX9_best 40 = .ok (.iload 5, 2) := by decide +kernel
theorem dX9_best_42 : decode cX9_best 42 = .ok (.iconst 4, 1) := by decide +kernel
theorem dX9_best_43 : decode cX9_best 43 = .ok (.if_icmp .gt 43, 3) := by decide +kernel
theorem dX9_best_46 : decode cX9_best 46 = .ok (.aload_n 0, 1) := by decide +kernel
theorem dX9_best_47 : decode cX9_best 47 = .ok (.getfield 26, 3) := by decide +kernel
theorem dX9_best_50 : decode cX9_best 50 = .ok (.iload 5, 2) := by decide +kernel
theorem dX9_best_52 : decode cX9_best 52 = .ok (.iload_n 1, 1) := by decide +kernel
theorem dX9_best_53 : decode cX9_best 53 = .ok (.invokevirtual 356, 3) := by decide +kernel
theorem dX9_best_56 : decode cX9_best 56 = .ok (.aload_n 0, 1) := by decide +kernel
theorem dX9_best_57 : decode cX9_best 57 = .ok (.getfield 26, 3) := by decide +kernel
theorem dX9_best_60 : decode cX9_best 60 = .ok (.getfield 343, 3) := by decide +kernel
theorem dX9_best_63 : decode cX9_best 63 = .ok (.iload 4, 2) := by decide +kernel
theorem dX9_best_65 : decode cX9_best 65 = .ok (.if_icmp .le 15, 3) := by decide +kernel
theorem dX9_best_68 : decode cX9_best 68 = .ok (.aload_n 0, 1) := by decide +kernel
theorem dX9_best_69 : decode cX9_best 69 = .ok (.getfield 26, 3) := by decide +kernel
theorem dX9_best_72 : decode cX9_best 72 = .ok (.getfield 343, 3) := by decide +kernel
theorem dX9_best_75 : decode cX9_best 75 = .ok (.istore 4, 2) := by decide +kernel
theorem dX9_best_77 : decode cX9_best 77 = .ok (.iload 5, 2) := by decide +kernel
theorem dX9_best_79 : decode cX9_best 79 = .ok (.istore_n 3, 1) := by decide +kernel
theorem dX9_best_80 : decode cX9_best 80 = .ok (.iinc 5 1, 3) := by decide +kernel
theorem dX9_best_83 : decode cX9_best 83 = .ok (.goto (-43), 3) := by decide +kernel
theorem dX9_best_86 : decode cX9_best 86 = .ok (.iload_n 2, 1) := by decide +kernel
theorem dX9_best_87 : decode cX9_best 87 = .ok (.ifCond .ne 5, 3) := by decide +kernel
theorem dX9_best_90 : decode cX9_best 90 = .ok (.iload_n 3, 1) := by decide +kernel
theorem dX9_best_91 : decode cX9_best 91 = .ok (.ireturn, 1) := by decide +kernel
theorem dX9_best_92 : decode cX9_best 92 = .ok (.aload_n 0, 1) := by decide +kernel
theorem dX9_best_93 : decode cX9_best 93 = .ok (.getfield 26, 3) := by decide +kernel
theorem dX9_best_96 : decode cX9_best 96 = .ok (.iconst 5, 1) := by decide +kernel
theorem dX9_best_97 : decode cX9_best 97 = .ok (.iload_n 1, 1) := by decide +kernel
theorem dX9_best_98 : decode cX9_best 98 = .ok (.invokevirtual 356, 3) := by decide +kernel
theorem dX9_best_101 : decode cX9_best 101 = .ok (.aload_n 0, 1) := by decide +kernel
theorem dX9_best_102 : decode cX9_best 102 = .ok (.getfield 26, 3) := by decide +kernel
theorem dX9_best_105 : decode cX9_best 105 = .ok (.getfield 343, 3) := by decide +kernel
theorem dX9_best_108 : decode cX9_best 108 = .ok (.iload 4, 2) := by decide +kernel
theorem dX9_best_110 : decode cX9_best 110 = .ok (.isub, 1) := by decide +kernel
theorem dX9_best_111 : decode cX9_best 111 = .ok (.ireturn, 1) := by decide +kernel
theorem dX9_count_0 : decode cX9_count 0 = .ok (.aload_n 0, 1) := by decide +kernel
theorem dX9_count_1 : decode cX9_count 1 = .ok (.getfield 10, 3) := by decide +kernel
theorem dX9_count_4 : decode cX9_count 4 = .ok (.getfield 56, 3) := by decide +kernel
theorem dX9_count_7 : decode cX9_count 7 = .ok (.astore_n 2, 1) := by decide +kernel
theorem dX9_count_8 : decode cX9_count 8 = .ok (.iload_n 1, 1) := by decide +kernel
theorem dX9_count_9 : decode cX9_count 9 = .ok (.tableswitch 240 0 19 #[95, 103, 111, 116, 121, 126, 134, 142, 150, 158, 163, 170, 177, 184, 192, 200, 211, 219, 227, 232], 95) := by decide +kernel
theorem dX9_count_104 : decode cX9_count 104 = .ok (.aload_n 2, 1) := by decide +kernel
theorem dX9_count_105 : decode cX9_count 105 = .ok (.getfield 73, 3) := by decide +kernel
theorem dX9_count_108 : decode cX9_count 108 = .ok (.getfield 121, 3) := by decide +kernel
theorem dX9_count_111 : decode cX9_count 111 = .ok (.ireturn, 1) := by decide +kernel
theorem dX9_count_112 : decode cX9_count 112 = .ok (.aload_n 2, 1) := by decide +kernel
theorem dX9_count_113 : decode cX9_count 113 = .ok (.getfield 73, 3) := by decide +kernel
theorem dX9_count_116 : decode cX9_count 116 = .ok (.getfield 255, 3) := by decide +kernel
theorem dX9_count_119 : decode cX9_count 119 = .ok (.ireturn, 1) := by decide +kernel
theorem dX9_count_120 : decode cX9_count 120 = .ok (.aload_n 2, 1) := by decide +kernel
theorem dX9_count_121 : decode cX9_count 121 = .ok (.getfield 244, 3) := by decide +kernel
theorem dX9_count_124 : decode cX9_count 124 = .ok (.ireturn, 1) := by decide +kernel
theorem dX9_count_125 : decode cX9_count 125 = .ok (.aload_n 2, 1) := by decide +kernel
theorem dX9_count_126 : decode cX9_count 126 = .ok (.getfield 69, 3) := by decide +kernel
theorem dX9_count_129 : decode cX9_count 129 = .ok (.ireturn, 1) := by decide +kernel
theorem dX9_count_130 : decode cX9_count 130 = .ok (.aload_n 2, 1) := by decide +kernel
theorem dX9_count_131 : decode cX9_count 131 = .ok (.getfield 360, 3) := by decide +kernel
theorem dX9_count_134 : decode cX9_count 134 = .ok (.ireturn, 1) := by decide +kernel
theorem dX9_count_135 : decode cX9_count 135 = .ok (.aload_n 2, 1) := by decide +kernel
theorem dX9_count_136 : decode cX9_count 136 = .ok (.getfield 73, 3) := by decide +kernel
theorem dX9_count_139 : decode cX9_count 139 = .ok (.getfield 363, 3) := by decide +kernel
theorem dX9_count_142 : decode cX9_count 142 = .ok (.ireturn, 1) := by decide +kernel
theorem dX9_count_143 : decode cX9_count 143 = .ok (.aload_n 0, 1) := by decide +kernel
theorem dX9_count_144 : decode cX9_count 144 = .ok (.getfield 10, 3) := by decide +kernel
theorem dX9_count_147 : decode cX9_count 147 = .ok (.getfield 366, 3) := by decide +kernel
theorem dX9_count_150 : decode cX9_count 150 = .ok (.ireturn, 1) := by decide +kernel
theorem dX9_count_151 : decode cX9_count 151 = .ok (.aload_n 2, 1) := by decide +kernel
theorem dX9_count_152 : decode cX9_count 152 = .ok (.getfield 73, 3) := by decide +kernel
theorem dX9_count_155 : decode cX9_count 155 = .ok (.getfield 77, 3) := by decide +kernel
theorem dX9_count_158 : decode cX9_count 158 = .ok (.ireturn, 1) := by decide +kernel
theorem dX9_count_159 : decode cX9_count 159 = .ok (.aload_n 0, 1) := by decide +kernel
theorem dX9_count_160 : decode cX9_count 160 = .ok (.getfield 10, 3) := by decide +kernel
theorem dX9_count_163 : decode cX9_count 163 = .ok (.getfield 85, 3) := by decide +kernel
theorem dX9_count_166 : decode cX9_count 166 = .ok (.ireturn, 1) := by decide +kernel
theorem dX9_count_167 : decode cX9_count 167 = .ok (.aload_n 2, 1) := by decide +kernel
theorem dX9_count_168 : decode cX9_count 168 = .ok (.getfield 369, 3) := by decide +kernel
theorem dX9_count_171 : decode cX9_count 171 = .ok (.ireturn, 1) := by decide +kernel
theorem dX9_count_172 : decode cX9_count 172 = .ok (.aload_n 2, 1) := by decide +kernel
theorem dX9_count_173 : decode cX9_count 173 = .ok (.getfield 347, 3) := by decide +kernel
theorem dX9_count_176 : decode cX9_count 176 = .ok (.iconst 5, 1) := by decide +kernel
theorem dX9_count_177 : decode cX9_count 177 = .ok (.iaload, 1) := by decide +kernel
theorem dX9_count_178 : decode cX9_count 178 = .ok (.ireturn, 1) := by decide +kernel
theorem dX9_count_179 : decode cX9_count 179 = .ok (.aload_n 2, 1) := by decide +kernel
theorem dX9_count_180 : decode cX9_count 180 = .ok (.getfield 347, 3) := by decide +kernel
theorem dX9_count_183 : decode cX9_count 183 = .ok (.iconst 2, 1) := by decide +kernel
theorem dX9_count_184 : decode cX9_count 184 = .ok (.iaload, 1) := by decide +kernel
theorem dX9_count_185 : decode cX9_count 185 = .ok (.ireturn, 1) := by decide +kernel
theorem dX9_count_186 : decode cX9_count 186 = .ok (.aload_n 2, 1) := by decide +kernel
theorem dX9_count_187 : decode cX9_count 187 = .ok (.getfield 347, 3) := by decide +kernel
theorem dX9_count_190 : decode cX9_count 190 = .ok (.iconst 3, 1) := by decide +kernel
theorem dX9_count_191 : decode cX9_count 191 = .ok (.iaload, 1) := by decide +kernel
theorem dX9_count_192 : decode cX9_count 192 = .ok (.ireturn, 1) := by decide +kernel
theorem dX9_count_193 : decode cX9_count 193 = .ok (.aload_n 2, 1) := by decide +kernel
theorem dX9_count_194 : decode cX9_count 194 = .ok (.getfield 347, 3) := by decide +kernel
theorem dX9_count_197 : decode cX9_count 197 = .ok (.bipush 6, 2) := by decide +kernel
theorem dX9_count_199 : decode cX9_count 199 = .ok (.iaload, 1) := by decide +kernel
theorem dX9_count_200 : decode cX9_count 200 = .ok (.ireturn, 1) := by decide +kernel
theorem dX9_count_201 : decode cX9_count 201 = .ok (.aload_n 0, 1) := by decide +kernel
theorem dX9_count_202 : decode cX9_count 202 = .ok (.getfield 10, 3) := by decide +kernel
theorem dX9_count_205 : decode cX9_count 205 = .ok (.getfield 372, 3) := by decide +kernel
theorem dX9_count_208 : decode cX9_count 208 = .ok (.ireturn, 1) := by decide +kernel
theorem dX9_count_209 : decode cX9_count 209 = .ok (.aload_n 0, 1) := by decide +kernel
theorem dX9_count_210 : decode cX9_count 210 = .ok (.getfield 10, 3) := by decide +kernel
theorem dX9_count_213 : decode cX9_count 213 = .ok (.getfield 207, 3) := by decide +kernel
theorem dX9_count_216 : decode cX9_count 216 = .ok (.getfield 211, 3) := by decide +kernel
theorem dX9_count_219 : decode cX9_count 219 = .ok (.ireturn, 1) := by decide +kernel
theorem dX9_count_220 : decode cX9_count 220 = .ok (.aload_n 2, 1) := by decide +kernel
theorem dX9_count_221 : decode cX9_count 221 = .ok (.getfield 73, 3) := by decide +kernel
theorem dX9_count_224 : decode cX9_count 224 = .ok (.getfield 247, 3) := by decide +kernel
theorem dX9_count_227 : decode cX9_count 227 = .ok (.ireturn, 1) := by decide +kernel
theorem dX9_count_228 : decode cX9_count 228 = .ok (.aload_n 2, 1) := by decide +kernel
theorem dX9_count_229 : decode cX9_count 229 = .ok (.getfield 73, 3) := by decide +kernel
theorem dX9_count_232 : decode cX9_count 232 = .ok (.getfield 286, 3) := by decide +kernel
theorem dX9_count_235 : decode cX9_count 235 = .ok (.ireturn, 1) := by decide +kernel
theorem dX9_count_236 : decode cX9_count 236 = .ok (.aload_n 2, 1) := by decide +kernel
theorem dX9_count_237 : decode cX9_count 237 = .ok (.getfield 373, 3) := by decide +kernel
theorem dX9_count_240 : decode cX9_count 240 = .ok (.ireturn, 1) := by decide +kernel
theorem dX9_count_241 : decode cX9_count 241 = .ok (.aload_n 0, 1) := by decide +kernel
theorem dX9_count_242 : decode cX9_count 242 = .ok (.getfield 10, 3) := by decide +kernel
theorem dX9_count_245 : decode cX9_count 245 = .ok (.getfield 376, 3) := by decide +kernel
theorem dX9_count_248 : decode cX9_count 248 = .ok (.ireturn, 1) := by decide +kernel
theorem dX9_count_249 : decode cX9_count 249 = .ok (.iconst (-1), 1) := by decide +kernel
theorem dX9_count_250 : decode cX9_count 250 = .ok (.ireturn, 1) := by decide +kernel
theorem dX9_within_0 : decode cX9_within 0 = .ok (.iload_n 0, 1) := by decide +kernel
theorem dX9_within_1 : decode cX9_within 1 = .ok (.iload_n 1, 1) := by decide +kernel
theorem dX9_within_2 : decode cX9_within 2 = .ok (.if_icmp .lt 12, 3) := by decide +kernel
theorem dX9_within_5 : decode cX9_within 5 = .ok (.iload_n 0, 1) := by decide +kernel
theorem dX9_within_6 : decode cX9_within 6 = .ok (.iload_n 2, 1) := by decide +kernel
theorem dX9_within_7 : decode cX9_within 7 = .ok (.if_icmp .gt 7, 3) := by decide +kernel
theorem dX9_within_10 : decode cX9_within 10 = .ok (.iconst 1, 1) := by decide +kernel
theorem dX9_within_11 : decode cX9_within 11 = .ok (.goto 4, 3) := by decide +kernel
theorem dX9_within_14 : decode cX9_within 14 = .ok (.iconst 0, 1) := by decide +kernel
theorem dX9_within_15 : decode cX9_within 15 = .ok (.ireturn, 1) := by decide +kernel
theorem dX9_isKey_0 : decode cX9_isKey 0 = .ok (.iload_n 0, 1) := by decide +kernel
theorem dX9_isKey_1 : decode cX9_isKey 1 = .ok (.iconst 0, 1) := by decide +kernel
theorem dX9_isKey_2 : decode cX9_isKey 2 = .ok (.sipush 999, 3) := by decide +kernel
theorem dX9_isKey_5 : decode cX9_isKey 5 = .ok (.invokestatic 41, 3) := by decide +kernel
theorem dX9_isKey_8 : decode cX9_isKey 8 = .ok (.ireturn, 1) := by decide +kernel
theorem dX9_isWeight_0 : decode cX9_isWeight 0 = .ok (.iload_n 0, 1) := by decide +kernel
theorem dX9_isWeight_1 : decode cX9_isWeight 1 = .ok (.iconst 1, 1) := by decide +kernel
theorem dX9_isWeight_2 : decode cX9_isWeight 2 = .ok (.bipush 99, 2) := by decide +kernel
theorem dX9_isWeight_4 : decode cX9_isWeight 4 = .ok (.invokestatic 41, 3) := by decide +kernel
theorem dX9_isWeight_7 : decode cX9_isWeight 7 = .ok (.ireturn, 1) := by decide +kernel
theorem dX9_isCap_0 : decode cX9_isCap 0 = .ok (.iload_n 0, 1) := by decide +kernel
theorem dX9_isCap_1 : decode cX9_isCap 1 = .ok (.iconst 0, 1) := by decide +kernel
theorem dX9_isCap_2 : decode cX9_isCap 2 = .ok (.sipush 5000, 3) := by decide +kernel
theorem dX9_isCap_5 : decode cX9_isCap 5 = .ok (.invokestatic 41, 3) := by decide +kernel
theorem dX9_isCap_8 : decode cX9_isCap 8 = .ok (.ireturn, 1) := by decide +kernel
theorem dX9_isPaperCap_0 : decode cX9_isPaperCap 0 = .ok (.iload_n 0, 1) := by decide +kernel
theorem dX9_isPaperCap_1 : decode cX9_isPaperCap 1 = .ok (.iconst 0, 1) := by decide +kernel
theorem dX9_isPaperCap_2 : decode cX9_isPaperCap 2 = .ok (.bipush 60, 2) := by decide +kernel
theorem dX9_isPaperCap_4 : decode cX9_isPaperCap 4 = .ok (.invokestatic 41, 3) := by decide +kernel
theorem dX9_isPaperCap_7 : decode cX9_isPaperCap 7 = .ok (.ireturn, 1) := by decide +kernel
theorem dX9_isPaperWay_0 : decode cX9_isPaperWay 0 = .ok (.iload_n 0, 1) := by decide +kernel
theorem dX9_isPaperWay_1 : decode cX9_isPaperWay 1 = .ok (.iconst 0, 1) := by decide +kernel
theorem dX9_isPaperWay_2 : decode cX9_isPaperWay 2 = .ok (.iconst 5, 1) := by decide +kernel
theorem dX9_isPaperWay_3 : decode cX9_isPaperWay 3 = .ok (.invokestatic 41, 3) := by decide +kernel
theorem dX9_isPaperWay_6 : decode cX9_isPaperWay 6 = .ok (.ireturn, 1) := by decide +kernel
theorem dX9_isOrder_0 : decode cX9_isOrder 0 = .ok (.iload_n 0, 1) := by decide +kernel
theorem dX9_isOrder_1 : decode cX9_isOrder 1 = .ok (.ifCond .eq 8, 3) := by decide +kernel
theorem dX9_isOrder_4 : decode cX9_isOrder 4 = .ok (.iload_n 0, 1) := by decide +kernel
theorem dX9_isOrder_5 : decode cX9_isOrder 5 = .ok (.iconst 1, 1) := by decide +kernel
theorem dX9_isOrder_6 : decode cX9_isOrder 6 = .ok (.if_icmp .ne 7, 3) := by decide +kernel
theorem dX9_isOrder_9 : decode cX9_isOrder 9 = .ok (.iconst 1, 1) := by decide +kernel
theorem dX9_isOrder_10 : decode cX9_isOrder 10 = .ok (.goto 4, 3) := by decide +kernel
theorem dX9_isOrder_13 : decode cX9_isOrder 13 = .ok (.iconst 0, 1) := by decide +kernel
theorem dX9_isOrder_14 : decode cX9_isOrder 14 = .ok (.ireturn, 1) := by decide +kernel
theorem dX9_asInt_0 : decode cX9_asInt 0 = .ok (.iload_n 0, 1) := by decide +kernel
theorem dX9_asInt_1 : decode cX9_asInt 1 = .ok (.ifCond .eq 7, 3) := by decide +kernel
theorem dX9_asInt_4 : decode cX9_asInt 4 = .ok (.iconst 1, 1) := by decide +kernel
theorem dX9_asInt_5 : decode cX9_asInt 5 = .ok (.goto 4, 3) := by decide +kernel
theorem dX9_asInt_8 : decode cX9_asInt 8 = .ok (.iconst 0, 1) := by decide +kernel
theorem dX9_asInt_9 : decode cX9_asInt 9 = .ok (.ireturn, 1) := by decide +kernel
theorem dX9_nextDraw_0 : decode cX9_nextDraw 0 = .ok (.ldc2_w 378, 3) := by decide +kernel
theorem dX9_nextDraw_3 : decode cX9_nextDraw 3 = .ok (.iload_n 0, 1) := by decide +kernel
theorem dX9_nextDraw_4 : decode cX9_nextDraw 4 = .ok (.i2l, 1) := by decide +kernel
theorem dX9_nextDraw_5 : decode cX9_nextDraw 5 = .ok (.lmul, 1) := by decide +kernel
theorem dX9_nextDraw_6 : decode cX9_nextDraw 6 = .ok (.ldc2_w 380, 3) := by decide +kernel
theorem dX9_nextDraw_9 : decode cX9_nextDraw 9 = .ok (.ladd, 1) := by decide +kernel
theorem dX9_nextDraw_10 : decode cX9_nextDraw 10 = .ok (.ldc2_w 382, 3) := by decide +kernel
theorem dX9_nextDraw_13 : decode cX9_nextDraw 13 = .ok (.land, 1) := by decide +kernel
theorem dX9_nextDraw_14 : decode cX9_nextDraw 14 = .ok (.l2i, 1) := by decide +kernel
theorem dX9_nextDraw_15 : decode cX9_nextDraw 15 = .ok (.ireturn, 1) := by decide +kernel
theorem dX9_drawn_0 : decode cX9_drawn 0 = .ok (.iload_n 1, 1) := by decide +kernel
theorem dX9_drawn_1 : decode cX9_drawn 1 = .ok (.ifCond .le 12, 3) := by decide +kernel
theorem dX9_drawn_4 : decode cX9_drawn 4 = .ok (.iload_n 0, 1) := by decide +kernel
theorem dX9_drawn_5 : decode cX9_drawn 5 = .ok (.bipush 64, 2) := by decide +kernel
theorem dX9_drawn_7 : decode cX9_drawn 7 = .ok (.idiv, 1) := by decide +kernel
theorem dX9_drawn_8 : decode cX9_drawn 8 = .ok (.iload_n 1, 1) := by decide +kernel
theorem dX9_drawn_9 : decode cX9_drawn 9 = .ok (.irem, 1) := by decide +kernel
theorem dX9_drawn_10 : decode cX9_drawn 10 = .ok (.goto 4, 3) := by decide +kernel
theorem dX9_drawn_13 : decode cX9_drawn 13 = .ok (.iconst 0, 1) := by decide +kernel
theorem dX9_drawn_14 : decode cX9_drawn 14 = .ok (.ireturn, 1) := by decide +kernel
theorem dX9_layStore_0 : decode cX9_layStore 0 = .ok (.aload_n 0, 1) := by decide +kernel
theorem dX9_layStore_1 : decode cX9_layStore 1 = .ok (.getfield 16, 3) := by decide +kernel
theorem dX9_layStore_4 : decode cX9_layStore 4 = .ok (.getfield 56, 3) := by decide +kernel
theorem dX9_layStore_7 : decode cX9_layStore 7 = .ok (.aload_n 0, 1) := by decide +kernel
theorem dX9_layStore_8 : decode cX9_layStore 8 = .ok (.getfield 10, 3) := by decide +kernel
theorem dX9_layStore_11 : decode cX9_layStore 11 = .ok (.getfield 56, 3) := by decide +kernel
theorem dX9_layStore_14 : decode cX9_layStore 14 = .ok (.invokevirtual 384, 3) := by decide +kernel
theorem dX9_layStore_17 : decode cX9_layStore 17 = .ok (.aload_n 0, 1) := by decide +kernel
theorem dX9_layStore_18 : decode cX9_layStore 18 = .ok (.getfield 16, 3) := by decide +kernel
theorem dX9_layStore_21 : decode cX9_layStore 21 = .ok (.getfield 56, 3) := by decide +kernel
theorem dX9_layStore_24 : decode cX9_layStore 24 = .ok (.getfield 236, 3) := by decide +kernel
theorem dX9_layStore_27 : decode cX9_layStore 27 = .ok (.invokevirtual 387, 3) := by decide +kernel
theorem dX9_layStore_30 : decode cX9_layStore 30 = .ok (.aload_n 0, 1) := by decide +kernel
theorem dX9_layStore_31 : decode cX9_layStore 31 = .ok (.getfield 16, 3) := by decide +kernel
theorem dX9_layStore_34 : decode cX9_layStore 34 = .ok (.getfield 56, 3) := by decide +kernel
theorem dX9_layStore_37 : decode cX9_layStore 37 = .ok (.areturn, 1) := by decide +kernel
theorem dX9_packOne_0 : decode cX9_packOne 0 = .ok (.iload_n 3, 1) := by decide +kernel
theorem dX9_packOne_1 : decode cX9_packOne 1 = .ok (.istore 4, 2) := by decide +kernel
theorem dX9_packOne_3 : decode cX9_packOne 3 = .ok (.iload 4, 2) := by decide +kernel
theorem dX9_packOne_5 : decode cX9_packOne 5 = .ok (.iload_n 1, 1) := by decide +kernel
theorem dX9_packOne_6 : decode cX9_packOne 6 = .ok (.if_icmp .lt 37, 3) := by decide +kernel
theorem dX9_packOne_9 : decode cX9_packOne 9 = .ok (.aload_n 0, 1) := by decide +kernel
theorem dX9_packOne_10 : decode cX9_packOne 10 = .ok (.getfield 30, 3) := by decide +kernel
theorem dX9_packOne_13 : decode cX9_packOne 13 = .ok (.iload 4, 2) := by decide +kernel
theorem dX9_packOne_15 : decode cX9_packOne 15 = .ok (.aload_n 0, 1) := by decide +kernel
theorem dX9_packOne_16 : decode cX9_packOne 16 = .ok (.getfield 30, 3) := by decide +kernel
theorem dX9_packOne_19 : decode cX9_packOne 19 = .ok (.iload 4, 2) := by decide +kernel
theorem dX9_packOne_21 : decode cX9_packOne 21 = .ok (.iaload, 1) := by decide +kernel
theorem dX9_packOne_22 : decode cX9_packOne 22 = .ok (.aload_n 0, 1) := by decide +kernel
theorem dX9_packOne_23 : decode cX9_packOne 23 = .ok (.getfield 30, 3) := by decide +kernel
theorem dX9_packOne_26 : decode cX9_packOne 26 = .ok (.iload 4, 2) := by decide +kernel
theorem dX9_packOne_28 : decode cX9_packOne 28 = .ok (.iload_n 1, 1) := by decide +kernel
theorem dX9_packOne_29 : decode cX9_packOne 29 = .ok (.isub, 1) := by decide +kernel
theorem dX9_packOne_30 : decode cX9_packOne 30 = .ok (.iaload, 1) := by decide +kernel
theorem dX9_packOne_31 : decode cX9_packOne 31 = .ok (.iload_n 2, 1) := by decide +kernel
theorem dX9_packOne_32 : decode cX9_packOne 32 = .ok (.iadd, 1) := by decide +kernel
theorem dX9_packOne_33 : decode cX9_packOne 33 = .ok (.invokestatic 390, 3) := by decide +kernel
theorem dX9_packOne_36 : decode cX9_packOne 36 = .ok (.iastore, 1) := by decide +kernel
theorem dX9_packOne_37 : decode cX9_packOne 37 = .ok (.iinc 4 (-1), 3) := by decide +kernel
theorem dX9_packOne_40 : decode cX9_packOne 40 = .ok (.goto (-37), 3) := by decide +kernel
theorem dX9_packOne_43 : decode cX9_packOne 43 = .ok (.return_, 1) := by decide +kernel
