theorem dX0_init_0 : decode cX0_init 0 = .ok (.aload_n 0, 1) := by decide +kernel
theorem dX0_init_1 : decode cX0_init 1 = .ok (.invokespecial 3, 3) := by decide +kernel
theorem dX0_init_4 : decode cX0_init 4 = .ok (.aload_n 0, 1) := by decide +kernel
theorem dX0_init_5 : decode cX0_init 5 = .ok (.new 9, 3) := by decide +kernel
theorem dX0_init_8 : decode cX0_init 8 = .ok (.dup, 1) := by decide +kernel
theorem dX0_init_9 : decode cX0_init 9 = .ok (.invokespecial 11, 3) := by decide +kernel
theorem dX0_init_12 : decode cX0_init 12 = .ok (.putfield 12, 3) := by decide +kernel
theorem dX0_init_15 : decode cX0_init 15 = .ok (.aload_n 0, 1) := by decide +kernel
theorem dX0_init_16 : decode cX0_init 16 = .ok (.bipush 100, 2) := by decide +kernel
theorem dX0_init_18 : decode cX0_init 18 = .ok (.newarray .int, 2) := by decide +kernel
theorem dX0_init_20 : decode cX0_init 20 = .ok (.putfield 18, 3) := by decide +kernel
theorem dX0_init_23 : decode cX0_init 23 = .ok (.aload_n 0, 1) := by decide +kernel
theorem dX0_init_24 : decode cX0_init 24 = .ok (.bipush 100, 2) := by decide +kernel
theorem dX0_init_26 : decode cX0_init 26 = .ok (.newarray .int, 2) := by decide +kernel
theorem dX0_init_28 : decode cX0_init 28 = .ok (.putfield 22, 3) := by decide +kernel
theorem dX0_init_31 : decode cX0_init 31 = .ok (.aload_n 0, 1) := by decide +kernel
theorem dX0_init_32 : decode cX0_init 32 = .ok (.bipush 100, 2) := by decide +kernel
theorem dX0_init_34 : decode cX0_init 34 = .ok (.newarray .int, 2) := by decide +kernel
theorem dX0_init_36 : decode cX0_init 36 = .ok (.putfield 25, 3) := by decide +kernel
theorem dX0_init_39 : decode cX0_init 39 = .ok (.aload_n 0, 1) := by decide +kernel
theorem dX0_init_40 : decode cX0_init 40 = .ok (.bipush 100, 2) := by decide +kernel
theorem dX0_init_42 : decode cX0_init 42 = .ok (.newarray .int, 2) := by decide +kernel
theorem dX0_init_44 : decode cX0_init 44 = .ok (.putfield 28, 3) := by decide +kernel
theorem dX0_init_47 : decode cX0_init 47 = .ok (.aload_n 0, 1) := by decide +kernel
theorem dX0_init_48 : decode cX0_init 48 = .ok (.bipush 60, 2) := by decide +kernel
theorem dX0_init_50 : decode cX0_init 50 = .ok (.newarray .int, 2) := by decide +kernel
theorem dX0_init_52 : decode cX0_init 52 = .ok (.putfield 31, 3) := by decide +kernel
theorem dX0_init_55 : decode cX0_init 55 = .ok (.return_, 1) := by decide +kernel
theorem dX0_read_0 : decode cX0_read 0 = .ok (.aload_n 0, 1) := by decide +kernel
theorem dX0_read_1 : decode cX0_read 1 = .ok (.aload_n 1, 1) := by decide +kernel
theorem dX0_read_2 : decode cX0_read 2 = .ok (.getfield 34, 3) := by decide +kernel
theorem dX0_read_5 : decode cX0_read 5 = .ok (.putfield 40, 3) := by decide +kernel
theorem dX0_read_8 : decode cX0_read 8 = .ok (.aload_n 1, 1) := by decide +kernel
theorem dX0_read_9 : decode cX0_read 9 = .ok (.getfield 41, 3) := by decide +kernel
theorem dX0_read_12 : decode cX0_read 12 = .ok (.iconst 0, 1) := by decide +kernel
theorem dX0_read_13 : decode cX0_read 13 = .ok (.aload_n 0, 1) := by decide +kernel
theorem dX0_read_14 : decode cX0_read 14 = .ok (.getfield 18, 3) := by decide +kernel
theorem dX0_read_17 : decode cX0_read 17 = .ok (.iconst 0, 1) := by decide +kernel
theorem dX0_read_18 : decode cX0_read 18 = .ok (.bipush 100, 2) := by decide +kernel
theorem dX0_read_20 : decode cX0_read 20 = .ok (.invokestatic 42, 3) := by decide +kernel
theorem dX0_read_23 : decode cX0_read 23 = .ok (.iconst 0, 1) := by decide +kernel
theorem dX0_read_24 : decode cX0_read 24 = .ok (.istore_n 2, 1) := by decide +kernel
theorem dX0_read_25 : decode cX0_read 25 = .ok (.iload_n 2, 1) := by decide +kernel
theorem dX0_read_26 : decode cX0_read 26 = .ok (.aload_n 0, 1) := by decide +kernel
theorem dX0_read_27 : decode cX0_read 27 = .ok (.getfield 40, 3) := by decide +kernel
theorem dX0_read_30 : decode cX0_read 30 = .ok (.if_icmp .ge 26, 3) := by decide +kernel
theorem dX0_read_33 : decode cX0_read 33 = .ok (.aload_n 0, 1) := by decide +kernel
theorem dX0_read_34 : decode cX0_read 34 = .ok (.getfield 22, 3) := by decide +kernel
theorem dX0_read_37 : decode cX0_read 37 = .ok (.iload_n 2, 1) := by decide +kernel
theorem dX0_read_38 : decode cX0_read 38 = .ok (.aload_n 0, 1) := by decide +kernel
theorem dX0_read_39 : decode cX0_read 39 = .ok (.aload_n 0, 1) := by decide +kernel
theorem dX0_read_40 : decode cX0_read 40 = .ok (.getfield 18, 3) := by decide +kernel
theorem dX0_read_43 : decode cX0_read 43 = .ok (.iload_n 2, 1) := by decide +kernel
theorem dX0_read_44 : decode cX0_read 44 = .ok (.iaload, 1) := by decide +kernel
theorem dX0_read_45 : decode cX0_read 45 = .ok (.iload_n 2, 1) := by decide +kernel
theorem dX0_read_46 : decode cX0_read 46 = .ok (.invokevirtual 48, 3) := by decide +kernel
theorem dX0_read_49 : decode cX0_read 49 = .ok (.iastore, 1) := by decide +kernel
theorem dX0_read_50 : decode cX0_read 50 = .ok (.iinc 2 1, 3) := by decide +kernel
theorem dX0_read_53 : decode cX0_read 53 = .ok (.goto (-28), 3) := by decide +kernel
theorem dX0_read_56 : decode cX0_read 56 = .ok (.return_, 1) := by decide +kernel
theorem dX0_nextOf_0 : decode cX0_nextOf 0 = .ok (.iload_n 2, 1) := by decide +kernel
theorem dX0_nextOf_1 : decode cX0_nextOf 1 = .ok (.iconst 1, 1) := by decide +kernel
theorem dX0_nextOf_2 : decode cX0_nextOf 2 = .ok (.iadd, 1) := by decide +kernel
theorem dX0_nextOf_3 : decode cX0_nextOf 3 = .ok (.istore_n 3, 1) := by decide +kernel
theorem dX0_nextOf_4 : decode cX0_nextOf 4 = .ok (.iload_n 3, 1) := by decide +kernel
theorem dX0_nextOf_5 : decode cX0_nextOf 5 = .ok (.aload_n 0, 1) := by decide +kernel
theorem dX0_nextOf_6 : decode cX0_nextOf 6 = .ok (.getfield 40, 3) := by decide +kernel
theorem dX0_nextOf_9 : decode cX0_nextOf 9 = .ok (.if_icmp .ge 21, 3) := by decide +kernel
theorem dX0_nextOf_12 : decode cX0_nextOf 12 = .ok (.aload_n 0, 1) := by decide +kernel
theorem dX0_nextOf_13 : decode cX0_nextOf 13 = .ok (.getfield 18, 3) := by decide +kernel
theorem dX0_nextOf_16 : decode cX0_nextOf 16 = .ok (.iload_n 3, 1) := by decide +kernel
theorem dX0_nextOf_17 : decode cX0_nextOf 17 = .ok (.iaload, 1) := by decide +kernel
theorem dX0_nextOf_18 : decode cX0_nextOf 18 = .ok (.iload_n 1, 1) := by decide +kernel
theorem dX0_nextOf_19 : decode cX0_nextOf 19 = .ok (.if_icmp .ne 5, 3) := by decide +kernel
theorem dX0_nextOf_22 : decode cX0_nextOf 22 = .ok (.iload_n 3, 1) := by decide +kernel
theorem dX0_nextOf_23 : decode cX0_nextOf 23 = .ok (.ireturn, 1) := by decide +kernel
theorem dX0_nextOf_24 : decode cX0_nextOf 24 = .ok (.iinc 3 1, 3) := by decide +kernel
theorem dX0_nextOf_27 : decode cX0_nextOf 27 = .ok (.goto (-23), 3) := by decide +kernel
theorem dX0_nextOf_30 : decode cX0_nextOf 30 = .ok (.aload_n 0, 1) := by decide +kernel
theorem dX0_nextOf_31 : decode cX0_nextOf 31 = .ok (.getfield 40, 3) := by decide +kernel
theorem dX0_nextOf_34 : decode cX0_nextOf 34 = .ok (.ireturn, 1) := by decide +kernel
theorem dX0_previousOf_0 : decode cX0_previousOf 0 = .ok (.iload_n 1, 1) := by decide +kernel
theorem dX0_previousOf_1 : decode cX0_previousOf 1 = .ok (.iconst 1, 1) := by decide +kernel
theorem dX0_previousOf_2 : decode cX0_previousOf 2 = .ok (.isub, 1) := by decide +kernel
theorem dX0_previousOf_3 : decode cX0_previousOf 3 = .ok (.istore_n 2, 1) := by decide +kernel
theorem dX0_previousOf_4 : decode cX0_previousOf 4 = .ok (.iload_n 2, 1) := by decide +kernel
theorem dX0_previousOf_5 : decode cX0_previousOf 5 = .ok (.ifCond .lt 26, 3) := by decide +kernel
theorem dX0_previousOf_8 : decode cX0_previousOf 8 = .ok (.aload_n 0, 1) := by decide +kernel
theorem dX0_previousOf_9 : decode cX0_previousOf 9 = .ok (.getfield 18, 3) := by decide +kernel
theorem dX0_previousOf_12 : decode cX0_previousOf 12 = .ok (.iload_n 2, 1) := by decide +kernel
theorem dX0_previousOf_13 : decode cX0_previousOf 13 = .ok (.iaload, 1) := by decide +kernel
theorem dX0_previousOf_14 : decode cX0_previousOf 14 = .ok (.aload_n 0, 1) := by decide +kernel
theorem dX0_previousOf_15 : decode cX0_previousOf 15 = .ok (.getfield 18, 3) := by decide +kernel
theorem dX0_previousOf_18 : decode cX0_previousOf 18 = .ok (.iload_n 1, 1) := by decide +kernel
theorem dX0_previousOf_19 : decode cX0_previousOf 19 = .ok (.iaload, 1) := by decide +kernel
theorem dX0_previousOf_20 : decode cX0_previousOf 20 = .ok (.if_icmp .ne 5, 3) := by decide +kernel
theorem dX0_previousOf_23 : decode cX0_previousOf 23 = .ok (.iload_n 2, 1) := by decide +kernel
theorem dX0_previousOf_24 : decode cX0_previousOf 24 = .ok (.ireturn, 1) := by decide +kernel
theorem dX0_previousOf_25 : decode cX0_previousOf 25 = .ok (.iinc 2 (-1), 3) := by decide +kernel
theorem dX0_previousOf_28 : decode cX0_previousOf 28 = .ok (.goto (-24), 3) := by decide +kernel
theorem dX0_previousOf_31 : decode cX0_previousOf 31 = .ok (.iconst (-1), 1) := by decide +kernel
theorem dX0_previousOf_32 : decode cX0_previousOf 32 = .ok (.ireturn, 1) := by decide +kernel
theorem dX0_unlike_0 : decode cX0_unlike 0 = .ok (.iconst 0, 1) := by decide +kernel
theorem dX0_unlike_1 : decode cX0_unlike 1 = .ok (.istore_n 1, 1) := by decide +kernel
theorem dX0_unlike_2 : decode cX0_unlike 2 = .ok (.iconst 0, 1) := by decide +kernel
theorem dX0_unlike_3 : decode cX0_unlike 3 = .ok (.istore_n 2, 1) := by decide +kernel
theorem dX0_unlike_4 : decode cX0_unlike 4 = .ok (.iload_n 2, 1) := by decide +kernel
theorem dX0_unlike_5 : decode cX0_unlike 5 = .ok (.aload_n 0, 1) := by decide +kernel
theorem dX0_unlike_6 : decode cX0_unlike 6 = .ok (.getfield 40, 3) := by decide +kernel
theorem dX0_unlike_9 : decode cX0_unlike 9 = .ok (.if_icmp .ge 25, 3) := by decide +kernel
theorem dX0_unlike_12 : decode cX0_unlike 12 = .ok (.aload_n 0, 1) := by decide +kernel
theorem dX0_unlike_13 : decode cX0_unlike 13 = .ok (.getfield 22, 3) := by decide +kernel
theorem dX0_unlike_16 : decode cX0_unlike 16 = .ok (.iload_n 2, 1) := by decide +kernel
theorem dX0_unlike_17 : decode cX0_unlike 17 = .ok (.iaload, 1) := by decide +kernel
theorem dX0_unlike_18 : decode cX0_unlike 18 = .ok (.aload_n 0, 1) := by decide +kernel
theorem dX0_unlike_19 : decode cX0_unlike 19 = .ok (.getfield 40, 3) := by decide +kernel
theorem dX0_unlike_22 : decode cX0_unlike 22 = .ok (.if_icmp .ne 6, 3) := by decide +kernel
theorem dX0_unlike_25 : decode cX0_unlike 25 = .ok (.iinc 1 1, 3) := by decide +kernel
theorem dX0_unlike_28 : decode cX0_unlike 28 = .ok (.iinc 2 1, 3) := by decide +kernel
theorem dX0_unlike_31 : decode cX0_unlike 31 = .ok (.goto (-27), 3) := by decide +kernel
theorem dX0_unlike_34 : decode cX0_unlike 34 = .ok (.iload_n 1, 1) := by decide +kernel
theorem dX0_unlike_35 : decode cX0_unlike 35 = .ok (.ireturn, 1) := by decide +kernel
theorem dX0_countOften_0 : decode cX0_countOften 0 = .ok (.iconst 0, 1) := by decide +kernel
theorem dX0_countOften_1 : decode cX0_countOften 1 = .ok (.istore_n 1, 1) := by decide +kernel
theorem dX0_countOften_2 : decode cX0_countOften 2 = .ok (.iload_n 1, 1) := by decide +kernel
theorem dX0_countOften_3 : decode cX0_countOften 3 = .ok (.aload_n 0, 1) := by decide +kernel
theorem dX0_countOften_4 : decode cX0_countOften 4 = .ok (.getfield 40, 3) := by decide +kernel
theorem dX0_countOften_7 : decode cX0_countOften 7 = .ok (.if_icmp .ge 67, 3) := by decide +kernel
theorem dX0_countOften_10 : decode cX0_countOften 10 = .ok (.aload_n 0, 1) := by decide +kernel
theorem dX0_countOften_11 : decode cX0_countOften 11 = .ok (.getfield 25, 3) := by decide +kernel
theorem dX0_countOften_14 : decode cX0_countOften 14 = .ok (.iload_n 1, 1) := by decide +kernel
theorem dX0_countOften_15 : decode cX0_countOften 15 = .ok (.iconst 0, 1) := by decide +kernel
theorem dX0_countOften_16 : decode cX0_countOften 16 = .ok (.iastore, 1) := by decide +kernel
theorem dX0_countOften_17 : decode cX0_countOften 17 = .ok (.iconst 0, 1) := by decide +kernel
theorem dX0_countOften_18 : decode cX0_countOften 18 = .ok (.istore_n 2, 1) := by decide +kernel
theorem dX0_countOften_19 : decode cX0_countOften 19 = .ok (.iload_n 2, 1) := by decide +kernel
theorem dX0_countOften_20 : decode cX0_countOften 20 = .ok (.iload_n 1, 1) := by decide +kernel
theorem dX0_countOften_21 : decode cX0_countOften 21 = .ok (.if_icmp .gt 47, 3) := by decide +kernel
theorem dX0_countOften_24 : decode cX0_countOften 24 = .ok (.aload_n 0, 1) := by decide +kernel
theorem dX0_countOften_25 : decode cX0_countOften 25 = .ok (.getfield 22, 3) := by decide +kernel
theorem dX0_countOften_28 : decode cX0_countOften 28 = .ok (.iload_n 1, 1) := by decide +kernel
theorem dX0_countOften_29 : decode cX0_countOften 29 = .ok (.iaload, 1) := by decide +kernel
theorem dX0_countOften_30 : decode cX0_countOften 30 = .ok (.aload_n 0, 1) := by decide +kernel
theorem dX0_countOften_31 : decode cX0_countOften 31 = .ok (.getfield 40, 3) := by decide +kernel
theorem dX0_countOften_34 : decode cX0_countOften 34 = .ok (.if_icmp .ne 34, 3) := by decide +kernel
theorem dX0_countOften_37 : decode cX0_countOften 37 = .ok (.aload_n 0, 1) := by decide +kernel
theorem dX0_countOften_38 : decode cX0_countOften 38 = .ok (.getfield 18, 3) := by decide +kernel
theorem dX0_countOften_41 : decode cX0_countOften 41 = .ok (.iload_n 2, 1) := by decide +kernel
theorem dX0_countOften_42 : decode cX0_countOften 42 = .ok (.iaload, 1) := by decide +kernel
theorem dX0_countOften_43 : decode cX0_countOften 43 = .ok (.aload_n 0, 1) := by decide +kernel
theorem dX0_countOften_44 : decode cX0_countOften 44 = .ok (.getfield 18, 3) := by decide +kernel
theorem dX0_countOften_47 : decode cX0_countOften 47 = .ok (.iload_n 1, 1) := by decide +kernel
theorem dX0_countOften_48 : decode cX0_countOften 48 = .ok (.iaload, 1) := by decide +kernel
theorem dX0_countOften_49 : decode cX0_countOften 49 = .ok (.if_icmp .ne 13, 3) := by decide +kernel
theorem dX0_countOften_52 : decode cX0_countOften 52 = .ok (.aload_n 0, 1) := by decide +kernel
theorem dX0_countOften_53 : decode cX0_countOften 53 = .ok (.getfield 25, 3) := by decide +kernel
theorem dX0_countOften_56 : decode cX0_countOften 56 = .ok (.iload_n 1, 1) := by decide +kernel
theorem dX0_countOften_57 : decode cX0_countOften 57 = .ok (.dup2, 1) := by decide +kernel
theorem dX0_countOften_58 : decode cX0_countOften 58 = .ok (.iaload, 1) := by decide +kernel
theorem dX0_countOften_59 : decode cX0_countOften 59 = .ok (.iconst 1, 1) := by decide +kernel
theorem dX0_countOften_60 : decode cX0_countOften 60 = .ok (.iadd, 1) := by decide +kernel
theorem dX0_countOften_61 : decode cX0_countOften 61 = .ok (.iastore, 1) := by decide +kernel
theorem dX0_countOften_62 : decode cX0_countOften 62 = .ok (.iinc 2 1, 3) := by decide +kernel
theorem dX0_countOften_65 : decode cX0_countOften 65 = .ok (.goto (-46), 3) := by decide +kernel
theorem dX0_countOften_68 : decode cX0_countOften 68 = .ok (.iinc 1 1, 3) := by decide +kernel
theorem dX0_countOften_71 : decode cX0_countOften 71 = .ok (.goto (-69), 3) := by decide +kernel
theorem dX0_countOften_74 : decode cX0_countOften 74 = .ok (.return_, 1) := by decide +kernel
theorem dX0_hotterThan_0 : decode cX0_hotterThan 0 = .ok (.iconst 0, 1) := by decide +kernel
theorem dX0_hotterThan_1 : decode cX0_hotterThan 1 = .ok (.istore_n 2, 1) := by decide +kernel
theorem dX0_hotterThan_2 : decode cX0_hotterThan 2 = .ok (.iconst 0, 1) := by decide +kernel
theorem dX0_hotterThan_3 : decode cX0_hotterThan 3 = .ok (.istore_n 3, 1) := by decide +kernel
theorem dX0_hotterThan_4 : decode cX0_hotterThan 4 = .ok (.iload_n 3, 1) := by decide +kernel
theorem dX0_hotterThan_5 : decode cX0_hotterThan 5 = .ok (.aload_n 0, 1) := by decide +kernel
theorem dX0_hotterThan_6 : decode cX0_hotterThan 6 = .ok (.getfield 40, 3) := by decide +kernel
theorem dX0_hotterThan_9 : decode cX0_hotterThan 9 = .ok (.if_icmp .ge 57, 3) := by decide +kernel
theorem dX0_hotterThan_12 : decode cX0_hotterThan 12 = .ok (.aload_n 0, 1) := by decide +kernel
theorem dX0_hotterThan_13 : decode cX0_hotterThan 13 = .ok (.getfield 25, 3) := by decide +kernel
theorem dX0_hotterThan_16 : decode cX0_hotterThan 16 = .ok (.iload_n 3, 1) := by decide +kernel
theorem dX0_hotterThan_17 : decode cX0_hotterThan 17 = .ok (.iaload, 1) := by decide +kernel
theorem dX0_hotterThan_18 : decode cX0_hotterThan 18 = .ok (.aload_n 0, 1) := by decide +kernel
theorem dX0_hotterThan_19 : decode cX0_hotterThan 19 = .ok (.getfield 25, 3) := by decide +kernel
theorem dX0_hotterThan_22 : decode cX0_hotterThan 22 = .ok (.iload_n 1, 1) := by decide +kernel
theorem dX0_hotterThan_23 : decode cX0_hotterThan 23 = .ok (.iaload, 1) := by decide +kernel
theorem dX0_hotterThan_24 : decode cX0_hotterThan 24 = .ok (.if_icmp .gt 33, 3) := by decide +kernel
theorem dX0_hotterThan_27 : decode cX0_hotterThan 27 = .ok (.aload_n 0, 1) := by decide +kernel
theorem dX0_hotterThan_28 : decode cX0_hotterThan 28 = .ok (.getfield 25, 3) := by decide +kernel
theorem dX0_hotterThan_31 : decode cX0_hotterThan 31 = .ok (.iload_n 3, 1) := by decide +kernel
theorem dX0_hotterThan_32 : decode cX0_hotterThan 32 = .ok (.iaload, 1) := by decide +kernel
theorem dX0_hotterThan_33 : decode cX0_hotterThan 33 = .ok (.aload_n 0, 1) := by decide +kernel
theorem dX0_hotterThan_34 : decode cX0_hotterThan 34 = .ok (.getfield 25, 3) := by decide +kernel
theorem dX0_hotterThan_37 : decode cX0_hotterThan 37 = .ok (.iload_n 1, 1) := by decide +kernel
theorem dX0_hotterThan_38 : decode cX0_hotterThan 38 = .ok (.iaload, 1) := by decide +kernel
theorem dX0_hotterThan_39 : decode cX0_hotterThan 39 = .ok (.if_icmp .ne 21, 3) := by decide +kernel
theorem dX0_hotterThan_42 : decode cX0_hotterThan 42 = .ok (.aload_n 0, 1) := by decide +kernel
theorem dX0_hotterThan_43 : decode cX0_hotterThan 43 = .ok (.getfield 18, 3) := by decide +kernel
theorem dX0_hotterThan_46 : decode cX0_hotterThan 46 = .ok (.iload_n 3, 1) := by decide +kernel
theorem dX0_hotterThan_47 : decode cX0_hotterThan 47 = .ok (.iaload, 1) := by decide +kernel
theorem dX0_hotterThan_48 : decode cX0_hotterThan 48 = .ok (.aload_n 0, 1) := by decide +kernel
theorem dX0_hotterThan_49 : decode cX0_hotterThan 49 = .ok (.getfield 18, 3) := by decide +kernel
theorem dX0_hotterThan_52 : decode cX0_hotterThan 52 = .ok (.iload_n 1, 1) := by decide +kernel
theorem dX0_hotterThan_53 : decode cX0_hotterThan 53 = .ok (.iaload, 1) := by decide +kernel
theorem dX0_hotterThan_54 : decode cX0_hotterThan 54 = .ok (.if_icmp .ge 6, 3) := by decide +kernel
theorem dX0_hotterThan_57 : decode cX0_hotterThan 57 = .ok (.iinc 2 1, 3) := by decide +kernel
theorem dX0_hotterThan_60 : decode cX0_hotterThan 60 = .ok (.iinc 3 1, 3) := by decide +kernel
theorem dX0_hotterThan_63 : decode cX0_hotterThan 63 = .ok (.goto (-59), 3) := by decide +kernel
theorem dX0_hotterThan_66 : decode cX0_hotterThan 66 = .ok (.iload_n 2, 1) := by decide +kernel
theorem dX0_hotterThan_67 : decode cX0_hotterThan 67 = .ok (.ireturn, 1) := by decide +kernel
theorem dX0_hottest_0 : decode cX0_hottest 0 = .ok (.aload_n 0, 1) := by decide +kernel
theorem dX0_hottest_1 : decode cX0_hottest 1 = .ok (.invokevirtual 52, 3) := by decide +kernel
theorem dX0_hottest_4 : decode cX0_hottest 4 = .ok (.iconst 0, 1) := by decide +kernel
theorem dX0_hottest_5 : decode cX0_hottest 5 = .ok (.istore_n 2, 1) := by decide +kernel
theorem dX0_hottest_6 : decode cX0_hottest 6 = .ok (.iload_n 2, 1) := by decide +kernel
theorem dX0_hottest_7 : decode cX0_hottest 7 = .ok (.aload_n 0, 1) := by decide +kernel
theorem dX0_hottest_8 : decode cX0_hottest 8 = .ok (.getfield 40, 3) := by decide +kernel
theorem dX0_hottest_11 : decode cX0_hottest 11 = .ok (.if_icmp .ge 29, 3) := by decide +kernel
theorem dX0_hottest_14 : decode cX0_hottest 14 = .ok (.aload_n 0, 1) := by decide +kernel
theorem dX0_hottest_15 : decode cX0_hottest 15 = .ok (.getfield 25, 3) := by decide +kernel
theorem dX0_hottest_18 : decode cX0_hottest 18 = .ok (.iload_n 2, 1) := by decide +kernel
theorem dX0_hottest_19 : decode cX0_hottest 19 = .ok (.iaload, 1) := by decide +kernel
theorem dX0_hottest_20 : decode cX0_hottest 20 = .ok (.ifCond .le 14, 3) := by decide +kernel
theorem dX0_hottest_23 : decode cX0_hottest 23 = .ok (.aload_n 0, 1) := by decide +kernel
theorem dX0_hottest_24 : decode cX0_hottest 24 = .ok (.iload_n 2, 1) := by decide +kernel
theorem dX0_hottest_25 : decode cX0_hottest 25 = .ok (.invokevirtual 55, 3) := by decide +kernel
theorem dX0_hottest_28 : decode cX0_hottest 28 = .ok (.iload_n 1, 1) := by decide +kernel
theorem dX0_hottest_29 : decode cX0_hottest 29 = .ok (.if_icmp .ne 5, 3) := by decide +kernel
theorem dX0_hottest_32 : decode cX0_hottest 32 = .ok (.iload_n 2, 1) := by decide +kernel
theorem dX0_hottest_33 : decode cX0_hottest 33 = .ok (.ireturn, 1) := by decide +kernel
theorem dX0_hottest_34 : decode cX0_hottest 34 = .ok (.iinc 2 1, 3) := by decide +kernel
theorem dX0_hottest_37 : decode cX0_hottest 37 = .ok (.goto (-31), 3) := by decide +kernel
theorem dX0_hottest_40 : decode cX0_hottest 40 = .ok (.iconst (-1), 1) := by decide +kernel
theorem dX0_hottest_41 : decode cX0_hottest 41 = .ok (.ireturn, 1) := by decide +kernel
theorem dX0_othersSince_0 : decode cX0_othersSince 0 = .ok (.iload_n 1, 1) := by decide +kernel
theorem dX0_othersSince_1 : decode cX0_othersSince 1 = .ok (.ifCond .lt 11, 3) := by decide +kernel
theorem dX0_othersSince_4 : decode cX0_othersSince 4 = .ok (.iload_n 1, 1) := by decide +kernel
theorem dX0_othersSince_5 : decode cX0_othersSince 5 = .ok (.aload_n 0, 1) := by decide +kernel
theorem dX0_othersSince_6 : decode cX0_othersSince 6 = .ok (.getfield 40, 3) := by decide +kernel
theorem dX0_othersSince_9 : decode cX0_othersSince 9 = .ok (.if_icmp .lt 5, 3) := by decide +kernel
theorem dX0_othersSince_12 : decode cX0_othersSince 12 = .ok (.iconst (-1), 1) := by decide +kernel
theorem dX0_othersSince_13 : decode cX0_othersSince 13 = .ok (.ireturn, 1) := by decide +kernel
theorem dX0_othersSince_14 : decode cX0_othersSince 14 = .ok (.aload_n 0, 1) := by decide +kernel
theorem dX0_othersSince_15 : decode cX0_othersSince 15 = .ok (.iload_n 1, 1) := by decide +kernel
theorem dX0_othersSince_16 : decode cX0_othersSince 16 = .ok (.invokevirtual 59, 3) := by decide +kernel
theorem dX0_othersSince_19 : decode cX0_othersSince 19 = .ok (.istore_n 2, 1) := by decide +kernel
theorem dX0_othersSince_20 : decode cX0_othersSince 20 = .ok (.iload_n 2, 1) := by decide +kernel
theorem dX0_othersSince_21 : decode cX0_othersSince 21 = .ok (.iconst (-1), 1) := by decide +kernel
theorem dX0_othersSince_22 : decode cX0_othersSince 22 = .ok (.if_icmp .ne 5, 3) := by decide +kernel
theorem dX0_othersSince_25 : decode cX0_othersSince 25 = .ok (.iconst (-1), 1) := by decide +kernel
theorem dX0_othersSince_26 : decode cX0_othersSince 26 = .ok (.ireturn, 1) := by decide +kernel
theorem dX0_othersSince_27 : decode cX0_othersSince 27 = .ok (.iconst 0, 1) := by decide +kernel
theorem dX0_othersSince_28 : decode cX0_othersSince 28 = .ok (.istore_n 3, 1) := by decide +kernel
theorem dX0_othersSince_29 : decode cX0_othersSince 29 = .ok (.iload_n 2, 1) := by decide +kernel
theorem dX0_othersSince_30 : decode cX0_othersSince 30 = .ok (.iconst 1, 1) := by decide +kernel
theorem dX0_othersSince_31 : decode cX0_othersSince 31 = .ok (.iadd, 1) := by decide +kernel
theorem dX0_othersSince_32 : decode cX0_othersSince 32 = .ok (.istore 4, 2) := by decide +kernel
theorem dX0_othersSince_34 : decode cX0_othersSince 34 = .ok (.iload 4, 2) := by decide +kernel
theorem dX0_othersSince_36 : decode cX0_othersSince 36 = .ok (.iload_n 1, 1) := by decide +kernel
theorem dX0_othersSince_37 : decode cX0_othersSince 37 = .ok (.if_icmp .ge 23, 3) := by decide +kernel
theorem dX0_othersSince_40 : decode cX0_othersSince 40 = .ok (.aload_n 0, 1) := by decide +kernel
theorem dX0_othersSince_41 : decode cX0_othersSince 41 = .ok (.getfield 22, 3) := by decide +kernel
theorem dX0_othersSince_44 : decode cX0_othersSince 44 = .ok (.iload 4, 2) := by decide +kernel
theorem dX0_othersSince_46 : decode cX0_othersSince 46 = .ok (.iaload, 1) := by decide +kernel
theorem dX0_othersSince_47 : decode cX0_othersSince 47 = .ok (.iload_n 1, 1) := by decide +kernel
theorem dX0_othersSince_48 : decode cX0_othersSince 48 = .ok (.if_icmp .le 6, 3) := by decide +kernel
theorem dX0_othersSince_51 : decode cX0_othersSince 51 = .ok (.iinc 3 1, 3) := by decide +kernel
theorem dX0_othersSince_54 : decode cX0_othersSince 54 = .ok (.iinc 4 1, 3) := by decide +kernel
theorem dX0_othersSince_57 : decode cX0_othersSince 57 = .ok (.goto (-23), 3) := by decide +kernel
theorem dX0_othersSince_60 : decode cX0_othersSince 60 = .ok (.iload_n 3, 1) := by decide +kernel
theorem dX0_othersSince_61 : decode cX0_othersSince 61 = .ok (.ireturn, 1) := by decide +kernel
theorem dX0_run_0 : decode cX0_run 0 = .ok (.aload_n 0, 1) := by decide +kernel
theorem dX0_run_1 : decode cX0_run 1 = .ok (.getfield 12, 3) := by decide +kernel
theorem dX0_run_4 : decode cX0_run 4 = .ok (.iload_n 1, 1) := by decide +kernel
theorem dX0_run_5 : decode cX0_run 5 = .ok (.iload_n 2, 1) := by decide +kernel
theorem dX0_run_6 : decode cX0_run 6 = .ok (.invokevirtual 62, 3) := by decide +kernel
theorem dX0_run_9 : decode cX0_run 9 = .ok (.aload_n 0, 1) := by decide +kernel
theorem dX0_run_10 : decode cX0_run 10 = .ok (.iconst 0, 1) := by decide +kernel
theorem dX0_run_11 : decode cX0_run 11 = .ok (.putfield 66, 3) := by decide +kernel
theorem dX0_run_14 : decode cX0_run 14 = .ok (.iconst 0, 1) := by decide +kernel
theorem dX0_run_15 : decode cX0_run 15 = .ok (.istore_n 3, 1) := by decide +kernel
theorem dX0_run_16 : decode cX0_run 16 = .ok (.iload_n 3, 1) := by decide +kernel
theorem dX0_run_17 : decode cX0_run 17 = .ok (.aload_n 0, 1) := by decide +kernel
theorem dX0_run_18 : decode cX0_run 18 = .ok (.getfield 40, 3) := by decide +kernel
theorem dX0_run_21 : decode cX0_run 21 = .ok (.if_icmp .ge 106, 3) := by decide +kernel
theorem dX0_run_24 : decode cX0_run 24 = .ok (.aload_n 0, 1) := by decide +kernel
theorem dX0_run_25 : decode cX0_run 25 = .ok (.getfield 12, 3) := by decide +kernel
theorem dX0_run_28 : decode cX0_run 28 = .ok (.getfield 69, 3) := by decide +kernel
theorem dX0_run_31 : decode cX0_run 31 = .ok (.invokevirtual 73, 3) := by decide +kernel
theorem dX0_run_34 : decode cX0_run 34 = .ok (.aload_n 0, 1) := by decide +kernel
theorem dX0_run_35 : decode cX0_run 35 = .ok (.getfield 12, 3) := by decide +kernel
theorem dX0_run_38 : decode cX0_run 38 = .ok (.getfield 78, 3) := by decide +kernel
theorem dX0_run_41 : decode cX0_run 41 = .ok (.aload_n 0, 1) := by decide +kernel
theorem dX0_run_42 : decode cX0_run 42 = .ok (.getfield 18, 3) := by decide +kernel
theorem dX0_run_45 : decode cX0_run 45 = .ok (.iload_n 3, 1) := by decide +kernel
theorem dX0_run_46 : decode cX0_run 46 = .ok (.iaload, 1) := by decide +kernel
theorem dX0_run_47 : decode cX0_run 47 = .ok (.invokevirtual 82, 3) := by decide +kernel
theorem dX0_run_50 : decode cX0_run 50 = .ok (.iconst (-1), 1) := by decide +kernel
theorem dX0_run_51 : decode cX0_run 51 = .ok (.if_icmp .eq 16, 3) := by decide +kernel
theorem dX0_run_54 : decode cX0_run 54 = .ok (.aload_n 0, 1) := by decide +kernel
theorem dX0_run_55 : decode cX0_run 55 = .ok (.dup, 1) := by decide +kernel
theorem dX0_run_56 : decode cX0_run 56 = .ok (.getfield 66, 3) := by decide +kernel
theorem dX0_run_59 : decode cX0_run 59 = .ok (.iconst 1, 1) := by decide +kernel
theorem dX0_run_60 : decode cX0_run 60 = .ok (.iadd, 1) := by decide +kernel
theorem dX0_run_61 : decode cX0_run 61 = .ok (.putfield 66, 3) := by decide +kernel
theorem dX0_run_64 : decode cX0_run 64 = .ok (.goto 30, 3) := by decide +kernel
theorem dX0_run_67 : decode cX0_run 67 = .ok (.iload_n 1, 1) := by decide +kernel
theorem dX0_run_68 : decode cX0_run 68 = .ok (.iconst 5, 1) := by decide +kernel
theorem dX0_run_69 : decode cX0_run 69 = .ok (.if_icmp .ne 25, 3) := by decide +kernel
theorem dX0_run_72 : decode cX0_run 72 = .ok (.aload_n 0, 1) := by decide +kernel
theorem dX0_run_73 : decode cX0_run 73 = .ok (.getfield 12, 3) := by decide +kernel
theorem dX0_run_76 : decode cX0_run 76 = .ok (.iconst 1, 1) := by decide +kernel
theorem dX0_run_77 : decode cX0_run 77 = .ok (.invokevirtual 87, 3) := by decide +kernel
theorem dX0_run_80 : decode cX0_run 80 = .ok (.ifCond .eq 14, 3) := by decide +kernel
theorem dX0_run_83 : decode cX0_run 83 = .ok (.aload_n 0, 1) := by decide +kernel
theorem dX0_run_84 : decode cX0_run 84 = .ok (.getfield 12, 3) := by decide +kernel
theorem dX0_run_87 : decode cX0_run 87 = .ok (.aload_n 0, 1) := by decide +kernel
theorem dX0_run_88 : decode cX0_run 88 = .ok (.invokevirtual 91, 3) := by decide +kernel
theorem dX0_run_91 : decode cX0_run 91 = .ok (.invokevirtual 95, 3) := by decide +kernel
theorem dX0_run_94 : decode cX0_run 94 = .ok (.aload_n 0, 1) := by decide +kernel
theorem dX0_run_95 : decode cX0_run 95 = .ok (.getfield 12, 3) := by decide +kernel
theorem dX0_run_98 : decode cX0_run 98 = .ok (.aload_n 0, 1) := by decide +kernel
theorem dX0_run_99 : decode cX0_run 99 = .ok (.getfield 18, 3) := by decide +kernel
theorem dX0_run_102 : decode cX0_run 102 = .ok (.iload_n 3, 1) := by decide +kernel
theorem dX0_run_103 : decode cX0_run 103 = .ok (.iaload, 1) := by decide +kernel
theorem dX0_run_104 : decode cX0_run 104 = .ok (.iconst 0, 1) := by decide +kernel
theorem dX0_run_105 : decode cX0_run 105 = .ok (.iconst 1, 1) := by decide +kernel
theorem dX0_run_106 : decode cX0_run 106 = .ok (.iconst (-1), 1) := by decide +kernel
theorem dX0_run_107 : decode cX0_run 107 = .ok (.invokevirtual 99, 3) := by decide +kernel
theorem dX0_run_110 : decode cX0_run 110 = .ok (.pop, 1) := by decide +kernel
theorem dX0_run_111 : decode cX0_run 111 = .ok (.aload_n 0, 1) := by decide +kernel
theorem dX0_run_112 : decode cX0_run 112 = .ok (.getfield 28, 3) := by decide +kernel
theorem dX0_run_115 : decode cX0_run 115 = .ok (.iload_n 3, 1) := by decide +kernel
theorem dX0_run_116 : decode cX0_run 116 = .ok (.aload_n 0, 1) := by decide +kernel
theorem dX0_run_117 : decode cX0_run 117 = .ok (.invokevirtual 103, 3) := by decide +kernel
theorem dX0_run_120 : decode cX0_run 120 = .ok (.iastore, 1) := by decide +kernel
theorem dX0_run_121 : decode cX0_run 121 = .ok (.iinc 3 1, 3) := by decide +kernel
theorem dX0_run_124 : decode cX0_run 124 = .ok (.goto (-108), 3) := by decide +kernel
theorem dX0_run_127 : decode cX0_run 127 = .ok (.return_, 1) := by decide +kernel
theorem dX0_goneNow_0 : decode cX0_goneNow 0 = .ok (.aload_n 0, 1) := by decide +kernel
theorem dX0_goneNow_1 : decode cX0_goneNow 1 = .ok (.getfield 12, 3) := by decide +kernel
theorem dX0_goneNow_4 : decode cX0_goneNow 4 = .ok (.getfield 69, 3) := by decide +kernel
theorem dX0_goneNow_7 : decode cX0_goneNow 7 = .ok (.astore_n 1, 1) := by decide +kernel
theorem dX0_goneNow_8 : decode cX0_goneNow 8 = .ok (.aload_n 1, 1) := by decide +kernel
theorem dX0_goneNow_9 : decode cX0_goneNow 9 = .ok (.getfield 106, 3) := by decide +kernel
theorem dX0_goneNow_12 : decode cX0_goneNow 12 = .ok (.ifCond .le 22, 3) := by decide +kernel
theorem dX0_goneNow_15 : decode cX0_goneNow 15 = .ok (.aload_n 1, 1) := by decide +kernel
theorem dX0_goneNow_16 : decode cX0_goneNow 16 = .ok (.getfield 107, 3) := by decide +kernel
theorem dX0_goneNow_19 : decode cX0_goneNow 19 = .ok (.iconst 0, 1) := by decide +kernel
theorem dX0_goneNow_20 : decode cX0_goneNow 20 = .ok (.iaload, 1) := by decide +kernel
theorem dX0_goneNow_21 : decode cX0_goneNow 21 = .ok (.iconst 2, 1) := by decide +kernel
theorem dX0_goneNow_22 : decode cX0_goneNow 22 = .ok (.if_icmp .ne 12, 3) := by decide +kernel
theorem dX0_goneNow_25 : decode cX0_goneNow 25 = .ok (.aload_n 1, 1) := by decide +kernel
theorem dX0_goneNow_26 : decode cX0_goneNow 26 = .ok (.getfield 110, 3) := by decide +kernel
theorem dX0_goneNow_29 : decode cX0_goneNow 29 = .ok (.iconst 0, 1) := by decide +kernel
theorem dX0_goneNow_30 : decode cX0_goneNow 30 = .ok (.iaload, 1) := by decide +kernel
theorem dX0_goneNow_31 : decode cX0_goneNow 31 = .ok (.goto 4, 3) := by decide +kernel
theorem dX0_goneNow_34 : decode cX0_goneNow 34 = .ok (.iconst (-1), 1) := by decide +kernel
theorem dX0_goneNow_35 : decode cX0_goneNow 35 = .ok (.ireturn, 1) := by decide +kernel
theorem dX0_nextRequest_0 : decode cX0_nextRequest 0 = .ok (.aload_n 0, 1) := by decide +kernel
theorem dX0_nextRequest_1 : decode cX0_nextRequest 1 = .ok (.getfield 12, 3) := by decide +kernel
theorem dX0_nextRequest_4 : decode cX0_nextRequest 4 = .ok (.getfield 78, 3) := by decide +kernel
theorem dX0_nextRequest_7 : decode cX0_nextRequest 7 = .ok (.getfield 111, 3) := by decide +kernel
theorem dX0_nextRequest_10 : decode cX0_nextRequest 10 = .ok (.iload_n 1, 1) := by decide +kernel
theorem dX0_nextRequest_11 : decode cX0_nextRequest 11 = .ok (.iaload, 1) := by decide +kernel
theorem dX0_nextRequest_12 : decode cX0_nextRequest 12 = .ok (.iconst 1, 1) := by decide +kernel
theorem dX0_nextRequest_13 : decode cX0_nextRequest 13 = .ok (.isub, 1) := by decide +kernel
theorem dX0_nextRequest_14 : decode cX0_nextRequest 14 = .ok (.istore_n 2, 1) := by decide +kernel
theorem dX0_nextRequest_15 : decode cX0_nextRequest 15 = .ok (.iload_n 2, 1) := by decide +kernel
theorem dX0_nextRequest_16 : decode cX0_nextRequest 16 = .ok (.ifCond .lt 20, 3) := by decide +kernel
theorem dX0_nextRequest_19 : decode cX0_nextRequest 19 = .ok (.iload_n 2, 1) := by decide +kernel
theorem dX0_nextRequest_20 : decode cX0_nextRequest 20 = .ok (.aload_n 0, 1) := by decide +kernel
theorem dX0_nextRequest_21 : decode cX0_nextRequest 21 = .ok (.getfield 40, 3) := by decide +kernel
theorem dX0_nextRequest_24 : decode cX0_nextRequest 24 = .ok (.if_icmp .ge 12, 3) := by decide +kernel
theorem dX0_nextRequest_27 : decode cX0_nextRequest 27 = .ok (.aload_n 0, 1) := by decide +kernel
theorem dX0_nextRequest_28 : decode cX0_nextRequest 28 = .ok (.getfield 22, 3) := by decide +kernel
theorem dX0_nextRequest_31 : decode cX0_nextRequest 31 = .ok (.iload_n 2, 1) := by decide +kernel
theorem dX0_nextRequest_32 : decode cX0_nextRequest 32 = .ok (.iaload, 1) := by decide +kernel
theorem dX0_nextRequest_33 : decode cX0_nextRequest 33 = .ok (.goto 7, 3) := by decide +kernel
theorem dX0_nextRequest_36 : decode cX0_nextRequest 36 = .ok (.aload_n 0, 1) := by decide +kernel
theorem dX0_nextRequest_37 : decode cX0_nextRequest 37 = .ok (.getfield 40, 3) := by decide +kernel
theorem dX0_nextRequest_40 : decode cX0_nextRequest 40 = .ok (.ireturn, 1) := by decide +kernel
theorem dX0_farthest_0 : decode cX0_farthest 0 = .ok (.aload_n 0, 1) := by decide +kernel
theorem dX0_farthest_1 : decode cX0_farthest 1 = .ok (.getfield 12, 3) := by decide +kernel
theorem dX0_farthest_4 : decode cX0_farthest 4 = .ok (.getfield 78, 3) := by decide +kernel
theorem dX0_farthest_7 : decode cX0_farthest 7 = .ok (.astore_n 1, 1) := by decide +kernel
theorem dX0_farthest_8 : decode cX0_farthest 8 = .ok (.iconst (-1), 1) := by decide +kernel
theorem dX0_farthest_9 : decode cX0_farthest 9 = .ok (.istore_n 2, 1) := by decide +kernel
theorem dX0_farthest_10 : decode cX0_farthest 10 = .ok (.iconst (-1), 1) := by decide +kernel
theorem dX0_farthest_11 : decode cX0_farthest 11 = .ok (.istore_n 3, 1) := by decide +kernel
theorem dX0_farthest_12 : decode cX0_farthest 12 = .ok (.iconst 0, 1) := by decide +kernel
theorem dX0_farthest_13 : decode cX0_farthest 13 = .ok (.istore 4, 2) := by decide +kernel
theorem dX0_farthest_15 : decode cX0_farthest 15 = .ok (.iload 4, 2) := by decide +kernel
theorem dX0_farthest_17 : decode cX0_farthest 17 = .ok (.aload_n 1, 1) := by decide +kernel
theorem dX0_farthest_18 : decode cX0_farthest 18 = .ok (.getfield 114, 3) := by decide +kernel
theorem dX0_farthest_21 : decode cX0_farthest 21 = .ok (.if_icmp .ge 50, 3) := by decide +kernel
theorem dX0_farthest_24 : decode cX0_farthest 24 = .ok (.aload_n 0, 1) := by decide +kernel
theorem dX0_farthest_25 : decode cX0_farthest 25 = .ok (.iload 4, 2) := by decide +kernel
theorem dX0_farthest_27 : decode cX0_farthest 27 = .ok (.invokevirtual 115, 3) := by decide +kernel
theorem dX0_farthest_30 : decode cX0_farthest 30 = .ok (.istore 5, 2) := by decide +kernel
theorem dX0_farthest_32 : decode cX0_farthest 32 = .ok (.iload 5, 2) := by decide +kernel
theorem dX0_farthest_34 : decode cX0_farthest 34 = .ok (.iload_n 3, 1) := by decide +kernel
theorem dX0_farthest_35 : decode cX0_farthest 35 = .ok (.if_icmp .gt 24, 3) := by decide +kernel
theorem dX0_farthest_38 : decode cX0_farthest 38 = .ok (.iload 5, 2) := by decide +kernel
theorem dX0_farthest_40 : decode cX0_farthest 40 = .ok (.iload_n 3, 1) := by decide +kernel
theorem dX0_farthest_41 : decode cX0_farthest 41 = .ok (.if_icmp .ne 24, 3) := by decide +kernel
theorem dX0_farthest_44 : decode cX0_farthest 44 = .ok (.aload_n 1, 1) := by decide +kernel
theorem dX0_farthest_45 : decode cX0_farthest 45 = .ok (.getfield 118, 3) := by decide +kernel
theorem dX0_farthest_48 : decode cX0_farthest 48 = .ok (.iload 4, 2) := by decide +kernel
theorem dX0_farthest_50 : decode cX0_farthest 50 = .ok (.iaload, 1) := by decide +kernel
theorem dX0_farthest_51 : decode cX0_farthest 51 = .ok (.aload_n 1, 1) := by decide +kernel
theorem dX0_farthest_52 : decode cX0_farthest 52 = .ok (.iload_n 2, 1) := by decide +kernel
theorem dX0_farthest_53 : decode cX0_farthest 53 = .ok (.invokevirtual 119, 3) := by decide +kernel
theorem dX0_farthest_56 : decode cX0_farthest 56 = .ok (.if_icmp .ge 9, 3) := by decide +kernel
theorem dX0_farthest_59 : decode cX0_farthest 59 = .ok (.iload 4, 2) := by decide +kernel
theorem dX0_farthest_61 : decode cX0_farthest 61 = .ok (.istore_n 2, 1) := by decide +kernel
theorem dX0_farthest_62 : decode cX0_farthest 62 = .ok (.iload 5, 2) := by decide +kernel
theorem dX0_farthest_64 : decode cX0_farthest 64 = .ok (.istore_n 3, 1) := by decide +kernel
theorem dX0_farthest_65 : decode cX0_farthest 65 = .ok (.iinc 4 1, 3) := by decide +kernel
theorem dX0_farthest_68 : decode cX0_farthest 68 = .ok (.goto (-53), 3) := by decide +kernel
theorem dX0_farthest_71 : decode cX0_farthest 71 = .ok (.iload_n 2, 1) := by decide +kernel
theorem dX0_farthest_72 : decode cX0_farthest 72 = .ok (.ireturn, 1) := by decide +kernel
theorem dX0_regrets_0 : decode cX0_regrets 0 = .ok (.iconst 0, 1) := by decide +kernel
theorem dX0_regrets_1 : decode cX0_regrets 1 = .ok (.istore_n 1, 1) := by decide +kernel
theorem dX0_regrets_2 : decode cX0_regrets 2 = .ok (.iconst 0, 1) := by decide +kernel
theorem dX0_regrets_3 : decode cX0_regrets 3 = .ok (.istore_n 2, 1) := by decide +kernel
theorem dX0_regrets_4 : decode cX0_regrets 4 = .ok (.iload_n 2, 1) := by decide +kernel
theorem dX0_regrets_5 : decode cX0_regrets 5 = .ok (.aload_n 0, 1) := by decide +kernel
theorem dX0_regrets_6 : decode cX0_regrets 6 = .ok (.getfield 40, 3) := by decide +kernel
theorem dX0_regrets_9 : decode cX0_regrets 9 = .ok (.if_icmp .ge 40, 3) := by decide +kernel
theorem dX0_regrets_12 : decode cX0_regrets 12 = .ok (.aload_n 0, 1) := by decide +kernel
theorem dX0_regrets_13 : decode cX0_regrets 13 = .ok (.getfield 28, 3) := by decide +kernel
theorem dX0_regrets_16 : decode cX0_regrets 16 = .ok (.iload_n 2, 1) := by decide +kernel
theorem dX0_regrets_17 : decode cX0_regrets 17 = .ok (.iaload, 1) := by decide +kernel
theorem dX0_regrets_18 : decode cX0_regrets 18 = .ok (.iconst (-1), 1) := by decide +kernel
theorem dX0_regrets_19 : decode cX0_regrets 19 = .ok (.if_icmp .eq 24, 3) := by decide +kernel
theorem dX0_regrets_22 : decode cX0_regrets 22 = .ok (.aload_n 0, 1) := by decide +kernel
theorem dX0_regrets_23 : decode cX0_regrets 23 = .ok (.aload_n 0, 1) := by decide +kernel
theorem dX0_regrets_24 : decode cX0_regrets 24 = .ok (.getfield 28, 3) := by decide +kernel
theorem dX0_regrets_27 : decode cX0_regrets 27 = .ok (.iload_n 2, 1) := by decide +kernel
theorem dX0_regrets_28 : decode cX0_regrets 28 = .ok (.iaload, 1) := by decide +kernel
theorem dX0_regrets_29 : decode cX0_regrets 29 = .ok (.iload_n 2, 1) := by decide +kernel
theorem dX0_regrets_30 : decode cX0_regrets 30 = .ok (.invokevirtual 48, 3) := by decide +kernel
theorem dX0_regrets_33 : decode cX0_regrets 33 = .ok (.aload_n 0, 1) := by decide +kernel
theorem dX0_regrets_34 : decode cX0_regrets 34 = .ok (.getfield 40, 3) := by decide +kernel
theorem dX0_regrets_37 : decode cX0_regrets 37 = .ok (.if_icmp .ge 6, 3) := by decide +kernel
theorem dX0_regrets_40 : decode cX0_regrets 40 = .ok (.iinc 1 1, 3) := by decide +kernel
theorem dX0_regrets_43 : decode cX0_regrets 43 = .ok (.iinc 2 1, 3) := by decide +kernel
theorem dX0_regrets_46 : decode cX0_regrets 46 = .ok (.goto (-42), 3) := by decide +kernel
theorem dX0_regrets_49 : decode cX0_regrets 49 = .ok (.iload_n 1, 1) := by decide +kernel
theorem dX0_regrets_50 : decode cX0_regrets 50 = .ok (.ireturn, 1) := by decide +kernel
theorem dX0_nearestRegret_0 : decode cX0_nearestRegret 0 = .ok (.iconst (-1), 1) := by decide +kernel
theorem dX0_nearestRegret_1 : decode cX0_nearestRegret 1 = .ok (.istore_n 1, 1) := by decide +kernel
theorem dX0_nearestRegret_2 : decode cX0_nearestRegret 2 = .ok (.iconst 0, 1) := by decide +kernel
theorem dX0_nearestRegret_3 : decode cX0_nearestRegret 3 = .ok (.istore_n 2, 1) := by decide +kernel
theorem dX0_nearestRegret_4 : decode cX0_nearestRegret 4 = .ok (.iload_n 2, 1) := by decide +kernel
theorem dX0_nearestRegret_5 : decode cX0_nearestRegret 5 = .ok (.aload_n 0, 1) := by decide +kernel
theorem dX0_nearestRegret_6 : decode cX0_nearestRegret 6 = .ok (.getfield 40, 3) := by decide +kernel
theorem dX0_nearestRegret_9 : decode cX0_nearestRegret 9 = .ok (.if_icmp .ge 62, 3) := by decide +kernel
theorem dX0_nearestRegret_12 : decode cX0_nearestRegret 12 = .ok (.aload_n 0, 1) := by decide +kernel
theorem dX0_nearestRegret_13 : decode cX0_nearestRegret 13 = .ok (.getfield 28, 3) := by decide +kernel
theorem dX0_nearestRegret_16 : decode cX0_nearestRegret 16 = .ok (.iload_n 2, 1) := by decide +kernel
theorem dX0_nearestRegret_17 : decode cX0_nearestRegret 17 = .ok (.iaload, 1) := by decide +kernel
theorem dX0_nearestRegret_18 : decode cX0_nearestRegret 18 = .ok (.iconst (-1), 1) := by decide +kernel
theorem dX0_nearestRegret_19 : decode cX0_nearestRegret 19 = .ok (.if_icmp .ne 10, 3) := by decide +kernel
theorem dX0_nearestRegret_22 : decode cX0_nearestRegret 22 = .ok (.aload_n 0, 1) := by decide +kernel
theorem dX0_nearestRegret_23 : decode cX0_nearestRegret 23 = .ok (.getfield 40, 3) := by decide +kernel
theorem dX0_nearestRegret_26 : decode cX0_nearestRegret 26 = .ok (.goto 14, 3) := by decide +kernel
theorem dX0_nearestRegret_29 : decode cX0_nearestRegret 29 = .ok (.aload_n 0, 1) := by decide +kernel
theorem dX0_nearestRegret_30 : decode cX0_nearestRegret 30 = .ok (.aload_n 0, 1) := by decide +kernel
theorem dX0_nearestRegret_31 : decode cX0_nearestRegret 31 = .ok (.getfield 28, 3) := by decide +kernel
theorem dX0_nearestRegret_34 : decode cX0_nearestRegret 34 = .ok (.iload_n 2, 1) := by decide +kernel
theorem dX0_nearestRegret_35 : decode cX0_nearestRegret 35 = .ok (.iaload, 1) := by decide +kernel
theorem dX0_nearestRegret_36 : decode cX0_nearestRegret 36 = .ok (.iload_n 2, 1) := by decide +kernel
theorem dX0_nearestRegret_37 : decode cX0_nearestRegret 37 = .ok (.invokevirtual 48, 3) := by decide +kernel
theorem dX0_nearestRegret_40 : decode cX0_nearestRegret 40 = .ok (.istore_n 3, 1) := by decide +kernel
theorem dX0_nearestRegret_41 : decode cX0_nearestRegret 41 = .ok (.iload_n 3, 1) := by decide +kernel
theorem dX0_nearestRegret_42 : decode cX0_nearestRegret 42 = .ok (.aload_n 0, 1) := by decide +kernel
theorem dX0_nearestRegret_43 : decode cX0_nearestRegret 43 = .ok (.getfield 40, 3) := by decide +kernel
theorem dX0_nearestRegret_46 : decode cX0_nearestRegret 46 = .ok (.if_icmp .ge 19, 3) := by decide +kernel
theorem dX0_nearestRegret_49 : decode cX0_nearestRegret 49 = .ok (.iload_n 1, 1) := by decide +kernel
theorem dX0_nearestRegret_50 : decode cX0_nearestRegret 50 = .ok (.iconst (-1), 1) := by decide +kernel
theorem dX0_nearestRegret_51 : decode cX0_nearestRegret 51 = .ok (.if_icmp .eq 10, 3) := by decide +kernel
theorem dX0_nearestRegret_54 : decode cX0_nearestRegret 54 = .ok (.iload_n 3, 1) := by decide +kernel
theorem dX0_nearestRegret_55 : decode cX0_nearestRegret 55 = .ok (.iload_n 2, 1) := by decide +kernel
theorem dX0_nearestRegret_56 : decode cX0_nearestRegret 56 = .ok (.isub, 1) := by decide +kernel
theorem dX0_nearestRegret_57 : decode cX0_nearestRegret 57 = .ok (.iload_n 1, 1) := by decide +kernel
theorem dX0_nearestRegret_58 : decode cX0_nearestRegret 58 = .ok (.if_icmp .ge 7, 3) := by decide +kernel
theorem dX0_nearestRegret_61 : decode cX0_nearestRegret 61 = .ok (.iload_n 3, 1) := by decide +kernel
theorem dX0_nearestRegret_62 : decode cX0_nearestRegret 62 = .ok (.iload_n 2, 1) := by decide +kernel
theorem dX0_nearestRegret_63 : decode cX0_nearestRegret 63 = .ok (.isub, 1) := by decide +kernel
theorem dX0_nearestRegret_64 : decode cX0_nearestRegret 64 = .ok (.istore_n 1, 1) := by decide +kernel
theorem dX0_nearestRegret_65 : decode cX0_nearestRegret 65 = .ok (.iinc 2 1, 3) := by decide +kernel
theorem dX0_nearestRegret_68 : decode cX0_nearestRegret 68 = .ok (.goto (-64), 3) := by decide +kernel
theorem dX0_nearestRegret_71 : decode cX0_nearestRegret 71 = .ok (.iload_n 1, 1) := by decide +kernel
theorem dX0_nearestRegret_72 : decode cX0_nearestRegret 72 = .ok (.ireturn, 1) := by decide +kernel
theorem dX0_leastCap_0 : decode cX0_leastCap 0 = .ok (.iload_n 2, 1) := by decide +kernel
theorem dX0_leastCap_1 : decode cX0_leastCap 1 = .ok (.aload_n 0, 1) := by decide +kernel
theorem dX0_leastCap_2 : decode cX0_leastCap 2 = .ok (.getfield 40, 3) := by decide +kernel
theorem dX0_leastCap_5 : decode cX0_leastCap 5 = .ok (.aload_n 0, 1) := by decide +kernel
theorem dX0_leastCap_6 : decode cX0_leastCap 6 = .ok (.invokevirtual 122, 3) := by decide +kernel
theorem dX0_leastCap_9 : decode cX0_leastCap 9 = .ok (.isub, 1) := by decide +kernel
theorem dX0_leastCap_10 : decode cX0_leastCap 10 = .ok (.if_icmp .le 5, 3) := by decide +kernel
theorem dX0_leastCap_13 : decode cX0_leastCap 13 = .ok (.iconst (-1), 1) := by decide +kernel
theorem dX0_leastCap_14 : decode cX0_leastCap 14 = .ok (.ireturn, 1) := by decide +kernel
theorem dX0_leastCap_15 : decode cX0_leastCap 15 = .ok (.iconst 0, 1) := by decide +kernel
theorem dX0_leastCap_16 : decode cX0_leastCap 16 = .ok (.istore_n 3, 1) := by decide +kernel
theorem dX0_leastCap_17 : decode cX0_leastCap 17 = .ok (.iload_n 3, 1) := by decide +kernel
theorem dX0_leastCap_18 : decode cX0_leastCap 18 = .ok (.bipush 60, 2) := by decide +kernel
theorem dX0_leastCap_20 : decode cX0_leastCap 20 = .ok (.if_icmp .gt 25, 3) := by decide +kernel
theorem dX0_leastCap_23 : decode cX0_leastCap 23 = .ok (.aload_n 0, 1) := by decide +kernel
theorem dX0_leastCap_24 : decode cX0_leastCap 24 = .ok (.iload_n 1, 1) := by decide +kernel
theorem dX0_leastCap_25 : decode cX0_leastCap 25 = .ok (.iload_n 3, 1) := by decide +kernel
theorem dX0_leastCap_26 : decode cX0_leastCap 26 = .ok (.invokevirtual 125, 3) := by decide +kernel
theorem dX0_leastCap_29 : decode cX0_leastCap 29 = .ok (.aload_n 0, 1) := by decide +kernel
theorem dX0_leastCap_30 : decode cX0_leastCap 30 = .ok (.getfield 66, 3) := by decide +kernel
theorem dX0_leastCap_33 : decode cX0_leastCap 33 = .ok (.iload_n 2, 1) := by decide +kernel
theorem dX0_leastCap_34 : decode cX0_leastCap 34 = .ok (.if_icmp .lt 5, 3) := by decide +kernel
theorem dX0_leastCap_37 : decode cX0_leastCap 37 = .ok (.iload_n 3, 1) := by decide +kernel
theorem dX0_leastCap_38 : decode cX0_leastCap 38 = .ok (.ireturn, 1) := by decide +kernel
theorem dX0_leastCap_39 : decode cX0_leastCap 39 = .ok (.iinc 3 1, 3) := by decide +kernel
theorem dX0_leastCap_42 : decode cX0_leastCap 42 = .ok (.goto (-25), 3) := by decide +kernel
theorem dX0_leastCap_45 : decode cX0_leastCap 45 = .ok (.iconst (-1), 1) := by decide +kernel
theorem dX0_leastCap_46 : decode cX0_leastCap 46 = .ok (.ireturn, 1) := by decide +kernel
theorem dX0_findShared_0 : decode cX0_findShared 0 = .ok (.aload_n 0, 1) := by decide +kernel
theorem dX0_findShared_1 : decode cX0_findShared 1 = .ok (.iconst 0, 1) := by decide +kernel
theorem dX0_findShared_2 : decode cX0_findShared 2 = .ok (.iload_n 1, 1) := by decide +kernel
theorem dX0_findShared_3 : decode cX0_findShared 3 = .ok (.invokevirtual 125, 3) := by decide +kernel
theorem dX0_findShared_6 : decode cX0_findShared 6 = .ok (.aload_n 0, 1) := by decide +kernel
theorem dX0_findShared_7 : decode cX0_findShared 7 = .ok (.iconst 0, 1) := by decide +kernel
theorem dX0_findShared_8 : decode cX0_findShared 8 = .ok (.putfield 128, 3) := by decide +kernel
theorem dX0_findShared_11 : decode cX0_findShared 11 = .ok (.iconst 0, 1) := by decide +kernel
theorem dX0_findShared_12 : decode cX0_findShared 12 = .ok (.istore_n 2, 1) := by decide +kernel
theorem dX0_findShared_13 : decode cX0_findShared 13 = .ok (.iload_n 2, 1) := by decide +kernel
theorem dX0_findShared_14 : decode cX0_findShared 14 = .ok (.aload_n 0, 1) := by decide +kernel
theorem dX0_findShared_15 : decode cX0_findShared 15 = .ok (.getfield 12, 3) := by decide +kernel
theorem dX0_findShared_18 : decode cX0_findShared 18 = .ok (.getfield 78, 3) := by decide +kernel
theorem dX0_findShared_21 : decode cX0_findShared 21 = .ok (.getfield 114, 3) := by decide +kernel
theorem dX0_findShared_24 : decode cX0_findShared 24 = .ok (.if_icmp .ge 25, 3) := by decide +kernel
theorem dX0_findShared_27 : decode cX0_findShared 27 = .ok (.aload_n 0, 1) := by decide +kernel
theorem dX0_findShared_28 : decode cX0_findShared 28 = .ok (.aload_n 0, 1) := by decide +kernel
theorem dX0_findShared_29 : decode cX0_findShared 29 = .ok (.getfield 12, 3) := by decide +kernel
theorem dX0_findShared_32 : decode cX0_findShared 32 = .ok (.getfield 78, 3) := by decide +kernel
theorem dX0_findShared_35 : decode cX0_findShared 35 = .ok (.getfield 118, 3) := by decide +kernel
theorem dX0_findShared_38 : decode cX0_findShared 38 = .ok (.iload_n 2, 1) := by decide +kernel
theorem dX0_findShared_39 : decode cX0_findShared 39 = .ok (.iaload, 1) := by decide +kernel
theorem dX0_findShared_40 : decode cX0_findShared 40 = .ok (.invokevirtual 131, 3) := by decide +kernel
theorem dX0_findShared_43 : decode cX0_findShared 43 = .ok (.iinc 2 1, 3) := by decide +kernel
theorem dX0_findShared_46 : decode cX0_findShared 46 = .ok (.goto (-33), 3) := by decide +kernel
theorem dX0_findShared_49 : decode cX0_findShared 49 = .ok (.iconst 1, 1) := by decide +kernel
theorem dX0_findShared_50 : decode cX0_findShared 50 = .ok (.istore_n 2, 1) := by decide +kernel
theorem dX0_findShared_51 : decode cX0_findShared 51 = .ok (.iload_n 2, 1) := by decide +kernel
theorem dX0_findShared_52 : decode cX0_findShared 52 = .ok (.iconst 4, 1) := by decide +kernel
theorem dX0_findShared_53 : decode cX0_findShared 53 = .ok (.if_icmp .gt 19, 3) := by decide +kernel
theorem dX0_findShared_56 : decode cX0_findShared 56 = .ok (.aload_n 0, 1) := by decide +kernel
theorem dX0_findShared_57 : decode cX0_findShared 57 = .ok (.iload_n 2, 1) := by decide +kernel
theorem dX0_findShared_58 : decode cX0_findShared 58 = .ok (.iload_n 1, 1) := by decide +kernel
theorem dX0_findShared_59 : decode cX0_findShared 59 = .ok (.invokevirtual 125, 3) := by decide +kernel
theorem dX0_findShared_62 : decode cX0_findShared 62 = .ok (.aload_n 0, 1) := by decide +kernel
theorem dX0_findShared_63 : decode cX0_findShared 63 = .ok (.invokevirtual 134, 3) := by decide +kernel
theorem dX0_findShared_66 : decode cX0_findShared 66 = .ok (.iinc 2 1, 3) := by decide +kernel
theorem dX0_findShared_69 : decode cX0_findShared 69 = .ok (.goto (-18), 3) := by decide +kernel
theorem dX0_findShared_72 : decode cX0_findShared 72 = .ok (.return_, 1) := by decide +kernel
theorem dX0_insertShared_0 : decode cX0_insertShared 0 = .ok (.aload_n 0, 1) := by decide +kernel
theorem dX0_insertShared_1 : decode cX0_insertShared 1 = .ok (.getfield 128, 3) := by decide +kernel
theorem dX0_insertShared_4 : decode cX0_insertShared 4 = .ok (.bipush 60, 2) := by decide +kernel
theorem dX0_insertShared_6 : decode cX0_insertShared 6 = .ok (.if_icmp .lt 4, 3) := by decide +kernel
theorem dX0_insertShared_9 : decode cX0_insertShared 9 = .ok (.return_, 1) := by decide +kernel
theorem dX0_insertShared_10 : decode cX0_insertShared 10 = .ok (.aload_n 0, 1) := by decide +kernel
theorem dX0_insertShared_11 : decode cX0_insertShared 11 = .ok (.getfield 128, 3) := by decide +kernel
theorem dX0_insertShared_14 : decode cX0_insertShared 14 = .ok (.istore_n 2, 1) := by decide +kernel
theorem dX0_insertShared_15 : decode cX0_insertShared 15 = .ok (.iload_n 2, 1) := by decide +kernel
theorem dX0_insertShared_16 : decode cX0_insertShared 16 = .ok (.ifCond .le 35, 3) := by decide +kernel
theorem dX0_insertShared_19 : decode cX0_insertShared 19 = .ok (.aload_n 0, 1) := by decide +kernel
theorem dX0_insertShared_20 : decode cX0_insertShared 20 = .ok (.getfield 31, 3) := by decide +kernel
theorem dX0_insertShared_23 : decode cX0_insertShared 23 = .ok (.iload_n 2, 1) := by decide +kernel
theorem dX0_insertShared_24 : decode cX0_insertShared 24 = .ok (.iconst 1, 1) := by decide +kernel
theorem dX0_insertShared_25 : decode cX0_insertShared 25 = .ok (.isub, 1) := by decide +kernel
theorem dX0_insertShared_26 : decode cX0_insertShared 26 = .ok (.iaload, 1) := by decide +kernel
theorem dX0_insertShared_27 : decode cX0_insertShared 27 = .ok (.iload_n 1, 1) := by decide +kernel
theorem dX0_insertShared_28 : decode cX0_insertShared 28 = .ok (.if_icmp .le 23, 3) := by decide +kernel
theorem dX0_insertShared_31 : decode cX0_insertShared 31 = .ok (.aload_n 0, 1) := by decide +kernel
theorem dX0_insertShared_32 : decode cX0_insertShared 32 = .ok (.getfield 31, 3) := by decide +kernel
theorem dX0_insertShared_35 : decode cX0_insertShared 35 = .ok (.iload_n 2, 1) := by decide +kernel
theorem dX0_insertShared_36 : decode cX0_insertShared 36 = .ok (.aload_n 0, 1) := by decide +kernel
theorem dX0_insertShared_37 : decode cX0_insertShared 37 = .ok (.getfield 31, 3) := by decide +kernel
theorem dX0_insertShared_40 : decode cX0_insertShared 40 = .ok (.iload_n 2, 1) := by decide +kernel
theorem dX0_insertShared_41 : decode cX0_insertShared 41 = .ok (.iconst 1, 1) := by decide +kernel
theorem dX0_insertShared_42 : decode cX0_insertShared 42 = .ok (.isub, 1) := by decide +kernel
theorem dX0_insertShared_43 : decode cX0_insertShared 43 = .ok (.iaload, 1) := by decide +kernel
theorem dX0_insertShared_44 : decode cX0_insertShared 44 = .ok (.iastore, 1) := by decide +kernel
theorem dX0_insertShared_45 : decode cX0_insertShared 45 = .ok (.iinc 2 (-1), 3) := by decide +kernel
theorem dX0_insertShared_48 : decode cX0_insertShared 48 = .ok (.goto (-33), 3) := by decide +kernel
theorem dX0_insertShared_51 : decode cX0_insertShared 51 = .ok (.aload_n 0, 1) := by decide +kernel
theorem dX0_insertShared_52 : decode cX0_insertShared 52 = .ok (.getfield 31, 3) := by decide +kernel
theorem dX0_insertShared_55 : decode cX0_insertShared 55 = .ok (.iload_n 2, 1) := by decide +kernel
theorem dX0_insertShared_56 : decode cX0_insertShared 56 = .ok (.iload_n 1, 1) := by decide +kernel
theorem dX0_insertShared_57 : decode cX0_insertShared 57 = .ok (.iastore, 1) := by decide +kernel
theorem dX0_insertShared_58 : decode cX0_insertShared 58 = .ok (.aload_n 0, 1) := by decide +kernel
theorem dX0_insertShared_59 : decode cX0_insertShared 59 = .ok (.dup, 1) := by decide +kernel
theorem dX0_insertShared_60 : decode cX0_insertShared 60 = .ok (.getfield 128, 3) := by decide +kernel
theorem dX0_insertShared_63 : decode cX0_insertShared 63 = .ok (.iconst 1, 1) := by decide +kernel
theorem dX0_insertShared_64 : decode cX0_insertShared 64 = .ok (.iadd, 1) := by decide +kernel
theorem dX0_insertShared_65 : decode cX0_insertShared 65 = .ok (.putfield 128, 3) := by decide +kernel
theorem dX0_insertShared_68 : decode cX0_insertShared 68 = .ok (.return_, 1) := by decide +kernel
theorem dX0_retainShared_0 : decode cX0_retainShared 0 = .ok (.iconst 0, 1) := by decide +kernel
theorem dX0_retainShared_1 : decode cX0_retainShared 1 = .ok (.istore_n 1, 1) := by decide +kernel
theorem dX0_retainShared_2 : decode cX0_retainShared 2 = .ok (.iconst 0, 1) := by decide +kernel
theorem dX0_retainShared_3 : decode cX0_retainShared 3 = .ok (.istore_n 2, 1) := by decide +kernel
theorem dX0_retainShared_4 : decode cX0_retainShared 4 = .ok (.iload_n 2, 1) := by decide +kernel
theorem dX0_retainShared_5 : decode cX0_retainShared 5 = .ok (.aload_n 0, 1) := by decide +kernel
theorem dX0_retainShared_6 : decode cX0_retainShared 6 = .ok (.getfield 128, 3) := by decide +kernel
theorem dX0_retainShared_9 : decode cX0_retainShared 9 = .ok (.if_icmp .ge 44, 3) := by decide +kernel
theorem dX0_retainShared_12 : decode cX0_retainShared 12 = .ok (.aload_n 0, 1) := by decide +kernel
theorem dX0_retainShared_13 : decode cX0_retainShared 13 = .ok (.getfield 12, 3) := by decide +kernel
theorem dX0_retainShared_16 : decode cX0_retainShared 16 = .ok (.getfield 78, 3) := by decide +kernel
theorem dX0_retainShared_19 : decode cX0_retainShared 19 = .ok (.aload_n 0, 1) := by decide +kernel
theorem dX0_retainShared_20 : decode cX0_retainShared 20 = .ok (.getfield 31, 3) := by decide +kernel
theorem dX0_retainShared_23 : decode cX0_retainShared 23 = .ok (.iload_n 2, 1) := by decide +kernel
theorem dX0_retainShared_24 : decode cX0_retainShared 24 = .ok (.iaload, 1) := by decide +kernel
theorem dX0_retainShared_25 : decode cX0_retainShared 25 = .ok (.invokevirtual 82, 3) := by decide +kernel
theorem dX0_retainShared_28 : decode cX0_retainShared 28 = .ok (.iconst (-1), 1) := by decide +kernel
theorem dX0_retainShared_29 : decode cX0_retainShared 29 = .ok (.if_icmp .eq 18, 3) := by decide +kernel
theorem dX0_retainShared_32 : decode cX0_retainShared 32 = .ok (.aload_n 0, 1) := by decide +kernel
theorem dX0_retainShared_33 : decode cX0_retainShared 33 = .ok (.getfield 31, 3) := by decide +kernel
theorem dX0_retainShared_36 : decode cX0_retainShared 36 = .ok (.iload_n 1, 1) := by decide +kernel
theorem dX0_retainShared_37 : decode cX0_retainShared 37 = .ok (.aload_n 0, 1) := by decide +kernel
theorem dX0_retainShared_38 : decode cX0_retainShared 38 = .ok (.getfield 31, 3) := by decide +kernel
theorem dX0_retainShared_41 : decode cX0_retainShared 41 = .ok (.iload_n 2, 1) := by decide +kernel
theorem dX0_retainShared_42 : decode cX0_retainShared 42 = .ok (.iaload, 1) := by decide +kernel
theorem dX0_retainShared_43 : decode cX0_retainShared 43 = .ok (.iastore, 1) := by decide +kernel
theorem dX0_retainShared_44 : decode cX0_retainShared 44 = .ok (.iinc 1 1, 3) := by decide +kernel
theorem dX0_retainShared_47 : decode cX0_retainShared 47 = .ok (.iinc 2 1, 3) := by decide +kernel
theorem dX0_retainShared_50 : decode cX0_retainShared 50 = .ok (.goto (-46), 3) := by decide +kernel
theorem dX0_retainShared_53 : decode cX0_retainShared 53 = .ok (.aload_n 0, 1) := by decide +kernel
theorem dX0_retainShared_54 : decode cX0_retainShared 54 = .ok (.iload_n 1, 1) := by decide +kernel
theorem dX0_retainShared_55 : decode cX0_retainShared 55 = .ok (.putfield 128, 3) := by decide +kernel
theorem dX0_retainShared_58 : decode cX0_retainShared 58 = .ok (.return_, 1) := by decide +kernel
theorem dX1_init_0 : decode cX1_init 0 = .ok (.aload_n 0, 1) := by decide +kernel
theorem dX1_init_1 : decode cX1_init 1 = .ok (.invokespecial 3, 3) := by decide +kernel
theorem dX1_init_4 : decode cX1_init 4 = .ok (.aload_n 0, 1) := by decide +kernel
theorem dX1_init_5 : decode cX1_init 5 = .ok (.bipush 60, 2) := by decide +kernel
theorem dX1_init_7 : decode cX1_init 7 = .ok (.newarray .int, 2) := by decide +kernel
theorem dX1_init_9 : decode cX1_init 9 = .ok (.putfield 9, 3) := by decide +kernel
theorem dX1_init_12 : decode cX1_init 12 = .ok (.aload_n 0, 1) := by decide +kernel
theorem dX1_init_13 : decode cX1_init 13 = .ok (.bipush 60, 2) := by decide +kernel
theorem dX1_init_15 : decode cX1_init 15 = .ok (.newarray .int, 2) := by decide +kernel
theorem dX1_init_17 : decode cX1_init 17 = .ok (.putfield 15, 3) := by decide +kernel
theorem dX1_init_20 : decode cX1_init 20 = .ok (.aload_n 0, 1) := by decide +kernel
theorem dX1_init_21 : decode cX1_init 21 = .ok (.bipush 60, 2) := by decide +kernel
theorem dX1_init_23 : decode cX1_init 23 = .ok (.newarray .int, 2) := by decide +kernel
theorem dX1_init_25 : decode cX1_init 25 = .ok (.putfield 18, 3) := by decide +kernel
theorem dX1_init_28 : decode cX1_init 28 = .ok (.aload_n 0, 1) := by decide +kernel
theorem dX1_init_29 : decode cX1_init 29 = .ok (.bipush 60, 2) := by decide +kernel
theorem dX1_init_31 : decode cX1_init 31 = .ok (.newarray .int, 2) := by decide +kernel
theorem dX1_init_33 : decode cX1_init 33 = .ok (.putfield 21, 3) := by decide +kernel
theorem dX1_init_36 : decode cX1_init 36 = .ok (.aload_n 0, 1) := by decide +kernel
theorem dX1_init_37 : decode cX1_init 37 = .ok (.bipush 60, 2) := by decide +kernel
theorem dX1_init_39 : decode cX1_init 39 = .ok (.newarray .int, 2) := by decide +kernel
theorem dX1_init_41 : decode cX1_init 41 = .ok (.putfield 24, 3) := by decide +kernel
theorem dX1_init_44 : decode cX1_init 44 = .ok (.aload_n 0, 1) := by decide +kernel
theorem dX1_init_45 : decode cX1_init 45 = .ok (.bipush 60, 2) := by decide +kernel
theorem dX1_init_47 : decode cX1_init 47 = .ok (.newarray .int, 2) := by decide +kernel
theorem dX1_init_49 : decode cX1_init 49 = .ok (.putfield 27, 3) := by decide +kernel
theorem dX1_init_52 : decode cX1_init 52 = .ok (.aload_n 0, 1) := by decide +kernel
theorem dX1_init_53 : decode cX1_init 53 = .ok (.bipush 60, 2) := by decide +kernel
theorem dX1_init_55 : decode cX1_init 55 = .ok (.newarray .boolean, 2) := by decide +kernel
theorem dX1_init_57 : decode cX1_init 57 = .ok (.putfield 30, 3) := by decide +kernel
theorem dX1_init_60 : decode cX1_init 60 = .ok (.aload_n 0, 1) := by decide +kernel
theorem dX1_init_61 : decode cX1_init 61 = .ok (.bipush 100, 2) := by decide +kernel
theorem dX1_init_63 : decode cX1_init 63 = .ok (.putfield 34, 3) := by decide +kernel
theorem dX1_init_66 : decode cX1_init 66 = .ok (.return_, 1) := by decide +kernel
theorem dX1_copyFrom_0 : decode cX1_copyFrom 0 = .ok (.aload_n 1, 1) := by decide +kernel
theorem dX1_copyFrom_1 : decode cX1_copyFrom 1 = .ok (.getfield 9, 3) := by decide +kernel
theorem dX1_copyFrom_4 : decode cX1_copyFrom 4 = .ok (.iconst 0, 1) := by decide +kernel
theorem dX1_copyFrom_5 : decode cX1_copyFrom 5 = .ok (.aload_n 0, 1) := by decide +kernel
theorem dX1_copyFrom_6 : decode cX1_copyFrom 6 = .ok (.getfield 9, 3) := by decide +kernel
theorem dX1_copyFrom_9 : decode cX1_copyFrom 9 = .ok (.iconst 0, 1) := by decide +kernel
theorem dX1_copyFrom_10 : decode cX1_copyFrom 10 = .ok (.bipush 60, 2) := by decide +kernel
theorem dX1_copyFrom_12 : decode cX1_copyFrom 12 = .ok (.invokestatic 38, 3) := by decide +kernel
theorem dX1_copyFrom_15 : decode cX1_copyFrom 15 = .ok (.aload_n 1, 1) := by decide +kernel
theorem dX1_copyFrom_16 : decode cX1_copyFrom 16 = .ok (.getfield 15, 3) := by decide +kernel
theorem dX1_copyFrom_19 : decode cX1_copyFrom 19 = .ok (.iconst 0, 1) := by decide +kernel
theorem dX1_copyFrom_20 : decode cX1_copyFrom 20 = .ok (.aload_n 0, 1) := by decide +kernel
theorem dX1_copyFrom_21 : decode cX1_copyFrom 21 = .ok (.getfield 15, 3) := by decide +kernel
theorem dX1_copyFrom_24 : decode cX1_copyFrom 24 = .ok (.iconst 0, 1) := by decide +kernel
theorem dX1_copyFrom_25 : decode cX1_copyFrom 25 = .ok (.bipush 60, 2) := by decide +kernel
theorem dX1_copyFrom_27 : decode cX1_copyFrom 27 = .ok (.invokestatic 38, 3) := by decide +kernel
theorem dX1_copyFrom_30 : decode cX1_copyFrom 30 = .ok (.aload_n 1, 1) := by decide +kernel
theorem dX1_copyFrom_31 : decode cX1_copyFrom 31 = .ok (.getfield 18, 3) := by decide +kernel
theorem dX1_copyFrom_34 : decode cX1_copyFrom 34 = .ok (.iconst 0, 1) := by decide +kernel
theorem dX1_copyFrom_35 : decode cX1_copyFrom 35 = .ok (.aload_n 0, 1) := by decide +kernel
theorem dX1_copyFrom_36 : decode cX1_copyFrom 36 = .ok (.getfield 18, 3) := by decide +kernel
theorem dX1_copyFrom_39 : decode cX1_copyFrom 39 = .ok (.iconst 0, 1) := by decide +kernel
theorem dX1_copyFrom_40 : decode cX1_copyFrom 40 = .ok (.bipush 60, 2) := by decide +kernel
theorem dX1_copyFrom_42 : decode cX1_copyFrom 42 = .ok (.invokestatic 38, 3) := by decide +kernel
theorem dX1_copyFrom_45 : decode cX1_copyFrom 45 = .ok (.aload_n 1, 1) := by decide +kernel
theorem dX1_copyFrom_46 : decode cX1_copyFrom 46 = .ok (.getfield 21, 3) := by decide +kernel
theorem dX1_copyFrom_49 : decode cX1_copyFrom 49 = .ok (.iconst 0, 1) := by decide +kernel
theorem dX1_copyFrom_50 : decode cX1_copyFrom 50 = .ok (.aload_n 0, 1) := by decide +kernel
theorem dX1_copyFrom_51 : decode cX1_copyFrom 51 = .ok (.getfield 21, 3) := by decide +kernel
theorem dX1_copyFrom_54 : decode cX1_copyFrom 54 = .ok (.iconst 0, 1) := by decide +kernel
theorem dX1_copyFrom_55 : decode cX1_copyFrom 55 = .ok (.bipush 60, 2) := by decide +kernel
theorem dX1_copyFrom_57 : decode cX1_copyFrom 57 = .ok (.invokestatic 38, 3) := by decide +kernel
theorem dX1_copyFrom_60 : decode cX1_copyFrom 60 = .ok (.aload_n 1, 1) := by decide +kernel
theorem dX1_copyFrom_61 : decode cX1_copyFrom 61 = .ok (.getfield 24, 3) := by decide +kernel
theorem dX1_copyFrom_64 : decode cX1_copyFrom 64 = .ok (.iconst 0, 1) := by decide +kernel
theorem dX1_copyFrom_65 : decode cX1_copyFrom 65 = .ok (.aload_n 0, 1) := by decide +kernel
theorem dX1_copyFrom_66 : decode cX1_copyFrom 66 = .ok (.getfield 24, 3) := by decide +kernel
theorem dX1_copyFrom_69 : decode cX1_copyFrom 69 = .ok (.iconst 0, 1) := by decide +kernel
theorem dX1_copyFrom_70 : decode cX1_copyFrom 70 = .ok (.bipush 60, 2) := by decide +kernel
theorem dX1_copyFrom_72 : decode cX1_copyFrom 72 = .ok (.invokestatic 38, 3) := by decide +kernel
theorem dX1_copyFrom_75 : decode cX1_copyFrom 75 = .ok (.aload_n 1, 1) := by decide +kernel
theorem dX1_copyFrom_76 : decode cX1_copyFrom 76 = .ok (.getfield 27, 3) := by decide +kernel
theorem dX1_copyFrom_79 : decode cX1_copyFrom 79 = .ok (.iconst 0, 1) := by decide +kernel
theorem dX1_copyFrom_80 : decode cX1_copyFrom 80 = .ok (.aload_n 0, 1) := by decide +kernel
theorem dX1_copyFrom_81 : decode cX1_copyFrom 81 = .ok (.getfield 27, 3) := by decide +kernel
theorem dX1_copyFrom_84 : decode cX1_copyFrom 84 = .ok (.iconst 0, 1) := by decide +kernel
theorem dX1_copyFrom_85 : decode cX1_copyFrom 85 = .ok (.bipush 60, 2) := by decide +kernel
theorem dX1_copyFrom_87 : decode cX1_copyFrom 87 = .ok (.invokestatic 38, 3) := by decide +kernel
theorem dX1_copyFrom_90 : decode cX1_copyFrom 90 = .ok (.iconst 0, 1) := by decide +kernel
theorem dX1_copyFrom_91 : decode cX1_copyFrom 91 = .ok (.istore_n 2, 1) := by decide +kernel
theorem dX1_copyFrom_92 : decode cX1_copyFrom 92 = .ok (.iload_n 2, 1) := by decide +kernel
theorem dX1_copyFrom_93 : decode cX1_copyFrom 93 = .ok (.bipush 60, 2) := by decide +kernel
theorem dX1_copyFrom_95 : decode cX1_copyFrom 95 = .ok (.if_icmp .ge 21, 3) := by decide +kernel
theorem dX1_copyFrom_98 : decode cX1_copyFrom 98 = .ok (.aload_n 0, 1) := by decide +kernel
theorem dX1_copyFrom_99 : decode cX1_copyFrom 99 = .ok (.getfield 30, 3) := by decide +kernel
theorem dX1_copyFrom_102 : decode cX1_copyFrom 102 = .ok (.iload_n 2, 1) := by decide +kernel
theorem dX1_copyFrom_103 : decode cX1_copyFrom 103 = .ok (.aload_n 1, 1) := by decide +kernel
theorem dX1_copyFrom_104 : decode cX1_copyFrom 104 = .ok (.getfield 30, 3) := by decide +kernel
theorem dX1_copyFrom_107 : decode cX1_copyFrom 107 = .ok (.iload_n 2, 1) := by decide +kernel
theorem dX1_copyFrom_108 : decode cX1_copyFrom 108 = .ok (.baload, 1) := by decide +kernel
theorem dX1_copyFrom_109 : decode cX1_copyFrom 109 = .ok (.bastore, 1) := by decide +kernel
theorem dX1_copyFrom_110 : decode cX1_copyFrom 110 = .ok (.iinc 2 1, 3) := by decide +kernel
theorem dX1_copyFrom_113 : decode cX1_copyFrom 113 = .ok (.goto (-21), 3) := by decide +kernel
theorem dX1_copyFrom_116 : decode cX1_copyFrom 116 = .ok (.aload_n 0, 1) := by decide +kernel
theorem dX1_copyFrom_117 : decode cX1_copyFrom 117 = .ok (.aload_n 1, 1) := by decide +kernel
theorem dX1_copyFrom_118 : decode cX1_copyFrom 118 = .ok (.getfield 44, 3) := by decide +kernel
theorem dX1_copyFrom_121 : decode cX1_copyFrom 121 = .ok (.putfield 44, 3) := by decide +kernel
theorem dX1_copyFrom_124 : decode cX1_copyFrom 124 = .ok (.aload_n 0, 1) := by decide +kernel
theorem dX1_copyFrom_125 : decode cX1_copyFrom 125 = .ok (.aload_n 1, 1) := by decide +kernel
theorem dX1_copyFrom_126 : decode cX1_copyFrom 126 = .ok (.getfield 47, 3) := by decide +kernel
theorem dX1_copyFrom_129 : decode cX1_copyFrom 129 = .ok (.putfield 47, 3) := by decide +kernel
theorem dX1_copyFrom_132 : decode cX1_copyFrom 132 = .ok (.aload_n 0, 1) := by decide +kernel
theorem dX1_copyFrom_133 : decode cX1_copyFrom 133 = .ok (.aload_n 1, 1) := by decide +kernel
theorem dX1_copyFrom_134 : decode cX1_copyFrom 134 = .ok (.getfield 50, 3) := by decide +kernel
theorem dX1_copyFrom_137 : decode cX1_copyFrom 137 = .ok (.putfield 50, 3) := by decide +kernel
theorem dX1_copyFrom_140 : decode cX1_copyFrom 140 = .ok (.aload_n 0, 1) := by decide +kernel
theorem dX1_copyFrom_141 : decode cX1_copyFrom 141 = .ok (.aload_n 1, 1) := by decide +kernel
theorem dX1_copyFrom_142 : decode cX1_copyFrom 142 = .ok (.getfield 53, 3) := by decide +kernel
theorem dX1_copyFrom_145 : decode cX1_copyFrom 145 = .ok (.putfield 53, 3) := by decide +kernel
theorem dX1_copyFrom_148 : decode cX1_copyFrom 148 = .ok (.aload_n 0, 1) := by decide +kernel
theorem dX1_copyFrom_149 : decode cX1_copyFrom 149 = .ok (.aload_n 1, 1) := by decide +kernel
theorem dX1_copyFrom_150 : decode cX1_copyFrom 150 = .ok (.getfield 34, 3) := by decide +kernel
theorem dX1_copyFrom_153 : decode cX1_copyFrom 153 = .ok (.putfield 34, 3) := by decide +kernel
theorem dX1_copyFrom_156 : decode cX1_copyFrom 156 = .ok (.aload_n 0, 1) := by decide +kernel
theorem dX1_copyFrom_157 : decode cX1_copyFrom 157 = .ok (.aload_n 1, 1) := by decide +kernel
theorem dX1_copyFrom_158 : decode cX1_copyFrom 158 = .ok (.getfield 56, 3) := by decide +kernel
theorem dX1_copyFrom_161 : decode cX1_copyFrom 161 = .ok (.putfield 56, 3) := by decide +kernel
theorem dX1_copyFrom_164 : decode cX1_copyFrom 164 = .ok (.return_, 1) := by decide +kernel
theorem dX1_empty_0 : decode cX1_empty 0 = .ok (.aload_n 0, 1) := by decide +kernel
theorem dX1_empty_1 : decode cX1_empty 1 = .ok (.iconst 0, 1) := by decide +kernel
theorem dX1_empty_2 : decode cX1_empty 2 = .ok (.putfield 44, 3) := by decide +kernel
theorem dX1_empty_5 : decode cX1_empty 5 = .ok (.aload_n 0, 1) := by decide +kernel
theorem dX1_empty_6 : decode cX1_empty 6 = .ok (.iconst 0, 1) := by decide +kernel
theorem dX1_empty_7 : decode cX1_empty 7 = .ok (.putfield 47, 3) := by decide +kernel
theorem dX1_empty_10 : decode cX1_empty 10 = .ok (.aload_n 0, 1) := by decide +kernel
theorem dX1_empty_11 : decode cX1_empty 11 = .ok (.iconst 0, 1) := by decide +kernel
theorem dX1_empty_12 : decode cX1_empty 12 = .ok (.putfield 50, 3) := by decide +kernel
theorem dX1_empty_15 : decode cX1_empty 15 = .ok (.aload_n 0, 1) := by decide +kernel
theorem dX1_empty_16 : decode cX1_empty 16 = .ok (.iconst 0, 1) := by decide +kernel
theorem dX1_empty_17 : decode cX1_empty 17 = .ok (.putfield 53, 3) := by decide +kernel
theorem dX1_empty_20 : decode cX1_empty 20 = .ok (.aload_n 0, 1) := by decide +kernel
theorem dX1_empty_21 : decode cX1_empty 21 = .ok (.iload_n 1, 1) := by decide +kernel
theorem dX1_empty_22 : decode cX1_empty 22 = .ok (.putfield 34, 3) := by decide +kernel
theorem dX1_empty_25 : decode cX1_empty 25 = .ok (.aload_n 0, 1) := by decide +kernel
theorem dX1_empty_26 : decode cX1_empty 26 = .ok (.iconst 0, 1) := by decide +kernel
theorem dX1_empty_27 : decode cX1_empty 27 = .ok (.putfield 56, 3) := by decide +kernel
theorem dX1_empty_30 : decode cX1_empty 30 = .ok (.return_, 1) := by decide +kernel
theorem dX1_has_0 : decode cX1_has 0 = .ok (.iload_n 1, 1) := by decide +kernel
theorem dX1_has_1 : decode cX1_has 1 = .ok (.ifCond .lt 15, 3) := by decide +kernel
theorem dX1_has_4 : decode cX1_has 4 = .ok (.iload_n 1, 1) := by decide +kernel
theorem dX1_has_5 : decode cX1_has 5 = .ok (.aload_n 0, 1) := by decide +kernel
theorem dX1_has_6 : decode cX1_has 6 = .ok (.getfield 44, 3) := by decide +kernel
theorem dX1_has_9 : decode cX1_has 9 = .ok (.if_icmp .ge 7, 3) := by decide +kernel
theorem dX1_has_12 : decode cX1_has 12 = .ok (.iconst 1, 1) := by decide +kernel
theorem dX1_has_13 : decode cX1_has 13 = .ok (.goto 4, 3) := by decide +kernel
theorem dX1_has_16 : decode cX1_has 16 = .ok (.iconst 0, 1) := by decide +kernel
theorem dX1_has_17 : decode cX1_has 17 = .ok (.ireturn, 1) := by decide +kernel
theorem dX1_find_0 : decode cX1_find 0 = .ok (.iconst 0, 1) := by decide +kernel
theorem dX1_find_1 : decode cX1_find 1 = .ok (.istore_n 2, 1) := by decide +kernel
theorem dX1_find_2 : decode cX1_find 2 = .ok (.iload_n 2, 1) := by decide +kernel
theorem dX1_find_3 : decode cX1_find 3 = .ok (.aload_n 0, 1) := by decide +kernel
theorem dX1_find_4 : decode cX1_find 4 = .ok (.getfield 44, 3) := by decide +kernel
theorem dX1_find_7 : decode cX1_find 7 = .ok (.if_icmp .ge 21, 3) := by decide +kernel
theorem dX1_find_10 : decode cX1_find 10 = .ok (.aload_n 0, 1) := by decide +kernel
theorem dX1_find_11 : decode cX1_find 11 = .ok (.getfield 9, 3) := by decide +kernel
theorem dX1_find_14 : decode cX1_find 14 = .ok (.iload_n 2, 1) := by decide +kernel
theorem dX1_find_15 : decode cX1_find 15 = .ok (.iaload, 1) := by decide +kernel
theorem dX1_find_16 : decode cX1_find 16 = .ok (.iload_n 1, 1) := by decide +kernel
theorem dX1_find_17 : decode cX1_find 17 = .ok (.if_icmp .ne 5, 3) := by decide +kernel
theorem dX1_find_20 : decode cX1_find 20 = .ok (.iload_n 2, 1) := by decide +kernel
theorem dX1_find_21 : decode cX1_find 21 = .ok (.ireturn, 1) := by decide +kernel
theorem dX1_find_22 : decode cX1_find 22 = .ok (.iinc 2 1, 3) := by decide +kernel
theorem dX1_find_25 : decode cX1_find 25 = .ok (.goto (-23), 3) := by decide +kernel
theorem dX1_find_28 : decode cX1_find 28 = .ok (.iconst (-1), 1) := by decide +kernel
theorem dX1_find_29 : decode cX1_find 29 = .ok (.ireturn, 1) := by decide +kernel
theorem dX1_keyOf_0 : decode cX1_keyOf 0 = .ok (.aload_n 0, 1) := by decide +kernel
theorem dX1_keyOf_1 : decode cX1_keyOf 1 = .ok (.iload_n 1, 1) := by decide +kernel
theorem dX1_keyOf_2 : decode cX1_keyOf 2 = .ok (.invokevirtual 59, 3) := by decide +kernel
theorem dX1_keyOf_5 : decode cX1_keyOf 5 = .ok (.ifCond .eq 12, 3) := by decide +kernel
theorem dX1_keyOf_8 : decode cX1_keyOf 8 = .ok (.aload_n 0, 1) := by decide +kernel
theorem dX1_keyOf_9 : decode cX1_keyOf 9 = .ok (.getfield 9, 3) := by decide +kernel
theorem dX1_keyOf_12 : decode cX1_keyOf 12 = .ok (.iload_n 1, 1) := by decide +kernel
theorem dX1_keyOf_13 : decode cX1_keyOf 13 = .ok (.iaload, 1) := by decide +kernel
theorem dX1_keyOf_14 : decode cX1_keyOf 14 = .ok (.goto 4, 3) := by decide +kernel
theorem dX1_keyOf_17 : decode cX1_keyOf 17 = .ok (.iconst (-1), 1) := by decide +kernel
theorem dX1_keyOf_18 : decode cX1_keyOf 18 = .ok (.ireturn, 1) := by decide +kernel
theorem dX1_add_0 : decode cX1_add 0 = .ok (.aload_n 0, 1) := by decide +kernel
theorem dX1_add_1 : decode cX1_add 1 = .ok (.getfield 44, 3) := by decide +kernel
theorem dX1_add_4 : decode cX1_add 4 = .ok (.bipush 60, 2) := by decide +kernel
theorem dX1_add_6 : decode cX1_add 6 = .ok (.if_icmp .lt 4, 3) := by decide +kernel
theorem dX1_add_9 : decode cX1_add 9 = .ok (.return_, 1) := by decide +kernel
theorem dX1_add_10 : decode cX1_add 10 = .ok (.aload_n 0, 1) := by decide +kernel
theorem dX1_add_11 : decode cX1_add 11 = .ok (.getfield 9, 3) := by decide +kernel
theorem dX1_add_14 : decode cX1_add 14 = .ok (.aload_n 0, 1) := by decide +kernel
theorem dX1_add_15 : decode cX1_add 15 = .ok (.getfield 44, 3) := by decide +kernel
theorem dX1_add_18 : decode cX1_add 18 = .ok (.iload_n 1, 1) := by decide +kernel
theorem dX1_add_19 : decode cX1_add 19 = .ok (.iastore, 1) := by decide +kernel
theorem dX1_add_20 : decode cX1_add 20 = .ok (.aload_n 0, 1) := by decide +kernel
theorem dX1_add_21 : decode cX1_add 21 = .ok (.getfield 15, 3) := by decide +kernel
theorem dX1_add_24 : decode cX1_add 24 = .ok (.aload_n 0, 1) := by decide +kernel
theorem dX1_add_25 : decode cX1_add 25 = .ok (.getfield 44, 3) := by decide +kernel
theorem dX1_add_28 : decode cX1_add 28 = .ok (.iload_n 2, 1) := by decide +kernel
theorem dX1_add_29 : decode cX1_add 29 = .ok (.iastore, 1) := by decide +kernel
theorem dX1_add_30 : decode cX1_add 30 = .ok (.aload_n 0, 1) := by decide +kernel
theorem dX1_add_31 : decode cX1_add 31 = .ok (.getfield 18, 3) := by decide +kernel
theorem dX1_add_34 : decode cX1_add 34 = .ok (.aload_n 0, 1) := by decide +kernel
theorem dX1_add_35 : decode cX1_add 35 = .ok (.getfield 44, 3) := by decide +kernel
theorem dX1_add_38 : decode cX1_add 38 = .ok (.iload_n 3, 1) := by decide +kernel
theorem dX1_add_39 : decode cX1_add 39 = .ok (.iastore, 1) := by decide +kernel
theorem dX1_add_40 : decode cX1_add 40 = .ok (.aload_n 0, 1) := by decide +kernel
theorem dX1_add_41 : decode cX1_add 41 = .ok (.getfield 21, 3) := by decide +kernel
theorem dX1_add_44 : decode cX1_add 44 = .ok (.aload_n 0, 1) := by decide +kernel
theorem dX1_add_45 : decode cX1_add 45 = .ok (.getfield 44, 3) := by decide +kernel
theorem dX1_add_48 : decode cX1_add 48 = .ok (.iconst 0, 1) := by decide +kernel
theorem dX1_add_49 : decode cX1_add 49 = .ok (.iastore, 1) := by decide +kernel
theorem dX1_add_50 : decode cX1_add 50 = .ok (.aload_n 0, 1) := by decide +kernel
theorem dX1_add_51 : decode cX1_add 51 = .ok (.getfield 24, 3) := by decide +kernel
theorem dX1_add_54 : decode cX1_add 54 = .ok (.aload_n 0, 1) := by decide +kernel
theorem dX1_add_55 : decode cX1_add 55 = .ok (.getfield 44, 3) := by decide +kernel
theorem dX1_add_58 : decode cX1_add 58 = .ok (.iconst 0, 1) := by decide +kernel
theorem dX1_add_59 : decode cX1_add 59 = .ok (.iastore, 1) := by decide +kernel
theorem dX1_add_60 : decode cX1_add 60 = .ok (.aload_n 0, 1) := by decide +kernel
theorem dX1_add_61 : decode cX1_add 61 = .ok (.getfield 27, 3) := by decide +kernel
theorem dX1_add_64 : decode cX1_add 64 = .ok (.aload_n 0, 1) := by decide +kernel
theorem dX1_add_65 : decode cX1_add 65 = .ok (.getfield 44, 3) := by decide +kernel
theorem dX1_add_68 : decode cX1_add 68 = .ok (.iload 4, 2) := by decide +kernel
theorem dX1_add_70 : decode cX1_add 70 = .ok (.iastore, 1) := by decide +kernel
theorem dX1_add_71 : decode cX1_add 71 = .ok (.aload_n 0, 1) := by decide +kernel
theorem dX1_add_72 : decode cX1_add 72 = .ok (.getfield 30, 3) := by decide +kernel
theorem dX1_add_75 : decode cX1_add 75 = .ok (.aload_n 0, 1) := by decide +kernel
theorem dX1_add_76 : decode cX1_add 76 = .ok (.getfield 44, 3) := by decide +kernel
theorem dX1_add_79 : decode cX1_add 79 = .ok (.iconst 0, 1) := by decide +kernel
theorem dX1_add_80 : decode cX1_add 80 = .ok (.bastore, 1) := by decide +kernel
theorem dX1_add_81 : decode cX1_add 81 = .ok (.aload_n 0, 1) := by decide +kernel
theorem dX1_add_82 : decode cX1_add 82 = .ok (.dup, 1) := by decide +kernel
theorem dX1_add_83 : decode cX1_add 83 = .ok (.getfield 44, 3) := by decide +kernel
theorem dX1_add_86 : decode cX1_add 86 = .ok (.iconst 1, 1) := by decide +kernel
theorem dX1_add_87 : decode cX1_add 87 = .ok (.iadd, 1) := by decide +kernel
theorem dX1_add_88 : decode cX1_add 88 = .ok (.putfield 44, 3) := by decide +kernel
theorem dX1_add_91 : decode cX1_add 91 = .ok (.aload_n 0, 1) := by decide +kernel
theorem dX1_add_92 : decode cX1_add 92 = .ok (.dup, 1) := by decide +kernel
theorem dX1_add_93 : decode cX1_add 93 = .ok (.getfield 47, 3) := by decide +kernel
theorem dX1_add_96 : decode cX1_add 96 = .ok (.iload_n 3, 1) := by decide +kernel
theorem dX1_add_97 : decode cX1_add 97 = .ok (.iadd, 1) := by decide +kernel
theorem dX1_add_98 : decode cX1_add 98 = .ok (.putfield 47, 3) := by decide +kernel
theorem dX1_add_101 : decode cX1_add 101 = .ok (.return_, 1) := by decide +kernel
theorem dX1_change_0 : decode cX1_change 0 = .ok (.aload_n 0, 1) := by decide +kernel
theorem dX1_change_1 : decode cX1_change 1 = .ok (.iload_n 1, 1) := by decide +kernel
theorem dX1_change_2 : decode cX1_change 2 = .ok (.invokevirtual 59, 3) := by decide +kernel
theorem dX1_change_5 : decode cX1_change 5 = .ok (.ifCond .ne 4, 3) := by decide +kernel
theorem dX1_change_8 : decode cX1_change 8 = .ok (.return_, 1) := by decide +kernel
theorem dX1_change_9 : decode cX1_change 9 = .ok (.iload_n 3, 1) := by decide +kernel
theorem dX1_change_10 : decode cX1_change 10 = .ok (.aload_n 0, 1) := by decide +kernel
theorem dX1_change_11 : decode cX1_change 11 = .ok (.getfield 18, 3) := by decide +kernel
theorem dX1_change_14 : decode cX1_change 14 = .ok (.iload_n 1, 1) := by decide +kernel
theorem dX1_change_15 : decode cX1_change 15 = .ok (.iaload, 1) := by decide +kernel
theorem dX1_change_16 : decode cX1_change 16 = .ok (.isub, 1) := by decide +kernel
theorem dX1_change_17 : decode cX1_change 17 = .ok (.istore 5, 2) := by decide +kernel
theorem dX1_change_19 : decode cX1_change 19 = .ok (.aload_n 0, 1) := by decide +kernel
theorem dX1_change_20 : decode cX1_change 20 = .ok (.dup, 1) := by decide +kernel
theorem dX1_change_21 : decode cX1_change 21 = .ok (.getfield 47, 3) := by decide +kernel
theorem dX1_change_24 : decode cX1_change 24 = .ok (.iload 5, 2) := by decide +kernel
theorem dX1_change_26 : decode cX1_change 26 = .ok (.iadd, 1) := by decide +kernel
theorem dX1_change_27 : decode cX1_change 27 = .ok (.putfield 47, 3) := by decide +kernel
theorem dX1_change_30 : decode cX1_change 30 = .ok (.aload_n 0, 1) := by decide +kernel
theorem dX1_change_31 : decode cX1_change 31 = .ok (.getfield 30, 3) := by decide +kernel
theorem dX1_change_34 : decode cX1_change 34 = .ok (.iload_n 1, 1) := by decide +kernel
theorem dX1_change_35 : decode cX1_change 35 = .ok (.baload, 1) := by decide +kernel
theorem dX1_change_36 : decode cX1_change 36 = .ok (.ifCond .eq 14, 3) := by decide +kernel
theorem dX1_change_39 : decode cX1_change 39 = .ok (.aload_n 0, 1) := by decide +kernel
theorem dX1_change_40 : decode cX1_change 40 = .ok (.dup, 1) := by decide +kernel
theorem dX1_change_41 : decode cX1_change 41 = .ok (.getfield 50, 3) := by decide +kernel
theorem dX1_change_44 : decode cX1_change 44 = .ok (.iload 5, 2) := by decide +kernel
theorem dX1_change_46 : decode cX1_change 46 = .ok (.iadd, 1) := by decide +kernel
theorem dX1_change_47 : decode cX1_change 47 = .ok (.putfield 50, 3) := by decide +kernel
theorem dX1_change_50 : decode cX1_change 50 = .ok (.aload_n 0, 1) := by decide +kernel
theorem dX1_change_51 : decode cX1_change 51 = .ok (.getfield 15, 3) := by decide +kernel
theorem dX1_change_54 : decode cX1_change 54 = .ok (.iload_n 1, 1) := by decide +kernel
theorem dX1_change_55 : decode cX1_change 55 = .ok (.iload_n 2, 1) := by decide +kernel
theorem dX1_change_56 : decode cX1_change 56 = .ok (.iastore, 1) := by decide +kernel
theorem dX1_change_57 : decode cX1_change 57 = .ok (.aload_n 0, 1) := by decide +kernel
theorem dX1_change_58 : decode cX1_change 58 = .ok (.getfield 18, 3) := by decide +kernel
theorem dX1_change_61 : decode cX1_change 61 = .ok (.iload_n 1, 1) := by decide +kernel
theorem dX1_change_62 : decode cX1_change 62 = .ok (.iload_n 3, 1) := by decide +kernel
theorem dX1_change_63 : decode cX1_change 63 = .ok (.iastore, 1) := by decide +kernel
theorem dX1_change_64 : decode cX1_change 64 = .ok (.aload_n 0, 1) := by decide +kernel
theorem dX1_change_65 : decode cX1_change 65 = .ok (.getfield 27, 3) := by decide +kernel
theorem dX1_change_68 : decode cX1_change 68 = .ok (.iload_n 1, 1) := by decide +kernel
theorem dX1_change_69 : decode cX1_change 69 = .ok (.iload 4, 2) := by decide +kernel
theorem dX1_change_71 : decode cX1_change 71 = .ok (.iastore, 1) := by decide +kernel
theorem dX1_change_72 : decode cX1_change 72 = .ok (.return_, 1) := by decide +kernel
theorem dX1_drop_0 : decode cX1_drop 0 = .ok (.aload_n 0, 1) := by decide +kernel
theorem dX1_drop_1 : decode cX1_drop 1 = .ok (.iload_n 1, 1) := by decide +kernel
theorem dX1_drop_2 : decode cX1_drop 2 = .ok (.invokevirtual 59, 3) := by decide +kernel
theorem dX1_drop_5 : decode cX1_drop 5 = .ok (.ifCond .ne 4, 3) := by decide +kernel
theorem dX1_drop_8 : decode cX1_drop 8 = .ok (.return_, 1) := by decide +kernel
theorem dX1_drop_9 : decode cX1_drop 9 = .ok (.aload_n 0, 1) := by decide +kernel
theorem dX1_drop_10 : decode cX1_drop 10 = .ok (.dup, 1) := by decide +kernel
theorem dX1_drop_11 : decode cX1_drop 11 = .ok (.getfield 47, 3) := by decide +kernel
theorem dX1_drop_14 : decode cX1_drop 14 = .ok (.aload_n 0, 1) := by decide +kernel
theorem dX1_drop_15 : decode cX1_drop 15 = .ok (.getfield 18, 3) := by decide +kernel
theorem dX1_drop_18 : decode cX1_drop 18 = .ok (.iload_n 1, 1) := by decide +kernel
theorem dX1_drop_19 : decode cX1_drop 19 = .ok (.iaload, 1) := by decide +kernel
theorem dX1_drop_20 : decode cX1_drop 20 = .ok (.isub, 1) := by decide +kernel
theorem dX1_drop_21 : decode cX1_drop 21 = .ok (.putfield 47, 3) := by decide +kernel
theorem dX1_drop_24 : decode cX1_drop 24 = .ok (.aload_n 0, 1) := by decide +kernel
theorem dX1_drop_25 : decode cX1_drop 25 = .ok (.getfield 30, 3) := by decide +kernel
theorem dX1_drop_28 : decode cX1_drop 28 = .ok (.iload_n 1, 1) := by decide +kernel
theorem dX1_drop_29 : decode cX1_drop 29 = .ok (.baload, 1) := by decide +kernel
theorem dX1_drop_30 : decode cX1_drop 30 = .ok (.ifCond .eq 18, 3) := by decide +kernel
theorem dX1_drop_33 : decode cX1_drop 33 = .ok (.aload_n 0, 1) := by decide +kernel
theorem dX1_drop_34 : decode cX1_drop 34 = .ok (.dup, 1) := by decide +kernel
theorem dX1_drop_35 : decode cX1_drop 35 = .ok (.getfield 50, 3) := by decide +kernel
theorem dX1_drop_38 : decode cX1_drop 38 = .ok (.aload_n 0, 1) := by decide +kernel
theorem dX1_drop_39 : decode cX1_drop 39 = .ok (.getfield 18, 3) := by decide +kernel
theorem dX1_drop_42 : decode cX1_drop 42 = .ok (.iload_n 1, 1) := by decide +kernel
theorem dX1_drop_43 : decode cX1_drop 43 = .ok (.iaload, 1) := by decide +kernel
theorem dX1_drop_44 : decode cX1_drop 44 = .ok (.isub, 1) := by decide +kernel
theorem dX1_drop_45 : decode cX1_drop 45 = .ok (.putfield 50, 3) := by decide +kernel
theorem dX1_drop_48 : decode cX1_drop 48 = .ok (.aload_n 0, 1) := by decide +kernel
theorem dX1_drop_49 : decode cX1_drop 49 = .ok (.dup, 1) := by decide +kernel
theorem dX1_drop_50 : decode cX1_drop 50 = .ok (.getfield 44, 3) := by decide +kernel
theorem dX1_drop_53 : decode cX1_drop 53 = .ok (.iconst 1, 1) := by decide +kernel
theorem dX1_drop_54 : decode cX1_drop 54 = .ok (.isub, 1) := by decide +kernel
theorem dX1_drop_55 : decode cX1_drop 55 = .ok (.putfield 44, 3) := by decide +kernel
theorem dX1_drop_58 : decode cX1_drop 58 = .ok (.aload_n 0, 1) := by decide +kernel
theorem dX1_drop_59 : decode cX1_drop 59 = .ok (.getfield 9, 3) := by decide +kernel
theorem dX1_drop_62 : decode cX1_drop 62 = .ok (.iload_n 1, 1) := by decide +kernel
theorem dX1_drop_63 : decode cX1_drop 63 = .ok (.aload_n 0, 1) := by decide +kernel
theorem dX1_drop_64 : decode cX1_drop 64 = .ok (.getfield 9, 3) := by decide +kernel
theorem dX1_drop_67 : decode cX1_drop 67 = .ok (.aload_n 0, 1) := by decide +kernel
theorem dX1_drop_68 : decode cX1_drop 68 = .ok (.getfield 44, 3) := by decide +kernel
theorem dX1_drop_71 : decode cX1_drop 71 = .ok (.iaload, 1) := by decide +kernel
theorem dX1_drop_72 : decode cX1_drop 72 = .ok (.iastore, 1) := by decide +kernel
theorem dX1_drop_73 : decode cX1_drop 73 = .ok (.aload_n 0, 1) := by decide +kernel
theorem dX1_drop_74 : decode cX1_drop 74 = .ok (.getfield 15, 3) := by decide +kernel
theorem dX1_drop_77 : decode cX1_drop 77 = .ok (.iload_n 1, 1) := by decide +kernel
theorem dX1_drop_78 : decode cX1_drop 78 = .ok (.aload_n 0, 1) := by decide +kernel
theorem dX1_drop_79 : decode cX1_drop 79 = .ok (.getfield 15, 3) := by decide +kernel
theorem dX1_drop_82 : decode cX1_drop 82 = .ok (.aload_n 0, 1) := by decide +kernel
theorem dX1_drop_83 : decode cX1_drop 83 = .ok (.getfield 44, 3) := by decide +kernel
theorem dX1_drop_86 : decode cX1_drop 86 = .ok (.iaload, 1) := by decide +kernel
theorem dX1_drop_87 : decode cX1_drop 87 = .ok (.iastore, 1) := by decide +kernel
theorem dX1_drop_88 : decode cX1_drop 88 = .ok (.aload_n 0, 1) := by decide +kernel
theorem dX1_drop_89 : decode cX1_drop 89 = .ok (.getfield 18, 3) := by decide +kernel
theorem dX1_drop_92 : decode cX1_drop 92 = .ok (.iload_n 1, 1) := by decide +kernel
theorem dX1_drop_93 : decode cX1_drop 93 = .ok (.aload_n 0, 1) := by decide +kernel
theorem dX1_drop_94 : decode cX1_drop 94 = .ok (.getfield 18, 3) := by decide +kernel
theorem dX1_drop_97 : decode cX1_drop 97 = .ok (.aload_n 0, 1) := by decide +kernel
theorem dX1_drop_98 : decode cX1_drop 98 = .ok (.getfield 44, 3) := by decide +kernel
theorem dX1_drop_101 : decode cX1_drop 101 = .ok (.iaload, 1) := by decide +kernel
theorem dX1_drop_102 : decode cX1_drop 102 = .ok (.iastore, 1) := by decide +kernel
theorem dX1_drop_103 : decode cX1_drop 103 = .ok (.aload_n 0, 1) := by decide +kernel
theorem dX1_drop_104 : decode cX1_drop 104 = .ok (.getfield 21, 3) := by decide +kernel
theorem dX1_drop_107 : decode cX1_drop 107 = .ok (.iload_n 1, 1) := by decide +kernel
theorem dX1_drop_108 : decode cX1_drop 108 = .ok (.aload_n 0, 1) := by decide +kernel
theorem dX1_drop_109 : decode cX1_drop 109 = .ok (.getfield 21, 3) := by decide +kernel
theorem dX1_drop_112 : decode cX1_drop 112 = .ok (.aload_n 0, 1) := by decide +kernel
theorem dX1_drop_113 : decode cX1_drop 113 = .ok (.getfield 44, 3) := by decide +kernel
theorem dX1_drop_116 : decode cX1_drop 116 = .ok (.iaload, 1) := by decide +kernel
theorem dX1_drop_117 : decode cX1_drop 117 = .ok (.iastore, 1) := by decide +kernel
theorem dX1_drop_118 : decode cX1_drop 118 = .ok (.aload_n 0, 1) := by decide +kernel
theorem dX1_drop_119 : decode cX1_drop 119 = .ok (.getfield 24, 3) := by decide +kernel
theorem dX1_drop_122 : decode cX1_drop 122 = .ok (.iload_n 1, 1) := by decide +kernel
theorem dX1_drop_123 : decode cX1_drop 123 = .ok (.aload_n 0, 1) := by decide +kernel
theorem dX1_drop_124 : decode cX1_drop 124 = .ok (.getfield 24, 3) := by decide +kernel
theorem dX1_drop_127 : decode cX1_drop 127 = .ok (.aload_n 0, 1) := by decide +kernel
theorem dX1_drop_128 : decode cX1_drop 128 = .ok (.getfield 44, 3) := by decide +kernel
theorem dX1_drop_131 : decode cX1_drop 131 = .ok (.iaload, 1) := by decide +kernel
theorem dX1_drop_132 : decode cX1_drop 132 = .ok (.iastore, 1) := by decide +kernel
theorem dX1_drop_133 : decode cX1_drop 133 = .ok (.aload_n 0, 1) := by decide +kernel
theorem dX1_drop_134 : decode cX1_drop 134 = .ok (.getfield 27, 3) := by decide +kernel
theorem dX1_drop_137 : decode cX1_drop 137 = .ok (.iload_n 1, 1) := by decide +kernel
theorem dX1_drop_138 : decode cX1_drop 138 = .ok (.aload_n 0, 1) := by decide +kernel
theorem dX1_drop_139 : decode cX1_drop 139 = .ok (.getfield 27, 3) := by decide +kernel
theorem dX1_drop_142 : decode cX1_drop 142 = .ok (.aload_n 0, 1) := by decide +kernel
theorem dX1_drop_143 : decode cX1_drop 143 = .ok (.getfield 44, 3) := by decide +kernel
theorem dX1_drop_146 : decode cX1_drop 146 = .ok (.iaload, 1) := by decide +kernel
theorem dX1_drop_147 : decode cX1_drop 147 = .ok (.iastore, 1) := by decide +kernel
theorem dX1_drop_148 : decode cX1_drop 148 = .ok (.aload_n 0, 1) := by decide +kernel
theorem dX1_drop_149 : decode cX1_drop 149 = .ok (.getfield 30, 3) := by decide +kernel
theorem dX1_drop_152 : decode cX1_drop 152 = .ok (.iload_n 1, 1) := by decide +kernel
theorem dX1_drop_153 : decode cX1_drop 153 = .ok (.aload_n 0, 1) := by decide +kernel
theorem dX1_drop_154 : decode cX1_drop 154 = .ok (.getfield 30, 3) := by decide +kernel
theorem dX1_drop_157 : decode cX1_drop 157 = .ok (.aload_n 0, 1) := by decide +kernel
theorem dX1_drop_158 : decode cX1_drop 158 = .ok (.getfield 44, 3) := by decide +kernel
theorem dX1_drop_161 : decode cX1_drop 161 = .ok (.baload, 1) := by decide +kernel
theorem dX1_drop_162 : decode cX1_drop 162 = .ok (.bastore, 1) := by decide +kernel
theorem dX1_drop_163 : decode cX1_drop 163 = .ok (.return_, 1) := by decide +kernel
theorem dX1_fasten_0 : decode cX1_fasten 0 = .ok (.aload_n 0, 1) := by decide +kernel
theorem dX1_fasten_1 : decode cX1_fasten 1 = .ok (.iload_n 1, 1) := by decide +kernel
theorem dX1_fasten_2 : decode cX1_fasten 2 = .ok (.invokevirtual 59, 3) := by decide +kernel
theorem dX1_fasten_5 : decode cX1_fasten 5 = .ok (.ifCond .eq 13, 3) := by decide +kernel
theorem dX1_fasten_8 : decode cX1_fasten 8 = .ok (.aload_n 0, 1) := by decide +kernel
theorem dX1_fasten_9 : decode cX1_fasten 9 = .ok (.getfield 30, 3) := by decide +kernel
theorem dX1_fasten_12 : decode cX1_fasten 12 = .ok (.iload_n 1, 1) := by decide +kernel
theorem dX1_fasten_13 : decode cX1_fasten 13 = .ok (.baload, 1) := by decide +kernel
theorem dX1_fasten_14 : decode cX1_fasten 14 = .ok (.iload_n 2, 1) := by decide +kernel
theorem dX1_fasten_15 : decode cX1_fasten 15 = .ok (.if_icmp .ne 5, 3) := by decide +kernel
theorem dX1_fasten_18 : decode cX1_fasten 18 = .ok (.iconst 0, 1) := by decide +kernel
theorem dX1_fasten_19 : decode cX1_fasten 19 = .ok (.ireturn, 1) := by decide +kernel
theorem dX1_fasten_20 : decode cX1_fasten 20 = .ok (.aload_n 0, 1) := by decide +kernel
theorem dX1_fasten_21 : decode cX1_fasten 21 = .ok (.getfield 30, 3) := by decide +kernel
theorem dX1_fasten_24 : decode cX1_fasten 24 = .ok (.iload_n 1, 1) := by decide +kernel
theorem dX1_fasten_25 : decode cX1_fasten 25 = .ok (.iload_n 2, 1) := by decide +kernel
theorem dX1_fasten_26 : decode cX1_fasten 26 = .ok (.bastore, 1) := by decide +kernel
theorem dX1_fasten_27 : decode cX1_fasten 27 = .ok (.aload_n 0, 1) := by decide +kernel
theorem dX1_fasten_28 : decode cX1_fasten 28 = .ok (.dup, 1) := by decide +kernel
theorem dX1_fasten_29 : decode cX1_fasten 29 = .ok (.getfield 50, 3) := by decide +kernel
theorem dX1_fasten_32 : decode cX1_fasten 32 = .ok (.iload_n 2, 1) := by decide +kernel
theorem dX1_fasten_33 : decode cX1_fasten 33 = .ok (.ifCond .eq 12, 3) := by decide +kernel
theorem dX1_fasten_36 : decode cX1_fasten 36 = .ok (.aload_n 0, 1) := by decide +kernel
theorem dX1_fasten_37 : decode cX1_fasten 37 = .ok (.getfield 18, 3) := by decide +kernel
theorem dX1_fasten_40 : decode cX1_fasten 40 = .ok (.iload_n 1, 1) := by decide +kernel
theorem dX1_fasten_41 : decode cX1_fasten 41 = .ok (.iaload, 1) := by decide +kernel
theorem dX1_fasten_42 : decode cX1_fasten 42 = .ok (.goto 10, 3) := by decide +kernel
theorem dX1_fasten_45 : decode cX1_fasten 45 = .ok (.aload_n 0, 1) := by decide +kernel
theorem dX1_fasten_46 : decode cX1_fasten 46 = .ok (.getfield 18, 3) := by decide +kernel
theorem dX1_fasten_49 : decode cX1_fasten 49 = .ok (.iload_n 1, 1) := by decide +kernel
theorem dX1_fasten_50 : decode cX1_fasten 50 = .ok (.iaload, 1) := by decide +kernel
theorem dX1_fasten_51 : decode cX1_fasten 51 = .ok (.ineg, 1) := by decide +kernel
theorem dX1_fasten_52 : decode cX1_fasten 52 = .ok (.iadd, 1) := by decide +kernel
theorem dX1_fasten_53 : decode cX1_fasten 53 = .ok (.putfield 50, 3) := by decide +kernel
theorem dX1_fasten_56 : decode cX1_fasten 56 = .ok (.iconst 1, 1) := by decide +kernel
theorem dX1_fasten_57 : decode cX1_fasten 57 = .ok (.ireturn, 1) := by decide +kernel
theorem dX1_use_0 : decode cX1_use 0 = .ok (.aload_n 0, 1) := by decide +kernel
theorem dX1_use_1 : decode cX1_use 1 = .ok (.iload_n 1, 1) := by decide +kernel
theorem dX1_use_2 : decode cX1_use 2 = .ok (.invokevirtual 59, 3) := by decide +kernel
theorem dX1_use_5 : decode cX1_use 5 = .ok (.ifCond .ne 4, 3) := by decide +kernel
theorem dX1_use_8 : decode cX1_use 8 = .ok (.return_, 1) := by decide +kernel
theorem dX1_use_9 : decode cX1_use 9 = .ok (.aload_n 0, 1) := by decide +kernel
theorem dX1_use_10 : decode cX1_use 10 = .ok (.dup, 1) := by decide +kernel
theorem dX1_use_11 : decode cX1_use 11 = .ok (.getfield 53, 3) := by decide +kernel
theorem dX1_use_14 : decode cX1_use 14 = .ok (.iconst 1, 1) := by decide +kernel
theorem dX1_use_15 : decode cX1_use 15 = .ok (.iadd, 1) := by decide +kernel
theorem dX1_use_16 : decode cX1_use 16 = .ok (.putfield 53, 3) := by decide +kernel
theorem dX1_use_19 : decode cX1_use 19 = .ok (.aload_n 0, 1) := by decide +kernel
theorem dX1_use_20 : decode cX1_use 20 = .ok (.getfield 24, 3) := by decide +kernel
theorem dX1_use_23 : decode cX1_use 23 = .ok (.iload_n 1, 1) := by decide +kernel
theorem dX1_use_24 : decode cX1_use 24 = .ok (.aload_n 0, 1) := by decide +kernel
theorem dX1_use_25 : decode cX1_use 25 = .ok (.getfield 53, 3) := by decide +kernel
theorem dX1_use_28 : decode cX1_use 28 = .ok (.iastore, 1) := by decide +kernel
theorem dX1_use_29 : decode cX1_use 29 = .ok (.aload_n 0, 1) := by decide +kernel
theorem dX1_use_30 : decode cX1_use 30 = .ok (.getfield 21, 3) := by decide +kernel
theorem dX1_use_33 : decode cX1_use 33 = .ok (.iload_n 1, 1) := by decide +kernel
theorem dX1_use_34 : decode cX1_use 34 = .ok (.aload_n 0, 1) := by decide +kernel
theorem dX1_use_35 : decode cX1_use 35 = .ok (.getfield 21, 3) := by decide +kernel
theorem dX1_use_38 : decode cX1_use 38 = .ok (.iload_n 1, 1) := by decide +kernel
theorem dX1_use_39 : decode cX1_use 39 = .ok (.iaload, 1) := by decide +kernel
theorem dX1_use_40 : decode cX1_use 40 = .ok (.iconst 1, 1) := by decide +kernel
theorem dX1_use_41 : decode cX1_use 41 = .ok (.iadd, 1) := by decide +kernel
theorem dX1_use_42 : decode cX1_use 42 = .ok (.ldc 63, 2) := by decide +kernel
theorem dX1_use_44 : decode cX1_use 44 = .ok (.invokestatic 64, 3) := by decide +kernel
theorem dX1_use_47 : decode cX1_use 47 = .ok (.iastore, 1) := by decide +kernel
theorem dX1_use_48 : decode cX1_use 48 = .ok (.aload_n 0, 1) := by decide +kernel
theorem dX1_use_49 : decode cX1_use 49 = .ok (.getfield 34, 3) := by decide +kernel
theorem dX1_use_52 : decode cX1_use 52 = .ok (.ifCond .le 19, 3) := by decide +kernel
theorem dX1_use_55 : decode cX1_use 55 = .ok (.aload_n 0, 1) := by decide +kernel
theorem dX1_use_56 : decode cX1_use 56 = .ok (.getfield 53, 3) := by decide +kernel
theorem dX1_use_59 : decode cX1_use 59 = .ok (.aload_n 0, 1) := by decide +kernel
theorem dX1_use_60 : decode cX1_use 60 = .ok (.getfield 34, 3) := by decide +kernel
theorem dX1_use_63 : decode cX1_use 63 = .ok (.irem, 1) := by decide +kernel
theorem dX1_use_64 : decode cX1_use 64 = .ok (.ifCond .ne 7, 3) := by decide +kernel
theorem dX1_use_67 : decode cX1_use 67 = .ok (.aload_n 0, 1) := by decide +kernel
theorem dX1_use_68 : decode cX1_use 68 = .ok (.invokevirtual 70, 3) := by decide +kernel
theorem dX1_use_71 : decode cX1_use 71 = .ok (.return_, 1) := by decide +kernel
theorem dX1_halve_0 : decode cX1_halve 0 = .ok (.iconst 0, 1) := by decide +kernel
theorem dX1_halve_1 : decode cX1_halve 1 = .ok (.istore_n 1, 1) := by decide +kernel
theorem dX1_halve_2 : decode cX1_halve 2 = .ok (.iload_n 1, 1) := by decide +kernel
theorem dX1_halve_3 : decode cX1_halve 3 = .ok (.aload_n 0, 1) := by decide +kernel
theorem dX1_halve_4 : decode cX1_halve 4 = .ok (.getfield 44, 3) := by decide +kernel
theorem dX1_halve_7 : decode cX1_halve 7 = .ok (.if_icmp .ge 27, 3) := by decide +kernel
theorem dX1_halve_10 : decode cX1_halve 10 = .ok (.aload_n 0, 1) := by decide +kernel
theorem dX1_halve_11 : decode cX1_halve 11 = .ok (.getfield 21, 3) := by decide +kernel
theorem dX1_halve_14 : decode cX1_halve 14 = .ok (.iload_n 1, 1) := by decide +kernel
theorem dX1_halve_15 : decode cX1_halve 15 = .ok (.aload_n 0, 1) := by decide +kernel
theorem dX1_halve_16 : decode cX1_halve 16 = .ok (.getfield 21, 3) := by decide +kernel
theorem dX1_halve_19 : decode cX1_halve 19 = .ok (.iload_n 1, 1) := by decide +kernel
theorem dX1_halve_20 : decode cX1_halve 20 = .ok (.iaload, 1) := by decide +kernel
theorem dX1_halve_21 : decode cX1_halve 21 = .ok (.iconst 2, 1) := by decide +kernel
theorem dX1_halve_22 : decode cX1_halve 22 = .ok (.idiv, 1) := by decide +kernel
theorem dX1_halve_23 : decode cX1_halve 23 = .ok (.iconst 1, 1) := by decide +kernel
theorem dX1_halve_24 : decode cX1_halve 24 = .ok (.invokestatic 73, 3) := by decide +kernel
theorem dX1_halve_27 : decode cX1_halve 27 = .ok (.iastore, 1) := by decide +kernel
theorem dX1_halve_28 : decode cX1_halve 28 = .ok (.iinc 1 1, 3) := by decide +kernel
theorem dX1_halve_31 : decode cX1_halve 31 = .ok (.goto (-29), 3) := by decide +kernel
theorem dX1_halve_34 : decode cX1_halve 34 = .ok (.aload_n 0, 1) := by decide +kernel
theorem dX1_halve_35 : decode cX1_halve 35 = .ok (.dup, 1) := by decide +kernel
theorem dX1_halve_36 : decode cX1_halve 36 = .ok (.getfield 56, 3) := by decide +kernel
theorem dX1_halve_39 : decode cX1_halve 39 = .ok (.iconst 1, 1) := by decide +kernel
theorem dX1_halve_40 : decode cX1_halve 40 = .ok (.iadd, 1) := by decide +kernel
theorem dX1_halve_41 : decode cX1_halve 41 = .ok (.putfield 56, 3) := by decide +kernel
theorem dX1_halve_44 : decode cX1_halve 44 = .ok (.return_, 1) := by decide +kernel
theorem dX1_precedes_0 : decode cX1_precedes 0 = .ok (.iload_n 1, 1) := by decide +kernel
theorem dX1_precedes_1 : decode cX1_precedes 1 = .ok (.iconst 1, 1) := by decide +kernel
theorem dX1_precedes_2 : decode cX1_precedes 2 = .ok (.if_icmp .ne 39, 3) := by decide +kernel
theorem dX1_precedes_5 : decode cX1_precedes 5 = .ok (.aload_n 0, 1) := by decide +kernel
theorem dX1_precedes_6 : decode cX1_precedes 6 = .ok (.getfield 21, 3) := by decide +kernel
theorem dX1_precedes_9 : decode cX1_precedes 9 = .ok (.iload_n 2, 1) := by decide +kernel
theorem dX1_precedes_10 : decode cX1_precedes 10 = .ok (.iaload, 1) := by decide +kernel
theorem dX1_precedes_11 : decode cX1_precedes 11 = .ok (.aload_n 0, 1) := by decide +kernel
theorem dX1_precedes_12 : decode cX1_precedes 12 = .ok (.getfield 21, 3) := by decide +kernel
theorem dX1_precedes_15 : decode cX1_precedes 15 = .ok (.iload_n 3, 1) := by decide +kernel
theorem dX1_precedes_16 : decode cX1_precedes 16 = .ok (.iaload, 1) := by decide +kernel
theorem dX1_precedes_17 : decode cX1_precedes 17 = .ok (.if_icmp .eq 24, 3) := by decide +kernel
theorem dX1_precedes_20 : decode cX1_precedes 20 = .ok (.aload_n 0, 1) := by decide +kernel
theorem dX1_precedes_21 : decode cX1_precedes 21 = .ok (.getfield 21, 3) := by decide +kernel
theorem dX1_precedes_24 : decode cX1_precedes 24 = .ok (.iload_n 2, 1) := by decide +kernel
theorem dX1_precedes_25 : decode cX1_precedes 25 = .ok (.iaload, 1) := by decide +kernel
theorem dX1_precedes_26 : decode cX1_precedes 26 = .ok (.aload_n 0, 1) := by decide +kernel
theorem dX1_precedes_27 : decode cX1_precedes 27 = .ok (.getfield 21, 3) := by decide +kernel
theorem dX1_precedes_30 : decode cX1_precedes 30 = .ok (.iload_n 3, 1) := by decide +kernel
theorem dX1_precedes_31 : decode cX1_precedes 31 = .ok (.iaload, 1) := by decide +kernel
theorem dX1_precedes_32 : decode cX1_precedes 32 = .ok (.if_icmp .ge 7, 3) := by decide +kernel
theorem dX1_precedes_35 : decode cX1_precedes 35 = .ok (.iconst 1, 1) := by decide +kernel
theorem dX1_precedes_36 : decode cX1_precedes 36 = .ok (.goto 4, 3) := by decide +kernel
theorem dX1_precedes_39 : decode cX1_precedes 39 = .ok (.iconst 0, 1) := by decide +kernel
theorem dX1_precedes_40 : decode cX1_precedes 40 = .ok (.ireturn, 1) := by decide +kernel
theorem dX1_precedes_41 : decode cX1_precedes 41 = .ok (.aload_n 0, 1) := by decide +kernel
theorem dX1_precedes_42 : decode cX1_precedes 42 = .ok (.getfield 24, 3) := by decide +kernel
theorem dX1_precedes_45 : decode cX1_precedes 45 = .ok (.iload_n 2, 1) := by decide +kernel
theorem dX1_precedes_46 : decode cX1_precedes 46 = .ok (.iaload, 1) := by decide +kernel
theorem dX1_precedes_47 : decode cX1_precedes 47 = .ok (.aload_n 0, 1) := by decide +kernel
theorem dX1_precedes_48 : decode cX1_precedes 48 = .ok (.getfield 24, 3) := by decide +kernel
theorem dX1_precedes_51 : decode cX1_precedes 51 = .ok (.iload_n 3, 1) := by decide +kernel
theorem dX1_precedes_52 : decode cX1_precedes 52 = .ok (.iaload, 1) := by decide +kernel
theorem dX1_precedes_53 : decode cX1_precedes 53 = .ok (.if_icmp .ge 7, 3) := by decide +kernel
theorem dX1_precedes_56 : decode cX1_precedes 56 = .ok (.iconst 1, 1) := by decide +kernel
theorem dX1_precedes_57 : decode cX1_precedes 57 = .ok (.goto 4, 3) := by decide +kernel
theorem dX1_precedes_60 : decode cX1_precedes 60 = .ok (.iconst 0, 1) := by decide +kernel
theorem dX1_precedes_61 : decode cX1_precedes 61 = .ok (.ireturn, 1) := by decide +kernel
theorem dX1_placeOf_0 : decode cX1_placeOf 0 = .ok (.iconst 0, 1) := by decide +kernel
theorem dX1_placeOf_1 : decode cX1_placeOf 1 = .ok (.istore_n 3, 1) := by decide +kernel
theorem dX1_placeOf_2 : decode cX1_placeOf 2 = .ok (.iconst 0, 1) := by decide +kernel
theorem dX1_placeOf_3 : decode cX1_placeOf 3 = .ok (.istore 4, 2) := by decide +kernel
theorem dX1_placeOf_5 : decode cX1_placeOf 5 = .ok (.iload 4, 2) := by decide +kernel
theorem dX1_placeOf_7 : decode cX1_placeOf 7 = .ok (.aload_n 0, 1) := by decide +kernel
theorem dX1_placeOf_8 : decode cX1_placeOf 8 = .ok (.getfield 44, 3) := by decide +kernel
theorem dX1_placeOf_11 : decode cX1_placeOf 11 = .ok (.if_icmp .ge 23, 3) := by decide +kernel
theorem dX1_placeOf_14 : decode cX1_placeOf 14 = .ok (.aload_n 0, 1) := by decide +kernel
theorem dX1_placeOf_15 : decode cX1_placeOf 15 = .ok (.iload_n 1, 1) := by decide +kernel
theorem dX1_placeOf_16 : decode cX1_placeOf 16 = .ok (.iload 4, 2) := by decide +kernel
theorem dX1_placeOf_18 : decode cX1_placeOf 18 = .ok (.iload_n 2, 1) := by decide +kernel
theorem dX1_placeOf_19 : decode cX1_placeOf 19 = .ok (.invokevirtual 76, 3) := by decide +kernel
theorem dX1_placeOf_22 : decode cX1_placeOf 22 = .ok (.ifCond .eq 6, 3) := by decide +kernel
theorem dX1_placeOf_25 : decode cX1_placeOf 25 = .ok (.iinc 3 1, 3) := by decide +kernel
theorem dX1_placeOf_28 : decode cX1_placeOf 28 = .ok (.iinc 4 1, 3) := by decide +kernel
theorem dX1_placeOf_31 : decode cX1_placeOf 31 = .ok (.goto (-26), 3) := by decide +kernel
theorem dX1_placeOf_34 : decode cX1_placeOf 34 = .ok (.iload_n 3, 1) := by decide +kernel
theorem dX1_placeOf_35 : decode cX1_placeOf 35 = .ok (.ireturn, 1) := by decide +kernel
theorem dX1_keyAt_0 : decode cX1_keyAt 0 = .ok (.iconst 0, 1) := by decide +kernel
theorem dX1_keyAt_1 : decode cX1_keyAt 1 = .ok (.istore_n 3, 1) := by decide +kernel
theorem dX1_keyAt_2 : decode cX1_keyAt 2 = .ok (.iload_n 3, 1) := by decide +kernel
theorem dX1_keyAt_3 : decode cX1_keyAt 3 = .ok (.aload_n 0, 1) := by decide +kernel
theorem dX1_keyAt_4 : decode cX1_keyAt 4 = .ok (.getfield 44, 3) := by decide +kernel
theorem dX1_keyAt_7 : decode cX1_keyAt 7 = .ok (.if_icmp .ge 26, 3) := by decide +kernel
theorem dX1_keyAt_10 : decode cX1_keyAt 10 = .ok (.aload_n 0, 1) := by decide +kernel
theorem dX1_keyAt_11 : decode cX1_keyAt 11 = .ok (.iload_n 1, 1) := by decide +kernel
theorem dX1_keyAt_12 : decode cX1_keyAt 12 = .ok (.iload_n 3, 1) := by decide +kernel
theorem dX1_keyAt_13 : decode cX1_keyAt 13 = .ok (.invokevirtual 80, 3) := by decide +kernel
theorem dX1_keyAt_16 : decode cX1_keyAt 16 = .ok (.iload_n 2, 1) := by decide +kernel
theorem dX1_keyAt_17 : decode cX1_keyAt 17 = .ok (.if_icmp .ne 10, 3) := by decide +kernel
theorem dX1_keyAt_20 : decode cX1_keyAt 20 = .ok (.aload_n 0, 1) := by decide +kernel
theorem dX1_keyAt_21 : decode cX1_keyAt 21 = .ok (.getfield 9, 3) := by decide +kernel
theorem dX1_keyAt_24 : decode cX1_keyAt 24 = .ok (.iload_n 3, 1) := by decide +kernel
theorem dX1_keyAt_25 : decode cX1_keyAt 25 = .ok (.iaload, 1) := by decide +kernel
theorem dX1_keyAt_26 : decode cX1_keyAt 26 = .ok (.ireturn, 1) := by decide +kernel
theorem dX1_keyAt_27 : decode cX1_keyAt 27 = .ok (.iinc 3 1, 3) := by decide +kernel
theorem dX1_keyAt_30 : decode cX1_keyAt 30 = .ok (.goto (-28), 3) := by decide +kernel
theorem dX1_keyAt_33 : decode cX1_keyAt 33 = .ok (.iconst (-1), 1) := by decide +kernel
theorem dX1_keyAt_34 : decode cX1_keyAt 34 = .ok (.ireturn, 1) := by decide +kernel
