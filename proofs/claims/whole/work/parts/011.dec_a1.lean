theorem dX1_weightsAhead_0 : decode cX1_weightsAhead 0 = .ok (.iload_n 2, 1) := by decide +kernel
theorem dX1_weightsAhead_1 : decode cX1_weightsAhead 1 = .ok (.aload_n 0, 1) := by decide +kernel
theorem dX1_weightsAhead_2 : decode cX1_weightsAhead 2 = .ok (.getfield 44, 3) := by decide +kernel
theorem dX1_weightsAhead_5 : decode cX1_weightsAhead 5 = .ok (.if_icmp .lt 8, 3) := by decide +kernel
theorem dX1_weightsAhead_8 : decode cX1_weightsAhead 8 = .ok (.aload_n 0, 1) := by decide +kernel
theorem dX1_weightsAhead_9 : decode cX1_weightsAhead 9 = .ok (.getfield 47, 3) := by decide +kernel
theorem dX1_weightsAhead_12 : decode cX1_weightsAhead 12 = .ok (.ireturn, 1) := by decide +kernel
theorem dX1_weightsAhead_13 : decode cX1_weightsAhead 13 = .ok (.iconst 0, 1) := by decide +kernel
theorem dX1_weightsAhead_14 : decode cX1_weightsAhead 14 = .ok (.istore_n 3, 1) := by decide +kernel
theorem dX1_weightsAhead_15 : decode cX1_weightsAhead 15 = .ok (.iconst 0, 1) := by decide +kernel
theorem dX1_weightsAhead_16 : decode cX1_weightsAhead 16 = .ok (.istore 4, 2) := by decide +kernel
theorem dX1_weightsAhead_18 : decode cX1_weightsAhead 18 = .ok (.iload 4, 2) := by decide +kernel
theorem dX1_weightsAhead_20 : decode cX1_weightsAhead 20 = .ok (.aload_n 0, 1) := by decide +kernel
theorem dX1_weightsAhead_21 : decode cX1_weightsAhead 21 = .ok (.getfield 44, 3) := by decide +kernel
theorem dX1_weightsAhead_24 : decode cX1_weightsAhead 24 = .ok (.if_icmp .ge 30, 3) := by decide +kernel
theorem dX1_weightsAhead_27 : decode cX1_weightsAhead 27 = .ok (.aload_n 0, 1) := by decide +kernel
theorem dX1_weightsAhead_28 : decode cX1_weightsAhead 28 = .ok (.iload_n 1, 1) := by decide +kernel
theorem dX1_weightsAhead_29 : decode cX1_weightsAhead 29 = .ok (.iload 4, 2) := by decide +kernel
theorem dX1_weightsAhead_31 : decode cX1_weightsAhead 31 = .ok (.invokevirtual 80, 3) := by decide +kernel
theorem dX1_weightsAhead_34 : decode cX1_weightsAhead 34 = .ok (.iload_n 2, 1) := by decide +kernel
theorem dX1_weightsAhead_35 : decode cX1_weightsAhead 35 = .ok (.if_icmp .ge 13, 3) := by decide +kernel
theorem dX1_weightsAhead_38 : decode cX1_weightsAhead 38 = .ok (.iload_n 3, 1) := by decide +kernel
theorem dX1_weightsAhead_39 : decode cX1_weightsAhead 39 = .ok (.aload_n 0, 1) := by decide +kernel
theorem dX1_weightsAhead_40 : decode cX1_weightsAhead 40 = .ok (.getfield 18, 3) := by decide +kernel
theorem dX1_weightsAhead_43 : decode cX1_weightsAhead 43 = .ok (.iload 4, 2) := by decide +kernel
theorem dX1_weightsAhead_45 : decode cX1_weightsAhead 45 = .ok (.iaload, 1) := by decide +kernel
theorem dX1_weightsAhead_46 : decode cX1_weightsAhead 46 = .ok (.iadd, 1) := by decide +kernel
theorem dX1_weightsAhead_47 : decode cX1_weightsAhead 47 = .ok (.istore_n 3, 1) := by decide +kernel
theorem dX1_weightsAhead_48 : decode cX1_weightsAhead 48 = .ok (.iinc 4 1, 3) := by decide +kernel
theorem dX1_weightsAhead_51 : decode cX1_weightsAhead 51 = .ok (.goto (-33), 3) := by decide +kernel
theorem dX1_weightsAhead_54 : decode cX1_weightsAhead 54 = .ok (.iload_n 3, 1) := by decide +kernel
theorem dX1_weightsAhead_55 : decode cX1_weightsAhead 55 = .ok (.ireturn, 1) := by decide +kernel
theorem dX1_mayGo_0 : decode cX1_mayGo 0 = .ok (.aload_n 0, 1) := by decide +kernel
theorem dX1_mayGo_1 : decode cX1_mayGo 1 = .ok (.getfield 30, 3) := by decide +kernel
theorem dX1_mayGo_4 : decode cX1_mayGo 4 = .ok (.iload_n 1, 1) := by decide +kernel
theorem dX1_mayGo_5 : decode cX1_mayGo 5 = .ok (.baload, 1) := by decide +kernel
theorem dX1_mayGo_6 : decode cX1_mayGo 6 = .ok (.ifCond .ne 17, 3) := by decide +kernel
theorem dX1_mayGo_9 : decode cX1_mayGo 9 = .ok (.aload_n 0, 1) := by decide +kernel
theorem dX1_mayGo_10 : decode cX1_mayGo 10 = .ok (.getfield 9, 3) := by decide +kernel
theorem dX1_mayGo_13 : decode cX1_mayGo 13 = .ok (.iload_n 1, 1) := by decide +kernel
theorem dX1_mayGo_14 : decode cX1_mayGo 14 = .ok (.iaload, 1) := by decide +kernel
theorem dX1_mayGo_15 : decode cX1_mayGo 15 = .ok (.iload_n 2, 1) := by decide +kernel
theorem dX1_mayGo_16 : decode cX1_mayGo 16 = .ok (.if_icmp .eq 7, 3) := by decide +kernel
theorem dX1_mayGo_19 : decode cX1_mayGo 19 = .ok (.iconst 1, 1) := by decide +kernel
theorem dX1_mayGo_20 : decode cX1_mayGo 20 = .ok (.goto 4, 3) := by decide +kernel
theorem dX1_mayGo_23 : decode cX1_mayGo 23 = .ok (.iconst 0, 1) := by decide +kernel
theorem dX1_mayGo_24 : decode cX1_mayGo 24 = .ok (.ireturn, 1) := by decide +kernel
theorem dX1_first_0 : decode cX1_first 0 = .ok (.iconst (-1), 1) := by decide +kernel
theorem dX1_first_1 : decode cX1_first 1 = .ok (.istore_n 3, 1) := by decide +kernel
theorem dX1_first_2 : decode cX1_first 2 = .ok (.iconst 0, 1) := by decide +kernel
theorem dX1_first_3 : decode cX1_first 3 = .ok (.istore 4, 2) := by decide +kernel
theorem dX1_first_5 : decode cX1_first 5 = .ok (.iload 4, 2) := by decide +kernel
theorem dX1_first_7 : decode cX1_first 7 = .ok (.aload_n 0, 1) := by decide +kernel
theorem dX1_first_8 : decode cX1_first 8 = .ok (.getfield 44, 3) := by decide +kernel
theorem dX1_first_11 : decode cX1_first 11 = .ok (.if_icmp .ge 38, 3) := by decide +kernel
theorem dX1_first_14 : decode cX1_first 14 = .ok (.aload_n 0, 1) := by decide +kernel
theorem dX1_first_15 : decode cX1_first 15 = .ok (.iload 4, 2) := by decide +kernel
theorem dX1_first_17 : decode cX1_first 17 = .ok (.iload_n 2, 1) := by decide +kernel
theorem dX1_first_18 : decode cX1_first 18 = .ok (.invokevirtual 83, 3) := by decide +kernel
theorem dX1_first_21 : decode cX1_first 21 = .ok (.ifCond .eq 22, 3) := by decide +kernel
theorem dX1_first_24 : decode cX1_first 24 = .ok (.iload_n 3, 1) := by decide +kernel
theorem dX1_first_25 : decode cX1_first 25 = .ok (.iconst (-1), 1) := by decide +kernel
theorem dX1_first_26 : decode cX1_first 26 = .ok (.if_icmp .eq 14, 3) := by decide +kernel
theorem dX1_first_29 : decode cX1_first 29 = .ok (.aload_n 0, 1) := by decide +kernel
theorem dX1_first_30 : decode cX1_first 30 = .ok (.iload_n 1, 1) := by decide +kernel
theorem dX1_first_31 : decode cX1_first 31 = .ok (.iload 4, 2) := by decide +kernel
theorem dX1_first_33 : decode cX1_first 33 = .ok (.iload_n 3, 1) := by decide +kernel
theorem dX1_first_34 : decode cX1_first 34 = .ok (.invokevirtual 76, 3) := by decide +kernel
theorem dX1_first_37 : decode cX1_first 37 = .ok (.ifCond .eq 6, 3) := by decide +kernel
theorem dX1_first_40 : decode cX1_first 40 = .ok (.iload 4, 2) := by decide +kernel
theorem dX1_first_42 : decode cX1_first 42 = .ok (.istore_n 3, 1) := by decide +kernel
theorem dX1_first_43 : decode cX1_first 43 = .ok (.iinc 4 1, 3) := by decide +kernel
theorem dX1_first_46 : decode cX1_first 46 = .ok (.goto (-41), 3) := by decide +kernel
theorem dX1_first_49 : decode cX1_first 49 = .ok (.iload_n 3, 1) := by decide +kernel
theorem dX1_first_50 : decode cX1_first 50 = .ok (.ireturn, 1) := by decide +kernel
theorem dX1_heaviest_0 : decode cX1_heaviest 0 = .ok (.iconst (-1), 1) := by decide +kernel
theorem dX1_heaviest_1 : decode cX1_heaviest 1 = .ok (.istore_n 2, 1) := by decide +kernel
theorem dX1_heaviest_2 : decode cX1_heaviest 2 = .ok (.iconst 0, 1) := by decide +kernel
theorem dX1_heaviest_3 : decode cX1_heaviest 3 = .ok (.istore_n 3, 1) := by decide +kernel
theorem dX1_heaviest_4 : decode cX1_heaviest 4 = .ok (.iload_n 3, 1) := by decide +kernel
theorem dX1_heaviest_5 : decode cX1_heaviest 5 = .ok (.aload_n 0, 1) := by decide +kernel
theorem dX1_heaviest_6 : decode cX1_heaviest 6 = .ok (.getfield 44, 3) := by decide +kernel
theorem dX1_heaviest_9 : decode cX1_heaviest 9 = .ok (.if_icmp .ge 70, 3) := by decide +kernel
theorem dX1_heaviest_12 : decode cX1_heaviest 12 = .ok (.aload_n 0, 1) := by decide +kernel
theorem dX1_heaviest_13 : decode cX1_heaviest 13 = .ok (.iload_n 3, 1) := by decide +kernel
theorem dX1_heaviest_14 : decode cX1_heaviest 14 = .ok (.iload_n 1, 1) := by decide +kernel
theorem dX1_heaviest_15 : decode cX1_heaviest 15 = .ok (.invokevirtual 83, 3) := by decide +kernel
theorem dX1_heaviest_18 : decode cX1_heaviest 18 = .ok (.ifCond .eq 55, 3) := by decide +kernel
theorem dX1_heaviest_21 : decode cX1_heaviest 21 = .ok (.iload_n 2, 1) := by decide +kernel
theorem dX1_heaviest_22 : decode cX1_heaviest 22 = .ok (.iconst (-1), 1) := by decide +kernel
theorem dX1_heaviest_23 : decode cX1_heaviest 23 = .ok (.if_icmp .eq 48, 3) := by decide +kernel
theorem dX1_heaviest_26 : decode cX1_heaviest 26 = .ok (.aload_n 0, 1) := by decide +kernel
theorem dX1_heaviest_27 : decode cX1_heaviest 27 = .ok (.getfield 18, 3) := by decide +kernel
theorem dX1_heaviest_30 : decode cX1_heaviest 30 = .ok (.iload_n 3, 1) := by decide +kernel
theorem dX1_heaviest_31 : decode cX1_heaviest 31 = .ok (.iaload, 1) := by decide +kernel
theorem dX1_heaviest_32 : decode cX1_heaviest 32 = .ok (.aload_n 0, 1) := by decide +kernel
theorem dX1_heaviest_33 : decode cX1_heaviest 33 = .ok (.getfield 18, 3) := by decide +kernel
theorem dX1_heaviest_36 : decode cX1_heaviest 36 = .ok (.iload_n 2, 1) := by decide +kernel
theorem dX1_heaviest_37 : decode cX1_heaviest 37 = .ok (.iaload, 1) := by decide +kernel
theorem dX1_heaviest_38 : decode cX1_heaviest 38 = .ok (.if_icmp .gt 33, 3) := by decide +kernel
theorem dX1_heaviest_41 : decode cX1_heaviest 41 = .ok (.aload_n 0, 1) := by decide +kernel
theorem dX1_heaviest_42 : decode cX1_heaviest 42 = .ok (.getfield 18, 3) := by decide +kernel
theorem dX1_heaviest_45 : decode cX1_heaviest 45 = .ok (.iload_n 3, 1) := by decide +kernel
theorem dX1_heaviest_46 : decode cX1_heaviest 46 = .ok (.iaload, 1) := by decide +kernel
theorem dX1_heaviest_47 : decode cX1_heaviest 47 = .ok (.aload_n 0, 1) := by decide +kernel
theorem dX1_heaviest_48 : decode cX1_heaviest 48 = .ok (.getfield 18, 3) := by decide +kernel
theorem dX1_heaviest_51 : decode cX1_heaviest 51 = .ok (.iload_n 2, 1) := by decide +kernel
theorem dX1_heaviest_52 : decode cX1_heaviest 52 = .ok (.iaload, 1) := by decide +kernel
theorem dX1_heaviest_53 : decode cX1_heaviest 53 = .ok (.if_icmp .ne 20, 3) := by decide +kernel
theorem dX1_heaviest_56 : decode cX1_heaviest 56 = .ok (.aload_n 0, 1) := by decide +kernel
theorem dX1_heaviest_57 : decode cX1_heaviest 57 = .ok (.getfield 24, 3) := by decide +kernel
theorem dX1_heaviest_60 : decode cX1_heaviest 60 = .ok (.iload_n 3, 1) := by decide +kernel
theorem dX1_heaviest_61 : decode cX1_heaviest 61 = .ok (.iaload, 1) := by decide +kernel
theorem dX1_heaviest_62 : decode cX1_heaviest 62 = .ok (.aload_n 0, 1) := by decide +kernel
theorem dX1_heaviest_63 : decode cX1_heaviest 63 = .ok (.getfield 24, 3) := by decide +kernel
theorem dX1_heaviest_66 : decode cX1_heaviest 66 = .ok (.iload_n 2, 1) := by decide +kernel
theorem dX1_heaviest_67 : decode cX1_heaviest 67 = .ok (.iaload, 1) := by decide +kernel
theorem dX1_heaviest_68 : decode cX1_heaviest 68 = .ok (.if_icmp .ge 5, 3) := by decide +kernel
theorem dX1_heaviest_71 : decode cX1_heaviest 71 = .ok (.iload_n 3, 1) := by decide +kernel
theorem dX1_heaviest_72 : decode cX1_heaviest 72 = .ok (.istore_n 2, 1) := by decide +kernel
theorem dX1_heaviest_73 : decode cX1_heaviest 73 = .ok (.iinc 3 1, 3) := by decide +kernel
theorem dX1_heaviest_76 : decode cX1_heaviest 76 = .ok (.goto (-72), 3) := by decide +kernel
theorem dX1_heaviest_79 : decode cX1_heaviest 79 = .ok (.iload_n 2, 1) := by decide +kernel
theorem dX1_heaviest_80 : decode cX1_heaviest 80 = .ok (.ireturn, 1) := by decide +kernel
theorem dX1_isYoung_0 : decode cX1_isYoung 0 = .ok (.aload_n 0, 1) := by decide +kernel
theorem dX1_isYoung_1 : decode cX1_isYoung 1 = .ok (.getfield 21, 3) := by decide +kernel
theorem dX1_isYoung_4 : decode cX1_isYoung 4 = .ok (.iload_n 1, 1) := by decide +kernel
theorem dX1_isYoung_5 : decode cX1_isYoung 5 = .ok (.iaload, 1) := by decide +kernel
theorem dX1_isYoung_6 : decode cX1_isYoung 6 = .ok (.iconst 1, 1) := by decide +kernel
theorem dX1_isYoung_7 : decode cX1_isYoung 7 = .ok (.if_icmp .ne 7, 3) := by decide +kernel
theorem dX1_isYoung_10 : decode cX1_isYoung 10 = .ok (.iconst 1, 1) := by decide +kernel
theorem dX1_isYoung_11 : decode cX1_isYoung 11 = .ok (.goto 4, 3) := by decide +kernel
theorem dX1_isYoung_14 : decode cX1_isYoung 14 = .ok (.iconst 0, 1) := by decide +kernel
theorem dX1_isYoung_15 : decode cX1_isYoung 15 = .ok (.ireturn, 1) := by decide +kernel
theorem dX1_firstOfAge_0 : decode cX1_firstOfAge 0 = .ok (.iconst (-1), 1) := by decide +kernel
theorem dX1_firstOfAge_1 : decode cX1_firstOfAge 1 = .ok (.istore_n 3, 1) := by decide +kernel
theorem dX1_firstOfAge_2 : decode cX1_firstOfAge 2 = .ok (.iconst 0, 1) := by decide +kernel
theorem dX1_firstOfAge_3 : decode cX1_firstOfAge 3 = .ok (.istore 4, 2) := by decide +kernel
theorem dX1_firstOfAge_5 : decode cX1_firstOfAge 5 = .ok (.iload 4, 2) := by decide +kernel
theorem dX1_firstOfAge_7 : decode cX1_firstOfAge 7 = .ok (.aload_n 0, 1) := by decide +kernel
theorem dX1_firstOfAge_8 : decode cX1_firstOfAge 8 = .ok (.getfield 44, 3) := by decide +kernel
theorem dX1_firstOfAge_11 : decode cX1_firstOfAge 11 = .ok (.if_icmp .ge 53, 3) := by decide +kernel
theorem dX1_firstOfAge_14 : decode cX1_firstOfAge 14 = .ok (.aload_n 0, 1) := by decide +kernel
theorem dX1_firstOfAge_15 : decode cX1_firstOfAge 15 = .ok (.iload 4, 2) := by decide +kernel
theorem dX1_firstOfAge_17 : decode cX1_firstOfAge 17 = .ok (.invokevirtual 87, 3) := by decide +kernel
theorem dX1_firstOfAge_20 : decode cX1_firstOfAge 20 = .ok (.iload_n 1, 1) := by decide +kernel
theorem dX1_firstOfAge_21 : decode cX1_firstOfAge 21 = .ok (.if_icmp .ne 37, 3) := by decide +kernel
theorem dX1_firstOfAge_24 : decode cX1_firstOfAge 24 = .ok (.aload_n 0, 1) := by decide +kernel
theorem dX1_firstOfAge_25 : decode cX1_firstOfAge 25 = .ok (.iload 4, 2) := by decide +kernel
theorem dX1_firstOfAge_27 : decode cX1_firstOfAge 27 = .ok (.iload_n 2, 1) := by decide +kernel
theorem dX1_firstOfAge_28 : decode cX1_firstOfAge 28 = .ok (.invokevirtual 83, 3) := by decide +kernel
theorem dX1_firstOfAge_31 : decode cX1_firstOfAge 31 = .ok (.ifCond .eq 27, 3) := by decide +kernel
theorem dX1_firstOfAge_34 : decode cX1_firstOfAge 34 = .ok (.iload_n 3, 1) := by decide +kernel
theorem dX1_firstOfAge_35 : decode cX1_firstOfAge 35 = .ok (.iconst (-1), 1) := by decide +kernel
theorem dX1_firstOfAge_36 : decode cX1_firstOfAge 36 = .ok (.if_icmp .eq 19, 3) := by decide +kernel
theorem dX1_firstOfAge_39 : decode cX1_firstOfAge 39 = .ok (.aload_n 0, 1) := by decide +kernel
theorem dX1_firstOfAge_40 : decode cX1_firstOfAge 40 = .ok (.getfield 24, 3) := by decide +kernel
theorem dX1_firstOfAge_43 : decode cX1_firstOfAge 43 = .ok (.iload 4, 2) := by decide +kernel
theorem dX1_firstOfAge_45 : decode cX1_firstOfAge 45 = .ok (.iaload, 1) := by decide +kernel
theorem dX1_firstOfAge_46 : decode cX1_firstOfAge 46 = .ok (.aload_n 0, 1) := by decide +kernel
theorem dX1_firstOfAge_47 : decode cX1_firstOfAge 47 = .ok (.getfield 24, 3) := by decide +kernel
theorem dX1_firstOfAge_50 : decode cX1_firstOfAge 50 = .ok (.iload_n 3, 1) := by decide +kernel
theorem dX1_firstOfAge_51 : decode cX1_firstOfAge 51 = .ok (.iaload, 1) := by decide +kernel
theorem dX1_firstOfAge_52 : decode cX1_firstOfAge 52 = .ok (.if_icmp .ge 6, 3) := by decide +kernel
theorem dX1_firstOfAge_55 : decode cX1_firstOfAge 55 = .ok (.iload 4, 2) := by decide +kernel
theorem dX1_firstOfAge_57 : decode cX1_firstOfAge 57 = .ok (.istore_n 3, 1) := by decide +kernel
theorem dX1_firstOfAge_58 : decode cX1_firstOfAge 58 = .ok (.iinc 4 1, 3) := by decide +kernel
theorem dX1_firstOfAge_61 : decode cX1_firstOfAge 61 = .ok (.goto (-56), 3) := by decide +kernel
theorem dX1_firstOfAge_64 : decode cX1_firstOfAge 64 = .ok (.iload_n 3, 1) := by decide +kernel
theorem dX1_firstOfAge_65 : decode cX1_firstOfAge 65 = .ok (.ireturn, 1) := by decide +kernel
theorem dX1_youngLoad_0 : decode cX1_youngLoad 0 = .ok (.aload_n 0, 1) := by decide +kernel
theorem dX1_youngLoad_1 : decode cX1_youngLoad 1 = .ok (.iconst 1, 1) := by decide +kernel
theorem dX1_youngLoad_2 : decode cX1_youngLoad 2 = .ok (.invokevirtual 90, 3) := by decide +kernel
theorem dX1_youngLoad_5 : decode cX1_youngLoad 5 = .ok (.ireturn, 1) := by decide +kernel
theorem dX1_weightsOf_0 : decode cX1_weightsOf 0 = .ok (.iconst 0, 1) := by decide +kernel
theorem dX1_weightsOf_1 : decode cX1_weightsOf 1 = .ok (.istore_n 2, 1) := by decide +kernel
theorem dX1_weightsOf_2 : decode cX1_weightsOf 2 = .ok (.iconst 0, 1) := by decide +kernel
theorem dX1_weightsOf_3 : decode cX1_weightsOf 3 = .ok (.istore_n 3, 1) := by decide +kernel
theorem dX1_weightsOf_4 : decode cX1_weightsOf 4 = .ok (.iload_n 3, 1) := by decide +kernel
theorem dX1_weightsOf_5 : decode cX1_weightsOf 5 = .ok (.aload_n 0, 1) := by decide +kernel
theorem dX1_weightsOf_6 : decode cX1_weightsOf 6 = .ok (.getfield 44, 3) := by decide +kernel
theorem dX1_weightsOf_9 : decode cX1_weightsOf 9 = .ok (.if_icmp .ge 28, 3) := by decide +kernel
theorem dX1_weightsOf_12 : decode cX1_weightsOf 12 = .ok (.aload_n 0, 1) := by decide +kernel
theorem dX1_weightsOf_13 : decode cX1_weightsOf 13 = .ok (.getfield 21, 3) := by decide +kernel
theorem dX1_weightsOf_16 : decode cX1_weightsOf 16 = .ok (.iload_n 3, 1) := by decide +kernel
theorem dX1_weightsOf_17 : decode cX1_weightsOf 17 = .ok (.iaload, 1) := by decide +kernel
theorem dX1_weightsOf_18 : decode cX1_weightsOf 18 = .ok (.iload_n 1, 1) := by decide +kernel
theorem dX1_weightsOf_19 : decode cX1_weightsOf 19 = .ok (.if_icmp .ne 12, 3) := by decide +kernel
theorem dX1_weightsOf_22 : decode cX1_weightsOf 22 = .ok (.iload_n 2, 1) := by decide +kernel
theorem dX1_weightsOf_23 : decode cX1_weightsOf 23 = .ok (.aload_n 0, 1) := by decide +kernel
theorem dX1_weightsOf_24 : decode cX1_weightsOf 24 = .ok (.getfield 18, 3) := by decide +kernel
theorem dX1_weightsOf_27 : decode cX1_weightsOf 27 = .ok (.iload_n 3, 1) := by decide +kernel
theorem dX1_weightsOf_28 : decode cX1_weightsOf 28 = .ok (.iaload, 1) := by decide +kernel
theorem dX1_weightsOf_29 : decode cX1_weightsOf 29 = .ok (.iadd, 1) := by decide +kernel
theorem dX1_weightsOf_30 : decode cX1_weightsOf 30 = .ok (.istore_n 2, 1) := by decide +kernel
theorem dX1_weightsOf_31 : decode cX1_weightsOf 31 = .ok (.iinc 3 1, 3) := by decide +kernel
theorem dX1_weightsOf_34 : decode cX1_weightsOf 34 = .ok (.goto (-30), 3) := by decide +kernel
theorem dX1_weightsOf_37 : decode cX1_weightsOf 37 = .ok (.iload_n 2, 1) := by decide +kernel
theorem dX1_weightsOf_38 : decode cX1_weightsOf 38 = .ok (.ireturn, 1) := by decide +kernel
theorem dX1_howManyOf_0 : decode cX1_howManyOf 0 = .ok (.iconst 0, 1) := by decide +kernel
theorem dX1_howManyOf_1 : decode cX1_howManyOf 1 = .ok (.istore_n 2, 1) := by decide +kernel
theorem dX1_howManyOf_2 : decode cX1_howManyOf 2 = .ok (.iconst 0, 1) := by decide +kernel
theorem dX1_howManyOf_3 : decode cX1_howManyOf 3 = .ok (.istore_n 3, 1) := by decide +kernel
theorem dX1_howManyOf_4 : decode cX1_howManyOf 4 = .ok (.iload_n 3, 1) := by decide +kernel
theorem dX1_howManyOf_5 : decode cX1_howManyOf 5 = .ok (.aload_n 0, 1) := by decide +kernel
theorem dX1_howManyOf_6 : decode cX1_howManyOf 6 = .ok (.getfield 44, 3) := by decide +kernel
theorem dX1_howManyOf_9 : decode cX1_howManyOf 9 = .ok (.if_icmp .ge 22, 3) := by decide +kernel
theorem dX1_howManyOf_12 : decode cX1_howManyOf 12 = .ok (.aload_n 0, 1) := by decide +kernel
theorem dX1_howManyOf_13 : decode cX1_howManyOf 13 = .ok (.getfield 21, 3) := by decide +kernel
theorem dX1_howManyOf_16 : decode cX1_howManyOf 16 = .ok (.iload_n 3, 1) := by decide +kernel
theorem dX1_howManyOf_17 : decode cX1_howManyOf 17 = .ok (.iaload, 1) := by decide +kernel
theorem dX1_howManyOf_18 : decode cX1_howManyOf 18 = .ok (.iload_n 1, 1) := by decide +kernel
theorem dX1_howManyOf_19 : decode cX1_howManyOf 19 = .ok (.if_icmp .ne 6, 3) := by decide +kernel
theorem dX1_howManyOf_22 : decode cX1_howManyOf 22 = .ok (.iinc 2 1, 3) := by decide +kernel
theorem dX1_howManyOf_25 : decode cX1_howManyOf 25 = .ok (.iinc 3 1, 3) := by decide +kernel
theorem dX1_howManyOf_28 : decode cX1_howManyOf 28 = .ok (.goto (-24), 3) := by decide +kernel
theorem dX1_howManyOf_31 : decode cX1_howManyOf 31 = .ok (.iload_n 2, 1) := by decide +kernel
theorem dX1_howManyOf_32 : decode cX1_howManyOf 32 = .ok (.ireturn, 1) := by decide +kernel
theorem dX1_countAbove_0 : decode cX1_countAbove 0 = .ok (.iconst (-1), 1) := by decide +kernel
theorem dX1_countAbove_1 : decode cX1_countAbove 1 = .ok (.istore_n 2, 1) := by decide +kernel
theorem dX1_countAbove_2 : decode cX1_countAbove 2 = .ok (.iconst 0, 1) := by decide +kernel
theorem dX1_countAbove_3 : decode cX1_countAbove 3 = .ok (.istore_n 3, 1) := by decide +kernel
theorem dX1_countAbove_4 : decode cX1_countAbove 4 = .ok (.iload_n 3, 1) := by decide +kernel
theorem dX1_countAbove_5 : decode cX1_countAbove 5 = .ok (.aload_n 0, 1) := by decide +kernel
theorem dX1_countAbove_6 : decode cX1_countAbove 6 = .ok (.getfield 44, 3) := by decide +kernel
theorem dX1_countAbove_9 : decode cX1_countAbove 9 = .ok (.if_icmp .ge 41, 3) := by decide +kernel
theorem dX1_countAbove_12 : decode cX1_countAbove 12 = .ok (.aload_n 0, 1) := by decide +kernel
theorem dX1_countAbove_13 : decode cX1_countAbove 13 = .ok (.getfield 21, 3) := by decide +kernel
theorem dX1_countAbove_16 : decode cX1_countAbove 16 = .ok (.iload_n 3, 1) := by decide +kernel
theorem dX1_countAbove_17 : decode cX1_countAbove 17 = .ok (.iaload, 1) := by decide +kernel
theorem dX1_countAbove_18 : decode cX1_countAbove 18 = .ok (.iload_n 1, 1) := by decide +kernel
theorem dX1_countAbove_19 : decode cX1_countAbove 19 = .ok (.if_icmp .le 25, 3) := by decide +kernel
theorem dX1_countAbove_22 : decode cX1_countAbove 22 = .ok (.iload_n 2, 1) := by decide +kernel
theorem dX1_countAbove_23 : decode cX1_countAbove 23 = .ok (.iconst (-1), 1) := by decide +kernel
theorem dX1_countAbove_24 : decode cX1_countAbove 24 = .ok (.if_icmp .eq 13, 3) := by decide +kernel
theorem dX1_countAbove_27 : decode cX1_countAbove 27 = .ok (.aload_n 0, 1) := by decide +kernel
theorem dX1_countAbove_28 : decode cX1_countAbove 28 = .ok (.getfield 21, 3) := by decide +kernel
theorem dX1_countAbove_31 : decode cX1_countAbove 31 = .ok (.iload_n 3, 1) := by decide +kernel
theorem dX1_countAbove_32 : decode cX1_countAbove 32 = .ok (.iaload, 1) := by decide +kernel
theorem dX1_countAbove_33 : decode cX1_countAbove 33 = .ok (.iload_n 2, 1) := by decide +kernel
theorem dX1_countAbove_34 : decode cX1_countAbove 34 = .ok (.if_icmp .ge 10, 3) := by decide +kernel
theorem dX1_countAbove_37 : decode cX1_countAbove 37 = .ok (.aload_n 0, 1) := by decide +kernel
theorem dX1_countAbove_38 : decode cX1_countAbove 38 = .ok (.getfield 21, 3) := by decide +kernel
theorem dX1_countAbove_41 : decode cX1_countAbove 41 = .ok (.iload_n 3, 1) := by decide +kernel
theorem dX1_countAbove_42 : decode cX1_countAbove 42 = .ok (.iaload, 1) := by decide +kernel
theorem dX1_countAbove_43 : decode cX1_countAbove 43 = .ok (.istore_n 2, 1) := by decide +kernel
theorem dX1_countAbove_44 : decode cX1_countAbove 44 = .ok (.iinc 3 1, 3) := by decide +kernel
theorem dX1_countAbove_47 : decode cX1_countAbove 47 = .ok (.goto (-43), 3) := by decide +kernel
theorem dX1_countAbove_50 : decode cX1_countAbove 50 = .ok (.iload_n 2, 1) := by decide +kernel
theorem dX1_countAbove_51 : decode cX1_countAbove 51 = .ok (.ireturn, 1) := by decide +kernel
theorem dX1_countAt_0 : decode cX1_countAt 0 = .ok (.iload_n 1, 1) := by decide +kernel
theorem dX1_countAt_1 : decode cX1_countAt 1 = .ok (.ifCond .lt 11, 3) := by decide +kernel
theorem dX1_countAt_4 : decode cX1_countAt 4 = .ok (.iload_n 1, 1) := by decide +kernel
theorem dX1_countAt_5 : decode cX1_countAt 5 = .ok (.aload_n 0, 1) := by decide +kernel
theorem dX1_countAt_6 : decode cX1_countAt 6 = .ok (.getfield 44, 3) := by decide +kernel
theorem dX1_countAt_9 : decode cX1_countAt 9 = .ok (.if_icmp .lt 5, 3) := by decide +kernel
theorem dX1_countAt_12 : decode cX1_countAt 12 = .ok (.iconst (-1), 1) := by decide +kernel
theorem dX1_countAt_13 : decode cX1_countAt 13 = .ok (.ireturn, 1) := by decide +kernel
theorem dX1_countAt_14 : decode cX1_countAt 14 = .ok (.aload_n 0, 1) := by decide +kernel
theorem dX1_countAt_15 : decode cX1_countAt 15 = .ok (.iconst 0, 1) := by decide +kernel
theorem dX1_countAt_16 : decode cX1_countAt 16 = .ok (.invokevirtual 94, 3) := by decide +kernel
theorem dX1_countAt_19 : decode cX1_countAt 19 = .ok (.istore_n 2, 1) := by decide +kernel
theorem dX1_countAt_20 : decode cX1_countAt 20 = .ok (.iconst 0, 1) := by decide +kernel
theorem dX1_countAt_21 : decode cX1_countAt 21 = .ok (.istore_n 3, 1) := by decide +kernel
theorem dX1_countAt_22 : decode cX1_countAt 22 = .ok (.iload_n 3, 1) := by decide +kernel
theorem dX1_countAt_23 : decode cX1_countAt 23 = .ok (.iload_n 1, 1) := by decide +kernel
theorem dX1_countAt_24 : decode cX1_countAt 24 = .ok (.if_icmp .ge 20, 3) := by decide +kernel
theorem dX1_countAt_27 : decode cX1_countAt 27 = .ok (.iload_n 2, 1) := by decide +kernel
theorem dX1_countAt_28 : decode cX1_countAt 28 = .ok (.iconst (-1), 1) := by decide +kernel
theorem dX1_countAt_29 : decode cX1_countAt 29 = .ok (.if_icmp .eq 15, 3) := by decide +kernel
theorem dX1_countAt_32 : decode cX1_countAt 32 = .ok (.aload_n 0, 1) := by decide +kernel
theorem dX1_countAt_33 : decode cX1_countAt 33 = .ok (.iload_n 2, 1) := by decide +kernel
theorem dX1_countAt_34 : decode cX1_countAt 34 = .ok (.invokevirtual 94, 3) := by decide +kernel
theorem dX1_countAt_37 : decode cX1_countAt 37 = .ok (.istore_n 2, 1) := by decide +kernel
theorem dX1_countAt_38 : decode cX1_countAt 38 = .ok (.iinc 3 1, 3) := by decide +kernel
theorem dX1_countAt_41 : decode cX1_countAt 41 = .ok (.goto (-19), 3) := by decide +kernel
theorem dX1_countAt_44 : decode cX1_countAt 44 = .ok (.iload_n 2, 1) := by decide +kernel
theorem dX1_countAt_45 : decode cX1_countAt 45 = .ok (.ireturn, 1) := by decide +kernel
theorem dX1_unlikeCounts_0 : decode cX1_unlikeCounts 0 = .ok (.iconst 0, 1) := by decide +kernel
theorem dX1_unlikeCounts_1 : decode cX1_unlikeCounts 1 = .ok (.istore_n 1, 1) := by decide +kernel
theorem dX1_unlikeCounts_2 : decode cX1_unlikeCounts 2 = .ok (.aload_n 0, 1) := by decide +kernel
theorem dX1_unlikeCounts_3 : decode cX1_unlikeCounts 3 = .ok (.iconst 0, 1) := by decide +kernel
theorem dX1_unlikeCounts_4 : decode cX1_unlikeCounts 4 = .ok (.invokevirtual 94, 3) := by decide +kernel
theorem dX1_unlikeCounts_7 : decode cX1_unlikeCounts 7 = .ok (.istore_n 2, 1) := by decide +kernel
theorem dX1_unlikeCounts_8 : decode cX1_unlikeCounts 8 = .ok (.iconst 0, 1) := by decide +kernel
theorem dX1_unlikeCounts_9 : decode cX1_unlikeCounts 9 = .ok (.istore_n 3, 1) := by decide +kernel
theorem dX1_unlikeCounts_10 : decode cX1_unlikeCounts 10 = .ok (.iload_n 3, 1) := by decide +kernel
theorem dX1_unlikeCounts_11 : decode cX1_unlikeCounts 11 = .ok (.aload_n 0, 1) := by decide +kernel
theorem dX1_unlikeCounts_12 : decode cX1_unlikeCounts 12 = .ok (.getfield 44, 3) := by decide +kernel
theorem dX1_unlikeCounts_15 : decode cX1_unlikeCounts 15 = .ok (.if_icmp .ge 23, 3) := by decide +kernel
theorem dX1_unlikeCounts_18 : decode cX1_unlikeCounts 18 = .ok (.iload_n 2, 1) := by decide +kernel
theorem dX1_unlikeCounts_19 : decode cX1_unlikeCounts 19 = .ok (.iconst (-1), 1) := by decide +kernel
theorem dX1_unlikeCounts_20 : decode cX1_unlikeCounts 20 = .ok (.if_icmp .eq 18, 3) := by decide +kernel
theorem dX1_unlikeCounts_23 : decode cX1_unlikeCounts 23 = .ok (.iinc 1 1, 3) := by decide +kernel
theorem dX1_unlikeCounts_26 : decode cX1_unlikeCounts 26 = .ok (.aload_n 0, 1) := by decide +kernel
theorem dX1_unlikeCounts_27 : decode cX1_unlikeCounts 27 = .ok (.iload_n 2, 1) := by decide +kernel
theorem dX1_unlikeCounts_28 : decode cX1_unlikeCounts 28 = .ok (.invokevirtual 94, 3) := by decide +kernel
theorem dX1_unlikeCounts_31 : decode cX1_unlikeCounts 31 = .ok (.istore_n 2, 1) := by decide +kernel
theorem dX1_unlikeCounts_32 : decode cX1_unlikeCounts 32 = .ok (.iinc 3 1, 3) := by decide +kernel
theorem dX1_unlikeCounts_35 : decode cX1_unlikeCounts 35 = .ok (.goto (-25), 3) := by decide +kernel
theorem dX1_unlikeCounts_38 : decode cX1_unlikeCounts 38 = .ok (.iload_n 1, 1) := by decide +kernel
theorem dX1_unlikeCounts_39 : decode cX1_unlikeCounts 39 = .ok (.ireturn, 1) := by decide +kernel
theorem dX1_soonest_0 : decode cX1_soonest 0 = .ok (.iconst (-1), 1) := by decide +kernel
theorem dX1_soonest_1 : decode cX1_soonest 1 = .ok (.istore_n 2, 1) := by decide +kernel
theorem dX1_soonest_2 : decode cX1_soonest 2 = .ok (.iconst 0, 1) := by decide +kernel
theorem dX1_soonest_3 : decode cX1_soonest 3 = .ok (.istore_n 3, 1) := by decide +kernel
theorem dX1_soonest_4 : decode cX1_soonest 4 = .ok (.iload_n 3, 1) := by decide +kernel
theorem dX1_soonest_5 : decode cX1_soonest 5 = .ok (.aload_n 0, 1) := by decide +kernel
theorem dX1_soonest_6 : decode cX1_soonest 6 = .ok (.getfield 44, 3) := by decide +kernel
theorem dX1_soonest_9 : decode cX1_soonest 9 = .ok (.if_icmp .ge 81, 3) := by decide +kernel
theorem dX1_soonest_12 : decode cX1_soonest 12 = .ok (.aload_n 0, 1) := by decide +kernel
theorem dX1_soonest_13 : decode cX1_soonest 13 = .ok (.getfield 27, 3) := by decide +kernel
theorem dX1_soonest_16 : decode cX1_soonest 16 = .ok (.iload_n 3, 1) := by decide +kernel
theorem dX1_soonest_17 : decode cX1_soonest 17 = .ok (.iaload, 1) := by decide +kernel
theorem dX1_soonest_18 : decode cX1_soonest 18 = .ok (.iconst (-1), 1) := by decide +kernel
theorem dX1_soonest_19 : decode cX1_soonest 19 = .ok (.if_icmp .eq 65, 3) := by decide +kernel
theorem dX1_soonest_22 : decode cX1_soonest 22 = .ok (.aload_n 0, 1) := by decide +kernel
theorem dX1_soonest_23 : decode cX1_soonest 23 = .ok (.getfield 27, 3) := by decide +kernel
theorem dX1_soonest_26 : decode cX1_soonest 26 = .ok (.iload_n 3, 1) := by decide +kernel
theorem dX1_soonest_27 : decode cX1_soonest 27 = .ok (.iaload, 1) := by decide +kernel
theorem dX1_soonest_28 : decode cX1_soonest 28 = .ok (.iload_n 1, 1) := by decide +kernel
theorem dX1_soonest_29 : decode cX1_soonest 29 = .ok (.if_icmp .gt 55, 3) := by decide +kernel
theorem dX1_soonest_32 : decode cX1_soonest 32 = .ok (.iload_n 2, 1) := by decide +kernel
theorem dX1_soonest_33 : decode cX1_soonest 33 = .ok (.iconst (-1), 1) := by decide +kernel
theorem dX1_soonest_34 : decode cX1_soonest 34 = .ok (.if_icmp .eq 48, 3) := by decide +kernel
theorem dX1_soonest_37 : decode cX1_soonest 37 = .ok (.aload_n 0, 1) := by decide +kernel
theorem dX1_soonest_38 : decode cX1_soonest 38 = .ok (.getfield 27, 3) := by decide +kernel
theorem dX1_soonest_41 : decode cX1_soonest 41 = .ok (.iload_n 3, 1) := by decide +kernel
theorem dX1_soonest_42 : decode cX1_soonest 42 = .ok (.iaload, 1) := by decide +kernel
theorem dX1_soonest_43 : decode cX1_soonest 43 = .ok (.aload_n 0, 1) := by decide +kernel
theorem dX1_soonest_44 : decode cX1_soonest 44 = .ok (.getfield 27, 3) := by decide +kernel
theorem dX1_soonest_47 : decode cX1_soonest 47 = .ok (.iload_n 2, 1) := by decide +kernel
theorem dX1_soonest_48 : decode cX1_soonest 48 = .ok (.iaload, 1) := by decide +kernel
theorem dX1_soonest_49 : decode cX1_soonest 49 = .ok (.if_icmp .lt 33, 3) := by decide +kernel
theorem dX1_soonest_52 : decode cX1_soonest 52 = .ok (.aload_n 0, 1) := by decide +kernel
theorem dX1_soonest_53 : decode cX1_soonest 53 = .ok (.getfield 27, 3) := by decide +kernel
theorem dX1_soonest_56 : decode cX1_soonest 56 = .ok (.iload_n 3, 1) := by decide +kernel
theorem dX1_soonest_57 : decode cX1_soonest 57 = .ok (.iaload, 1) := by decide +kernel
theorem dX1_soonest_58 : decode cX1_soonest 58 = .ok (.aload_n 0, 1) := by decide +kernel
theorem dX1_soonest_59 : decode cX1_soonest 59 = .ok (.getfield 27, 3) := by decide +kernel
theorem dX1_soonest_62 : decode cX1_soonest 62 = .ok (.iload_n 2, 1) := by decide +kernel
theorem dX1_soonest_63 : decode cX1_soonest 63 = .ok (.iaload, 1) := by decide +kernel
theorem dX1_soonest_64 : decode cX1_soonest 64 = .ok (.if_icmp .ne 20, 3) := by decide +kernel
theorem dX1_soonest_67 : decode cX1_soonest 67 = .ok (.aload_n 0, 1) := by decide +kernel
theorem dX1_soonest_68 : decode cX1_soonest 68 = .ok (.getfield 24, 3) := by decide +kernel
theorem dX1_soonest_71 : decode cX1_soonest 71 = .ok (.iload_n 3, 1) := by decide +kernel
theorem dX1_soonest_72 : decode cX1_soonest 72 = .ok (.iaload, 1) := by decide +kernel
theorem dX1_soonest_73 : decode cX1_soonest 73 = .ok (.aload_n 0, 1) := by decide +kernel
theorem dX1_soonest_74 : decode cX1_soonest 74 = .ok (.getfield 24, 3) := by decide +kernel
theorem dX1_soonest_77 : decode cX1_soonest 77 = .ok (.iload_n 2, 1) := by decide +kernel
theorem dX1_soonest_78 : decode cX1_soonest 78 = .ok (.iaload, 1) := by decide +kernel
theorem dX1_soonest_79 : decode cX1_soonest 79 = .ok (.if_icmp .ge 5, 3) := by decide +kernel
theorem dX1_soonest_82 : decode cX1_soonest 82 = .ok (.iload_n 3, 1) := by decide +kernel
theorem dX1_soonest_83 : decode cX1_soonest 83 = .ok (.istore_n 2, 1) := by decide +kernel
theorem dX1_soonest_84 : decode cX1_soonest 84 = .ok (.iinc 3 1, 3) := by decide +kernel
theorem dX1_soonest_87 : decode cX1_soonest 87 = .ok (.goto (-83), 3) := by decide +kernel
theorem dX1_soonest_90 : decode cX1_soonest 90 = .ok (.iload_n 2, 1) := by decide +kernel
theorem dX1_soonest_91 : decode cX1_soonest 91 = .ok (.ireturn, 1) := by decide +kernel
theorem dX2_init_0 : decode cX2_init 0 = .ok (.aload_n 0, 1) := by decide +kernel
theorem dX2_init_1 : decode cX2_init 1 = .ok (.invokespecial 3, 3) := by decide +kernel
theorem dX2_init_4 : decode cX2_init 4 = .ok (.aload_n 0, 1) := by decide +kernel
theorem dX2_init_5 : decode cX2_init 5 = .ok (.bipush 16, 2) := by decide +kernel
theorem dX2_init_7 : decode cX2_init 7 = .ok (.newarray .int, 2) := by decide +kernel
theorem dX2_init_9 : decode cX2_init 9 = .ok (.putfield 9, 3) := by decide +kernel
theorem dX2_init_12 : decode cX2_init 12 = .ok (.return_, 1) := by decide +kernel
theorem dX2_copyFrom_0 : decode cX2_copyFrom 0 = .ok (.aload_n 1, 1) := by decide +kernel
theorem dX2_copyFrom_1 : decode cX2_copyFrom 1 = .ok (.getfield 9, 3) := by decide +kernel
theorem dX2_copyFrom_4 : decode cX2_copyFrom 4 = .ok (.iconst 0, 1) := by decide +kernel
theorem dX2_copyFrom_5 : decode cX2_copyFrom 5 = .ok (.aload_n 0, 1) := by decide +kernel
theorem dX2_copyFrom_6 : decode cX2_copyFrom 6 = .ok (.getfield 9, 3) := by decide +kernel
theorem dX2_copyFrom_9 : decode cX2_copyFrom 9 = .ok (.iconst 0, 1) := by decide +kernel
theorem dX2_copyFrom_10 : decode cX2_copyFrom 10 = .ok (.bipush 16, 2) := by decide +kernel
theorem dX2_copyFrom_12 : decode cX2_copyFrom 12 = .ok (.invokestatic 15, 3) := by decide +kernel
theorem dX2_copyFrom_15 : decode cX2_copyFrom 15 = .ok (.aload_n 0, 1) := by decide +kernel
theorem dX2_copyFrom_16 : decode cX2_copyFrom 16 = .ok (.aload_n 1, 1) := by decide +kernel
theorem dX2_copyFrom_17 : decode cX2_copyFrom 17 = .ok (.getfield 21, 3) := by decide +kernel
theorem dX2_copyFrom_20 : decode cX2_copyFrom 20 = .ok (.putfield 21, 3) := by decide +kernel
theorem dX2_copyFrom_23 : decode cX2_copyFrom 23 = .ok (.return_, 1) := by decide +kernel
theorem dX2_add_0 : decode cX2_add 0 = .ok (.aload_n 0, 1) := by decide +kernel
theorem dX2_add_1 : decode cX2_add 1 = .ok (.getfield 21, 3) := by decide +kernel
theorem dX2_add_4 : decode cX2_add 4 = .ok (.bipush 16, 2) := by decide +kernel
theorem dX2_add_6 : decode cX2_add 6 = .ok (.if_icmp .ge 13, 3) := by decide +kernel
theorem dX2_add_9 : decode cX2_add 9 = .ok (.aload_n 0, 1) := by decide +kernel
theorem dX2_add_10 : decode cX2_add 10 = .ok (.dup, 1) := by decide +kernel
theorem dX2_add_11 : decode cX2_add 11 = .ok (.getfield 21, 3) := by decide +kernel
theorem dX2_add_14 : decode cX2_add 14 = .ok (.iconst 1, 1) := by decide +kernel
theorem dX2_add_15 : decode cX2_add 15 = .ok (.iadd, 1) := by decide +kernel
theorem dX2_add_16 : decode cX2_add 16 = .ok (.putfield 21, 3) := by decide +kernel
theorem dX2_add_19 : decode cX2_add 19 = .ok (.aload_n 0, 1) := by decide +kernel
theorem dX2_add_20 : decode cX2_add 20 = .ok (.getfield 21, 3) := by decide +kernel
theorem dX2_add_23 : decode cX2_add 23 = .ok (.iconst 1, 1) := by decide +kernel
theorem dX2_add_24 : decode cX2_add 24 = .ok (.isub, 1) := by decide +kernel
theorem dX2_add_25 : decode cX2_add 25 = .ok (.istore_n 2, 1) := by decide +kernel
theorem dX2_add_26 : decode cX2_add 26 = .ok (.iload_n 2, 1) := by decide +kernel
theorem dX2_add_27 : decode cX2_add 27 = .ok (.ifCond .le 23, 3) := by decide +kernel
theorem dX2_add_30 : decode cX2_add 30 = .ok (.aload_n 0, 1) := by decide +kernel
theorem dX2_add_31 : decode cX2_add 31 = .ok (.getfield 9, 3) := by decide +kernel
theorem dX2_add_34 : decode cX2_add 34 = .ok (.iload_n 2, 1) := by decide +kernel
theorem dX2_add_35 : decode cX2_add 35 = .ok (.aload_n 0, 1) := by decide +kernel
theorem dX2_add_36 : decode cX2_add 36 = .ok (.getfield 9, 3) := by decide +kernel
theorem dX2_add_39 : decode cX2_add 39 = .ok (.iload_n 2, 1) := by decide +kernel
theorem dX2_add_40 : decode cX2_add 40 = .ok (.iconst 1, 1) := by decide +kernel
theorem dX2_add_41 : decode cX2_add 41 = .ok (.isub, 1) := by decide +kernel
theorem dX2_add_42 : decode cX2_add 42 = .ok (.iaload, 1) := by decide +kernel
theorem dX2_add_43 : decode cX2_add 43 = .ok (.iastore, 1) := by decide +kernel
theorem dX2_add_44 : decode cX2_add 44 = .ok (.iinc 2 (-1), 3) := by decide +kernel
theorem dX2_add_47 : decode cX2_add 47 = .ok (.goto (-21), 3) := by decide +kernel
theorem dX2_add_50 : decode cX2_add 50 = .ok (.aload_n 0, 1) := by decide +kernel
theorem dX2_add_51 : decode cX2_add 51 = .ok (.getfield 9, 3) := by decide +kernel
theorem dX2_add_54 : decode cX2_add 54 = .ok (.iconst 0, 1) := by decide +kernel
theorem dX2_add_55 : decode cX2_add 55 = .ok (.iload_n 1, 1) := by decide +kernel
theorem dX2_add_56 : decode cX2_add 56 = .ok (.iastore, 1) := by decide +kernel
theorem dX2_add_57 : decode cX2_add 57 = .ok (.return_, 1) := by decide +kernel
theorem dX2_forget_0 : decode cX2_forget 0 = .ok (.iconst 0, 1) := by decide +kernel
theorem dX2_forget_1 : decode cX2_forget 1 = .ok (.istore_n 2, 1) := by decide +kernel
theorem dX2_forget_2 : decode cX2_forget 2 = .ok (.iconst 0, 1) := by decide +kernel
theorem dX2_forget_3 : decode cX2_forget 3 = .ok (.istore_n 3, 1) := by decide +kernel
theorem dX2_forget_4 : decode cX2_forget 4 = .ok (.iload_n 3, 1) := by decide +kernel
theorem dX2_forget_5 : decode cX2_forget 5 = .ok (.aload_n 0, 1) := by decide +kernel
theorem dX2_forget_6 : decode cX2_forget 6 = .ok (.getfield 21, 3) := by decide +kernel
theorem dX2_forget_9 : decode cX2_forget 9 = .ok (.if_icmp .ge 34, 3) := by decide +kernel
theorem dX2_forget_12 : decode cX2_forget 12 = .ok (.aload_n 0, 1) := by decide +kernel
theorem dX2_forget_13 : decode cX2_forget 13 = .ok (.getfield 9, 3) := by decide +kernel
theorem dX2_forget_16 : decode cX2_forget 16 = .ok (.iload_n 3, 1) := by decide +kernel
theorem dX2_forget_17 : decode cX2_forget 17 = .ok (.iaload, 1) := by decide +kernel
theorem dX2_forget_18 : decode cX2_forget 18 = .ok (.iload_n 1, 1) := by decide +kernel
theorem dX2_forget_19 : decode cX2_forget 19 = .ok (.if_icmp .eq 18, 3) := by decide +kernel
theorem dX2_forget_22 : decode cX2_forget 22 = .ok (.aload_n 0, 1) := by decide +kernel
theorem dX2_forget_23 : decode cX2_forget 23 = .ok (.getfield 9, 3) := by decide +kernel
theorem dX2_forget_26 : decode cX2_forget 26 = .ok (.iload_n 2, 1) := by decide +kernel
theorem dX2_forget_27 : decode cX2_forget 27 = .ok (.aload_n 0, 1) := by decide +kernel
theorem dX2_forget_28 : decode cX2_forget 28 = .ok (.getfield 9, 3) := by decide +kernel
theorem dX2_forget_31 : decode cX2_forget 31 = .ok (.iload_n 3, 1) := by decide +kernel
theorem dX2_forget_32 : decode cX2_forget 32 = .ok (.iaload, 1) := by decide +kernel
theorem dX2_forget_33 : decode cX2_forget 33 = .ok (.iastore, 1) := by decide +kernel
theorem dX2_forget_34 : decode cX2_forget 34 = .ok (.iinc 2 1, 3) := by decide +kernel
theorem dX2_forget_37 : decode cX2_forget 37 = .ok (.iinc 3 1, 3) := by decide +kernel
theorem dX2_forget_40 : decode cX2_forget 40 = .ok (.goto (-36), 3) := by decide +kernel
theorem dX2_forget_43 : decode cX2_forget 43 = .ok (.iload_n 2, 1) := by decide +kernel
theorem dX2_forget_44 : decode cX2_forget 44 = .ok (.aload_n 0, 1) := by decide +kernel
theorem dX2_forget_45 : decode cX2_forget 45 = .ok (.getfield 21, 3) := by decide +kernel
theorem dX2_forget_48 : decode cX2_forget 48 = .ok (.if_icmp .ge 7, 3) := by decide +kernel
theorem dX2_forget_51 : decode cX2_forget 51 = .ok (.iconst 1, 1) := by decide +kernel
theorem dX2_forget_52 : decode cX2_forget 52 = .ok (.goto 4, 3) := by decide +kernel
theorem dX2_forget_55 : decode cX2_forget 55 = .ok (.iconst 0, 1) := by decide +kernel
theorem dX2_forget_56 : decode cX2_forget 56 = .ok (.istore_n 3, 1) := by decide +kernel
theorem dX2_forget_57 : decode cX2_forget 57 = .ok (.aload_n 0, 1) := by decide +kernel
theorem dX2_forget_58 : decode cX2_forget 58 = .ok (.iload_n 2, 1) := by decide +kernel
theorem dX2_forget_59 : decode cX2_forget 59 = .ok (.putfield 21, 3) := by decide +kernel
theorem dX2_forget_62 : decode cX2_forget 62 = .ok (.iload_n 3, 1) := by decide +kernel
theorem dX2_forget_63 : decode cX2_forget 63 = .ok (.ireturn, 1) := by decide +kernel
theorem dX2_keyAt_0 : decode cX2_keyAt 0 = .ok (.iload_n 1, 1) := by decide +kernel
theorem dX2_keyAt_1 : decode cX2_keyAt 1 = .ok (.ifCond .lt 20, 3) := by decide +kernel
theorem dX2_keyAt_4 : decode cX2_keyAt 4 = .ok (.iload_n 1, 1) := by decide +kernel
theorem dX2_keyAt_5 : decode cX2_keyAt 5 = .ok (.aload_n 0, 1) := by decide +kernel
theorem dX2_keyAt_6 : decode cX2_keyAt 6 = .ok (.getfield 21, 3) := by decide +kernel
theorem dX2_keyAt_9 : decode cX2_keyAt 9 = .ok (.if_icmp .ge 12, 3) := by decide +kernel
theorem dX2_keyAt_12 : decode cX2_keyAt 12 = .ok (.aload_n 0, 1) := by decide +kernel
theorem dX2_keyAt_13 : decode cX2_keyAt 13 = .ok (.getfield 9, 3) := by decide +kernel
theorem dX2_keyAt_16 : decode cX2_keyAt 16 = .ok (.iload_n 1, 1) := by decide +kernel
theorem dX2_keyAt_17 : decode cX2_keyAt 17 = .ok (.iaload, 1) := by decide +kernel
theorem dX2_keyAt_18 : decode cX2_keyAt 18 = .ok (.goto 4, 3) := by decide +kernel
theorem dX2_keyAt_21 : decode cX2_keyAt 21 = .ok (.iconst (-1), 1) := by decide +kernel
theorem dX2_keyAt_22 : decode cX2_keyAt 22 = .ok (.ireturn, 1) := by decide +kernel
theorem dX3_init_0 : decode cX3_init 0 = .ok (.aload_n 0, 1) := by decide +kernel
theorem dX3_init_1 : decode cX3_init 1 = .ok (.invokespecial 3, 3) := by decide +kernel
theorem dX3_init_4 : decode cX3_init 4 = .ok (.aload_n 0, 1) := by decide +kernel
theorem dX3_init_5 : decode cX3_init 5 = .ok (.iconst 1, 1) := by decide +kernel
theorem dX3_init_6 : decode cX3_init 6 = .ok (.putfield 9, 3) := by decide +kernel
theorem dX3_init_9 : decode cX3_init 9 = .ok (.return_, 1) := by decide +kernel
theorem dX3_copyFrom_0 : decode cX3_copyFrom 0 = .ok (.aload_n 0, 1) := by decide +kernel
theorem dX3_copyFrom_1 : decode cX3_copyFrom 1 = .ok (.aload_n 1, 1) := by decide +kernel
theorem dX3_copyFrom_2 : decode cX3_copyFrom 2 = .ok (.getfield 15, 3) := by decide +kernel
theorem dX3_copyFrom_5 : decode cX3_copyFrom 5 = .ok (.putfield 15, 3) := by decide +kernel
theorem dX3_copyFrom_8 : decode cX3_copyFrom 8 = .ok (.aload_n 0, 1) := by decide +kernel
theorem dX3_copyFrom_9 : decode cX3_copyFrom 9 = .ok (.aload_n 1, 1) := by decide +kernel
theorem dX3_copyFrom_10 : decode cX3_copyFrom 10 = .ok (.getfield 9, 3) := by decide +kernel
theorem dX3_copyFrom_13 : decode cX3_copyFrom 13 = .ok (.putfield 9, 3) := by decide +kernel
theorem dX3_copyFrom_16 : decode cX3_copyFrom 16 = .ok (.aload_n 0, 1) := by decide +kernel
theorem dX3_copyFrom_17 : decode cX3_copyFrom 17 = .ok (.aload_n 1, 1) := by decide +kernel
theorem dX3_copyFrom_18 : decode cX3_copyFrom 18 = .ok (.getfield 18, 3) := by decide +kernel
theorem dX3_copyFrom_21 : decode cX3_copyFrom 21 = .ok (.putfield 18, 3) := by decide +kernel
theorem dX3_copyFrom_24 : decode cX3_copyFrom 24 = .ok (.aload_n 0, 1) := by decide +kernel
theorem dX3_copyFrom_25 : decode cX3_copyFrom 25 = .ok (.aload_n 1, 1) := by decide +kernel
theorem dX3_copyFrom_26 : decode cX3_copyFrom 26 = .ok (.getfield 21, 3) := by decide +kernel
theorem dX3_copyFrom_29 : decode cX3_copyFrom 29 = .ok (.putfield 21, 3) := by decide +kernel
theorem dX3_copyFrom_32 : decode cX3_copyFrom 32 = .ok (.aload_n 0, 1) := by decide +kernel
theorem dX3_copyFrom_33 : decode cX3_copyFrom 33 = .ok (.aload_n 1, 1) := by decide +kernel
theorem dX3_copyFrom_34 : decode cX3_copyFrom 34 = .ok (.getfield 24, 3) := by decide +kernel
theorem dX3_copyFrom_37 : decode cX3_copyFrom 37 = .ok (.putfield 24, 3) := by decide +kernel
theorem dX3_copyFrom_40 : decode cX3_copyFrom 40 = .ok (.aload_n 0, 1) := by decide +kernel
theorem dX3_copyFrom_41 : decode cX3_copyFrom 41 = .ok (.aload_n 1, 1) := by decide +kernel
theorem dX3_copyFrom_42 : decode cX3_copyFrom 42 = .ok (.getfield 27, 3) := by decide +kernel
theorem dX3_copyFrom_45 : decode cX3_copyFrom 45 = .ok (.putfield 27, 3) := by decide +kernel
theorem dX3_copyFrom_48 : decode cX3_copyFrom 48 = .ok (.aload_n 0, 1) := by decide +kernel
theorem dX3_copyFrom_49 : decode cX3_copyFrom 49 = .ok (.aload_n 1, 1) := by decide +kernel
theorem dX3_copyFrom_50 : decode cX3_copyFrom 50 = .ok (.getfield 30, 3) := by decide +kernel
theorem dX3_copyFrom_53 : decode cX3_copyFrom 53 = .ok (.putfield 30, 3) := by decide +kernel
theorem dX3_copyFrom_56 : decode cX3_copyFrom 56 = .ok (.aload_n 0, 1) := by decide +kernel
theorem dX3_copyFrom_57 : decode cX3_copyFrom 57 = .ok (.aload_n 1, 1) := by decide +kernel
theorem dX3_copyFrom_58 : decode cX3_copyFrom 58 = .ok (.getfield 34, 3) := by decide +kernel
theorem dX3_copyFrom_61 : decode cX3_copyFrom 61 = .ok (.putfield 34, 3) := by decide +kernel
theorem dX3_copyFrom_64 : decode cX3_copyFrom 64 = .ok (.aload_n 0, 1) := by decide +kernel
theorem dX3_copyFrom_65 : decode cX3_copyFrom 65 = .ok (.aload_n 1, 1) := by decide +kernel
theorem dX3_copyFrom_66 : decode cX3_copyFrom 66 = .ok (.getfield 37, 3) := by decide +kernel
theorem dX3_copyFrom_69 : decode cX3_copyFrom 69 = .ok (.putfield 37, 3) := by decide +kernel
theorem dX3_copyFrom_72 : decode cX3_copyFrom 72 = .ok (.return_, 1) := by decide +kernel
theorem dX3_begin_0 : decode cX3_begin 0 = .ok (.aload_n 0, 1) := by decide +kernel
theorem dX3_begin_1 : decode cX3_begin 1 = .ok (.iload_n 1, 1) := by decide +kernel
theorem dX3_begin_2 : decode cX3_begin 2 = .ok (.putfield 15, 3) := by decide +kernel
theorem dX3_begin_5 : decode cX3_begin 5 = .ok (.aload_n 0, 1) := by decide +kernel
theorem dX3_begin_6 : decode cX3_begin 6 = .ok (.iload_n 2, 1) := by decide +kernel
theorem dX3_begin_7 : decode cX3_begin 7 = .ok (.putfield 9, 3) := by decide +kernel
theorem dX3_begin_10 : decode cX3_begin 10 = .ok (.aload_n 0, 1) := by decide +kernel
theorem dX3_begin_11 : decode cX3_begin 11 = .ok (.iload_n 3, 1) := by decide +kernel
theorem dX3_begin_12 : decode cX3_begin 12 = .ok (.putfield 18, 3) := by decide +kernel
theorem dX3_begin_15 : decode cX3_begin 15 = .ok (.aload_n 0, 1) := by decide +kernel
theorem dX3_begin_16 : decode cX3_begin 16 = .ok (.iload 4, 2) := by decide +kernel
theorem dX3_begin_18 : decode cX3_begin 18 = .ok (.putfield 21, 3) := by decide +kernel
theorem dX3_begin_21 : decode cX3_begin 21 = .ok (.aload_n 0, 1) := by decide +kernel
theorem dX3_begin_22 : decode cX3_begin 22 = .ok (.iload 5, 2) := by decide +kernel
theorem dX3_begin_24 : decode cX3_begin 24 = .ok (.putfield 24, 3) := by decide +kernel
theorem dX3_begin_27 : decode cX3_begin 27 = .ok (.aload_n 0, 1) := by decide +kernel
theorem dX3_begin_28 : decode cX3_begin 28 = .ok (.iload 6, 2) := by decide +kernel
theorem dX3_begin_30 : decode cX3_begin 30 = .ok (.putfield 27, 3) := by decide +kernel
theorem dX3_begin_33 : decode cX3_begin 33 = .ok (.aload_n 0, 1) := by decide +kernel
theorem dX3_begin_34 : decode cX3_begin 34 = .ok (.iconst 1, 1) := by decide +kernel
theorem dX3_begin_35 : decode cX3_begin 35 = .ok (.putfield 30, 3) := by decide +kernel
theorem dX3_begin_38 : decode cX3_begin 38 = .ok (.aload_n 0, 1) := by decide +kernel
theorem dX3_begin_39 : decode cX3_begin 39 = .ok (.iconst 0, 1) := by decide +kernel
theorem dX3_begin_40 : decode cX3_begin 40 = .ok (.putfield 34, 3) := by decide +kernel
theorem dX3_begin_43 : decode cX3_begin 43 = .ok (.aload_n 0, 1) := by decide +kernel
theorem dX3_begin_44 : decode cX3_begin 44 = .ok (.iconst 0, 1) := by decide +kernel
theorem dX3_begin_45 : decode cX3_begin 45 = .ok (.putfield 37, 3) := by decide +kernel
theorem dX3_begin_48 : decode cX3_begin 48 = .ok (.return_, 1) := by decide +kernel
theorem dX3_hearsKind_0 : decode cX3_hearsKind 0 = .ok (.aload_n 0, 1) := by decide +kernel
theorem dX3_hearsKind_1 : decode cX3_hearsKind 1 = .ok (.getfield 15, 3) := by decide +kernel
theorem dX3_hearsKind_4 : decode cX3_hearsKind 4 = .ok (.iconst (-1), 1) := by decide +kernel
theorem dX3_hearsKind_5 : decode cX3_hearsKind 5 = .ok (.if_icmp .eq 11, 3) := by decide +kernel
theorem dX3_hearsKind_8 : decode cX3_hearsKind 8 = .ok (.aload_n 0, 1) := by decide +kernel
theorem dX3_hearsKind_9 : decode cX3_hearsKind 9 = .ok (.getfield 15, 3) := by decide +kernel
theorem dX3_hearsKind_12 : decode cX3_hearsKind 12 = .ok (.iload_n 1, 1) := by decide +kernel
theorem dX3_hearsKind_13 : decode cX3_hearsKind 13 = .ok (.if_icmp .ne 7, 3) := by decide +kernel
theorem dX3_hearsKind_16 : decode cX3_hearsKind 16 = .ok (.iconst 1, 1) := by decide +kernel
theorem dX3_hearsKind_17 : decode cX3_hearsKind 17 = .ok (.goto 4, 3) := by decide +kernel
theorem dX3_hearsKind_20 : decode cX3_hearsKind 20 = .ok (.iconst 0, 1) := by decide +kernel
theorem dX3_hearsKind_21 : decode cX3_hearsKind 21 = .ok (.ireturn, 1) := by decide +kernel
theorem dX3_hearsKey_0 : decode cX3_hearsKey 0 = .ok (.aload_n 0, 1) := by decide +kernel
theorem dX3_hearsKey_1 : decode cX3_hearsKey 1 = .ok (.getfield 9, 3) := by decide +kernel
theorem dX3_hearsKey_4 : decode cX3_hearsKey 4 = .ok (.ifCond .le 20, 3) := by decide +kernel
theorem dX3_hearsKey_7 : decode cX3_hearsKey 7 = .ok (.iload_n 1, 1) := by decide +kernel
theorem dX3_hearsKey_8 : decode cX3_hearsKey 8 = .ok (.aload_n 0, 1) := by decide +kernel
theorem dX3_hearsKey_9 : decode cX3_hearsKey 9 = .ok (.getfield 9, 3) := by decide +kernel
theorem dX3_hearsKey_12 : decode cX3_hearsKey 12 = .ok (.irem, 1) := by decide +kernel
theorem dX3_hearsKey_13 : decode cX3_hearsKey 13 = .ok (.aload_n 0, 1) := by decide +kernel
theorem dX3_hearsKey_14 : decode cX3_hearsKey 14 = .ok (.getfield 18, 3) := by decide +kernel
theorem dX3_hearsKey_17 : decode cX3_hearsKey 17 = .ok (.if_icmp .ne 7, 3) := by decide +kernel
theorem dX3_hearsKey_20 : decode cX3_hearsKey 20 = .ok (.iconst 1, 1) := by decide +kernel
theorem dX3_hearsKey_21 : decode cX3_hearsKey 21 = .ok (.goto 4, 3) := by decide +kernel
theorem dX3_hearsKey_24 : decode cX3_hearsKey 24 = .ok (.iconst 0, 1) := by decide +kernel
theorem dX3_hearsKey_25 : decode cX3_hearsKey 25 = .ok (.ireturn, 1) := by decide +kernel
theorem dX3_keyFor_0 : decode cX3_keyFor 0 = .ok (.iload_n 1, 1) := by decide +kernel
theorem dX3_keyFor_1 : decode cX3_keyFor 1 = .ok (.aload_n 0, 1) := by decide +kernel
theorem dX3_keyFor_2 : decode cX3_keyFor 2 = .ok (.getfield 24, 3) := by decide +kernel
theorem dX3_keyFor_5 : decode cX3_keyFor 5 = .ok (.iadd, 1) := by decide +kernel
theorem dX3_keyFor_6 : decode cX3_keyFor 6 = .ok (.sipush 1000, 3) := by decide +kernel
theorem dX3_keyFor_9 : decode cX3_keyFor 9 = .ok (.invokestatic 40, 3) := by decide +kernel
theorem dX3_keyFor_12 : decode cX3_keyFor 12 = .ok (.ireturn, 1) := by decide +kernel
theorem dX3_makesKindFor_0 : decode cX3_makesKindFor 0 = .ok (.aload_n 0, 1) := by decide +kernel
theorem dX3_makesKindFor_1 : decode cX3_makesKindFor 1 = .ok (.getfield 21, 3) := by decide +kernel
theorem dX3_makesKindFor_4 : decode cX3_makesKindFor 4 = .ok (.tableswitch 71 1 3 #[28, 59, 65], 28) := by decide +kernel
theorem dX3_makesKindFor_32 : decode cX3_makesKindFor 32 = .ok (.aload_n 1, 1) := by decide +kernel
theorem dX3_makesKindFor_33 : decode cX3_makesKindFor 33 = .ok (.iconst 0, 1) := by decide +kernel
theorem dX3_makesKindFor_34 : decode cX3_makesKindFor 34 = .ok (.invokevirtual 46, 3) := by decide +kernel
theorem dX3_makesKindFor_37 : decode cX3_makesKindFor 37 = .ok (.ifCond .ne 20, 3) := by decide +kernel
theorem dX3_makesKindFor_40 : decode cX3_makesKindFor 40 = .ok (.aload_n 1, 1) := by decide +kernel
theorem dX3_makesKindFor_41 : decode cX3_makesKindFor 41 = .ok (.iconst 1, 1) := by decide +kernel
theorem dX3_makesKindFor_42 : decode cX3_makesKindFor 42 = .ok (.invokevirtual 46, 3) := by decide +kernel
theorem dX3_makesKindFor_45 : decode cX3_makesKindFor 45 = .ok (.ifCond .ne 12, 3) := by decide +kernel
theorem dX3_makesKindFor_48 : decode cX3_makesKindFor 48 = .ok (.aload_n 1, 1) := by decide +kernel
theorem dX3_makesKindFor_49 : decode cX3_makesKindFor 49 = .ok (.bipush 6, 2) := by decide +kernel
theorem dX3_makesKindFor_51 : decode cX3_makesKindFor 51 = .ok (.invokevirtual 46, 3) := by decide +kernel
theorem dX3_makesKindFor_54 : decode cX3_makesKindFor 54 = .ok (.ifCond .eq 7, 3) := by decide +kernel
theorem dX3_makesKindFor_57 : decode cX3_makesKindFor 57 = .ok (.iconst 1, 1) := by decide +kernel
theorem dX3_makesKindFor_58 : decode cX3_makesKindFor 58 = .ok (.goto 4, 3) := by decide +kernel
theorem dX3_makesKindFor_61 : decode cX3_makesKindFor 61 = .ok (.iconst 0, 1) := by decide +kernel
theorem dX3_makesKindFor_62 : decode cX3_makesKindFor 62 = .ok (.ireturn, 1) := by decide +kernel
theorem dX3_makesKindFor_63 : decode cX3_makesKindFor 63 = .ok (.aload_n 1, 1) := by decide +kernel
theorem dX3_makesKindFor_64 : decode cX3_makesKindFor 64 = .ok (.iconst 5, 1) := by decide +kernel
theorem dX3_makesKindFor_65 : decode cX3_makesKindFor 65 = .ok (.invokevirtual 46, 3) := by decide +kernel
theorem dX3_makesKindFor_68 : decode cX3_makesKindFor 68 = .ok (.ireturn, 1) := by decide +kernel
theorem dX3_makesKindFor_69 : decode cX3_makesKindFor 69 = .ok (.aload_n 1, 1) := by decide +kernel
theorem dX3_makesKindFor_70 : decode cX3_makesKindFor 70 = .ok (.iconst 4, 1) := by decide +kernel
theorem dX3_makesKindFor_71 : decode cX3_makesKindFor 71 = .ok (.invokevirtual 46, 3) := by decide +kernel
theorem dX3_makesKindFor_74 : decode cX3_makesKindFor 74 = .ok (.ireturn, 1) := by decide +kernel
theorem dX3_makesKindFor_75 : decode cX3_makesKindFor 75 = .ok (.iconst 0, 1) := by decide +kernel
theorem dX3_makesKindFor_76 : decode cX3_makesKindFor 76 = .ok (.ireturn, 1) := by decide +kernel
theorem dX3_rouses_0 : decode cX3_rouses 0 = .ok (.aload_n 0, 1) := by decide +kernel
theorem dX3_rouses_1 : decode cX3_rouses 1 = .ok (.getfield 21, 3) := by decide +kernel
theorem dX3_rouses_4 : decode cX3_rouses 4 = .ok (.iconst 1, 1) := by decide +kernel
theorem dX3_rouses_5 : decode cX3_rouses 5 = .ok (.if_icmp .eq 19, 3) := by decide +kernel
theorem dX3_rouses_8 : decode cX3_rouses 8 = .ok (.aload_n 0, 1) := by decide +kernel
theorem dX3_rouses_9 : decode cX3_rouses 9 = .ok (.getfield 21, 3) := by decide +kernel
theorem dX3_rouses_12 : decode cX3_rouses 12 = .ok (.bipush 6, 2) := by decide +kernel
theorem dX3_rouses_14 : decode cX3_rouses 14 = .ok (.if_icmp .ne 14, 3) := by decide +kernel
theorem dX3_rouses_17 : decode cX3_rouses 17 = .ok (.aload_n 0, 1) := by decide +kernel
theorem dX3_rouses_18 : decode cX3_rouses 18 = .ok (.getfield 24, 3) := by decide +kernel
theorem dX3_rouses_21 : decode cX3_rouses 21 = .ok (.ifCond .ge 7, 3) := by decide +kernel
theorem dX3_rouses_24 : decode cX3_rouses 24 = .ok (.iconst 1, 1) := by decide +kernel
theorem dX3_rouses_25 : decode cX3_rouses 25 = .ok (.goto 4, 3) := by decide +kernel
theorem dX3_rouses_28 : decode cX3_rouses 28 = .ok (.iconst 0, 1) := by decide +kernel
theorem dX3_rouses_29 : decode cX3_rouses 29 = .ok (.istore_n 2, 1) := by decide +kernel
theorem dX3_rouses_30 : decode cX3_rouses 30 = .ok (.iload_n 2, 1) := by decide +kernel
theorem dX3_rouses_31 : decode cX3_rouses 31 = .ok (.ifCond .eq 13, 3) := by decide +kernel
theorem dX3_rouses_34 : decode cX3_rouses 34 = .ok (.aload_n 1, 1) := by decide +kernel
theorem dX3_rouses_35 : decode cX3_rouses 35 = .ok (.iconst 2, 1) := by decide +kernel
theorem dX3_rouses_36 : decode cX3_rouses 36 = .ok (.invokevirtual 46, 3) := by decide +kernel
theorem dX3_rouses_39 : decode cX3_rouses 39 = .ok (.ifCond .eq 5, 3) := by decide +kernel
theorem dX3_rouses_42 : decode cX3_rouses 42 = .ok (.iconst 1, 1) := by decide +kernel
theorem dX3_rouses_43 : decode cX3_rouses 43 = .ok (.ireturn, 1) := by decide +kernel
theorem dX3_rouses_44 : decode cX3_rouses 44 = .ok (.aload_n 0, 1) := by decide +kernel
theorem dX3_rouses_45 : decode cX3_rouses 45 = .ok (.aload_n 1, 1) := by decide +kernel
theorem dX3_rouses_46 : decode cX3_rouses 46 = .ok (.invokevirtual 50, 3) := by decide +kernel
theorem dX3_rouses_49 : decode cX3_rouses 49 = .ok (.ifCond .ne 5, 3) := by decide +kernel
theorem dX3_rouses_52 : decode cX3_rouses 52 = .ok (.iconst 0, 1) := by decide +kernel
theorem dX3_rouses_53 : decode cX3_rouses 53 = .ok (.ireturn, 1) := by decide +kernel
theorem dX3_rouses_54 : decode cX3_rouses 54 = .ok (.iconst 0, 1) := by decide +kernel
theorem dX3_rouses_55 : decode cX3_rouses 55 = .ok (.istore_n 3, 1) := by decide +kernel
theorem dX3_rouses_56 : decode cX3_rouses 56 = .ok (.iload_n 3, 1) := by decide +kernel
theorem dX3_rouses_57 : decode cX3_rouses 57 = .ok (.sipush 1000, 3) := by decide +kernel
theorem dX3_rouses_60 : decode cX3_rouses 60 = .ok (.if_icmp .ge 31, 3) := by decide +kernel
theorem dX3_rouses_63 : decode cX3_rouses 63 = .ok (.aload_n 0, 1) := by decide +kernel
theorem dX3_rouses_64 : decode cX3_rouses 64 = .ok (.iload_n 3, 1) := by decide +kernel
theorem dX3_rouses_65 : decode cX3_rouses 65 = .ok (.invokevirtual 54, 3) := by decide +kernel
theorem dX3_rouses_68 : decode cX3_rouses 68 = .ok (.ifCond .eq 17, 3) := by decide +kernel
theorem dX3_rouses_71 : decode cX3_rouses 71 = .ok (.aload_n 1, 1) := by decide +kernel
theorem dX3_rouses_72 : decode cX3_rouses 72 = .ok (.aload_n 0, 1) := by decide +kernel
theorem dX3_rouses_73 : decode cX3_rouses 73 = .ok (.iload_n 3, 1) := by decide +kernel
theorem dX3_rouses_74 : decode cX3_rouses 74 = .ok (.invokevirtual 57, 3) := by decide +kernel
theorem dX3_rouses_77 : decode cX3_rouses 77 = .ok (.invokevirtual 54, 3) := by decide +kernel
theorem dX3_rouses_80 : decode cX3_rouses 80 = .ok (.ifCond .eq 5, 3) := by decide +kernel
theorem dX3_rouses_83 : decode cX3_rouses 83 = .ok (.iconst 1, 1) := by decide +kernel
theorem dX3_rouses_84 : decode cX3_rouses 84 = .ok (.ireturn, 1) := by decide +kernel
theorem dX3_rouses_85 : decode cX3_rouses 85 = .ok (.iinc 3 1, 3) := by decide +kernel
theorem dX3_rouses_88 : decode cX3_rouses 88 = .ok (.goto (-32), 3) := by decide +kernel
theorem dX3_rouses_91 : decode cX3_rouses 91 = .ok (.iconst 0, 1) := by decide +kernel
theorem dX3_rouses_92 : decode cX3_rouses 92 = .ok (.ireturn, 1) := by decide +kernel
theorem dX4_init_0 : decode cX4_init 0 = .ok (.aload_n 0, 1) := by decide +kernel
theorem dX4_init_1 : decode cX4_init 1 = .ok (.invokespecial 3, 3) := by decide +kernel
theorem dX4_init_4 : decode cX4_init 4 = .ok (.aload_n 0, 1) := by decide +kernel
theorem dX4_init_5 : decode cX4_init 5 = .ok (.bipush 40, 2) := by decide +kernel
theorem dX4_init_7 : decode cX4_init 7 = .ok (.newarray .int, 2) := by decide +kernel
theorem dX4_init_9 : decode cX4_init 9 = .ok (.putfield 9, 3) := by decide +kernel
theorem dX4_init_12 : decode cX4_init 12 = .ok (.aload_n 0, 1) := by decide +kernel
theorem dX4_init_13 : decode cX4_init 13 = .ok (.bipush 40, 2) := by decide +kernel
theorem dX4_init_15 : decode cX4_init 15 = .ok (.newarray .int, 2) := by decide +kernel
theorem dX4_init_17 : decode cX4_init 17 = .ok (.putfield 15, 3) := by decide +kernel
theorem dX4_init_20 : decode cX4_init 20 = .ok (.aload_n 0, 1) := by decide +kernel
theorem dX4_init_21 : decode cX4_init 21 = .ok (.bipush 40, 2) := by decide +kernel
theorem dX4_init_23 : decode cX4_init 23 = .ok (.newarray .int, 2) := by decide +kernel
theorem dX4_init_25 : decode cX4_init 25 = .ok (.putfield 18, 3) := by decide +kernel
theorem dX4_init_28 : decode cX4_init 28 = .ok (.aload_n 0, 1) := by decide +kernel
theorem dX4_init_29 : decode cX4_init 29 = .ok (.bipush 40, 2) := by decide +kernel
theorem dX4_init_31 : decode cX4_init 31 = .ok (.newarray .int, 2) := by decide +kernel
theorem dX4_init_33 : decode cX4_init 33 = .ok (.putfield 21, 3) := by decide +kernel
theorem dX4_init_36 : decode cX4_init 36 = .ok (.aload_n 0, 1) := by decide +kernel
theorem dX4_init_37 : decode cX4_init 37 = .ok (.bipush 40, 2) := by decide +kernel
theorem dX4_init_39 : decode cX4_init 39 = .ok (.newarray .int, 2) := by decide +kernel
theorem dX4_init_41 : decode cX4_init 41 = .ok (.putfield 24, 3) := by decide +kernel
theorem dX4_init_44 : decode cX4_init 44 = .ok (.return_, 1) := by decide +kernel
theorem dX4_copyFrom_0 : decode cX4_copyFrom 0 = .ok (.aload_n 1, 1) := by decide +kernel
theorem dX4_copyFrom_1 : decode cX4_copyFrom 1 = .ok (.getfield 9, 3) := by decide +kernel
theorem dX4_copyFrom_4 : decode cX4_copyFrom 4 = .ok (.iconst 0, 1) := by decide +kernel
theorem dX4_copyFrom_5 : decode cX4_copyFrom 5 = .ok (.aload_n 0, 1) := by decide +kernel
theorem dX4_copyFrom_6 : decode cX4_copyFrom 6 = .ok (.getfield 9, 3) := by decide +kernel
theorem dX4_copyFrom_9 : decode cX4_copyFrom 9 = .ok (.iconst 0, 1) := by decide +kernel
theorem dX4_copyFrom_10 : decode cX4_copyFrom 10 = .ok (.bipush 40, 2) := by decide +kernel
theorem dX4_copyFrom_12 : decode cX4_copyFrom 12 = .ok (.invokestatic 27, 3) := by decide +kernel
theorem dX4_copyFrom_15 : decode cX4_copyFrom 15 = .ok (.aload_n 1, 1) := by decide +kernel
theorem dX4_copyFrom_16 : decode cX4_copyFrom 16 = .ok (.getfield 15, 3) := by decide +kernel
theorem dX4_copyFrom_19 : decode cX4_copyFrom 19 = .ok (.iconst 0, 1) := by decide +kernel
theorem dX4_copyFrom_20 : decode cX4_copyFrom 20 = .ok (.aload_n 0, 1) := by decide +kernel
theorem dX4_copyFrom_21 : decode cX4_copyFrom 21 = .ok (.getfield 15, 3) := by decide +kernel
theorem dX4_copyFrom_24 : decode cX4_copyFrom 24 = .ok (.iconst 0, 1) := by decide +kernel
theorem dX4_copyFrom_25 : decode cX4_copyFrom 25 = .ok (.bipush 40, 2) := by decide +kernel
theorem dX4_copyFrom_27 : decode cX4_copyFrom 27 = .ok (.invokestatic 27, 3) := by decide +kernel
theorem dX4_copyFrom_30 : decode cX4_copyFrom 30 = .ok (.aload_n 1, 1) := by decide +kernel
theorem dX4_copyFrom_31 : decode cX4_copyFrom 31 = .ok (.getfield 18, 3) := by decide +kernel
theorem dX4_copyFrom_34 : decode cX4_copyFrom 34 = .ok (.iconst 0, 1) := by decide +kernel
theorem dX4_copyFrom_35 : decode cX4_copyFrom 35 = .ok (.aload_n 0, 1) := by decide +kernel
theorem dX4_copyFrom_36 : decode cX4_copyFrom 36 = .ok (.getfield 18, 3) := by decide +kernel
theorem dX4_copyFrom_39 : decode cX4_copyFrom 39 = .ok (.iconst 0, 1) := by decide +kernel
theorem dX4_copyFrom_40 : decode cX4_copyFrom 40 = .ok (.bipush 40, 2) := by decide +kernel
theorem dX4_copyFrom_42 : decode cX4_copyFrom 42 = .ok (.invokestatic 27, 3) := by decide +kernel
theorem dX4_copyFrom_45 : decode cX4_copyFrom 45 = .ok (.aload_n 1, 1) := by decide +kernel
theorem dX4_copyFrom_46 : decode cX4_copyFrom 46 = .ok (.getfield 21, 3) := by decide +kernel
theorem dX4_copyFrom_49 : decode cX4_copyFrom 49 = .ok (.iconst 0, 1) := by decide +kernel
theorem dX4_copyFrom_50 : decode cX4_copyFrom 50 = .ok (.aload_n 0, 1) := by decide +kernel
theorem dX4_copyFrom_51 : decode cX4_copyFrom 51 = .ok (.getfield 21, 3) := by decide +kernel
theorem dX4_copyFrom_54 : decode cX4_copyFrom 54 = .ok (.iconst 0, 1) := by decide +kernel
theorem dX4_copyFrom_55 : decode cX4_copyFrom 55 = .ok (.bipush 40, 2) := by decide +kernel
theorem dX4_copyFrom_57 : decode cX4_copyFrom 57 = .ok (.invokestatic 27, 3) := by decide +kernel
theorem dX4_copyFrom_60 : decode cX4_copyFrom 60 = .ok (.aload_n 1, 1) := by decide +kernel
theorem dX4_copyFrom_61 : decode cX4_copyFrom 61 = .ok (.getfield 24, 3) := by decide +kernel
theorem dX4_copyFrom_64 : decode cX4_copyFrom 64 = .ok (.iconst 0, 1) := by decide +kernel
theorem dX4_copyFrom_65 : decode cX4_copyFrom 65 = .ok (.aload_n 0, 1) := by decide +kernel
theorem dX4_copyFrom_66 : decode cX4_copyFrom 66 = .ok (.getfield 24, 3) := by decide +kernel
theorem dX4_copyFrom_69 : decode cX4_copyFrom 69 = .ok (.iconst 0, 1) := by decide +kernel
theorem dX4_copyFrom_70 : decode cX4_copyFrom 70 = .ok (.bipush 40, 2) := by decide +kernel
theorem dX4_copyFrom_72 : decode cX4_copyFrom 72 = .ok (.invokestatic 27, 3) := by decide +kernel
theorem dX4_copyFrom_75 : decode cX4_copyFrom 75 = .ok (.aload_n 0, 1) := by decide +kernel
theorem dX4_copyFrom_76 : decode cX4_copyFrom 76 = .ok (.aload_n 1, 1) := by decide +kernel
theorem dX4_copyFrom_77 : decode cX4_copyFrom 77 = .ok (.getfield 33, 3) := by decide +kernel
theorem dX4_copyFrom_80 : decode cX4_copyFrom 80 = .ok (.putfield 33, 3) := by decide +kernel
theorem dX4_copyFrom_83 : decode cX4_copyFrom 83 = .ok (.aload_n 0, 1) := by decide +kernel
theorem dX4_copyFrom_84 : decode cX4_copyFrom 84 = .ok (.aload_n 1, 1) := by decide +kernel
theorem dX4_copyFrom_85 : decode cX4_copyFrom 85 = .ok (.getfield 37, 3) := by decide +kernel
theorem dX4_copyFrom_88 : decode cX4_copyFrom 88 = .ok (.putfield 37, 3) := by decide +kernel
theorem dX4_copyFrom_91 : decode cX4_copyFrom 91 = .ok (.return_, 1) := by decide +kernel
theorem dX4_add_0 : decode cX4_add 0 = .ok (.aload_n 0, 1) := by decide +kernel
theorem dX4_add_1 : decode cX4_add 1 = .ok (.getfield 9, 3) := by decide +kernel
theorem dX4_add_4 : decode cX4_add 4 = .ok (.aload_n 0, 1) := by decide +kernel
theorem dX4_add_5 : decode cX4_add 5 = .ok (.getfield 37, 3) := by decide +kernel
theorem dX4_add_8 : decode cX4_add 8 = .ok (.iload_n 1, 1) := by decide +kernel
theorem dX4_add_9 : decode cX4_add 9 = .ok (.iastore, 1) := by decide +kernel
theorem dX4_add_10 : decode cX4_add 10 = .ok (.aload_n 0, 1) := by decide +kernel
theorem dX4_add_11 : decode cX4_add 11 = .ok (.getfield 15, 3) := by decide +kernel
theorem dX4_add_14 : decode cX4_add 14 = .ok (.aload_n 0, 1) := by decide +kernel
theorem dX4_add_15 : decode cX4_add 15 = .ok (.getfield 37, 3) := by decide +kernel
theorem dX4_add_18 : decode cX4_add 18 = .ok (.iload_n 2, 1) := by decide +kernel
theorem dX4_add_19 : decode cX4_add 19 = .ok (.iastore, 1) := by decide +kernel
theorem dX4_add_20 : decode cX4_add 20 = .ok (.aload_n 0, 1) := by decide +kernel
theorem dX4_add_21 : decode cX4_add 21 = .ok (.getfield 18, 3) := by decide +kernel
theorem dX4_add_24 : decode cX4_add 24 = .ok (.aload_n 0, 1) := by decide +kernel
theorem dX4_add_25 : decode cX4_add 25 = .ok (.getfield 37, 3) := by decide +kernel
theorem dX4_add_28 : decode cX4_add 28 = .ok (.iload_n 3, 1) := by decide +kernel
theorem dX4_add_29 : decode cX4_add 29 = .ok (.iastore, 1) := by decide +kernel
theorem dX4_add_30 : decode cX4_add 30 = .ok (.aload_n 0, 1) := by decide +kernel
theorem dX4_add_31 : decode cX4_add 31 = .ok (.getfield 21, 3) := by decide +kernel
theorem dX4_add_34 : decode cX4_add 34 = .ok (.aload_n 0, 1) := by decide +kernel
theorem dX4_add_35 : decode cX4_add 35 = .ok (.getfield 37, 3) := by decide +kernel
theorem dX4_add_38 : decode cX4_add 38 = .ok (.iload 4, 2) := by decide +kernel
theorem dX4_add_40 : decode cX4_add 40 = .ok (.iastore, 1) := by decide +kernel
theorem dX4_add_41 : decode cX4_add 41 = .ok (.aload_n 0, 1) := by decide +kernel
theorem dX4_add_42 : decode cX4_add 42 = .ok (.getfield 24, 3) := by decide +kernel
theorem dX4_add_45 : decode cX4_add 45 = .ok (.aload_n 0, 1) := by decide +kernel
theorem dX4_add_46 : decode cX4_add 46 = .ok (.getfield 37, 3) := by decide +kernel
theorem dX4_add_49 : decode cX4_add 49 = .ok (.iload 5, 2) := by decide +kernel
theorem dX4_add_51 : decode cX4_add 51 = .ok (.iastore, 1) := by decide +kernel
theorem dX4_add_52 : decode cX4_add 52 = .ok (.aload_n 0, 1) := by decide +kernel
theorem dX4_add_53 : decode cX4_add 53 = .ok (.aload_n 0, 1) := by decide +kernel
theorem dX4_add_54 : decode cX4_add 54 = .ok (.getfield 37, 3) := by decide +kernel
theorem dX4_add_57 : decode cX4_add 57 = .ok (.iconst 1, 1) := by decide +kernel
theorem dX4_add_58 : decode cX4_add 58 = .ok (.iadd, 1) := by decide +kernel
theorem dX4_add_59 : decode cX4_add 59 = .ok (.bipush 40, 2) := by decide +kernel
theorem dX4_add_61 : decode cX4_add 61 = .ok (.irem, 1) := by decide +kernel
theorem dX4_add_62 : decode cX4_add 62 = .ok (.putfield 37, 3) := by decide +kernel
theorem dX4_add_65 : decode cX4_add 65 = .ok (.aload_n 0, 1) := by decide +kernel
theorem dX4_add_66 : decode cX4_add 66 = .ok (.aload_n 0, 1) := by decide +kernel
theorem dX4_add_67 : decode cX4_add 67 = .ok (.getfield 33, 3) := by decide +kernel
theorem dX4_add_70 : decode cX4_add 70 = .ok (.iconst 1, 1) := by decide +kernel
theorem dX4_add_71 : decode cX4_add 71 = .ok (.iadd, 1) := by decide +kernel
theorem dX4_add_72 : decode cX4_add 72 = .ok (.bipush 40, 2) := by decide +kernel
theorem dX4_add_74 : decode cX4_add 74 = .ok (.invokestatic 40, 3) := by decide +kernel
theorem dX4_add_77 : decode cX4_add 77 = .ok (.putfield 33, 3) := by decide +kernel
theorem dX4_add_80 : decode cX4_add 80 = .ok (.return_, 1) := by decide +kernel
theorem dX4_latest_0 : decode cX4_latest 0 = .ok (.iload_n 1, 1) := by decide +kernel
theorem dX4_latest_1 : decode cX4_latest 1 = .ok (.ifCond .lt 11, 3) := by decide +kernel
theorem dX4_latest_4 : decode cX4_latest 4 = .ok (.iload_n 1, 1) := by decide +kernel
theorem dX4_latest_5 : decode cX4_latest 5 = .ok (.aload_n 0, 1) := by decide +kernel
theorem dX4_latest_6 : decode cX4_latest 6 = .ok (.getfield 33, 3) := by decide +kernel
theorem dX4_latest_9 : decode cX4_latest 9 = .ok (.if_icmp .lt 5, 3) := by decide +kernel
theorem dX4_latest_12 : decode cX4_latest 12 = .ok (.iconst (-1), 1) := by decide +kernel
theorem dX4_latest_13 : decode cX4_latest 13 = .ok (.ireturn, 1) := by decide +kernel
theorem dX4_latest_14 : decode cX4_latest 14 = .ok (.aload_n 0, 1) := by decide +kernel
theorem dX4_latest_15 : decode cX4_latest 15 = .ok (.getfield 37, 3) := by decide +kernel
theorem dX4_latest_18 : decode cX4_latest 18 = .ok (.iconst 1, 1) := by decide +kernel
theorem dX4_latest_19 : decode cX4_latest 19 = .ok (.isub, 1) := by decide +kernel
theorem dX4_latest_20 : decode cX4_latest 20 = .ok (.iload_n 1, 1) := by decide +kernel
theorem dX4_latest_21 : decode cX4_latest 21 = .ok (.isub, 1) := by decide +kernel
theorem dX4_latest_22 : decode cX4_latest 22 = .ok (.bipush 40, 2) := by decide +kernel
theorem dX4_latest_24 : decode cX4_latest 24 = .ok (.invokestatic 46, 3) := by decide +kernel
theorem dX4_latest_27 : decode cX4_latest 27 = .ok (.ireturn, 1) := by decide +kernel
theorem dX4_howMany_0 : decode cX4_howMany 0 = .ok (.iconst 0, 1) := by decide +kernel
theorem dX4_howMany_1 : decode cX4_howMany 1 = .ok (.istore_n 2, 1) := by decide +kernel
theorem dX4_howMany_2 : decode cX4_howMany 2 = .ok (.iconst 0, 1) := by decide +kernel
theorem dX4_howMany_3 : decode cX4_howMany 3 = .ok (.istore_n 3, 1) := by decide +kernel
theorem dX4_howMany_4 : decode cX4_howMany 4 = .ok (.iload_n 3, 1) := by decide +kernel
theorem dX4_howMany_5 : decode cX4_howMany 5 = .ok (.aload_n 0, 1) := by decide +kernel
theorem dX4_howMany_6 : decode cX4_howMany 6 = .ok (.getfield 33, 3) := by decide +kernel
theorem dX4_howMany_9 : decode cX4_howMany 9 = .ok (.if_icmp .ge 22, 3) := by decide +kernel
theorem dX4_howMany_12 : decode cX4_howMany 12 = .ok (.aload_n 0, 1) := by decide +kernel
theorem dX4_howMany_13 : decode cX4_howMany 13 = .ok (.getfield 9, 3) := by decide +kernel
theorem dX4_howMany_16 : decode cX4_howMany 16 = .ok (.iload_n 3, 1) := by decide +kernel
theorem dX4_howMany_17 : decode cX4_howMany 17 = .ok (.iaload, 1) := by decide +kernel
theorem dX4_howMany_18 : decode cX4_howMany 18 = .ok (.iload_n 1, 1) := by decide +kernel
theorem dX4_howMany_19 : decode cX4_howMany 19 = .ok (.if_icmp .ne 6, 3) := by decide +kernel
theorem dX4_howMany_22 : decode cX4_howMany 22 = .ok (.iinc 2 1, 3) := by decide +kernel
theorem dX4_howMany_25 : decode cX4_howMany 25 = .ok (.iinc 3 1, 3) := by decide +kernel
theorem dX4_howMany_28 : decode cX4_howMany 28 = .ok (.goto (-24), 3) := by decide +kernel
theorem dX4_howMany_31 : decode cX4_howMany 31 = .ok (.iload_n 2, 1) := by decide +kernel
theorem dX4_howMany_32 : decode cX4_howMany 32 = .ok (.ireturn, 1) := by decide +kernel
theorem dX4_deepest_0 : decode cX4_deepest 0 = .ok (.iconst (-1), 1) := by decide +kernel
theorem dX4_deepest_1 : decode cX4_deepest 1 = .ok (.istore_n 2, 1) := by decide +kernel
theorem dX4_deepest_2 : decode cX4_deepest 2 = .ok (.iconst 0, 1) := by decide +kernel
theorem dX4_deepest_3 : decode cX4_deepest 3 = .ok (.istore_n 3, 1) := by decide +kernel
theorem dX4_deepest_4 : decode cX4_deepest 4 = .ok (.iload_n 3, 1) := by decide +kernel
theorem dX4_deepest_5 : decode cX4_deepest 5 = .ok (.aload_n 0, 1) := by decide +kernel
theorem dX4_deepest_6 : decode cX4_deepest 6 = .ok (.getfield 33, 3) := by decide +kernel
theorem dX4_deepest_9 : decode cX4_deepest 9 = .ok (.if_icmp .ge 30, 3) := by decide +kernel
theorem dX4_deepest_12 : decode cX4_deepest 12 = .ok (.aload_n 0, 1) := by decide +kernel
theorem dX4_deepest_13 : decode cX4_deepest 13 = .ok (.getfield 9, 3) := by decide +kernel
theorem dX4_deepest_16 : decode cX4_deepest 16 = .ok (.iload_n 3, 1) := by decide +kernel
theorem dX4_deepest_17 : decode cX4_deepest 17 = .ok (.iaload, 1) := by decide +kernel
theorem dX4_deepest_18 : decode cX4_deepest 18 = .ok (.iload_n 1, 1) := by decide +kernel
theorem dX4_deepest_19 : decode cX4_deepest 19 = .ok (.if_icmp .ne 14, 3) := by decide +kernel
theorem dX4_deepest_22 : decode cX4_deepest 22 = .ok (.iload_n 2, 1) := by decide +kernel
theorem dX4_deepest_23 : decode cX4_deepest 23 = .ok (.aload_n 0, 1) := by decide +kernel
theorem dX4_deepest_24 : decode cX4_deepest 24 = .ok (.getfield 18, 3) := by decide +kernel
theorem dX4_deepest_27 : decode cX4_deepest 27 = .ok (.iload_n 3, 1) := by decide +kernel
theorem dX4_deepest_28 : decode cX4_deepest 28 = .ok (.iaload, 1) := by decide +kernel
theorem dX4_deepest_29 : decode cX4_deepest 29 = .ok (.invokestatic 49, 3) := by decide +kernel
theorem dX4_deepest_32 : decode cX4_deepest 32 = .ok (.istore_n 2, 1) := by decide +kernel
theorem dX4_deepest_33 : decode cX4_deepest 33 = .ok (.iinc 3 1, 3) := by decide +kernel
theorem dX4_deepest_36 : decode cX4_deepest 36 = .ok (.goto (-32), 3) := by decide +kernel
theorem dX4_deepest_39 : decode cX4_deepest 39 = .ok (.iload_n 2, 1) := by decide +kernel
theorem dX4_deepest_40 : decode cX4_deepest 40 = .ok (.ireturn, 1) := by decide +kernel
theorem dX4_unheard_0 : decode cX4_unheard 0 = .ok (.iconst 0, 1) := by decide +kernel
theorem dX4_unheard_1 : decode cX4_unheard 1 = .ok (.istore_n 2, 1) := by decide +kernel
theorem dX4_unheard_2 : decode cX4_unheard 2 = .ok (.iconst 0, 1) := by decide +kernel
theorem dX4_unheard_3 : decode cX4_unheard 3 = .ok (.istore_n 3, 1) := by decide +kernel
theorem dX4_unheard_4 : decode cX4_unheard 4 = .ok (.iload_n 3, 1) := by decide +kernel
theorem dX4_unheard_5 : decode cX4_unheard 5 = .ok (.aload_n 0, 1) := by decide +kernel
theorem dX4_unheard_6 : decode cX4_unheard 6 = .ok (.getfield 33, 3) := by decide +kernel
theorem dX4_unheard_9 : decode cX4_unheard 9 = .ok (.if_icmp .ge 31, 3) := by decide +kernel
theorem dX4_unheard_12 : decode cX4_unheard 12 = .ok (.aload_n 0, 1) := by decide +kernel
theorem dX4_unheard_13 : decode cX4_unheard 13 = .ok (.getfield 9, 3) := by decide +kernel
theorem dX4_unheard_16 : decode cX4_unheard 16 = .ok (.iload_n 3, 1) := by decide +kernel
theorem dX4_unheard_17 : decode cX4_unheard 17 = .ok (.iaload, 1) := by decide +kernel
theorem dX4_unheard_18 : decode cX4_unheard 18 = .ok (.iload_n 1, 1) := by decide +kernel
theorem dX4_unheard_19 : decode cX4_unheard 19 = .ok (.if_icmp .ne 15, 3) := by decide +kernel
theorem dX4_unheard_22 : decode cX4_unheard 22 = .ok (.aload_n 0, 1) := by decide +kernel
theorem dX4_unheard_23 : decode cX4_unheard 23 = .ok (.getfield 24, 3) := by decide +kernel
theorem dX4_unheard_26 : decode cX4_unheard 26 = .ok (.iload_n 3, 1) := by decide +kernel
theorem dX4_unheard_27 : decode cX4_unheard 27 = .ok (.iaload, 1) := by decide +kernel
theorem dX4_unheard_28 : decode cX4_unheard 28 = .ok (.ifCond .ne 6, 3) := by decide +kernel
theorem dX4_unheard_31 : decode cX4_unheard 31 = .ok (.iinc 2 1, 3) := by decide +kernel
theorem dX4_unheard_34 : decode cX4_unheard 34 = .ok (.iinc 3 1, 3) := by decide +kernel
theorem dX4_unheard_37 : decode cX4_unheard 37 = .ok (.goto (-33), 3) := by decide +kernel
theorem dX4_unheard_40 : decode cX4_unheard 40 = .ok (.iload_n 2, 1) := by decide +kernel
theorem dX4_unheard_41 : decode cX4_unheard 41 = .ok (.ireturn, 1) := by decide +kernel
theorem dX5_init_0 : decode cX5_init 0 = .ok (.aload_n 0, 1) := by decide +kernel
theorem dX5_init_1 : decode cX5_init 1 = .ok (.invokespecial 3, 3) := by decide +kernel
theorem dX5_init_4 : decode cX5_init 4 = .ok (.aload_n 0, 1) := by decide +kernel
theorem dX5_init_5 : decode cX5_init 5 = .ok (.bipush 100, 2) := by decide +kernel
theorem dX5_init_7 : decode cX5_init 7 = .ok (.newarray .int, 2) := by decide +kernel
theorem dX5_init_9 : decode cX5_init 9 = .ok (.putfield 9, 3) := by decide +kernel
theorem dX5_init_12 : decode cX5_init 12 = .ok (.return_, 1) := by decide +kernel
theorem dX5_copyFrom_0 : decode cX5_copyFrom 0 = .ok (.aload_n 1, 1) := by decide +kernel
theorem dX5_copyFrom_1 : decode cX5_copyFrom 1 = .ok (.getfield 9, 3) := by decide +kernel
theorem dX5_copyFrom_4 : decode cX5_copyFrom 4 = .ok (.iconst 0, 1) := by decide +kernel
theorem dX5_copyFrom_5 : decode cX5_copyFrom 5 = .ok (.aload_n 0, 1) := by decide +kernel
theorem dX5_copyFrom_6 : decode cX5_copyFrom 6 = .ok (.getfield 9, 3) := by decide +kernel
theorem dX5_copyFrom_9 : decode cX5_copyFrom 9 = .ok (.iconst 0, 1) := by decide +kernel
theorem dX5_copyFrom_10 : decode cX5_copyFrom 10 = .ok (.bipush 100, 2) := by decide +kernel
theorem dX5_copyFrom_12 : decode cX5_copyFrom 12 = .ok (.invokestatic 15, 3) := by decide +kernel
theorem dX5_copyFrom_15 : decode cX5_copyFrom 15 = .ok (.aload_n 0, 1) := by decide +kernel
theorem dX5_copyFrom_16 : decode cX5_copyFrom 16 = .ok (.aload_n 1, 1) := by decide +kernel
theorem dX5_copyFrom_17 : decode cX5_copyFrom 17 = .ok (.getfield 21, 3) := by decide +kernel
theorem dX5_copyFrom_20 : decode cX5_copyFrom 20 = .ok (.putfield 21, 3) := by decide +kernel
theorem dX5_copyFrom_23 : decode cX5_copyFrom 23 = .ok (.return_, 1) := by decide +kernel
theorem dX5_add_0 : decode cX5_add 0 = .ok (.aload_n 0, 1) := by decide +kernel
theorem dX5_add_1 : decode cX5_add 1 = .ok (.getfield 21, 3) := by decide +kernel
theorem dX5_add_4 : decode cX5_add 4 = .ok (.bipush 100, 2) := by decide +kernel
theorem dX5_add_6 : decode cX5_add 6 = .ok (.if_icmp .lt 37, 3) := by decide +kernel
theorem dX5_add_9 : decode cX5_add 9 = .ok (.iconst 1, 1) := by decide +kernel
theorem dX5_add_10 : decode cX5_add 10 = .ok (.istore_n 2, 1) := by decide +kernel
theorem dX5_add_11 : decode cX5_add 11 = .ok (.iload_n 2, 1) := by decide +kernel
theorem dX5_add_12 : decode cX5_add 12 = .ok (.bipush 100, 2) := by decide +kernel
theorem dX5_add_14 : decode cX5_add 14 = .ok (.if_icmp .ge 23, 3) := by decide +kernel
theorem dX5_add_17 : decode cX5_add 17 = .ok (.aload_n 0, 1) := by decide +kernel
theorem dX5_add_18 : decode cX5_add 18 = .ok (.getfield 9, 3) := by decide +kernel
theorem dX5_add_21 : decode cX5_add 21 = .ok (.iload_n 2, 1) := by decide +kernel
theorem dX5_add_22 : decode cX5_add 22 = .ok (.iconst 1, 1) := by decide +kernel
theorem dX5_add_23 : decode cX5_add 23 = .ok (.isub, 1) := by decide +kernel
theorem dX5_add_24 : decode cX5_add 24 = .ok (.aload_n 0, 1) := by decide +kernel
theorem dX5_add_25 : decode cX5_add 25 = .ok (.getfield 9, 3) := by decide +kernel
theorem dX5_add_28 : decode cX5_add 28 = .ok (.iload_n 2, 1) := by decide +kernel
theorem dX5_add_29 : decode cX5_add 29 = .ok (.iaload, 1) := by decide +kernel
theorem dX5_add_30 : decode cX5_add 30 = .ok (.iastore, 1) := by decide +kernel
theorem dX5_add_31 : decode cX5_add 31 = .ok (.iinc 2 1, 3) := by decide +kernel
theorem dX5_add_34 : decode cX5_add 34 = .ok (.goto (-23), 3) := by decide +kernel
theorem dX5_add_37 : decode cX5_add 37 = .ok (.aload_n 0, 1) := by decide +kernel
theorem dX5_add_38 : decode cX5_add 38 = .ok (.bipush 99, 2) := by decide +kernel
theorem dX5_add_40 : decode cX5_add 40 = .ok (.putfield 21, 3) := by decide +kernel
theorem dX5_add_43 : decode cX5_add 43 = .ok (.aload_n 0, 1) := by decide +kernel
theorem dX5_add_44 : decode cX5_add 44 = .ok (.getfield 9, 3) := by decide +kernel
theorem dX5_add_47 : decode cX5_add 47 = .ok (.aload_n 0, 1) := by decide +kernel
theorem dX5_add_48 : decode cX5_add 48 = .ok (.getfield 21, 3) := by decide +kernel
theorem dX5_add_51 : decode cX5_add 51 = .ok (.iload_n 1, 1) := by decide +kernel
theorem dX5_add_52 : decode cX5_add 52 = .ok (.iastore, 1) := by decide +kernel
theorem dX5_add_53 : decode cX5_add 53 = .ok (.aload_n 0, 1) := by decide +kernel
theorem dX5_add_54 : decode cX5_add 54 = .ok (.dup, 1) := by decide +kernel
theorem dX5_add_55 : decode cX5_add 55 = .ok (.getfield 21, 3) := by decide +kernel
theorem dX5_add_58 : decode cX5_add 58 = .ok (.iconst 1, 1) := by decide +kernel
theorem dX5_add_59 : decode cX5_add 59 = .ok (.iadd, 1) := by decide +kernel
theorem dX5_add_60 : decode cX5_add 60 = .ok (.putfield 21, 3) := by decide +kernel
theorem dX5_add_63 : decode cX5_add 63 = .ok (.return_, 1) := by decide +kernel
theorem dX6_init_0 : decode cX6_init 0 = .ok (.aload_n 0, 1) := by decide +kernel
theorem dX6_init_1 : decode cX6_init 1 = .ok (.invokespecial 3, 3) := by decide +kernel
theorem dX6_init_4 : decode cX6_init 4 = .ok (.aload_n 0, 1) := by decide +kernel
theorem dX6_init_5 : decode cX6_init 5 = .ok (.new 9, 3) := by decide +kernel
theorem dX6_init_8 : decode cX6_init 8 = .ok (.dup, 1) := by decide +kernel
theorem dX6_init_9 : decode cX6_init 9 = .ok (.invokespecial 11, 3) := by decide +kernel
theorem dX6_init_12 : decode cX6_init 12 = .ok (.putfield 12, 3) := by decide +kernel
theorem dX6_init_15 : decode cX6_init 15 = .ok (.aload_n 0, 1) := by decide +kernel
theorem dX6_init_16 : decode cX6_init 16 = .ok (.new 18, 3) := by decide +kernel
theorem dX6_init_19 : decode cX6_init 19 = .ok (.dup, 1) := by decide +kernel
theorem dX6_init_20 : decode cX6_init 20 = .ok (.invokespecial 20, 3) := by decide +kernel
theorem dX6_init_23 : decode cX6_init 23 = .ok (.putfield 21, 3) := by decide +kernel
theorem dX6_init_26 : decode cX6_init 26 = .ok (.aload_n 0, 1) := by decide +kernel
theorem dX6_init_27 : decode cX6_init 27 = .ok (.new 18, 3) := by decide +kernel
theorem dX6_init_30 : decode cX6_init 30 = .ok (.dup, 1) := by decide +kernel
theorem dX6_init_31 : decode cX6_init 31 = .ok (.invokespecial 20, 3) := by decide +kernel
theorem dX6_init_34 : decode cX6_init 34 = .ok (.putfield 25, 3) := by decide +kernel
theorem dX6_init_37 : decode cX6_init 37 = .ok (.aload_n 0, 1) := by decide +kernel
theorem dX6_init_38 : decode cX6_init 38 = .ok (.new 28, 3) := by decide +kernel
theorem dX6_init_41 : decode cX6_init 41 = .ok (.dup, 1) := by decide +kernel
theorem dX6_init_42 : decode cX6_init 42 = .ok (.invokespecial 30, 3) := by decide +kernel
theorem dX6_init_45 : decode cX6_init 45 = .ok (.putfield 31, 3) := by decide +kernel
theorem dX6_init_48 : decode cX6_init 48 = .ok (.aload_n 0, 1) := by decide +kernel
theorem dX6_init_49 : decode cX6_init 49 = .ok (.bipush 7, 2) := by decide +kernel
theorem dX6_init_51 : decode cX6_init 51 = .ok (.newarray .int, 2) := by decide +kernel
theorem dX6_init_53 : decode cX6_init 53 = .ok (.putfield 35, 3) := by decide +kernel
theorem dX6_init_56 : decode cX6_init 56 = .ok (.aload_n 0, 1) := by decide +kernel
theorem dX6_init_57 : decode cX6_init 57 = .ok (.bipush 40, 2) := by decide +kernel
theorem dX6_init_59 : decode cX6_init 59 = .ok (.putfield 39, 3) := by decide +kernel
theorem dX6_init_62 : decode cX6_init 62 = .ok (.aload_n 0, 1) := by decide +kernel
theorem dX6_init_63 : decode cX6_init 63 = .ok (.iconst 0, 1) := by decide +kernel
theorem dX6_init_64 : decode cX6_init 64 = .ok (.putfield 43, 3) := by decide +kernel
theorem dX6_init_67 : decode cX6_init 67 = .ok (.return_, 1) := by decide +kernel
theorem dX6_copyFrom_0 : decode cX6_copyFrom 0 = .ok (.aload_n 0, 1) := by decide +kernel
theorem dX6_copyFrom_1 : decode cX6_copyFrom 1 = .ok (.getfield 12, 3) := by decide +kernel
theorem dX6_copyFrom_4 : decode cX6_copyFrom 4 = .ok (.aload_n 1, 1) := by decide +kernel
theorem dX6_copyFrom_5 : decode cX6_copyFrom 5 = .ok (.getfield 12, 3) := by decide +kernel
theorem dX6_copyFrom_8 : decode cX6_copyFrom 8 = .ok (.invokevirtual 46, 3) := by decide +kernel
theorem dX6_copyFrom_11 : decode cX6_copyFrom 11 = .ok (.aload_n 0, 1) := by decide +kernel
theorem dX6_copyFrom_12 : decode cX6_copyFrom 12 = .ok (.getfield 21, 3) := by decide +kernel
theorem dX6_copyFrom_15 : decode cX6_copyFrom 15 = .ok (.aload_n 1, 1) := by decide +kernel
theorem dX6_copyFrom_16 : decode cX6_copyFrom 16 = .ok (.getfield 21, 3) := by decide +kernel
theorem dX6_copyFrom_19 : decode cX6_copyFrom 19 = .ok (.invokevirtual 50, 3) := by decide +kernel
theorem dX6_copyFrom_22 : decode cX6_copyFrom 22 = .ok (.aload_n 0, 1) := by decide +kernel
theorem dX6_copyFrom_23 : decode cX6_copyFrom 23 = .ok (.getfield 25, 3) := by decide +kernel
theorem dX6_copyFrom_26 : decode cX6_copyFrom 26 = .ok (.aload_n 1, 1) := by decide +kernel
theorem dX6_copyFrom_27 : decode cX6_copyFrom 27 = .ok (.getfield 25, 3) := by decide +kernel
theorem dX6_copyFrom_30 : decode cX6_copyFrom 30 = .ok (.invokevirtual 50, 3) := by decide +kernel
theorem dX6_copyFrom_33 : decode cX6_copyFrom 33 = .ok (.aload_n 1, 1) := by decide +kernel
theorem dX6_copyFrom_34 : decode cX6_copyFrom 34 = .ok (.getfield 35, 3) := by decide +kernel
theorem dX6_copyFrom_37 : decode cX6_copyFrom 37 = .ok (.iconst 0, 1) := by decide +kernel
theorem dX6_copyFrom_38 : decode cX6_copyFrom 38 = .ok (.aload_n 0, 1) := by decide +kernel
theorem dX6_copyFrom_39 : decode cX6_copyFrom 39 = .ok (.getfield 35, 3) := by decide +kernel
theorem dX6_copyFrom_42 : decode cX6_copyFrom 42 = .ok (.iconst 0, 1) := by decide +kernel
theorem dX6_copyFrom_43 : decode cX6_copyFrom 43 = .ok (.bipush 7, 2) := by decide +kernel
theorem dX6_copyFrom_45 : decode cX6_copyFrom 45 = .ok (.invokestatic 53, 3) := by decide +kernel
theorem dX6_copyFrom_48 : decode cX6_copyFrom 48 = .ok (.aload_n 0, 1) := by decide +kernel
theorem dX6_copyFrom_49 : decode cX6_copyFrom 49 = .ok (.aload_n 1, 1) := by decide +kernel
theorem dX6_copyFrom_50 : decode cX6_copyFrom 50 = .ok (.getfield 59, 3) := by decide +kernel
theorem dX6_copyFrom_53 : decode cX6_copyFrom 53 = .ok (.putfield 59, 3) := by decide +kernel
theorem dX6_copyFrom_56 : decode cX6_copyFrom 56 = .ok (.aload_n 0, 1) := by decide +kernel
theorem dX6_copyFrom_57 : decode cX6_copyFrom 57 = .ok (.aload_n 1, 1) := by decide +kernel
theorem dX6_copyFrom_58 : decode cX6_copyFrom 58 = .ok (.getfield 39, 3) := by decide +kernel
theorem dX6_copyFrom_61 : decode cX6_copyFrom 61 = .ok (.putfield 39, 3) := by decide +kernel
theorem dX6_copyFrom_64 : decode cX6_copyFrom 64 = .ok (.aload_n 0, 1) := by decide +kernel
theorem dX6_copyFrom_65 : decode cX6_copyFrom 65 = .ok (.aload_n 1, 1) := by decide +kernel
theorem dX6_copyFrom_66 : decode cX6_copyFrom 66 = .ok (.getfield 43, 3) := by decide +kernel
theorem dX6_copyFrom_69 : decode cX6_copyFrom 69 = .ok (.putfield 43, 3) := by decide +kernel
theorem dX6_copyFrom_72 : decode cX6_copyFrom 72 = .ok (.aload_n 0, 1) := by decide +kernel
theorem dX6_copyFrom_73 : decode cX6_copyFrom 73 = .ok (.aload_n 1, 1) := by decide +kernel
theorem dX6_copyFrom_74 : decode cX6_copyFrom 74 = .ok (.getfield 62, 3) := by decide +kernel
theorem dX6_copyFrom_77 : decode cX6_copyFrom 77 = .ok (.putfield 62, 3) := by decide +kernel
theorem dX6_copyFrom_80 : decode cX6_copyFrom 80 = .ok (.aload_n 0, 1) := by decide +kernel
theorem dX6_copyFrom_81 : decode cX6_copyFrom 81 = .ok (.aload_n 1, 1) := by decide +kernel
theorem dX6_copyFrom_82 : decode cX6_copyFrom 82 = .ok (.getfield 65, 3) := by decide +kernel
theorem dX6_copyFrom_85 : decode cX6_copyFrom 85 = .ok (.putfield 65, 3) := by decide +kernel
theorem dX6_copyFrom_88 : decode cX6_copyFrom 88 = .ok (.return_, 1) := by decide +kernel
theorem dX6_empty_0 : decode cX6_empty 0 = .ok (.aload_n 0, 1) := by decide +kernel
theorem dX6_empty_1 : decode cX6_empty 1 = .ok (.getfield 12, 3) := by decide +kernel
theorem dX6_empty_4 : decode cX6_empty 4 = .ok (.sipush 999, 3) := by decide +kernel
theorem dX6_empty_7 : decode cX6_empty 7 = .ok (.invokevirtual 68, 3) := by decide +kernel
theorem dX6_empty_10 : decode cX6_empty 10 = .ok (.aload_n 0, 1) := by decide +kernel
theorem dX6_empty_11 : decode cX6_empty 11 = .ok (.getfield 21, 3) := by decide +kernel
theorem dX6_empty_14 : decode cX6_empty 14 = .ok (.iconst 0, 1) := by decide +kernel
theorem dX6_empty_15 : decode cX6_empty 15 = .ok (.putfield 72, 3) := by decide +kernel
theorem dX6_empty_18 : decode cX6_empty 18 = .ok (.aload_n 0, 1) := by decide +kernel
theorem dX6_empty_19 : decode cX6_empty 19 = .ok (.getfield 25, 3) := by decide +kernel
theorem dX6_empty_22 : decode cX6_empty 22 = .ok (.iconst 0, 1) := by decide +kernel
theorem dX6_empty_23 : decode cX6_empty 23 = .ok (.putfield 72, 3) := by decide +kernel
theorem dX6_empty_26 : decode cX6_empty 26 = .ok (.aload_n 0, 1) := by decide +kernel
theorem dX6_empty_27 : decode cX6_empty 27 = .ok (.getfield 35, 3) := by decide +kernel
theorem dX6_empty_30 : decode cX6_empty 30 = .ok (.iconst 0, 1) := by decide +kernel
theorem dX6_empty_31 : decode cX6_empty 31 = .ok (.invokestatic 75, 3) := by decide +kernel
theorem dX6_empty_34 : decode cX6_empty 34 = .ok (.aload_n 0, 1) := by decide +kernel
theorem dX6_empty_35 : decode cX6_empty 35 = .ok (.iconst 0, 1) := by decide +kernel
theorem dX6_empty_36 : decode cX6_empty 36 = .ok (.putfield 59, 3) := by decide +kernel
theorem dX6_empty_39 : decode cX6_empty 39 = .ok (.aload_n 0, 1) := by decide +kernel
theorem dX6_empty_40 : decode cX6_empty 40 = .ok (.iload_n 2, 1) := by decide +kernel
theorem dX6_empty_41 : decode cX6_empty 41 = .ok (.putfield 39, 3) := by decide +kernel
theorem dX6_empty_44 : decode cX6_empty 44 = .ok (.aload_n 0, 1) := by decide +kernel
theorem dX6_empty_45 : decode cX6_empty 45 = .ok (.iload_n 1, 1) := by decide +kernel
theorem dX6_empty_46 : decode cX6_empty 46 = .ok (.putfield 43, 3) := by decide +kernel
theorem dX6_empty_49 : decode cX6_empty 49 = .ok (.aload_n 0, 1) := by decide +kernel
theorem dX6_empty_50 : decode cX6_empty 50 = .ok (.iconst 0, 1) := by decide +kernel
theorem dX6_empty_51 : decode cX6_empty 51 = .ok (.putfield 62, 3) := by decide +kernel
theorem dX6_empty_54 : decode cX6_empty 54 = .ok (.aload_n 0, 1) := by decide +kernel
theorem dX6_empty_55 : decode cX6_empty 55 = .ok (.iconst 0, 1) := by decide +kernel
theorem dX6_empty_56 : decode cX6_empty 56 = .ok (.putfield 65, 3) := by decide +kernel
theorem dX6_empty_59 : decode cX6_empty 59 = .ok (.return_, 1) := by decide +kernel
theorem dX6_tell_0 : decode cX6_tell 0 = .ok (.aload_n 0, 1) := by decide +kernel
theorem dX6_tell_1 : decode cX6_tell 1 = .ok (.getfield 35, 3) := by decide +kernel
theorem dX6_tell_4 : decode cX6_tell 4 = .ok (.iload_n 1, 1) := by decide +kernel
theorem dX6_tell_5 : decode cX6_tell 5 = .ok (.dup2, 1) := by decide +kernel
theorem dX6_tell_6 : decode cX6_tell 6 = .ok (.iaload, 1) := by decide +kernel
theorem dX6_tell_7 : decode cX6_tell 7 = .ok (.iconst 1, 1) := by decide +kernel
theorem dX6_tell_8 : decode cX6_tell 8 = .ok (.iadd, 1) := by decide +kernel
theorem dX6_tell_9 : decode cX6_tell 9 = .ok (.iastore, 1) := by decide +kernel
theorem dX6_tell_10 : decode cX6_tell 10 = .ok (.aload_n 0, 1) := by decide +kernel
theorem dX6_tell_11 : decode cX6_tell 11 = .ok (.getfield 31, 3) := by decide +kernel
theorem dX6_tell_14 : decode cX6_tell 14 = .ok (.iload_n 1, 1) := by decide +kernel
theorem dX6_tell_15 : decode cX6_tell 15 = .ok (.iload_n 2, 1) := by decide +kernel
theorem dX6_tell_16 : decode cX6_tell 16 = .ok (.iload_n 3, 1) := by decide +kernel
theorem dX6_tell_17 : decode cX6_tell 17 = .ok (.iload 4, 2) := by decide +kernel
theorem dX6_tell_19 : decode cX6_tell 19 = .ok (.invokevirtual 81, 3) := by decide +kernel
theorem dX6_tell_22 : decode cX6_tell 22 = .ok (.return_, 1) := by decide +kernel
theorem dX6_choose_0 : decode cX6_choose 0 = .ok (.iload_n 1, 1) := by decide +kernel
theorem dX6_choose_1 : decode cX6_choose 1 = .ok (.tableswitch 147 0 4 #[35, 45, 55, 78, 87], 35) := by decide +kernel
theorem dX6_choose_36 : decode cX6_choose 36 = .ok (.aload_n 0, 1) := by decide +kernel
theorem dX6_choose_37 : decode cX6_choose 37 = .ok (.getfield 12, 3) := by decide +kernel
theorem dX6_choose_40 : decode cX6_choose 40 = .ok (.iconst 0, 1) := by decide +kernel
theorem dX6_choose_41 : decode cX6_choose 41 = .ok (.iload_n 2, 1) := by decide +kernel
theorem dX6_choose_42 : decode cX6_choose 42 = .ok (.invokevirtual 85, 3) := by decide +kernel
theorem dX6_choose_45 : decode cX6_choose 45 = .ok (.ireturn, 1) := by decide +kernel
theorem dX6_choose_46 : decode cX6_choose 46 = .ok (.aload_n 0, 1) := by decide +kernel
theorem dX6_choose_47 : decode cX6_choose 47 = .ok (.getfield 12, 3) := by decide +kernel
theorem dX6_choose_50 : decode cX6_choose 50 = .ok (.iconst 1, 1) := by decide +kernel
theorem dX6_choose_51 : decode cX6_choose 51 = .ok (.iload_n 2, 1) := by decide +kernel
theorem dX6_choose_52 : decode cX6_choose 52 = .ok (.invokevirtual 85, 3) := by decide +kernel
theorem dX6_choose_55 : decode cX6_choose 55 = .ok (.ireturn, 1) := by decide +kernel
theorem dX6_choose_56 : decode cX6_choose 56 = .ok (.aload_n 0, 1) := by decide +kernel
theorem dX6_choose_57 : decode cX6_choose 57 = .ok (.getfield 12, 3) := by decide +kernel
theorem dX6_choose_60 : decode cX6_choose 60 = .ok (.aload_n 0, 1) := by decide +kernel
theorem dX6_choose_61 : decode cX6_choose 61 = .ok (.getfield 65, 3) := by decide +kernel
theorem dX6_choose_64 : decode cX6_choose 64 = .ok (.iconst 2, 1) := by decide +kernel
theorem dX6_choose_65 : decode cX6_choose 65 = .ok (.irem, 1) := by decide +kernel
theorem dX6_choose_66 : decode cX6_choose 66 = .ok (.ifCond .ne 7, 3) := by decide +kernel
theorem dX6_choose_69 : decode cX6_choose 69 = .ok (.iconst 0, 1) := by decide +kernel
theorem dX6_choose_70 : decode cX6_choose 70 = .ok (.goto 4, 3) := by decide +kernel
theorem dX6_choose_73 : decode cX6_choose 73 = .ok (.iconst 1, 1) := by decide +kernel
theorem dX6_choose_74 : decode cX6_choose 74 = .ok (.iload_n 2, 1) := by decide +kernel
theorem dX6_choose_75 : decode cX6_choose 75 = .ok (.invokevirtual 85, 3) := by decide +kernel
theorem dX6_choose_78 : decode cX6_choose 78 = .ok (.ireturn, 1) := by decide +kernel
theorem dX6_choose_79 : decode cX6_choose 79 = .ok (.aload_n 0, 1) := by decide +kernel
theorem dX6_choose_80 : decode cX6_choose 80 = .ok (.getfield 12, 3) := by decide +kernel
theorem dX6_choose_83 : decode cX6_choose 83 = .ok (.iload_n 2, 1) := by decide +kernel
theorem dX6_choose_84 : decode cX6_choose 84 = .ok (.invokevirtual 89, 3) := by decide +kernel
theorem dX6_choose_87 : decode cX6_choose 87 = .ok (.ireturn, 1) := by decide +kernel
theorem dX6_choose_88 : decode cX6_choose 88 = .ok (.aload_n 0, 1) := by decide +kernel
theorem dX6_choose_89 : decode cX6_choose 89 = .ok (.getfield 12, 3) := by decide +kernel
theorem dX6_choose_92 : decode cX6_choose 92 = .ok (.invokevirtual 93, 3) := by decide +kernel
theorem dX6_choose_95 : decode cX6_choose 95 = .ok (.aload_n 0, 1) := by decide +kernel
theorem dX6_choose_96 : decode cX6_choose 96 = .ok (.getfield 62, 3) := by decide +kernel
theorem dX6_choose_99 : decode cX6_choose 99 = .ok (.if_icmp .le 7, 3) := by decide +kernel
theorem dX6_choose_102 : decode cX6_choose 102 = .ok (.iconst 1, 1) := by decide +kernel
theorem dX6_choose_103 : decode cX6_choose 103 = .ok (.goto 4, 3) := by decide +kernel
theorem dX6_choose_106 : decode cX6_choose 106 = .ok (.iconst 0, 1) := by decide +kernel
theorem dX6_choose_107 : decode cX6_choose 107 = .ok (.istore_n 3, 1) := by decide +kernel
theorem dX6_choose_108 : decode cX6_choose 108 = .ok (.aload_n 0, 1) := by decide +kernel
theorem dX6_choose_109 : decode cX6_choose 109 = .ok (.getfield 12, 3) := by decide +kernel
theorem dX6_choose_112 : decode cX6_choose 112 = .ok (.iload_n 3, 1) := by decide +kernel
theorem dX6_choose_113 : decode cX6_choose 113 = .ok (.iload_n 2, 1) := by decide +kernel
theorem dX6_choose_114 : decode cX6_choose 114 = .ok (.invokevirtual 97, 3) := by decide +kernel
theorem dX6_choose_117 : decode cX6_choose 117 = .ok (.istore 4, 2) := by decide +kernel
theorem dX6_choose_119 : decode cX6_choose 119 = .ok (.iload 4, 2) := by decide +kernel
theorem dX6_choose_121 : decode cX6_choose 121 = .ok (.iconst (-1), 1) := by decide +kernel
theorem dX6_choose_122 : decode cX6_choose 122 = .ok (.if_icmp .eq 8, 3) := by decide +kernel
theorem dX6_choose_125 : decode cX6_choose 125 = .ok (.iload 4, 2) := by decide +kernel
theorem dX6_choose_127 : decode cX6_choose 127 = .ok (.goto 20, 3) := by decide +kernel
theorem dX6_choose_130 : decode cX6_choose 130 = .ok (.aload_n 0, 1) := by decide +kernel
theorem dX6_choose_131 : decode cX6_choose 131 = .ok (.getfield 12, 3) := by decide +kernel
theorem dX6_choose_134 : decode cX6_choose 134 = .ok (.iload_n 3, 1) := by decide +kernel
theorem dX6_choose_135 : decode cX6_choose 135 = .ok (.ifCond .ne 7, 3) := by decide +kernel
theorem dX6_choose_138 : decode cX6_choose 138 = .ok (.iconst 1, 1) := by decide +kernel
theorem dX6_choose_139 : decode cX6_choose 139 = .ok (.goto 4, 3) := by decide +kernel
theorem dX6_choose_142 : decode cX6_choose 142 = .ok (.iconst 0, 1) := by decide +kernel
theorem dX6_choose_143 : decode cX6_choose 143 = .ok (.iload_n 2, 1) := by decide +kernel
theorem dX6_choose_144 : decode cX6_choose 144 = .ok (.invokevirtual 97, 3) := by decide +kernel
theorem dX6_choose_147 : decode cX6_choose 147 = .ok (.ireturn, 1) := by decide +kernel
theorem dX6_choose_148 : decode cX6_choose 148 = .ok (.iconst (-1), 1) := by decide +kernel
theorem dX6_choose_149 : decode cX6_choose 149 = .ok (.ireturn, 1) := by decide +kernel
theorem dX6_evict_0 : decode cX6_evict 0 = .ok (.aload_n 0, 1) := by decide +kernel
theorem dX6_evict_1 : decode cX6_evict 1 = .ok (.getfield 12, 3) := by decide +kernel
theorem dX6_evict_4 : decode cX6_evict 4 = .ok (.iload_n 1, 1) := by decide +kernel
theorem dX6_evict_5 : decode cX6_evict 5 = .ok (.invokevirtual 101, 3) := by decide +kernel
theorem dX6_evict_8 : decode cX6_evict 8 = .ok (.ifCond .ne 4, 3) := by decide +kernel
theorem dX6_evict_11 : decode cX6_evict 11 = .ok (.return_, 1) := by decide +kernel
theorem dX6_evict_12 : decode cX6_evict 12 = .ok (.aload_n 0, 1) := by decide +kernel
theorem dX6_evict_13 : decode cX6_evict 13 = .ok (.getfield 12, 3) := by decide +kernel
theorem dX6_evict_16 : decode cX6_evict 16 = .ok (.getfield 105, 3) := by decide +kernel
theorem dX6_evict_19 : decode cX6_evict 19 = .ok (.iload_n 1, 1) := by decide +kernel
theorem dX6_evict_20 : decode cX6_evict 20 = .ok (.iaload, 1) := by decide +kernel
theorem dX6_evict_21 : decode cX6_evict 21 = .ok (.istore_n 2, 1) := by decide +kernel
theorem dX6_evict_22 : decode cX6_evict 22 = .ok (.aload_n 0, 1) := by decide +kernel
theorem dX6_evict_23 : decode cX6_evict 23 = .ok (.getfield 21, 3) := by decide +kernel
theorem dX6_evict_26 : decode cX6_evict 26 = .ok (.iload_n 2, 1) := by decide +kernel
theorem dX6_evict_27 : decode cX6_evict 27 = .ok (.invokevirtual 108, 3) := by decide +kernel
theorem dX6_evict_30 : decode cX6_evict 30 = .ok (.pop, 1) := by decide +kernel
theorem dX6_evict_31 : decode cX6_evict 31 = .ok (.aload_n 0, 1) := by decide +kernel
theorem dX6_evict_32 : decode cX6_evict 32 = .ok (.getfield 25, 3) := by decide +kernel
theorem dX6_evict_35 : decode cX6_evict 35 = .ok (.iload_n 2, 1) := by decide +kernel
theorem dX6_evict_36 : decode cX6_evict 36 = .ok (.invokevirtual 108, 3) := by decide +kernel
theorem dX6_evict_39 : decode cX6_evict 39 = .ok (.pop, 1) := by decide +kernel
theorem dX6_evict_40 : decode cX6_evict 40 = .ok (.aload_n 0, 1) := by decide +kernel
theorem dX6_evict_41 : decode cX6_evict 41 = .ok (.getfield 12, 3) := by decide +kernel
theorem dX6_evict_44 : decode cX6_evict 44 = .ok (.iload_n 1, 1) := by decide +kernel
theorem dX6_evict_45 : decode cX6_evict 45 = .ok (.invokevirtual 111, 3) := by decide +kernel
theorem dX6_evict_48 : decode cX6_evict 48 = .ok (.ifCond .eq 14, 3) := by decide +kernel
theorem dX6_evict_51 : decode cX6_evict 51 = .ok (.aload_n 0, 1) := by decide +kernel
theorem dX6_evict_52 : decode cX6_evict 52 = .ok (.getfield 21, 3) := by decide +kernel
theorem dX6_evict_55 : decode cX6_evict 55 = .ok (.iload_n 2, 1) := by decide +kernel
theorem dX6_evict_56 : decode cX6_evict 56 = .ok (.invokevirtual 114, 3) := by decide +kernel
theorem dX6_evict_59 : decode cX6_evict 59 = .ok (.goto 11, 3) := by decide +kernel
theorem dX6_evict_62 : decode cX6_evict 62 = .ok (.aload_n 0, 1) := by decide +kernel
theorem dX6_evict_63 : decode cX6_evict 63 = .ok (.getfield 25, 3) := by decide +kernel
theorem dX6_evict_66 : decode cX6_evict 66 = .ok (.iload_n 2, 1) := by decide +kernel
theorem dX6_evict_67 : decode cX6_evict 67 = .ok (.invokevirtual 114, 3) := by decide +kernel
theorem dX6_evict_70 : decode cX6_evict 70 = .ok (.aload_n 0, 1) := by decide +kernel
theorem dX6_evict_71 : decode cX6_evict 71 = .ok (.getfield 43, 3) := by decide +kernel
theorem dX6_evict_74 : decode cX6_evict 74 = .ok (.iconst 2, 1) := by decide +kernel
theorem dX6_evict_75 : decode cX6_evict 75 = .ok (.if_icmp .ne 13, 3) := by decide +kernel
theorem dX6_evict_78 : decode cX6_evict 78 = .ok (.aload_n 0, 1) := by decide +kernel
theorem dX6_evict_79 : decode cX6_evict 79 = .ok (.dup, 1) := by decide +kernel
theorem dX6_evict_80 : decode cX6_evict 80 = .ok (.getfield 65, 3) := by decide +kernel
theorem dX6_evict_83 : decode cX6_evict 83 = .ok (.iconst 1, 1) := by decide +kernel
theorem dX6_evict_84 : decode cX6_evict 84 = .ok (.iadd, 1) := by decide +kernel
theorem dX6_evict_85 : decode cX6_evict 85 = .ok (.putfield 65, 3) := by decide +kernel
theorem dX6_evict_88 : decode cX6_evict 88 = .ok (.aload_n 0, 1) := by decide +kernel
theorem dX6_evict_89 : decode cX6_evict 89 = .ok (.iconst 2, 1) := by decide +kernel
theorem dX6_evict_90 : decode cX6_evict 90 = .ok (.iload_n 2, 1) := by decide +kernel
theorem dX6_evict_91 : decode cX6_evict 91 = .ok (.aload_n 0, 1) := by decide +kernel
theorem dX6_evict_92 : decode cX6_evict 92 = .ok (.getfield 12, 3) := by decide +kernel
theorem dX6_evict_95 : decode cX6_evict 95 = .ok (.getfield 116, 3) := by decide +kernel
theorem dX6_evict_98 : decode cX6_evict 98 = .ok (.iload_n 1, 1) := by decide +kernel
theorem dX6_evict_99 : decode cX6_evict 99 = .ok (.iaload, 1) := by decide +kernel
theorem dX6_evict_100 : decode cX6_evict 100 = .ok (.aload_n 0, 1) := by decide +kernel
theorem dX6_evict_101 : decode cX6_evict 101 = .ok (.getfield 12, 3) := by decide +kernel
theorem dX6_evict_104 : decode cX6_evict 104 = .ok (.getfield 119, 3) := by decide +kernel
theorem dX6_evict_107 : decode cX6_evict 107 = .ok (.iload_n 1, 1) := by decide +kernel
theorem dX6_evict_108 : decode cX6_evict 108 = .ok (.iaload, 1) := by decide +kernel
theorem dX6_evict_109 : decode cX6_evict 109 = .ok (.invokevirtual 122, 3) := by decide +kernel
theorem dX6_evict_112 : decode cX6_evict 112 = .ok (.aload_n 0, 1) := by decide +kernel
theorem dX6_evict_113 : decode cX6_evict 113 = .ok (.getfield 12, 3) := by decide +kernel
theorem dX6_evict_116 : decode cX6_evict 116 = .ok (.iload_n 1, 1) := by decide +kernel
theorem dX6_evict_117 : decode cX6_evict 117 = .ok (.invokevirtual 125, 3) := by decide +kernel
theorem dX6_evict_120 : decode cX6_evict 120 = .ok (.return_, 1) := by decide +kernel
theorem dX6_lose_0 : decode cX6_lose 0 = .ok (.aload_n 0, 1) := by decide +kernel
theorem dX6_lose_1 : decode cX6_lose 1 = .ok (.getfield 12, 3) := by decide +kernel
theorem dX6_lose_4 : decode cX6_lose 4 = .ok (.iload_n 2, 1) := by decide +kernel
theorem dX6_lose_5 : decode cX6_lose 5 = .ok (.invokevirtual 101, 3) := by decide +kernel
theorem dX6_lose_8 : decode cX6_lose 8 = .ok (.ifCond .ne 4, 3) := by decide +kernel
theorem dX6_lose_11 : decode cX6_lose 11 = .ok (.return_, 1) := by decide +kernel
theorem dX6_lose_12 : decode cX6_lose 12 = .ok (.aload_n 0, 1) := by decide +kernel
theorem dX6_lose_13 : decode cX6_lose 13 = .ok (.iload_n 1, 1) := by decide +kernel
theorem dX6_lose_14 : decode cX6_lose 14 = .ok (.aload_n 0, 1) := by decide +kernel
theorem dX6_lose_15 : decode cX6_lose 15 = .ok (.getfield 12, 3) := by decide +kernel
theorem dX6_lose_18 : decode cX6_lose 18 = .ok (.getfield 105, 3) := by decide +kernel
theorem dX6_lose_21 : decode cX6_lose 21 = .ok (.iload_n 2, 1) := by decide +kernel
theorem dX6_lose_22 : decode cX6_lose 22 = .ok (.iaload, 1) := by decide +kernel
theorem dX6_lose_23 : decode cX6_lose 23 = .ok (.aload_n 0, 1) := by decide +kernel
theorem dX6_lose_24 : decode cX6_lose 24 = .ok (.getfield 12, 3) := by decide +kernel
theorem dX6_lose_27 : decode cX6_lose 27 = .ok (.getfield 116, 3) := by decide +kernel
theorem dX6_lose_30 : decode cX6_lose 30 = .ok (.iload_n 2, 1) := by decide +kernel
theorem dX6_lose_31 : decode cX6_lose 31 = .ok (.iaload, 1) := by decide +kernel
theorem dX6_lose_32 : decode cX6_lose 32 = .ok (.aload_n 0, 1) := by decide +kernel
theorem dX6_lose_33 : decode cX6_lose 33 = .ok (.getfield 12, 3) := by decide +kernel
theorem dX6_lose_36 : decode cX6_lose 36 = .ok (.getfield 119, 3) := by decide +kernel
theorem dX6_lose_39 : decode cX6_lose 39 = .ok (.iload_n 2, 1) := by decide +kernel
theorem dX6_lose_40 : decode cX6_lose 40 = .ok (.iaload, 1) := by decide +kernel
theorem dX6_lose_41 : decode cX6_lose 41 = .ok (.invokevirtual 122, 3) := by decide +kernel
theorem dX6_lose_44 : decode cX6_lose 44 = .ok (.aload_n 0, 1) := by decide +kernel
theorem dX6_lose_45 : decode cX6_lose 45 = .ok (.getfield 12, 3) := by decide +kernel
theorem dX6_lose_48 : decode cX6_lose 48 = .ok (.iload_n 2, 1) := by decide +kernel
theorem dX6_lose_49 : decode cX6_lose 49 = .ok (.invokevirtual 125, 3) := by decide +kernel
theorem dX6_lose_52 : decode cX6_lose 52 = .ok (.return_, 1) := by decide +kernel
theorem dX6_rejects_0 : decode cX6_rejects 0 = .ok (.aload_n 0, 1) := by decide +kernel
theorem dX6_rejects_1 : decode cX6_rejects 1 = .ok (.getfield 12, 3) := by decide +kernel
theorem dX6_rejects_4 : decode cX6_rejects 4 = .ok (.getfield 128, 3) := by decide +kernel
theorem dX6_rejects_7 : decode cX6_rejects 7 = .ok (.istore_n 3, 1) := by decide +kernel
theorem dX6_rejects_8 : decode cX6_rejects 8 = .ok (.aload_n 0, 1) := by decide +kernel
theorem dX6_rejects_9 : decode cX6_rejects 9 = .ok (.getfield 12, 3) := by decide +kernel
theorem dX6_rejects_12 : decode cX6_rejects 12 = .ok (.iload_n 1, 1) := by decide +kernel
theorem dX6_rejects_13 : decode cX6_rejects 13 = .ok (.invokevirtual 101, 3) := by decide +kernel
