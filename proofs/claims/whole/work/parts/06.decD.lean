theorem dX6_init_0 : decode cX6_init 0 = .ok (.aload_n 0, 1) := by decide +kernel
theorem dX6_init_1 : decode cX6_init 1 = .ok (.invokespecial 1, 3) := by decide +kernel
theorem dX6_init_4 : decode cX6_init 4 = .ok (.aload_n 0, 1) := by decide +kernel
theorem dX6_init_5 : decode cX6_init 5 = .ok (.sipush 241, 3) := by decide +kernel
theorem dX6_init_8 : decode cX6_init 8 = .ok (.newarray .int, 2) := by decide +kernel
theorem dX6_init_10 : decode cX6_init 10 = .ok (.putfield 7, 3) := by decide +kernel
theorem dX6_init_13 : decode cX6_init 13 = .ok (.aload_n 0, 1) := by decide +kernel
theorem dX6_init_14 : decode cX6_init 14 = .ok (.sipush 4820, 3) := by decide +kernel
theorem dX6_init_17 : decode cX6_init 17 = .ok (.newarray .int, 2) := by decide +kernel
theorem dX6_init_19 : decode cX6_init 19 = .ok (.putfield 13, 3) := by decide +kernel
theorem dX6_init_22 : decode cX6_init 22 = .ok (.aload_n 0, 1) := by decide +kernel
theorem dX6_init_23 : decode cX6_init 23 = .ok (.sipush 484, 3) := by decide +kernel
theorem dX6_init_26 : decode cX6_init 26 = .ok (.newarray .int, 2) := by decide +kernel
theorem dX6_init_28 : decode cX6_init 28 = .ok (.putfield 16, 3) := by decide +kernel
theorem dX6_init_31 : decode cX6_init 31 = .ok (.aload_n 0, 1) := by decide +kernel
theorem dX6_init_32 : decode cX6_init 32 = .ok (.iconst 2, 1) := by decide +kernel
theorem dX6_init_33 : decode cX6_init 33 = .ok (.newarray .boolean, 2) := by decide +kernel
theorem dX6_init_35 : decode cX6_init 35 = .ok (.putfield 19, 3) := by decide +kernel
theorem dX6_init_38 : decode cX6_init 38 = .ok (.aload_n 0, 1) := by decide +kernel
theorem dX6_init_39 : decode cX6_init 39 = .ok (.bipush 8, 2) := by decide +kernel
theorem dX6_init_41 : decode cX6_init 41 = .ok (.newarray .int, 2) := by decide +kernel
theorem dX6_init_43 : decode cX6_init 43 = .ok (.putfield 23, 3) := by decide +kernel
theorem dX6_init_46 : decode cX6_init 46 = .ok (.aload_n 0, 1) := by decide +kernel
theorem dX6_init_47 : decode cX6_init 47 = .ok (.bipush 24, 2) := by decide +kernel
theorem dX6_init_49 : decode cX6_init 49 = .ok (.newarray .int, 2) := by decide +kernel
theorem dX6_init_51 : decode cX6_init 51 = .ok (.putfield 26, 3) := by decide +kernel
theorem dX6_init_54 : decode cX6_init 54 = .ok (.aload_n 0, 1) := by decide +kernel
theorem dX6_init_55 : decode cX6_init 55 = .ok (.bipush 24, 2) := by decide +kernel
theorem dX6_init_57 : decode cX6_init 57 = .ok (.newarray .int, 2) := by decide +kernel
theorem dX6_init_59 : decode cX6_init 59 = .ok (.putfield 29, 3) := by decide +kernel
theorem dX6_init_62 : decode cX6_init 62 = .ok (.aload_n 0, 1) := by decide +kernel
theorem dX6_init_63 : decode cX6_init 63 = .ok (.bipush 24, 2) := by decide +kernel
theorem dX6_init_65 : decode cX6_init 65 = .ok (.newarray .int, 2) := by decide +kernel
theorem dX6_init_67 : decode cX6_init 67 = .ok (.putfield 32, 3) := by decide +kernel
theorem dX6_init_70 : decode cX6_init 70 = .ok (.aload_n 0, 1) := by decide +kernel
theorem dX6_init_71 : decode cX6_init 71 = .ok (.bipush 24, 2) := by decide +kernel
theorem dX6_init_73 : decode cX6_init 73 = .ok (.newarray .int, 2) := by decide +kernel
theorem dX6_init_75 : decode cX6_init 75 = .ok (.putfield 35, 3) := by decide +kernel
theorem dX6_init_78 : decode cX6_init 78 = .ok (.aload_n 0, 1) := by decide +kernel
theorem dX6_init_79 : decode cX6_init 79 = .ok (.bipush 24, 2) := by decide +kernel
theorem dX6_init_81 : decode cX6_init 81 = .ok (.newarray .int, 2) := by decide +kernel
theorem dX6_init_83 : decode cX6_init 83 = .ok (.putfield 38, 3) := by decide +kernel
theorem dX6_init_86 : decode cX6_init 86 = .ok (.aload_n 0, 1) := by decide +kernel
theorem dX6_init_87 : decode cX6_init 87 = .ok (.bipush 24, 2) := by decide +kernel
theorem dX6_init_89 : decode cX6_init 89 = .ok (.newarray .int, 2) := by decide +kernel
theorem dX6_init_91 : decode cX6_init 91 = .ok (.putfield 41, 3) := by decide +kernel
theorem dX6_init_94 : decode cX6_init 94 = .ok (.aload_n 0, 1) := by decide +kernel
theorem dX6_init_95 : decode cX6_init 95 = .ok (.bipush 24, 2) := by decide +kernel
theorem dX6_init_97 : decode cX6_init 97 = .ok (.newarray .int, 2) := by decide +kernel
theorem dX6_init_99 : decode cX6_init 99 = .ok (.putfield 44, 3) := by decide +kernel
theorem dX6_init_102 : decode cX6_init 102 = .ok (.aload_n 0, 1) := by decide +kernel
theorem dX6_init_103 : decode cX6_init 103 = .ok (.sipush 200, 3) := by decide +kernel
theorem dX6_init_106 : decode cX6_init 106 = .ok (.newarray .int, 2) := by decide +kernel
theorem dX6_init_108 : decode cX6_init 108 = .ok (.putfield 47, 3) := by decide +kernel
theorem dX6_init_111 : decode cX6_init 111 = .ok (.aload_n 0, 1) := by decide +kernel
theorem dX6_init_112 : decode cX6_init 112 = .ok (.bipush 8, 2) := by decide +kernel
theorem dX6_init_114 : decode cX6_init 114 = .ok (.newarray .int, 2) := by decide +kernel
theorem dX6_init_116 : decode cX6_init 116 = .ok (.putfield 50, 3) := by decide +kernel
theorem dX6_init_119 : decode cX6_init 119 = .ok (.return_, 1) := by decide +kernel
theorem dX6_in_0 : decode cX6_in 0 = .ok (.iload_n 0, 1) := by decide +kernel
theorem dX6_in_1 : decode cX6_in 1 = .ok (.iload_n 1, 1) := by decide +kernel
theorem dX6_in_2 : decode cX6_in 2 = .ok (.if_icmp .lt 12, 3) := by decide +kernel
theorem dX6_in_5 : decode cX6_in 5 = .ok (.iload_n 0, 1) := by decide +kernel
theorem dX6_in_6 : decode cX6_in 6 = .ok (.iload_n 2, 1) := by decide +kernel
theorem dX6_in_7 : decode cX6_in 7 = .ok (.if_icmp .gt 7, 3) := by decide +kernel
theorem dX6_in_10 : decode cX6_in 10 = .ok (.iconst 1, 1) := by decide +kernel
theorem dX6_in_11 : decode cX6_in 11 = .ok (.goto 4, 3) := by decide +kernel
theorem dX6_in_14 : decode cX6_in 14 = .ok (.iconst 0, 1) := by decide +kernel
theorem dX6_in_15 : decode cX6_in 15 = .ok (.ireturn, 1) := by decide +kernel
theorem dX6_more_0 : decode cX6_more 0 = .ok (.iload_n 0, 1) := by decide +kernel
theorem dX6_more_1 : decode cX6_more 1 = .ok (.iload_n 1, 1) := by decide +kernel
theorem dX6_more_2 : decode cX6_more 2 = .ok (.if_icmp .le 7, 3) := by decide +kernel
theorem dX6_more_5 : decode cX6_more 5 = .ok (.iload_n 0, 1) := by decide +kernel
theorem dX6_more_6 : decode cX6_more 6 = .ok (.goto 4, 3) := by decide +kernel
theorem dX6_more_9 : decode cX6_more 9 = .ok (.iload_n 1, 1) := by decide +kernel
theorem dX6_more_10 : decode cX6_more 10 = .ok (.ireturn, 1) := by decide +kernel
theorem dX6_copies_0 : decode cX6_copies 0 = .ok (.iconst 0, 1) := by decide +kernel
theorem dX6_copies_1 : decode cX6_copies 1 = .ok (.istore 5, 2) := by decide +kernel
theorem dX6_copies_3 : decode cX6_copies 3 = .ok (.iload 5, 2) := by decide +kernel
theorem dX6_copies_5 : decode cX6_copies 5 = .ok (.iload 4, 2) := by decide +kernel
theorem dX6_copies_7 : decode cX6_copies 7 = .ok (.if_icmp .ge 21, 3) := by decide +kernel
theorem dX6_copies_10 : decode cX6_copies 10 = .ok (.aload_n 2, 1) := by decide +kernel
theorem dX6_copies_11 : decode cX6_copies 11 = .ok (.iload_n 3, 1) := by decide +kernel
theorem dX6_copies_12 : decode cX6_copies 12 = .ok (.iload 5, 2) := by decide +kernel
theorem dX6_copies_14 : decode cX6_copies 14 = .ok (.iadd, 1) := by decide +kernel
theorem dX6_copies_15 : decode cX6_copies 15 = .ok (.aload_n 0, 1) := by decide +kernel
theorem dX6_copies_16 : decode cX6_copies 16 = .ok (.iload_n 1, 1) := by decide +kernel
theorem dX6_copies_17 : decode cX6_copies 17 = .ok (.iload 5, 2) := by decide +kernel
theorem dX6_copies_19 : decode cX6_copies 19 = .ok (.iadd, 1) := by decide +kernel
theorem dX6_copies_20 : decode cX6_copies 20 = .ok (.iaload, 1) := by decide +kernel
theorem dX6_copies_21 : decode cX6_copies 21 = .ok (.iastore, 1) := by decide +kernel
theorem dX6_copies_22 : decode cX6_copies 22 = .ok (.iinc 5 1, 3) := by decide +kernel
theorem dX6_copies_25 : decode cX6_copies 25 = .ok (.goto (-22), 3) := by decide +kernel
theorem dX6_copies_28 : decode cX6_copies 28 = .ok (.return_, 1) := by decide +kernel
theorem dX6_sizeOf_0 : decode cX6_sizeOf 0 = .ok (.iload_n 1, 1) := by decide +kernel
theorem dX6_sizeOf_1 : decode cX6_sizeOf 1 = .ok (.bipush 24, 2) := by decide +kernel
theorem dX6_sizeOf_3 : decode cX6_sizeOf 3 = .ok (.if_icmp .ne 10, 3) := by decide +kernel
theorem dX6_sizeOf_6 : decode cX6_sizeOf 6 = .ok (.aload_n 0, 1) := by decide +kernel
theorem dX6_sizeOf_7 : decode cX6_sizeOf 7 = .ok (.getfield 53, 3) := by decide +kernel
theorem dX6_sizeOf_10 : decode cX6_sizeOf 10 = .ok (.goto 11, 3) := by decide +kernel
theorem dX6_sizeOf_13 : decode cX6_sizeOf 13 = .ok (.aload_n 0, 1) := by decide +kernel
theorem dX6_sizeOf_14 : decode cX6_sizeOf 14 = .ok (.getfield 7, 3) := by decide +kernel
theorem dX6_sizeOf_17 : decode cX6_sizeOf 17 = .ok (.iconst 1, 1) := by decide +kernel
theorem dX6_sizeOf_18 : decode cX6_sizeOf 18 = .ok (.iload_n 1, 1) := by decide +kernel
theorem dX6_sizeOf_19 : decode cX6_sizeOf 19 = .ok (.iadd, 1) := by decide +kernel
theorem dX6_sizeOf_20 : decode cX6_sizeOf 20 = .ok (.iaload, 1) := by decide +kernel
theorem dX6_sizeOf_21 : decode cX6_sizeOf 21 = .ok (.ireturn, 1) := by decide +kernel
theorem dX6_letterOf_0 : decode cX6_letterOf 0 = .ok (.iload_n 1, 1) := by decide +kernel
theorem dX6_letterOf_1 : decode cX6_letterOf 1 = .ok (.bipush 24, 2) := by decide +kernel
theorem dX6_letterOf_3 : decode cX6_letterOf 3 = .ok (.if_icmp .ne 12, 3) := by decide +kernel
theorem dX6_letterOf_6 : decode cX6_letterOf 6 = .ok (.aload_n 0, 1) := by decide +kernel
theorem dX6_letterOf_7 : decode cX6_letterOf 7 = .ok (.getfield 23, 3) := by decide +kernel
theorem dX6_letterOf_10 : decode cX6_letterOf 10 = .ok (.iload_n 2, 1) := by decide +kernel
theorem dX6_letterOf_11 : decode cX6_letterOf 11 = .ok (.iaload, 1) := by decide +kernel
theorem dX6_letterOf_12 : decode cX6_letterOf 12 = .ok (.goto 17, 3) := by decide +kernel
theorem dX6_letterOf_15 : decode cX6_letterOf 15 = .ok (.aload_n 0, 1) := by decide +kernel
theorem dX6_letterOf_16 : decode cX6_letterOf 16 = .ok (.getfield 7, 3) := by decide +kernel
theorem dX6_letterOf_19 : decode cX6_letterOf 19 = .ok (.bipush 49, 2) := by decide +kernel
theorem dX6_letterOf_21 : decode cX6_letterOf 21 = .ok (.bipush 8, 2) := by decide +kernel
theorem dX6_letterOf_23 : decode cX6_letterOf 23 = .ok (.iload_n 1, 1) := by decide +kernel
theorem dX6_letterOf_24 : decode cX6_letterOf 24 = .ok (.imul, 1) := by decide +kernel
theorem dX6_letterOf_25 : decode cX6_letterOf 25 = .ok (.iadd, 1) := by decide +kernel
theorem dX6_letterOf_26 : decode cX6_letterOf 26 = .ok (.iload_n 2, 1) := by decide +kernel
theorem dX6_letterOf_27 : decode cX6_letterOf 27 = .ok (.iadd, 1) := by decide +kernel
theorem dX6_letterOf_28 : decode cX6_letterOf 28 = .ok (.iaload, 1) := by decide +kernel
theorem dX6_letterOf_29 : decode cX6_letterOf 29 = .ok (.ireturn, 1) := by decide +kernel
theorem dX6_bitOf_0 : decode cX6_bitOf 0 = .ok (.iload_n 2, 1) := by decide +kernel
theorem dX6_bitOf_1 : decode cX6_bitOf 1 = .ok (.bipush 9, 2) := by decide +kernel
theorem dX6_bitOf_3 : decode cX6_bitOf 3 = .ok (.idiv, 1) := by decide +kernel
theorem dX6_bitOf_4 : decode cX6_bitOf 4 = .ok (.istore_n 3, 1) := by decide +kernel
theorem dX6_bitOf_5 : decode cX6_bitOf 5 = .ok (.iload_n 3, 1) := by decide +kernel
theorem dX6_bitOf_6 : decode cX6_bitOf 6 = .ok (.aload_n 0, 1) := by decide +kernel
theorem dX6_bitOf_7 : decode cX6_bitOf 7 = .ok (.iload_n 1, 1) := by decide +kernel
theorem dX6_bitOf_8 : decode cX6_bitOf 8 = .ok (.invokevirtual 57, 3) := by decide +kernel
theorem dX6_bitOf_11 : decode cX6_bitOf 11 = .ok (.if_icmp .lt 5, 3) := by decide +kernel
theorem dX6_bitOf_14 : decode cX6_bitOf 14 = .ok (.iconst 0, 1) := by decide +kernel
theorem dX6_bitOf_15 : decode cX6_bitOf 15 = .ok (.ireturn, 1) := by decide +kernel
theorem dX6_bitOf_16 : decode cX6_bitOf 16 = .ok (.iload_n 2, 1) := by decide +kernel
theorem dX6_bitOf_17 : decode cX6_bitOf 17 = .ok (.bipush 9, 2) := by decide +kernel
theorem dX6_bitOf_19 : decode cX6_bitOf 19 = .ok (.irem, 1) := by decide +kernel
theorem dX6_bitOf_20 : decode cX6_bitOf 20 = .ok (.ifCond .ne 7, 3) := by decide +kernel
theorem dX6_bitOf_23 : decode cX6_bitOf 23 = .ok (.iconst 1, 1) := by decide +kernel
theorem dX6_bitOf_24 : decode cX6_bitOf 24 = .ok (.goto 19, 3) := by decide +kernel
theorem dX6_bitOf_27 : decode cX6_bitOf 27 = .ok (.aload_n 0, 1) := by decide +kernel
theorem dX6_bitOf_28 : decode cX6_bitOf 28 = .ok (.iload_n 1, 1) := by decide +kernel
theorem dX6_bitOf_29 : decode cX6_bitOf 29 = .ok (.iload_n 3, 1) := by decide +kernel
theorem dX6_bitOf_30 : decode cX6_bitOf 30 = .ok (.invokevirtual 61, 3) := by decide +kernel
theorem dX6_bitOf_33 : decode cX6_bitOf 33 = .ok (.bipush 8, 2) := by decide +kernel
theorem dX6_bitOf_35 : decode cX6_bitOf 35 = .ok (.iload_n 2, 1) := by decide +kernel
theorem dX6_bitOf_36 : decode cX6_bitOf 36 = .ok (.bipush 9, 2) := by decide +kernel
theorem dX6_bitOf_38 : decode cX6_bitOf 38 = .ok (.irem, 1) := by decide +kernel
theorem dX6_bitOf_39 : decode cX6_bitOf 39 = .ok (.isub, 1) := by decide +kernel
theorem dX6_bitOf_40 : decode cX6_bitOf 40 = .ok (.ishr, 1) := by decide +kernel
theorem dX6_bitOf_41 : decode cX6_bitOf 41 = .ok (.iconst 1, 1) := by decide +kernel
theorem dX6_bitOf_42 : decode cX6_bitOf 42 = .ok (.iand, 1) := by decide +kernel
theorem dX6_bitOf_43 : decode cX6_bitOf 43 = .ok (.ireturn, 1) := by decide +kernel
theorem dX6_unlikeAt_0 : decode cX6_unlikeAt 0 = .ok (.iconst 0, 1) := by decide +kernel
theorem dX6_unlikeAt_1 : decode cX6_unlikeAt 1 = .ok (.istore_n 3, 1) := by decide +kernel
theorem dX6_unlikeAt_2 : decode cX6_unlikeAt 2 = .ok (.iload_n 3, 1) := by decide +kernel
theorem dX6_unlikeAt_3 : decode cX6_unlikeAt 3 = .ok (.bipush 72, 2) := by decide +kernel
theorem dX6_unlikeAt_5 : decode cX6_unlikeAt 5 = .ok (.if_icmp .ge 24, 3) := by decide +kernel
theorem dX6_unlikeAt_8 : decode cX6_unlikeAt 8 = .ok (.aload_n 0, 1) := by decide +kernel
theorem dX6_unlikeAt_9 : decode cX6_unlikeAt 9 = .ok (.iload_n 1, 1) := by decide +kernel
theorem dX6_unlikeAt_10 : decode cX6_unlikeAt 10 = .ok (.iload_n 3, 1) := by decide +kernel
theorem dX6_unlikeAt_11 : decode cX6_unlikeAt 11 = .ok (.invokevirtual 65, 3) := by decide +kernel
theorem dX6_unlikeAt_14 : decode cX6_unlikeAt 14 = .ok (.aload_n 0, 1) := by decide +kernel
theorem dX6_unlikeAt_15 : decode cX6_unlikeAt 15 = .ok (.iload_n 2, 1) := by decide +kernel
theorem dX6_unlikeAt_16 : decode cX6_unlikeAt 16 = .ok (.iload_n 3, 1) := by decide +kernel
theorem dX6_unlikeAt_17 : decode cX6_unlikeAt 17 = .ok (.invokevirtual 65, 3) := by decide +kernel
theorem dX6_unlikeAt_20 : decode cX6_unlikeAt 20 = .ok (.if_icmp .ne 9, 3) := by decide +kernel
theorem dX6_unlikeAt_23 : decode cX6_unlikeAt 23 = .ok (.iinc 3 1, 3) := by decide +kernel
theorem dX6_unlikeAt_26 : decode cX6_unlikeAt 26 = .ok (.goto (-24), 3) := by decide +kernel
theorem dX6_unlikeAt_29 : decode cX6_unlikeAt 29 = .ok (.iload_n 3, 1) := by decide +kernel
theorem dX6_unlikeAt_30 : decode cX6_unlikeAt 30 = .ok (.ireturn, 1) := by decide +kernel
theorem dX6_isLess_0 : decode cX6_isLess 0 = .ok (.aload_n 0, 1) := by decide +kernel
theorem dX6_isLess_1 : decode cX6_isLess 1 = .ok (.iload_n 1, 1) := by decide +kernel
theorem dX6_isLess_2 : decode cX6_isLess 2 = .ok (.iload_n 2, 1) := by decide +kernel
theorem dX6_isLess_3 : decode cX6_isLess 3 = .ok (.invokevirtual 68, 3) := by decide +kernel
theorem dX6_isLess_6 : decode cX6_isLess 6 = .ok (.istore_n 3, 1) := by decide +kernel
theorem dX6_isLess_7 : decode cX6_isLess 7 = .ok (.iload_n 3, 1) := by decide +kernel
theorem dX6_isLess_8 : decode cX6_isLess 8 = .ok (.bipush 72, 2) := by decide +kernel
theorem dX6_isLess_10 : decode cX6_isLess 10 = .ok (.if_icmp .ge 16, 3) := by decide +kernel
theorem dX6_isLess_13 : decode cX6_isLess 13 = .ok (.aload_n 0, 1) := by decide +kernel
theorem dX6_isLess_14 : decode cX6_isLess 14 = .ok (.iload_n 1, 1) := by decide +kernel
theorem dX6_isLess_15 : decode cX6_isLess 15 = .ok (.iload_n 3, 1) := by decide +kernel
theorem dX6_isLess_16 : decode cX6_isLess 16 = .ok (.invokevirtual 65, 3) := by decide +kernel
theorem dX6_isLess_19 : decode cX6_isLess 19 = .ok (.ifCond .ne 7, 3) := by decide +kernel
theorem dX6_isLess_22 : decode cX6_isLess 22 = .ok (.iconst 1, 1) := by decide +kernel
theorem dX6_isLess_23 : decode cX6_isLess 23 = .ok (.goto 4, 3) := by decide +kernel
theorem dX6_isLess_26 : decode cX6_isLess 26 = .ok (.iconst 0, 1) := by decide +kernel
theorem dX6_isLess_27 : decode cX6_isLess 27 = .ok (.ireturn, 1) := by decide +kernel
theorem dX6_begins_0 : decode cX6_begins 0 = .ok (.aload_n 0, 1) := by decide +kernel
theorem dX6_begins_1 : decode cX6_begins 1 = .ok (.iload_n 2, 1) := by decide +kernel
theorem dX6_begins_2 : decode cX6_begins 2 = .ok (.invokevirtual 57, 3) := by decide +kernel
theorem dX6_begins_5 : decode cX6_begins 5 = .ok (.aload_n 0, 1) := by decide +kernel
theorem dX6_begins_6 : decode cX6_begins 6 = .ok (.iload_n 1, 1) := by decide +kernel
theorem dX6_begins_7 : decode cX6_begins 7 = .ok (.invokevirtual 57, 3) := by decide +kernel
theorem dX6_begins_10 : decode cX6_begins 10 = .ok (.if_icmp .gt 7, 3) := by decide +kernel
theorem dX6_begins_13 : decode cX6_begins 13 = .ok (.iconst 1, 1) := by decide +kernel
theorem dX6_begins_14 : decode cX6_begins 14 = .ok (.goto 4, 3) := by decide +kernel
theorem dX6_begins_17 : decode cX6_begins 17 = .ok (.iconst 0, 1) := by decide +kernel
theorem dX6_begins_18 : decode cX6_begins 18 = .ok (.istore_n 3, 1) := by decide +kernel
theorem dX6_begins_19 : decode cX6_begins 19 = .ok (.iconst 0, 1) := by decide +kernel
theorem dX6_begins_20 : decode cX6_begins 20 = .ok (.istore 4, 2) := by decide +kernel
theorem dX6_begins_22 : decode cX6_begins 22 = .ok (.iload 4, 2) := by decide +kernel
theorem dX6_begins_24 : decode cX6_begins 24 = .ok (.aload_n 0, 1) := by decide +kernel
theorem dX6_begins_25 : decode cX6_begins 25 = .ok (.iload_n 2, 1) := by decide +kernel
theorem dX6_begins_26 : decode cX6_begins 26 = .ok (.invokevirtual 57, 3) := by decide +kernel
theorem dX6_begins_29 : decode cX6_begins 29 = .ok (.if_icmp .ge 36, 3) := by decide +kernel
theorem dX6_begins_32 : decode cX6_begins 32 = .ok (.iload_n 3, 1) := by decide +kernel
theorem dX6_begins_33 : decode cX6_begins 33 = .ok (.ifCond .eq 32, 3) := by decide +kernel
theorem dX6_begins_36 : decode cX6_begins 36 = .ok (.aload_n 0, 1) := by decide +kernel
theorem dX6_begins_37 : decode cX6_begins 37 = .ok (.iload_n 1, 1) := by decide +kernel
theorem dX6_begins_38 : decode cX6_begins 38 = .ok (.iload 4, 2) := by decide +kernel
theorem dX6_begins_40 : decode cX6_begins 40 = .ok (.invokevirtual 61, 3) := by decide +kernel
theorem dX6_begins_43 : decode cX6_begins 43 = .ok (.aload_n 0, 1) := by decide +kernel
theorem dX6_begins_44 : decode cX6_begins 44 = .ok (.iload_n 2, 1) := by decide +kernel
theorem dX6_begins_45 : decode cX6_begins 45 = .ok (.iload 4, 2) := by decide +kernel
theorem dX6_begins_47 : decode cX6_begins 47 = .ok (.invokevirtual 61, 3) := by decide +kernel
theorem dX6_begins_50 : decode cX6_begins 50 = .ok (.if_icmp .ne 7, 3) := by decide +kernel
theorem dX6_begins_53 : decode cX6_begins 53 = .ok (.iconst 1, 1) := by decide +kernel
theorem dX6_begins_54 : decode cX6_begins 54 = .ok (.goto 4, 3) := by decide +kernel
theorem dX6_begins_57 : decode cX6_begins 57 = .ok (.iconst 0, 1) := by decide +kernel
theorem dX6_begins_58 : decode cX6_begins 58 = .ok (.istore_n 3, 1) := by decide +kernel
theorem dX6_begins_59 : decode cX6_begins 59 = .ok (.iinc 4 1, 3) := by decide +kernel
theorem dX6_begins_62 : decode cX6_begins 62 = .ok (.goto (-40), 3) := by decide +kernel
theorem dX6_begins_65 : decode cX6_begins 65 = .ok (.iload_n 3, 1) := by decide +kernel
theorem dX6_begins_66 : decode cX6_begins 66 = .ok (.ireturn, 1) := by decide +kernel
theorem dX6_place_0 : decode cX6_place 0 = .ok (.iconst 0, 1) := by decide +kernel
theorem dX6_place_1 : decode cX6_place 1 = .ok (.istore_n 1, 1) := by decide +kernel
theorem dX6_place_2 : decode cX6_place 2 = .ok (.iload_n 1, 1) := by decide +kernel
theorem dX6_place_3 : decode cX6_place 3 = .ok (.aload_n 0, 1) := by decide +kernel
theorem dX6_place_4 : decode cX6_place 4 = .ok (.getfield 7, 3) := by decide +kernel
theorem dX6_place_7 : decode cX6_place 7 = .ok (.iconst 0, 1) := by decide +kernel
theorem dX6_place_8 : decode cX6_place 8 = .ok (.iaload, 1) := by decide +kernel
theorem dX6_place_9 : decode cX6_place 9 = .ok (.if_icmp .ge 19, 3) := by decide +kernel
theorem dX6_place_12 : decode cX6_place 12 = .ok (.aload_n 0, 1) := by decide +kernel
theorem dX6_place_13 : decode cX6_place 13 = .ok (.iload_n 1, 1) := by decide +kernel
theorem dX6_place_14 : decode cX6_place 14 = .ok (.bipush 24, 2) := by decide +kernel
theorem dX6_place_16 : decode cX6_place 16 = .ok (.invokevirtual 71, 3) := by decide +kernel
theorem dX6_place_19 : decode cX6_place 19 = .ok (.ifCond .eq 9, 3) := by decide +kernel
theorem dX6_place_22 : decode cX6_place 22 = .ok (.iinc 1 1, 3) := by decide +kernel
theorem dX6_place_25 : decode cX6_place 25 = .ok (.goto (-23), 3) := by decide +kernel
theorem dX6_place_28 : decode cX6_place 28 = .ok (.iload_n 1, 1) := by decide +kernel
theorem dX6_place_29 : decode cX6_place 29 = .ok (.ireturn, 1) := by decide +kernel
theorem dX6_keyNow_0 : decode cX6_keyNow 0 = .ok (.aload_n 0, 1) := by decide +kernel
theorem dX6_keyNow_1 : decode cX6_keyNow 1 = .ok (.invokevirtual 75, 3) := by decide +kernel
theorem dX6_keyNow_4 : decode cX6_keyNow 4 = .ok (.istore_n 1, 1) := by decide +kernel
theorem dX6_keyNow_5 : decode cX6_keyNow 5 = .ok (.iload_n 1, 1) := by decide +kernel
theorem dX6_keyNow_6 : decode cX6_keyNow 6 = .ok (.aload_n 0, 1) := by decide +kernel
theorem dX6_keyNow_7 : decode cX6_keyNow 7 = .ok (.getfield 7, 3) := by decide +kernel
theorem dX6_keyNow_10 : decode cX6_keyNow 10 = .ok (.iconst 0, 1) := by decide +kernel
theorem dX6_keyNow_11 : decode cX6_keyNow 11 = .ok (.iaload, 1) := by decide +kernel
theorem dX6_keyNow_12 : decode cX6_keyNow 12 = .ok (.if_icmp .ge 19, 3) := by decide +kernel
theorem dX6_keyNow_15 : decode cX6_keyNow 15 = .ok (.aload_n 0, 1) := by decide +kernel
theorem dX6_keyNow_16 : decode cX6_keyNow 16 = .ok (.iload_n 1, 1) := by decide +kernel
theorem dX6_keyNow_17 : decode cX6_keyNow 17 = .ok (.bipush 24, 2) := by decide +kernel
theorem dX6_keyNow_19 : decode cX6_keyNow 19 = .ok (.invokevirtual 68, 3) := by decide +kernel
theorem dX6_keyNow_22 : decode cX6_keyNow 22 = .ok (.bipush 72, 2) := by decide +kernel
theorem dX6_keyNow_24 : decode cX6_keyNow 24 = .ok (.if_icmp .ne 7, 3) := by decide +kernel
theorem dX6_keyNow_27 : decode cX6_keyNow 27 = .ok (.iload_n 1, 1) := by decide +kernel
theorem dX6_keyNow_28 : decode cX6_keyNow 28 = .ok (.goto 4, 3) := by decide +kernel
theorem dX6_keyNow_31 : decode cX6_keyNow 31 = .ok (.iconst (-1), 1) := by decide +kernel
theorem dX6_keyNow_32 : decode cX6_keyNow 32 = .ok (.ireturn, 1) := by decide +kernel
theorem dX6_feed_0 : decode cX6_feed 0 = .ok (.iload_n 1, 1) := by decide +kernel
theorem dX6_feed_1 : decode cX6_feed 1 = .ok (.iconst 0, 1) := by decide +kernel
theorem dX6_feed_2 : decode cX6_feed 2 = .ok (.sipush 255, 3) := by decide +kernel
theorem dX6_feed_5 : decode cX6_feed 5 = .ok (.invokestatic 79, 3) := by decide +kernel
theorem dX6_feed_8 : decode cX6_feed 8 = .ok (.ifCond .ne 6, 3) := by decide +kernel
theorem dX6_feed_11 : decode cX6_feed 11 = .ok (.ldc 83, 2) := by decide +kernel
theorem dX6_feed_13 : decode cX6_feed 13 = .ok (.ireturn, 1) := by decide +kernel
theorem dX6_feed_14 : decode cX6_feed 14 = .ok (.aload_n 0, 1) := by decide +kernel
theorem dX6_feed_15 : decode cX6_feed 15 = .ok (.getfield 53, 3) := by decide +kernel
theorem dX6_feed_18 : decode cX6_feed 18 = .ok (.bipush 8, 2) := by decide +kernel
theorem dX6_feed_20 : decode cX6_feed 20 = .ok (.if_icmp .ne 6, 3) := by decide +kernel
theorem dX6_feed_23 : decode cX6_feed 23 = .ok (.ldc 84, 2) := by decide +kernel
theorem dX6_feed_25 : decode cX6_feed 25 = .ok (.ireturn, 1) := by decide +kernel
theorem dX6_feed_26 : decode cX6_feed 26 = .ok (.aload_n 0, 1) := by decide +kernel
theorem dX6_feed_27 : decode cX6_feed 27 = .ok (.getfield 23, 3) := by decide +kernel
theorem dX6_feed_30 : decode cX6_feed 30 = .ok (.aload_n 0, 1) := by decide +kernel
theorem dX6_feed_31 : decode cX6_feed 31 = .ok (.getfield 53, 3) := by decide +kernel
theorem dX6_feed_34 : decode cX6_feed 34 = .ok (.iload_n 1, 1) := by decide +kernel
theorem dX6_feed_35 : decode cX6_feed 35 = .ok (.iastore, 1) := by decide +kernel
theorem dX6_feed_36 : decode cX6_feed 36 = .ok (.aload_n 0, 1) := by decide +kernel
theorem dX6_feed_37 : decode cX6_feed 37 = .ok (.dup, 1) := by decide +kernel
theorem dX6_feed_38 : decode cX6_feed 38 = .ok (.getfield 53, 3) := by decide +kernel
theorem dX6_feed_41 : decode cX6_feed 41 = .ok (.iconst 1, 1) := by decide +kernel
theorem dX6_feed_42 : decode cX6_feed 42 = .ok (.iadd, 1) := by decide +kernel
theorem dX6_feed_43 : decode cX6_feed 43 = .ok (.putfield 53, 3) := by decide +kernel
theorem dX6_feed_46 : decode cX6_feed 46 = .ok (.aload_n 0, 1) := by decide +kernel
theorem dX6_feed_47 : decode cX6_feed 47 = .ok (.getfield 53, 3) := by decide +kernel
theorem dX6_feed_50 : decode cX6_feed 50 = .ok (.ireturn, 1) := by decide +kernel
theorem dX6_wipe_0 : decode cX6_wipe 0 = .ok (.aload_n 0, 1) := by decide +kernel
theorem dX6_wipe_1 : decode cX6_wipe 1 = .ok (.getfield 53, 3) := by decide +kernel
theorem dX6_wipe_4 : decode cX6_wipe 4 = .ok (.istore_n 1, 1) := by decide +kernel
theorem dX6_wipe_5 : decode cX6_wipe 5 = .ok (.aload_n 0, 1) := by decide +kernel
theorem dX6_wipe_6 : decode cX6_wipe 6 = .ok (.iconst 0, 1) := by decide +kernel
theorem dX6_wipe_7 : decode cX6_wipe 7 = .ok (.putfield 53, 3) := by decide +kernel
theorem dX6_wipe_10 : decode cX6_wipe 10 = .ok (.iload_n 1, 1) := by decide +kernel
theorem dX6_wipe_11 : decode cX6_wipe 11 = .ok (.ireturn, 1) := by decide +kernel
theorem dX6_isKey_0 : decode cX6_isKey 0 = .ok (.iload_n 1, 1) := by decide +kernel
theorem dX6_isKey_1 : decode cX6_isKey 1 = .ok (.iconst 0, 1) := by decide +kernel
theorem dX6_isKey_2 : decode cX6_isKey 2 = .ok (.aload_n 0, 1) := by decide +kernel
theorem dX6_isKey_3 : decode cX6_isKey 3 = .ok (.getfield 7, 3) := by decide +kernel
theorem dX6_isKey_6 : decode cX6_isKey 6 = .ok (.iconst 0, 1) := by decide +kernel
theorem dX6_isKey_7 : decode cX6_isKey 7 = .ok (.iaload, 1) := by decide +kernel
theorem dX6_isKey_8 : decode cX6_isKey 8 = .ok (.iconst 1, 1) := by decide +kernel
theorem dX6_isKey_9 : decode cX6_isKey 9 = .ok (.isub, 1) := by decide +kernel
theorem dX6_isKey_10 : decode cX6_isKey 10 = .ok (.invokestatic 79, 3) := by decide +kernel
theorem dX6_isKey_13 : decode cX6_isKey 13 = .ok (.ireturn, 1) := by decide +kernel
theorem dX6_type_0 : decode cX6_type 0 = .ok (.aload_n 0, 1) := by decide +kernel
theorem dX6_type_1 : decode cX6_type 1 = .ok (.iload_n 1, 1) := by decide +kernel
theorem dX6_type_2 : decode cX6_type 2 = .ok (.invokevirtual 85, 3) := by decide +kernel
theorem dX6_type_5 : decode cX6_type 5 = .ok (.ifCond .ne 6, 3) := by decide +kernel
theorem dX6_type_8 : decode cX6_type 8 = .ok (.ldc 89, 2) := by decide +kernel
theorem dX6_type_10 : decode cX6_type 10 = .ok (.ireturn, 1) := by decide +kernel
theorem dX6_type_11 : decode cX6_type 11 = .ok (.aload_n 0, 1) := by decide +kernel
theorem dX6_type_12 : decode cX6_type 12 = .ok (.getfield 7, 3) := by decide +kernel
theorem dX6_type_15 : decode cX6_type 15 = .ok (.bipush 49, 2) := by decide +kernel
theorem dX6_type_17 : decode cX6_type 17 = .ok (.bipush 8, 2) := by decide +kernel
theorem dX6_type_19 : decode cX6_type 19 = .ok (.iload_n 1, 1) := by decide +kernel
theorem dX6_type_20 : decode cX6_type 20 = .ok (.imul, 1) := by decide +kernel
theorem dX6_type_21 : decode cX6_type 21 = .ok (.iadd, 1) := by decide +kernel
theorem dX6_type_22 : decode cX6_type 22 = .ok (.aload_n 0, 1) := by decide +kernel
theorem dX6_type_23 : decode cX6_type 23 = .ok (.getfield 23, 3) := by decide +kernel
theorem dX6_type_26 : decode cX6_type 26 = .ok (.iconst 0, 1) := by decide +kernel
theorem dX6_type_27 : decode cX6_type 27 = .ok (.bipush 8, 2) := by decide +kernel
theorem dX6_type_29 : decode cX6_type 29 = .ok (.invokestatic 90, 3) := by decide +kernel
theorem dX6_type_32 : decode cX6_type 32 = .ok (.aload_n 0, 1) := by decide +kernel
theorem dX6_type_33 : decode cX6_type 33 = .ok (.aload_n 0, 1) := by decide +kernel
theorem dX6_type_34 : decode cX6_type 34 = .ok (.getfield 7, 3) := by decide +kernel
theorem dX6_type_37 : decode cX6_type 37 = .ok (.iconst 1, 1) := by decide +kernel
theorem dX6_type_38 : decode cX6_type 38 = .ok (.iload_n 1, 1) := by decide +kernel
theorem dX6_type_39 : decode cX6_type 39 = .ok (.iadd, 1) := by decide +kernel
theorem dX6_type_40 : decode cX6_type 40 = .ok (.iaload, 1) := by decide +kernel
theorem dX6_type_41 : decode cX6_type 41 = .ok (.putfield 53, 3) := by decide +kernel
theorem dX6_type_44 : decode cX6_type 44 = .ok (.aload_n 0, 1) := by decide +kernel
theorem dX6_type_45 : decode cX6_type 45 = .ok (.getfield 53, 3) := by decide +kernel
theorem dX6_type_48 : decode cX6_type 48 = .ok (.ireturn, 1) := by decide +kernel
theorem dX6_waitsFor_0 : decode cX6_waitsFor 0 = .ok (.iload_n 2, 1) := by decide +kernel
theorem dX6_waitsFor_1 : decode cX6_waitsFor 1 = .ok (.iconst 1, 1) := by decide +kernel
theorem dX6_waitsFor_2 : decode cX6_waitsFor 2 = .ok (.if_icmp .le 68, 3) := by decide +kernel
theorem dX6_waitsFor_5 : decode cX6_waitsFor 5 = .ok (.aload_n 0, 1) := by decide +kernel
theorem dX6_waitsFor_6 : decode cX6_waitsFor 6 = .ok (.getfield 47, 3) := by decide +kernel
theorem dX6_waitsFor_9 : decode cX6_waitsFor 9 = .ok (.iconst 4, 1) := by decide +kernel
theorem dX6_waitsFor_10 : decode cX6_waitsFor 10 = .ok (.aload_n 0, 1) := by decide +kernel
theorem dX6_waitsFor_11 : decode cX6_waitsFor 11 = .ok (.getfield 94, 3) := by decide +kernel
theorem dX6_waitsFor_14 : decode cX6_waitsFor 14 = .ok (.imul, 1) := by decide +kernel
theorem dX6_waitsFor_15 : decode cX6_waitsFor 15 = .ok (.iload_n 1, 1) := by decide +kernel
theorem dX6_waitsFor_16 : decode cX6_waitsFor 16 = .ok (.iastore, 1) := by decide +kernel
theorem dX6_waitsFor_17 : decode cX6_waitsFor 17 = .ok (.aload_n 0, 1) := by decide +kernel
theorem dX6_waitsFor_18 : decode cX6_waitsFor 18 = .ok (.getfield 47, 3) := by decide +kernel
theorem dX6_waitsFor_21 : decode cX6_waitsFor 21 = .ok (.iconst 4, 1) := by decide +kernel
theorem dX6_waitsFor_22 : decode cX6_waitsFor 22 = .ok (.aload_n 0, 1) := by decide +kernel
theorem dX6_waitsFor_23 : decode cX6_waitsFor 23 = .ok (.getfield 94, 3) := by decide +kernel
theorem dX6_waitsFor_26 : decode cX6_waitsFor 26 = .ok (.imul, 1) := by decide +kernel
theorem dX6_waitsFor_27 : decode cX6_waitsFor 27 = .ok (.iconst 1, 1) := by decide +kernel
theorem dX6_waitsFor_28 : decode cX6_waitsFor 28 = .ok (.iadd, 1) := by decide +kernel
theorem dX6_waitsFor_29 : decode cX6_waitsFor 29 = .ok (.iload_n 2, 1) := by decide +kernel
theorem dX6_waitsFor_30 : decode cX6_waitsFor 30 = .ok (.iastore, 1) := by decide +kernel
theorem dX6_waitsFor_31 : decode cX6_waitsFor 31 = .ok (.aload_n 0, 1) := by decide +kernel
theorem dX6_waitsFor_32 : decode cX6_waitsFor 32 = .ok (.getfield 47, 3) := by decide +kernel
theorem dX6_waitsFor_35 : decode cX6_waitsFor 35 = .ok (.iconst 4, 1) := by decide +kernel
theorem dX6_waitsFor_36 : decode cX6_waitsFor 36 = .ok (.aload_n 0, 1) := by decide +kernel
theorem dX6_waitsFor_37 : decode cX6_waitsFor 37 = .ok (.getfield 94, 3) := by decide +kernel
theorem dX6_waitsFor_40 : decode cX6_waitsFor 40 = .ok (.imul, 1) := by decide +kernel
theorem dX6_waitsFor_41 : decode cX6_waitsFor 41 = .ok (.iconst 2, 1) := by decide +kernel
theorem dX6_waitsFor_42 : decode cX6_waitsFor 42 = .ok (.iadd, 1) := by decide +kernel
theorem dX6_waitsFor_43 : decode cX6_waitsFor 43 = .ok (.iload_n 3, 1) := by decide +kernel
theorem dX6_waitsFor_44 : decode cX6_waitsFor 44 = .ok (.iastore, 1) := by decide +kernel
theorem dX6_waitsFor_45 : decode cX6_waitsFor 45 = .ok (.aload_n 0, 1) := by decide +kernel
theorem dX6_waitsFor_46 : decode cX6_waitsFor 46 = .ok (.getfield 47, 3) := by decide +kernel
theorem dX6_waitsFor_49 : decode cX6_waitsFor 49 = .ok (.iconst 4, 1) := by decide +kernel
theorem dX6_waitsFor_50 : decode cX6_waitsFor 50 = .ok (.aload_n 0, 1) := by decide +kernel
theorem dX6_waitsFor_51 : decode cX6_waitsFor 51 = .ok (.getfield 94, 3) := by decide +kernel
theorem dX6_waitsFor_54 : decode cX6_waitsFor 54 = .ok (.imul, 1) := by decide +kernel
theorem dX6_waitsFor_55 : decode cX6_waitsFor 55 = .ok (.iconst 3, 1) := by decide +kernel
theorem dX6_waitsFor_56 : decode cX6_waitsFor 56 = .ok (.iadd, 1) := by decide +kernel
theorem dX6_waitsFor_57 : decode cX6_waitsFor 57 = .ok (.iload 4, 2) := by decide +kernel
theorem dX6_waitsFor_59 : decode cX6_waitsFor 59 = .ok (.iastore, 1) := by decide +kernel
theorem dX6_waitsFor_60 : decode cX6_waitsFor 60 = .ok (.aload_n 0, 1) := by decide +kernel
theorem dX6_waitsFor_61 : decode cX6_waitsFor 61 = .ok (.dup, 1) := by decide +kernel
theorem dX6_waitsFor_62 : decode cX6_waitsFor 62 = .ok (.getfield 94, 3) := by decide +kernel
theorem dX6_waitsFor_65 : decode cX6_waitsFor 65 = .ok (.iconst 1, 1) := by decide +kernel
theorem dX6_waitsFor_66 : decode cX6_waitsFor 66 = .ok (.iadd, 1) := by decide +kernel
theorem dX6_waitsFor_67 : decode cX6_waitsFor 67 = .ok (.putfield 94, 3) := by decide +kernel
theorem dX6_waitsFor_70 : decode cX6_waitsFor 70 = .ok (.return_, 1) := by decide +kernel
theorem dX6_finds_0 : decode cX6_finds 0 = .ok (.aload_n 0, 1) := by decide +kernel
theorem dX6_finds_1 : decode cX6_finds 1 = .ok (.iconst 0, 1) := by decide +kernel
theorem dX6_finds_2 : decode cX6_finds 2 = .ok (.putfield 97, 3) := by decide +kernel
theorem dX6_finds_5 : decode cX6_finds 5 = .ok (.aload_n 0, 1) := by decide +kernel
theorem dX6_finds_6 : decode cX6_finds 6 = .ok (.iconst 0, 1) := by decide +kernel
theorem dX6_finds_7 : decode cX6_finds 7 = .ok (.putfield 94, 3) := by decide +kernel
theorem dX6_finds_10 : decode cX6_finds 10 = .ok (.aload_n 0, 1) := by decide +kernel
theorem dX6_finds_11 : decode cX6_finds 11 = .ok (.iconst 0, 1) := by decide +kernel
theorem dX6_finds_12 : decode cX6_finds 12 = .ok (.aload_n 0, 1) := by decide +kernel
theorem dX6_finds_13 : decode cX6_finds 13 = .ok (.getfield 100, 3) := by decide +kernel
theorem dX6_finds_16 : decode cX6_finds 16 = .ok (.iconst 0, 1) := by decide +kernel
theorem dX6_finds_17 : decode cX6_finds 17 = .ok (.iconst (-1), 1) := by decide +kernel
theorem dX6_finds_18 : decode cX6_finds 18 = .ok (.invokevirtual 103, 3) := by decide +kernel
theorem dX6_finds_21 : decode cX6_finds 21 = .ok (.aload_n 0, 1) := by decide +kernel
theorem dX6_finds_22 : decode cX6_finds 22 = .ok (.getfield 94, 3) := by decide +kernel
theorem dX6_finds_25 : decode cX6_finds 25 = .ok (.ifCond .le 212, 3) := by decide +kernel
theorem dX6_finds_28 : decode cX6_finds 28 = .ok (.aload_n 0, 1) := by decide +kernel
theorem dX6_finds_29 : decode cX6_finds 29 = .ok (.dup, 1) := by decide +kernel
theorem dX6_finds_30 : decode cX6_finds 30 = .ok (.getfield 94, 3) := by decide +kernel
theorem dX6_finds_33 : decode cX6_finds 33 = .ok (.iconst 1, 1) := by decide +kernel
theorem dX6_finds_34 : decode cX6_finds 34 = .ok (.isub, 1) := by decide +kernel
theorem dX6_finds_35 : decode cX6_finds 35 = .ok (.putfield 94, 3) := by decide +kernel
theorem dX6_finds_38 : decode cX6_finds 38 = .ok (.aload_n 0, 1) := by decide +kernel
theorem dX6_finds_39 : decode cX6_finds 39 = .ok (.getfield 47, 3) := by decide +kernel
theorem dX6_finds_42 : decode cX6_finds 42 = .ok (.iconst 4, 1) := by decide +kernel
theorem dX6_finds_43 : decode cX6_finds 43 = .ok (.aload_n 0, 1) := by decide +kernel
theorem dX6_finds_44 : decode cX6_finds 44 = .ok (.getfield 94, 3) := by decide +kernel
theorem dX6_finds_47 : decode cX6_finds 47 = .ok (.imul, 1) := by decide +kernel
theorem dX6_finds_48 : decode cX6_finds 48 = .ok (.iaload, 1) := by decide +kernel
theorem dX6_finds_49 : decode cX6_finds 49 = .ok (.istore_n 1, 1) := by decide +kernel
theorem dX6_finds_50 : decode cX6_finds 50 = .ok (.aload_n 0, 1) := by decide +kernel
theorem dX6_finds_51 : decode cX6_finds 51 = .ok (.getfield 47, 3) := by decide +kernel
theorem dX6_finds_54 : decode cX6_finds 54 = .ok (.iconst 4, 1) := by decide +kernel
theorem dX6_finds_55 : decode cX6_finds 55 = .ok (.aload_n 0, 1) := by decide +kernel
theorem dX6_finds_56 : decode cX6_finds 56 = .ok (.getfield 94, 3) := by decide +kernel
theorem dX6_finds_59 : decode cX6_finds 59 = .ok (.imul, 1) := by decide +kernel
theorem dX6_finds_60 : decode cX6_finds 60 = .ok (.iconst 1, 1) := by decide +kernel
theorem dX6_finds_61 : decode cX6_finds 61 = .ok (.iadd, 1) := by decide +kernel
theorem dX6_finds_62 : decode cX6_finds 62 = .ok (.iaload, 1) := by decide +kernel
theorem dX6_finds_63 : decode cX6_finds 63 = .ok (.istore_n 2, 1) := by decide +kernel
theorem dX6_finds_64 : decode cX6_finds 64 = .ok (.aload_n 0, 1) := by decide +kernel
theorem dX6_finds_65 : decode cX6_finds 65 = .ok (.getfield 47, 3) := by decide +kernel
theorem dX6_finds_68 : decode cX6_finds 68 = .ok (.iconst 4, 1) := by decide +kernel
theorem dX6_finds_69 : decode cX6_finds 69 = .ok (.aload_n 0, 1) := by decide +kernel
theorem dX6_finds_70 : decode cX6_finds 70 = .ok (.getfield 94, 3) := by decide +kernel
theorem dX6_finds_73 : decode cX6_finds 73 = .ok (.imul, 1) := by decide +kernel
theorem dX6_finds_74 : decode cX6_finds 74 = .ok (.iconst 2, 1) := by decide +kernel
theorem dX6_finds_75 : decode cX6_finds 75 = .ok (.iadd, 1) := by decide +kernel
theorem dX6_finds_76 : decode cX6_finds 76 = .ok (.iaload, 1) := by decide +kernel
theorem dX6_finds_77 : decode cX6_finds 77 = .ok (.istore_n 3, 1) := by decide +kernel
theorem dX6_finds_78 : decode cX6_finds 78 = .ok (.aload_n 0, 1) := by decide +kernel
theorem dX6_finds_79 : decode cX6_finds 79 = .ok (.aload_n 0, 1) := by decide +kernel
theorem dX6_finds_80 : decode cX6_finds 80 = .ok (.getfield 26, 3) := by decide +kernel
theorem dX6_finds_83 : decode cX6_finds 83 = .ok (.iload_n 1, 1) := by decide +kernel
theorem dX6_finds_84 : decode cX6_finds 84 = .ok (.iaload, 1) := by decide +kernel
theorem dX6_finds_85 : decode cX6_finds 85 = .ok (.aload_n 0, 1) := by decide +kernel
theorem dX6_finds_86 : decode cX6_finds 86 = .ok (.getfield 26, 3) := by decide +kernel
theorem dX6_finds_89 : decode cX6_finds 89 = .ok (.iload_n 1, 1) := by decide +kernel
theorem dX6_finds_90 : decode cX6_finds 90 = .ok (.iload_n 2, 1) := by decide +kernel
theorem dX6_finds_91 : decode cX6_finds 91 = .ok (.iadd, 1) := by decide +kernel
theorem dX6_finds_92 : decode cX6_finds 92 = .ok (.iconst 1, 1) := by decide +kernel
theorem dX6_finds_93 : decode cX6_finds 93 = .ok (.isub, 1) := by decide +kernel
theorem dX6_finds_94 : decode cX6_finds 94 = .ok (.iaload, 1) := by decide +kernel
theorem dX6_finds_95 : decode cX6_finds 95 = .ok (.invokevirtual 68, 3) := by decide +kernel
theorem dX6_finds_98 : decode cX6_finds 98 = .ok (.istore 4, 2) := by decide +kernel
theorem dX6_finds_100 : decode cX6_finds 100 = .ok (.iconst 0, 1) := by decide +kernel
theorem dX6_finds_101 : decode cX6_finds 101 = .ok (.istore 5, 2) := by decide +kernel
theorem dX6_finds_103 : decode cX6_finds 103 = .ok (.aload_n 0, 1) := by decide +kernel
theorem dX6_finds_104 : decode cX6_finds 104 = .ok (.aload_n 0, 1) := by decide +kernel
theorem dX6_finds_105 : decode cX6_finds 105 = .ok (.getfield 26, 3) := by decide +kernel
theorem dX6_finds_108 : decode cX6_finds 108 = .ok (.iload_n 1, 1) := by decide +kernel
theorem dX6_finds_109 : decode cX6_finds 109 = .ok (.iload 5, 2) := by decide +kernel
theorem dX6_finds_111 : decode cX6_finds 111 = .ok (.iadd, 1) := by decide +kernel
theorem dX6_finds_112 : decode cX6_finds 112 = .ok (.iaload, 1) := by decide +kernel
theorem dX6_finds_113 : decode cX6_finds 113 = .ok (.iload 4, 2) := by decide +kernel
theorem dX6_finds_115 : decode cX6_finds 115 = .ok (.invokevirtual 65, 3) := by decide +kernel
theorem dX6_finds_118 : decode cX6_finds 118 = .ok (.ifCond .ne 9, 3) := by decide +kernel
theorem dX6_finds_121 : decode cX6_finds 121 = .ok (.iinc 5 1, 3) := by decide +kernel
theorem dX6_finds_124 : decode cX6_finds 124 = .ok (.goto (-21), 3) := by decide +kernel
theorem dX6_finds_127 : decode cX6_finds 127 = .ok (.aload_n 0, 1) := by decide +kernel
theorem dX6_finds_128 : decode cX6_finds 128 = .ok (.getfield 97, 3) := by decide +kernel
theorem dX6_finds_131 : decode cX6_finds 131 = .ok (.istore 6, 2) := by decide +kernel
theorem dX6_finds_133 : decode cX6_finds 133 = .ok (.aload_n 0, 1) := by decide +kernel
theorem dX6_finds_134 : decode cX6_finds 134 = .ok (.getfield 29, 3) := by decide +kernel
theorem dX6_finds_137 : decode cX6_finds 137 = .ok (.iload 6, 2) := by decide +kernel
theorem dX6_finds_139 : decode cX6_finds 139 = .ok (.iload 4, 2) := by decide +kernel
theorem dX6_finds_141 : decode cX6_finds 141 = .ok (.iastore, 1) := by decide +kernel
theorem dX6_finds_142 : decode cX6_finds 142 = .ok (.aload_n 0, 1) := by decide +kernel
theorem dX6_finds_143 : decode cX6_finds 143 = .ok (.getfield 32, 3) := by decide +kernel
theorem dX6_finds_146 : decode cX6_finds 146 = .ok (.iload 6, 2) := by decide +kernel
theorem dX6_finds_148 : decode cX6_finds 148 = .ok (.iload_n 3, 1) := by decide +kernel
theorem dX6_finds_149 : decode cX6_finds 149 = .ok (.iastore, 1) := by decide +kernel
theorem dX6_finds_150 : decode cX6_finds 150 = .ok (.aload_n 0, 1) := by decide +kernel
theorem dX6_finds_151 : decode cX6_finds 151 = .ok (.getfield 35, 3) := by decide +kernel
theorem dX6_finds_154 : decode cX6_finds 154 = .ok (.iload 6, 2) := by decide +kernel
theorem dX6_finds_156 : decode cX6_finds 156 = .ok (.iload_n 1, 1) := by decide +kernel
theorem dX6_finds_157 : decode cX6_finds 157 = .ok (.iastore, 1) := by decide +kernel
theorem dX6_finds_158 : decode cX6_finds 158 = .ok (.aload_n 0, 1) := by decide +kernel
theorem dX6_finds_159 : decode cX6_finds 159 = .ok (.getfield 38, 3) := by decide +kernel
theorem dX6_finds_162 : decode cX6_finds 162 = .ok (.iload 6, 2) := by decide +kernel
theorem dX6_finds_164 : decode cX6_finds 164 = .ok (.iload_n 2, 1) := by decide +kernel
theorem dX6_finds_165 : decode cX6_finds 165 = .ok (.iastore, 1) := by decide +kernel
theorem dX6_finds_166 : decode cX6_finds 166 = .ok (.aload_n 0, 1) := by decide +kernel
theorem dX6_finds_167 : decode cX6_finds 167 = .ok (.getfield 41, 3) := by decide +kernel
theorem dX6_finds_170 : decode cX6_finds 170 = .ok (.iload 6, 2) := by decide +kernel
theorem dX6_finds_172 : decode cX6_finds 172 = .ok (.iload 5, 2) := by decide +kernel
theorem dX6_finds_174 : decode cX6_finds 174 = .ok (.iastore, 1) := by decide +kernel
theorem dX6_finds_175 : decode cX6_finds 175 = .ok (.aload_n 0, 1) := by decide +kernel
theorem dX6_finds_176 : decode cX6_finds 176 = .ok (.getfield 44, 3) := by decide +kernel
theorem dX6_finds_179 : decode cX6_finds 179 = .ok (.iload 6, 2) := by decide +kernel
theorem dX6_finds_181 : decode cX6_finds 181 = .ok (.aload_n 0, 1) := by decide +kernel
theorem dX6_finds_182 : decode cX6_finds 182 = .ok (.getfield 47, 3) := by decide +kernel
theorem dX6_finds_185 : decode cX6_finds 185 = .ok (.iconst 4, 1) := by decide +kernel
theorem dX6_finds_186 : decode cX6_finds 186 = .ok (.aload_n 0, 1) := by decide +kernel
theorem dX6_finds_187 : decode cX6_finds 187 = .ok (.getfield 94, 3) := by decide +kernel
theorem dX6_finds_190 : decode cX6_finds 190 = .ok (.imul, 1) := by decide +kernel
theorem dX6_finds_191 : decode cX6_finds 191 = .ok (.iconst 3, 1) := by decide +kernel
theorem dX6_finds_192 : decode cX6_finds 192 = .ok (.iadd, 1) := by decide +kernel
theorem dX6_finds_193 : decode cX6_finds 193 = .ok (.iaload, 1) := by decide +kernel
theorem dX6_finds_194 : decode cX6_finds 194 = .ok (.iastore, 1) := by decide +kernel
theorem dX6_finds_195 : decode cX6_finds 195 = .ok (.aload_n 0, 1) := by decide +kernel
theorem dX6_finds_196 : decode cX6_finds 196 = .ok (.dup, 1) := by decide +kernel
theorem dX6_finds_197 : decode cX6_finds 197 = .ok (.getfield 97, 3) := by decide +kernel
theorem dX6_finds_200 : decode cX6_finds 200 = .ok (.iconst 1, 1) := by decide +kernel
theorem dX6_finds_201 : decode cX6_finds 201 = .ok (.iadd, 1) := by decide +kernel
theorem dX6_finds_202 : decode cX6_finds 202 = .ok (.putfield 97, 3) := by decide +kernel
theorem dX6_finds_205 : decode cX6_finds 205 = .ok (.aload_n 0, 1) := by decide +kernel
theorem dX6_finds_206 : decode cX6_finds 206 = .ok (.iload_n 1, 1) := by decide +kernel
theorem dX6_finds_207 : decode cX6_finds 207 = .ok (.iload 5, 2) := by decide +kernel
theorem dX6_finds_209 : decode cX6_finds 209 = .ok (.iadd, 1) := by decide +kernel
theorem dX6_finds_210 : decode cX6_finds 210 = .ok (.iload_n 2, 1) := by decide +kernel
theorem dX6_finds_211 : decode cX6_finds 211 = .ok (.iload 5, 2) := by decide +kernel
theorem dX6_finds_213 : decode cX6_finds 213 = .ok (.isub, 1) := by decide +kernel
theorem dX6_finds_214 : decode cX6_finds 214 = .ok (.iload_n 3, 1) := by decide +kernel
theorem dX6_finds_215 : decode cX6_finds 215 = .ok (.iconst 1, 1) := by decide +kernel
theorem dX6_finds_216 : decode cX6_finds 216 = .ok (.iadd, 1) := by decide +kernel
theorem dX6_finds_217 : decode cX6_finds 217 = .ok (.iload 6, 2) := by decide +kernel
theorem dX6_finds_219 : decode cX6_finds 219 = .ok (.invokevirtual 103, 3) := by decide +kernel
theorem dX6_finds_222 : decode cX6_finds 222 = .ok (.aload_n 0, 1) := by decide +kernel
theorem dX6_finds_223 : decode cX6_finds 223 = .ok (.iload_n 1, 1) := by decide +kernel
theorem dX6_finds_224 : decode cX6_finds 224 = .ok (.iload 5, 2) := by decide +kernel
theorem dX6_finds_226 : decode cX6_finds 226 = .ok (.iload_n 3, 1) := by decide +kernel
theorem dX6_finds_227 : decode cX6_finds 227 = .ok (.iconst 1, 1) := by decide +kernel
theorem dX6_finds_228 : decode cX6_finds 228 = .ok (.iadd, 1) := by decide +kernel
theorem dX6_finds_229 : decode cX6_finds 229 = .ok (.iload 6, 2) := by decide +kernel
theorem dX6_finds_231 : decode cX6_finds 231 = .ok (.invokevirtual 103, 3) := by decide +kernel
theorem dX6_finds_234 : decode cX6_finds 234 = .ok (.goto (-213), 3) := by decide +kernel
theorem dX6_finds_237 : decode cX6_finds 237 = .ok (.return_, 1) := by decide +kernel
theorem dX6_findsBut_0 : decode cX6_findsBut 0 = .ok (.aload_n 0, 1) := by decide +kernel
theorem dX6_findsBut_1 : decode cX6_findsBut 1 = .ok (.iconst 0, 1) := by decide +kernel
theorem dX6_findsBut_2 : decode cX6_findsBut 2 = .ok (.putfield 100, 3) := by decide +kernel
theorem dX6_findsBut_5 : decode cX6_findsBut 5 = .ok (.iconst 0, 1) := by decide +kernel
theorem dX6_findsBut_6 : decode cX6_findsBut 6 = .ok (.istore_n 2, 1) := by decide +kernel
theorem dX6_findsBut_7 : decode cX6_findsBut 7 = .ok (.iload_n 2, 1) := by decide +kernel
theorem dX6_findsBut_8 : decode cX6_findsBut 8 = .ok (.aload_n 0, 1) := by decide +kernel
theorem dX6_findsBut_9 : decode cX6_findsBut 9 = .ok (.getfield 7, 3) := by decide +kernel
theorem dX6_findsBut_12 : decode cX6_findsBut 12 = .ok (.iconst 0, 1) := by decide +kernel
theorem dX6_findsBut_13 : decode cX6_findsBut 13 = .ok (.iaload, 1) := by decide +kernel
theorem dX6_findsBut_14 : decode cX6_findsBut 14 = .ok (.if_icmp .ge 34, 3) := by decide +kernel
theorem dX6_findsBut_17 : decode cX6_findsBut 17 = .ok (.iload_n 2, 1) := by decide +kernel
theorem dX6_findsBut_18 : decode cX6_findsBut 18 = .ok (.iload_n 1, 1) := by decide +kernel
theorem dX6_findsBut_19 : decode cX6_findsBut 19 = .ok (.if_icmp .eq 23, 3) := by decide +kernel
theorem dX6_findsBut_22 : decode cX6_findsBut 22 = .ok (.aload_n 0, 1) := by decide +kernel
theorem dX6_findsBut_23 : decode cX6_findsBut 23 = .ok (.getfield 26, 3) := by decide +kernel
theorem dX6_findsBut_26 : decode cX6_findsBut 26 = .ok (.aload_n 0, 1) := by decide +kernel
theorem dX6_findsBut_27 : decode cX6_findsBut 27 = .ok (.getfield 100, 3) := by decide +kernel
theorem dX6_findsBut_30 : decode cX6_findsBut 30 = .ok (.iload_n 2, 1) := by decide +kernel
theorem dX6_findsBut_31 : decode cX6_findsBut 31 = .ok (.iastore, 1) := by decide +kernel
theorem dX6_findsBut_32 : decode cX6_findsBut 32 = .ok (.aload_n 0, 1) := by decide +kernel
theorem dX6_findsBut_33 : decode cX6_findsBut 33 = .ok (.dup, 1) := by decide +kernel
theorem dX6_findsBut_34 : decode cX6_findsBut 34 = .ok (.getfield 100, 3) := by decide +kernel
theorem dX6_findsBut_37 : decode cX6_findsBut 37 = .ok (.iconst 1, 1) := by decide +kernel
theorem dX6_findsBut_38 : decode cX6_findsBut 38 = .ok (.iadd, 1) := by decide +kernel
theorem dX6_findsBut_39 : decode cX6_findsBut 39 = .ok (.putfield 100, 3) := by decide +kernel
theorem dX6_findsBut_42 : decode cX6_findsBut 42 = .ok (.iinc 2 1, 3) := by decide +kernel
theorem dX6_findsBut_45 : decode cX6_findsBut 45 = .ok (.goto (-38), 3) := by decide +kernel
theorem dX6_findsBut_48 : decode cX6_findsBut 48 = .ok (.aload_n 0, 1) := by decide +kernel
theorem dX6_findsBut_49 : decode cX6_findsBut 49 = .ok (.invokevirtual 107, 3) := by decide +kernel
theorem dX6_findsBut_52 : decode cX6_findsBut 52 = .ok (.return_, 1) := by decide +kernel
theorem dX6_isBelow_0 : decode cX6_isBelow 0 = .ok (.iload_n 2, 1) := by decide +kernel
theorem dX6_isBelow_1 : decode cX6_isBelow 1 = .ok (.aload_n 0, 1) := by decide +kernel
theorem dX6_isBelow_2 : decode cX6_isBelow 2 = .ok (.getfield 35, 3) := by decide +kernel
theorem dX6_isBelow_5 : decode cX6_isBelow 5 = .ok (.iload_n 1, 1) := by decide +kernel
theorem dX6_isBelow_6 : decode cX6_isBelow 6 = .ok (.iaload, 1) := by decide +kernel
theorem dX6_isBelow_7 : decode cX6_isBelow 7 = .ok (.aload_n 0, 1) := by decide +kernel
theorem dX6_isBelow_8 : decode cX6_isBelow 8 = .ok (.getfield 35, 3) := by decide +kernel
theorem dX6_isBelow_11 : decode cX6_isBelow 11 = .ok (.iload_n 1, 1) := by decide +kernel
theorem dX6_isBelow_12 : decode cX6_isBelow 12 = .ok (.iaload, 1) := by decide +kernel
theorem dX6_isBelow_13 : decode cX6_isBelow 13 = .ok (.aload_n 0, 1) := by decide +kernel
theorem dX6_isBelow_14 : decode cX6_isBelow 14 = .ok (.getfield 38, 3) := by decide +kernel
theorem dX6_isBelow_17 : decode cX6_isBelow 17 = .ok (.iload_n 1, 1) := by decide +kernel
theorem dX6_isBelow_18 : decode cX6_isBelow 18 = .ok (.iaload, 1) := by decide +kernel
theorem dX6_isBelow_19 : decode cX6_isBelow 19 = .ok (.iadd, 1) := by decide +kernel
theorem dX6_isBelow_20 : decode cX6_isBelow 20 = .ok (.iconst 1, 1) := by decide +kernel
theorem dX6_isBelow_21 : decode cX6_isBelow 21 = .ok (.isub, 1) := by decide +kernel
theorem dX6_isBelow_22 : decode cX6_isBelow 22 = .ok (.invokestatic 79, 3) := by decide +kernel
theorem dX6_isBelow_25 : decode cX6_isBelow 25 = .ok (.ireturn, 1) := by decide +kernel
theorem dX6_depthOf_0 : decode cX6_depthOf 0 = .ok (.iconst 0, 1) := by decide +kernel
theorem dX6_depthOf_1 : decode cX6_depthOf 1 = .ok (.istore_n 2, 1) := by decide +kernel
theorem dX6_depthOf_2 : decode cX6_depthOf 2 = .ok (.iconst 0, 1) := by decide +kernel
theorem dX6_depthOf_3 : decode cX6_depthOf 3 = .ok (.istore_n 3, 1) := by decide +kernel
theorem dX6_depthOf_4 : decode cX6_depthOf 4 = .ok (.iload_n 3, 1) := by decide +kernel
theorem dX6_depthOf_5 : decode cX6_depthOf 5 = .ok (.aload_n 0, 1) := by decide +kernel
theorem dX6_depthOf_6 : decode cX6_depthOf 6 = .ok (.getfield 97, 3) := by decide +kernel
theorem dX6_depthOf_9 : decode cX6_depthOf 9 = .ok (.if_icmp .ge 26, 3) := by decide +kernel
theorem dX6_depthOf_12 : decode cX6_depthOf 12 = .ok (.iload_n 2, 1) := by decide +kernel
theorem dX6_depthOf_13 : decode cX6_depthOf 13 = .ok (.aload_n 0, 1) := by decide +kernel
theorem dX6_depthOf_14 : decode cX6_depthOf 14 = .ok (.iload_n 3, 1) := by decide +kernel
theorem dX6_depthOf_15 : decode cX6_depthOf 15 = .ok (.iload_n 1, 1) := by decide +kernel
theorem dX6_depthOf_16 : decode cX6_depthOf 16 = .ok (.invokevirtual 110, 3) := by decide +kernel
theorem dX6_depthOf_19 : decode cX6_depthOf 19 = .ok (.ifCond .eq 7, 3) := by decide +kernel
theorem dX6_depthOf_22 : decode cX6_depthOf 22 = .ok (.iconst 1, 1) := by decide +kernel
theorem dX6_depthOf_23 : decode cX6_depthOf 23 = .ok (.goto 4, 3) := by decide +kernel
theorem dX6_depthOf_26 : decode cX6_depthOf 26 = .ok (.iconst 0, 1) := by decide +kernel
theorem dX6_depthOf_27 : decode cX6_depthOf 27 = .ok (.iadd, 1) := by decide +kernel
theorem dX6_depthOf_28 : decode cX6_depthOf 28 = .ok (.istore_n 2, 1) := by decide +kernel
theorem dX6_depthOf_29 : decode cX6_depthOf 29 = .ok (.iinc 3 1, 3) := by decide +kernel
theorem dX6_depthOf_32 : decode cX6_depthOf 32 = .ok (.goto (-28), 3) := by decide +kernel
theorem dX6_depthOf_35 : decode cX6_depthOf 35 = .ok (.iload_n 2, 1) := by decide +kernel
theorem dX6_depthOf_36 : decode cX6_depthOf 36 = .ok (.ireturn, 1) := by decide +kernel
theorem dX6_deepest_0 : decode cX6_deepest 0 = .ok (.iconst 0, 1) := by decide +kernel
theorem dX6_deepest_1 : decode cX6_deepest 1 = .ok (.istore_n 1, 1) := by decide +kernel
theorem dX6_deepest_2 : decode cX6_deepest 2 = .ok (.iconst 0, 1) := by decide +kernel
theorem dX6_deepest_3 : decode cX6_deepest 3 = .ok (.istore_n 2, 1) := by decide +kernel
theorem dX6_deepest_4 : decode cX6_deepest 4 = .ok (.iload_n 2, 1) := by decide +kernel
theorem dX6_deepest_5 : decode cX6_deepest 5 = .ok (.aload_n 0, 1) := by decide +kernel
theorem dX6_deepest_6 : decode cX6_deepest 6 = .ok (.getfield 100, 3) := by decide +kernel
theorem dX6_deepest_9 : decode cX6_deepest 9 = .ok (.if_icmp .ge 19, 3) := by decide +kernel
theorem dX6_deepest_12 : decode cX6_deepest 12 = .ok (.iload_n 1, 1) := by decide +kernel
theorem dX6_deepest_13 : decode cX6_deepest 13 = .ok (.aload_n 0, 1) := by decide +kernel
theorem dX6_deepest_14 : decode cX6_deepest 14 = .ok (.iload_n 2, 1) := by decide +kernel
theorem dX6_deepest_15 : decode cX6_deepest 15 = .ok (.invokevirtual 113, 3) := by decide +kernel
theorem dX6_deepest_18 : decode cX6_deepest 18 = .ok (.invokestatic 116, 3) := by decide +kernel
theorem dX6_deepest_21 : decode cX6_deepest 21 = .ok (.istore_n 1, 1) := by decide +kernel
theorem dX6_deepest_22 : decode cX6_deepest 22 = .ok (.iinc 2 1, 3) := by decide +kernel
theorem dX6_deepest_25 : decode cX6_deepest 25 = .ok (.goto (-21), 3) := by decide +kernel
theorem dX6_deepest_28 : decode cX6_deepest 28 = .ok (.iload_n 1, 1) := by decide +kernel
theorem dX6_deepest_29 : decode cX6_deepest 29 = .ok (.ireturn, 1) := by decide +kernel
theorem dX6_sum_0 : decode cX6_sum 0 = .ok (.iconst 0, 1) := by decide +kernel
theorem dX6_sum_1 : decode cX6_sum 1 = .ok (.istore_n 2, 1) := by decide +kernel
theorem dX6_sum_2 : decode cX6_sum 2 = .ok (.iconst 0, 1) := by decide +kernel
theorem dX6_sum_3 : decode cX6_sum 3 = .ok (.istore_n 3, 1) := by decide +kernel
theorem dX6_sum_4 : decode cX6_sum 4 = .ok (.iload_n 3, 1) := by decide +kernel
theorem dX6_sum_5 : decode cX6_sum 5 = .ok (.aload_n 0, 1) := by decide +kernel
theorem dX6_sum_6 : decode cX6_sum 6 = .ok (.getfield 7, 3) := by decide +kernel
theorem dX6_sum_9 : decode cX6_sum 9 = .ok (.iconst 0, 1) := by decide +kernel
theorem dX6_sum_10 : decode cX6_sum 10 = .ok (.iaload, 1) := by decide +kernel
theorem dX6_sum_11 : decode cX6_sum 11 = .ok (.if_icmp .ge 33, 3) := by decide +kernel
theorem dX6_sum_14 : decode cX6_sum 14 = .ok (.iload_n 2, 1) := by decide +kernel
theorem dX6_sum_15 : decode cX6_sum 15 = .ok (.iload_n 1, 1) := by decide +kernel
theorem dX6_sum_16 : decode cX6_sum 16 = .ok (.ifCond .ne 11, 3) := by decide +kernel
theorem dX6_sum_19 : decode cX6_sum 19 = .ok (.aload_n 0, 1) := by decide +kernel
theorem dX6_sum_20 : decode cX6_sum 20 = .ok (.iload_n 3, 1) := by decide +kernel
theorem dX6_sum_21 : decode cX6_sum 21 = .ok (.invokevirtual 113, 3) := by decide +kernel
theorem dX6_sum_24 : decode cX6_sum 24 = .ok (.goto 12, 3) := by decide +kernel
theorem dX6_sum_27 : decode cX6_sum 27 = .ok (.aload_n 0, 1) := by decide +kernel
theorem dX6_sum_28 : decode cX6_sum 28 = .ok (.getfield 7, 3) := by decide +kernel
theorem dX6_sum_31 : decode cX6_sum 31 = .ok (.bipush 25, 2) := by decide +kernel
theorem dX6_sum_33 : decode cX6_sum 33 = .ok (.iload_n 3, 1) := by decide +kernel
theorem dX6_sum_34 : decode cX6_sum 34 = .ok (.iadd, 1) := by decide +kernel
theorem dX6_sum_35 : decode cX6_sum 35 = .ok (.iaload, 1) := by decide +kernel
theorem dX6_sum_36 : decode cX6_sum 36 = .ok (.iadd, 1) := by decide +kernel
theorem dX6_sum_37 : decode cX6_sum 37 = .ok (.istore_n 2, 1) := by decide +kernel
theorem dX6_sum_38 : decode cX6_sum 38 = .ok (.iinc 3 1, 3) := by decide +kernel
theorem dX6_sum_41 : decode cX6_sum 41 = .ok (.goto (-37), 3) := by decide +kernel
theorem dX6_sum_44 : decode cX6_sum 44 = .ok (.iload_n 2, 1) := by decide +kernel
theorem dX6_sum_45 : decode cX6_sum 45 = .ok (.ireturn, 1) := by decide +kernel
theorem dX6_told_0 : decode cX6_told 0 = .ok (.iload_n 1, 1) := by decide +kernel
theorem dX6_told_1 : decode cX6_told 1 = .ok (.iconst 0, 1) := by decide +kernel
theorem dX6_told_2 : decode cX6_told 2 = .ok (.bipush 10, 2) := by decide +kernel
theorem dX6_told_4 : decode cX6_told 4 = .ok (.invokestatic 79, 3) := by decide +kernel
theorem dX6_told_7 : decode cX6_told 7 = .ok (.ifCond .ne 6, 3) := by decide +kernel
theorem dX6_told_10 : decode cX6_told 10 = .ok (.ldc 83, 2) := by decide +kernel
theorem dX6_told_12 : decode cX6_told 12 = .ok (.ireturn, 1) := by decide +kernel
theorem dX6_told_13 : decode cX6_told 13 = .ok (.aload_n 0, 1) := by decide +kernel
theorem dX6_told_14 : decode cX6_told 14 = .ok (.iconst (-1), 1) := by decide +kernel
theorem dX6_told_15 : decode cX6_told 15 = .ok (.invokevirtual 119, 3) := by decide +kernel
theorem dX6_told_18 : decode cX6_told 18 = .ok (.iload_n 1, 1) := by decide +kernel
theorem dX6_told_19 : decode cX6_told 19 = .ok (.tableswitch 142 0 9 #[53, 60, 65, 70, 75, 75, 83, 101, 132, 137], 53) := by decide +kernel
theorem dX6_told_72 : decode cX6_told 72 = .ok (.aload_n 0, 1) := by decide +kernel
theorem dX6_told_73 : decode cX6_told 73 = .ok (.getfield 7, 3) := by decide +kernel
theorem dX6_told_76 : decode cX6_told 76 = .ok (.iconst 0, 1) := by decide +kernel
theorem dX6_told_77 : decode cX6_told 77 = .ok (.iaload, 1) := by decide +kernel
theorem dX6_told_78 : decode cX6_told 78 = .ok (.ireturn, 1) := by decide +kernel
theorem dX6_told_79 : decode cX6_told 79 = .ok (.aload_n 0, 1) := by decide +kernel
theorem dX6_told_80 : decode cX6_told 80 = .ok (.getfield 97, 3) := by decide +kernel
theorem dX6_told_83 : decode cX6_told 83 = .ok (.ireturn, 1) := by decide +kernel
theorem dX6_told_84 : decode cX6_told 84 = .ok (.aload_n 0, 1) := by decide +kernel
theorem dX6_told_85 : decode cX6_told 85 = .ok (.getfield 53, 3) := by decide +kernel
theorem dX6_told_88 : decode cX6_told 88 = .ok (.ireturn, 1) := by decide +kernel
theorem dX6_told_89 : decode cX6_told 89 = .ok (.aload_n 0, 1) := by decide +kernel
theorem dX6_told_90 : decode cX6_told 90 = .ok (.invokevirtual 123, 3) := by decide +kernel
theorem dX6_told_93 : decode cX6_told 93 = .ok (.ireturn, 1) := by decide +kernel
theorem dX6_told_94 : decode cX6_told 94 = .ok (.aload_n 0, 1) := by decide +kernel
theorem dX6_told_95 : decode cX6_told 95 = .ok (.iload_n 1, 1) := by decide +kernel
theorem dX6_told_96 : decode cX6_told 96 = .ok (.iconst 4, 1) := by decide +kernel
theorem dX6_told_97 : decode cX6_told 97 = .ok (.isub, 1) := by decide +kernel
theorem dX6_told_98 : decode cX6_told 98 = .ok (.invokevirtual 126, 3) := by decide +kernel
theorem dX6_told_101 : decode cX6_told 101 = .ok (.ireturn, 1) := by decide +kernel
theorem dX6_told_102 : decode cX6_told 102 = .ok (.aload_n 0, 1) := by decide +kernel
theorem dX6_told_103 : decode cX6_told 103 = .ok (.getfield 97, 3) := by decide +kernel
theorem dX6_told_106 : decode cX6_told 106 = .ok (.ifCond .ne 7, 3) := by decide +kernel
theorem dX6_told_109 : decode cX6_told 109 = .ok (.iconst (-1), 1) := by decide +kernel
theorem dX6_told_110 : decode cX6_told 110 = .ok (.goto 9, 3) := by decide +kernel
theorem dX6_told_113 : decode cX6_told 113 = .ok (.aload_n 0, 1) := by decide +kernel
theorem dX6_told_114 : decode cX6_told 114 = .ok (.getfield 29, 3) := by decide +kernel
theorem dX6_told_117 : decode cX6_told 117 = .ok (.iconst 0, 1) := by decide +kernel
theorem dX6_told_118 : decode cX6_told 118 = .ok (.iaload, 1) := by decide +kernel
theorem dX6_told_119 : decode cX6_told 119 = .ok (.ireturn, 1) := by decide +kernel
theorem dX6_told_120 : decode cX6_told 120 = .ok (.iconst (-1), 1) := by decide +kernel
theorem dX6_told_121 : decode cX6_told 121 = .ok (.istore_n 2, 1) := by decide +kernel
theorem dX6_told_122 : decode cX6_told 122 = .ok (.iconst 0, 1) := by decide +kernel
theorem dX6_told_123 : decode cX6_told 123 = .ok (.istore_n 3, 1) := by decide +kernel
theorem dX6_told_124 : decode cX6_told 124 = .ok (.iload_n 3, 1) := by decide +kernel
theorem dX6_told_125 : decode cX6_told 125 = .ok (.aload_n 0, 1) := by decide +kernel
theorem dX6_told_126 : decode cX6_told 126 = .ok (.getfield 97, 3) := by decide +kernel
theorem dX6_told_129 : decode cX6_told 129 = .ok (.if_icmp .ge 20, 3) := by decide +kernel
theorem dX6_told_132 : decode cX6_told 132 = .ok (.iload_n 2, 1) := by decide +kernel
theorem dX6_told_133 : decode cX6_told 133 = .ok (.aload_n 0, 1) := by decide +kernel
theorem dX6_told_134 : decode cX6_told 134 = .ok (.getfield 29, 3) := by decide +kernel
theorem dX6_told_137 : decode cX6_told 137 = .ok (.iload_n 3, 1) := by decide +kernel
theorem dX6_told_138 : decode cX6_told 138 = .ok (.iaload, 1) := by decide +kernel
theorem dX6_told_139 : decode cX6_told 139 = .ok (.invokestatic 116, 3) := by decide +kernel
theorem dX6_told_142 : decode cX6_told 142 = .ok (.istore_n 2, 1) := by decide +kernel
theorem dX6_told_143 : decode cX6_told 143 = .ok (.iinc 3 1, 3) := by decide +kernel
theorem dX6_told_146 : decode cX6_told 146 = .ok (.goto (-22), 3) := by decide +kernel
theorem dX6_told_149 : decode cX6_told 149 = .ok (.iload_n 2, 1) := by decide +kernel
theorem dX6_told_150 : decode cX6_told 150 = .ok (.ireturn, 1) := by decide +kernel
theorem dX6_told_151 : decode cX6_told 151 = .ok (.aload_n 0, 1) := by decide +kernel
theorem dX6_told_152 : decode cX6_told 152 = .ok (.invokevirtual 75, 3) := by decide +kernel
theorem dX6_told_155 : decode cX6_told 155 = .ok (.ireturn, 1) := by decide +kernel
theorem dX6_told_156 : decode cX6_told 156 = .ok (.aload_n 0, 1) := by decide +kernel
theorem dX6_told_157 : decode cX6_told 157 = .ok (.invokevirtual 129, 3) := by decide +kernel
theorem dX6_told_160 : decode cX6_told 160 = .ok (.ireturn, 1) := by decide +kernel
theorem dX6_told_161 : decode cX6_told 161 = .ok (.aload_n 0, 1) := by decide +kernel
theorem dX6_told_162 : decode cX6_told 162 = .ok (.getfield 132, 3) := by decide +kernel
theorem dX6_told_165 : decode cX6_told 165 = .ok (.ireturn, 1) := by decide +kernel
theorem dX6_key_0 : decode cX6_key 0 = .ok (.aload_n 0, 1) := by decide +kernel
theorem dX6_key_1 : decode cX6_key 1 = .ok (.iload_n 1, 1) := by decide +kernel
theorem dX6_key_2 : decode cX6_key 2 = .ok (.invokevirtual 85, 3) := by decide +kernel
theorem dX6_key_5 : decode cX6_key 5 = .ok (.ifCond .ne 6, 3) := by decide +kernel
theorem dX6_key_8 : decode cX6_key 8 = .ok (.ldc 89, 2) := by decide +kernel
theorem dX6_key_10 : decode cX6_key 10 = .ok (.ireturn, 1) := by decide +kernel
theorem dX6_key_11 : decode cX6_key 11 = .ok (.iload_n 2, 1) := by decide +kernel
theorem dX6_key_12 : decode cX6_key 12 = .ok (.iconst 0, 1) := by decide +kernel
theorem dX6_key_13 : decode cX6_key 13 = .ok (.bipush 12, 2) := by decide +kernel
theorem dX6_key_15 : decode cX6_key 15 = .ok (.invokestatic 79, 3) := by decide +kernel
theorem dX6_key_18 : decode cX6_key 18 = .ok (.ifCond .ne 6, 3) := by decide +kernel
theorem dX6_key_21 : decode cX6_key 21 = .ok (.ldc 83, 2) := by decide +kernel
theorem dX6_key_23 : decode cX6_key 23 = .ok (.ireturn, 1) := by decide +kernel
theorem dX6_key_24 : decode cX6_key 24 = .ok (.iload_n 2, 1) := by decide +kernel
theorem dX6_key_25 : decode cX6_key 25 = .ok (.tableswitch 83 8 12 #[35, 44, 54, 65, 73], 35) := by decide +kernel
theorem dX6_key_60 : decode cX6_key 60 = .ok (.aload_n 0, 1) := by decide +kernel
theorem dX6_key_61 : decode cX6_key 61 = .ok (.getfield 7, 3) := by decide +kernel
theorem dX6_key_64 : decode cX6_key 64 = .ok (.iconst 1, 1) := by decide +kernel
theorem dX6_key_65 : decode cX6_key 65 = .ok (.iload_n 1, 1) := by decide +kernel
theorem dX6_key_66 : decode cX6_key 66 = .ok (.iadd, 1) := by decide +kernel
theorem dX6_key_67 : decode cX6_key 67 = .ok (.iaload, 1) := by decide +kernel
theorem dX6_key_68 : decode cX6_key 68 = .ok (.ireturn, 1) := by decide +kernel
theorem dX6_key_69 : decode cX6_key 69 = .ok (.aload_n 0, 1) := by decide +kernel
theorem dX6_key_70 : decode cX6_key 70 = .ok (.getfield 7, 3) := by decide +kernel
theorem dX6_key_73 : decode cX6_key 73 = .ok (.bipush 25, 2) := by decide +kernel
theorem dX6_key_75 : decode cX6_key 75 = .ok (.iload_n 1, 1) := by decide +kernel
theorem dX6_key_76 : decode cX6_key 76 = .ok (.iadd, 1) := by decide +kernel
theorem dX6_key_77 : decode cX6_key 77 = .ok (.iaload, 1) := by decide +kernel
theorem dX6_key_78 : decode cX6_key 78 = .ok (.ireturn, 1) := by decide +kernel
theorem dX6_key_79 : decode cX6_key 79 = .ok (.aload_n 0, 1) := by decide +kernel
theorem dX6_key_80 : decode cX6_key 80 = .ok (.iconst (-1), 1) := by decide +kernel
theorem dX6_key_81 : decode cX6_key 81 = .ok (.invokevirtual 119, 3) := by decide +kernel
theorem dX6_key_84 : decode cX6_key 84 = .ok (.aload_n 0, 1) := by decide +kernel
theorem dX6_key_85 : decode cX6_key 85 = .ok (.iload_n 1, 1) := by decide +kernel
theorem dX6_key_86 : decode cX6_key 86 = .ok (.invokevirtual 113, 3) := by decide +kernel
theorem dX6_key_89 : decode cX6_key 89 = .ok (.ireturn, 1) := by decide +kernel
theorem dX6_key_90 : decode cX6_key 90 = .ok (.aload_n 0, 1) := by decide +kernel
theorem dX6_key_91 : decode cX6_key 91 = .ok (.iload_n 1, 1) := by decide +kernel
theorem dX6_key_92 : decode cX6_key 92 = .ok (.bipush 24, 2) := by decide +kernel
theorem dX6_key_94 : decode cX6_key 94 = .ok (.invokevirtual 68, 3) := by decide +kernel
theorem dX6_key_97 : decode cX6_key 97 = .ok (.ireturn, 1) := by decide +kernel
theorem dX6_key_98 : decode cX6_key 98 = .ok (.aload_n 0, 1) := by decide +kernel
theorem dX6_key_99 : decode cX6_key 99 = .ok (.iload_n 1, 1) := by decide +kernel
theorem dX6_key_100 : decode cX6_key 100 = .ok (.invokevirtual 119, 3) := by decide +kernel
theorem dX6_key_103 : decode cX6_key 103 = .ok (.aload_n 0, 1) := by decide +kernel
theorem dX6_key_104 : decode cX6_key 104 = .ok (.invokevirtual 123, 3) := by decide +kernel
theorem dX6_key_107 : decode cX6_key 107 = .ok (.ireturn, 1) := by decide +kernel
theorem dX6_key_108 : decode cX6_key 108 = .ok (.iload_n 2, 1) := by decide +kernel
theorem dX6_key_109 : decode cX6_key 109 = .ok (.aload_n 0, 1) := by decide +kernel
theorem dX6_key_110 : decode cX6_key 110 = .ok (.getfield 7, 3) := by decide +kernel
theorem dX6_key_113 : decode cX6_key 113 = .ok (.iconst 1, 1) := by decide +kernel
theorem dX6_key_114 : decode cX6_key 114 = .ok (.iload_n 1, 1) := by decide +kernel
theorem dX6_key_115 : decode cX6_key 115 = .ok (.iadd, 1) := by decide +kernel
theorem dX6_key_116 : decode cX6_key 116 = .ok (.iaload, 1) := by decide +kernel
theorem dX6_key_117 : decode cX6_key 117 = .ok (.if_icmp .ge 20, 3) := by decide +kernel
theorem dX6_key_120 : decode cX6_key 120 = .ok (.aload_n 0, 1) := by decide +kernel
theorem dX6_key_121 : decode cX6_key 121 = .ok (.getfield 7, 3) := by decide +kernel
theorem dX6_key_124 : decode cX6_key 124 = .ok (.bipush 49, 2) := by decide +kernel
theorem dX6_key_126 : decode cX6_key 126 = .ok (.bipush 8, 2) := by decide +kernel
theorem dX6_key_128 : decode cX6_key 128 = .ok (.iload_n 1, 1) := by decide +kernel
theorem dX6_key_129 : decode cX6_key 129 = .ok (.imul, 1) := by decide +kernel
theorem dX6_key_130 : decode cX6_key 130 = .ok (.iadd, 1) := by decide +kernel
theorem dX6_key_131 : decode cX6_key 131 = .ok (.iload_n 2, 1) := by decide +kernel
theorem dX6_key_132 : decode cX6_key 132 = .ok (.iadd, 1) := by decide +kernel
theorem dX6_key_133 : decode cX6_key 133 = .ok (.iaload, 1) := by decide +kernel
theorem dX6_key_134 : decode cX6_key 134 = .ok (.goto 4, 3) := by decide +kernel
theorem dX6_key_137 : decode cX6_key 137 = .ok (.iconst (-1), 1) := by decide +kernel
theorem dX6_key_138 : decode cX6_key 138 = .ok (.ireturn, 1) := by decide +kernel
theorem dX6_branch_0 : decode cX6_branch 0 = .ok (.aload_n 0, 1) := by decide +kernel
theorem dX6_branch_1 : decode cX6_branch 1 = .ok (.iconst (-1), 1) := by decide +kernel
theorem dX6_branch_2 : decode cX6_branch 2 = .ok (.invokevirtual 119, 3) := by decide +kernel
theorem dX6_branch_5 : decode cX6_branch 5 = .ok (.iload_n 1, 1) := by decide +kernel
theorem dX6_branch_6 : decode cX6_branch 6 = .ok (.iconst 0, 1) := by decide +kernel
theorem dX6_branch_7 : decode cX6_branch 7 = .ok (.aload_n 0, 1) := by decide +kernel
theorem dX6_branch_8 : decode cX6_branch 8 = .ok (.getfield 97, 3) := by decide +kernel
theorem dX6_branch_11 : decode cX6_branch 11 = .ok (.iconst 1, 1) := by decide +kernel
theorem dX6_branch_12 : decode cX6_branch 12 = .ok (.isub, 1) := by decide +kernel
theorem dX6_branch_13 : decode cX6_branch 13 = .ok (.invokestatic 79, 3) := by decide +kernel
theorem dX6_branch_16 : decode cX6_branch 16 = .ok (.ifCond .ne 6, 3) := by decide +kernel
theorem dX6_branch_19 : decode cX6_branch 19 = .ok (.ldc 89, 2) := by decide +kernel
theorem dX6_branch_21 : decode cX6_branch 21 = .ok (.ireturn, 1) := by decide +kernel
theorem dX6_branch_22 : decode cX6_branch 22 = .ok (.iload_n 2, 1) := by decide +kernel
theorem dX6_branch_23 : decode cX6_branch 23 = .ok (.tableswitch 79 0 5 #[37, 44, 51, 58, 65, 72], 37) := by decide +kernel
theorem dX6_branch_60 : decode cX6_branch 60 = .ok (.aload_n 0, 1) := by decide +kernel
theorem dX6_branch_61 : decode cX6_branch 61 = .ok (.getfield 29, 3) := by decide +kernel
theorem dX6_branch_64 : decode cX6_branch 64 = .ok (.iload_n 1, 1) := by decide +kernel
theorem dX6_branch_65 : decode cX6_branch 65 = .ok (.iaload, 1) := by decide +kernel
theorem dX6_branch_66 : decode cX6_branch 66 = .ok (.ireturn, 1) := by decide +kernel
theorem dX6_branch_67 : decode cX6_branch 67 = .ok (.aload_n 0, 1) := by decide +kernel
theorem dX6_branch_68 : decode cX6_branch 68 = .ok (.getfield 32, 3) := by decide +kernel
theorem dX6_branch_71 : decode cX6_branch 71 = .ok (.iload_n 1, 1) := by decide +kernel
theorem dX6_branch_72 : decode cX6_branch 72 = .ok (.iaload, 1) := by decide +kernel
theorem dX6_branch_73 : decode cX6_branch 73 = .ok (.ireturn, 1) := by decide +kernel
theorem dX6_branch_74 : decode cX6_branch 74 = .ok (.aload_n 0, 1) := by decide +kernel
theorem dX6_branch_75 : decode cX6_branch 75 = .ok (.getfield 38, 3) := by decide +kernel
theorem dX6_branch_78 : decode cX6_branch 78 = .ok (.iload_n 1, 1) := by decide +kernel
theorem dX6_branch_79 : decode cX6_branch 79 = .ok (.iaload, 1) := by decide +kernel
theorem dX6_branch_80 : decode cX6_branch 80 = .ok (.ireturn, 1) := by decide +kernel
theorem dX6_branch_81 : decode cX6_branch 81 = .ok (.aload_n 0, 1) := by decide +kernel
theorem dX6_branch_82 : decode cX6_branch 82 = .ok (.getfield 41, 3) := by decide +kernel
theorem dX6_branch_85 : decode cX6_branch 85 = .ok (.iload_n 1, 1) := by decide +kernel
theorem dX6_branch_86 : decode cX6_branch 86 = .ok (.iaload, 1) := by decide +kernel
theorem dX6_branch_87 : decode cX6_branch 87 = .ok (.ireturn, 1) := by decide +kernel
theorem dX6_branch_88 : decode cX6_branch 88 = .ok (.aload_n 0, 1) := by decide +kernel
theorem dX6_branch_89 : decode cX6_branch 89 = .ok (.getfield 35, 3) := by decide +kernel
theorem dX6_branch_92 : decode cX6_branch 92 = .ok (.iload_n 1, 1) := by decide +kernel
theorem dX6_branch_93 : decode cX6_branch 93 = .ok (.iaload, 1) := by decide +kernel
theorem dX6_branch_94 : decode cX6_branch 94 = .ok (.ireturn, 1) := by decide +kernel
theorem dX6_branch_95 : decode cX6_branch 95 = .ok (.aload_n 0, 1) := by decide +kernel
theorem dX6_branch_96 : decode cX6_branch 96 = .ok (.getfield 44, 3) := by decide +kernel
theorem dX6_branch_99 : decode cX6_branch 99 = .ok (.iload_n 1, 1) := by decide +kernel
theorem dX6_branch_100 : decode cX6_branch 100 = .ok (.iaload, 1) := by decide +kernel
theorem dX6_branch_101 : decode cX6_branch 101 = .ok (.ireturn, 1) := by decide +kernel
theorem dX6_branch_102 : decode cX6_branch 102 = .ok (.ldc 83, 2) := by decide +kernel
theorem dX6_branch_104 : decode cX6_branch 104 = .ok (.ireturn, 1) := by decide +kernel
theorem dX6_notes_0 : decode cX6_notes 0 = .ok (.aload_n 0, 1) := by decide +kernel
theorem dX6_notes_1 : decode cX6_notes 1 = .ok (.getfield 132, 3) := by decide +kernel
theorem dX6_notes_4 : decode cX6_notes 4 = .ok (.bipush 20, 2) := by decide +kernel
theorem dX6_notes_6 : decode cX6_notes 6 = .ok (.if_icmp .ne 44, 3) := by decide +kernel
theorem dX6_notes_9 : decode cX6_notes 9 = .ok (.iconst 0, 1) := by decide +kernel
theorem dX6_notes_10 : decode cX6_notes 10 = .ok (.istore_n 1, 1) := by decide +kernel
theorem dX6_notes_11 : decode cX6_notes 11 = .ok (.iload_n 1, 1) := by decide +kernel
theorem dX6_notes_12 : decode cX6_notes 12 = .ok (.sipush 4579, 3) := by decide +kernel
theorem dX6_notes_15 : decode cX6_notes 15 = .ok (.if_icmp .ge 25, 3) := by decide +kernel
theorem dX6_notes_18 : decode cX6_notes 18 = .ok (.aload_n 0, 1) := by decide +kernel
theorem dX6_notes_19 : decode cX6_notes 19 = .ok (.getfield 13, 3) := by decide +kernel
theorem dX6_notes_22 : decode cX6_notes 22 = .ok (.iload_n 1, 1) := by decide +kernel
theorem dX6_notes_23 : decode cX6_notes 23 = .ok (.aload_n 0, 1) := by decide +kernel
theorem dX6_notes_24 : decode cX6_notes 24 = .ok (.getfield 13, 3) := by decide +kernel
theorem dX6_notes_27 : decode cX6_notes 27 = .ok (.iload_n 1, 1) := by decide +kernel
theorem dX6_notes_28 : decode cX6_notes 28 = .ok (.sipush 241, 3) := by decide +kernel
theorem dX6_notes_31 : decode cX6_notes 31 = .ok (.iadd, 1) := by decide +kernel
theorem dX6_notes_32 : decode cX6_notes 32 = .ok (.iaload, 1) := by decide +kernel
theorem dX6_notes_33 : decode cX6_notes 33 = .ok (.iastore, 1) := by decide +kernel
theorem dX6_notes_34 : decode cX6_notes 34 = .ok (.iinc 1 1, 3) := by decide +kernel
theorem dX6_notes_37 : decode cX6_notes 37 = .ok (.goto (-26), 3) := by decide +kernel
theorem dX6_notes_40 : decode cX6_notes 40 = .ok (.aload_n 0, 1) := by decide +kernel
theorem dX6_notes_41 : decode cX6_notes 41 = .ok (.dup, 1) := by decide +kernel
theorem dX6_notes_42 : decode cX6_notes 42 = .ok (.getfield 132, 3) := by decide +kernel
theorem dX6_notes_45 : decode cX6_notes 45 = .ok (.iconst 1, 1) := by decide +kernel
theorem dX6_notes_46 : decode cX6_notes 46 = .ok (.isub, 1) := by decide +kernel
theorem dX6_notes_47 : decode cX6_notes 47 = .ok (.putfield 132, 3) := by decide +kernel
theorem dX6_notes_50 : decode cX6_notes 50 = .ok (.aload_n 0, 1) := by decide +kernel
theorem dX6_notes_51 : decode cX6_notes 51 = .ok (.getfield 7, 3) := by decide +kernel
theorem dX6_notes_54 : decode cX6_notes 54 = .ok (.iconst 0, 1) := by decide +kernel
theorem dX6_notes_55 : decode cX6_notes 55 = .ok (.aload_n 0, 1) := by decide +kernel
theorem dX6_notes_56 : decode cX6_notes 56 = .ok (.getfield 13, 3) := by decide +kernel
theorem dX6_notes_59 : decode cX6_notes 59 = .ok (.sipush 241, 3) := by decide +kernel
theorem dX6_notes_62 : decode cX6_notes 62 = .ok (.aload_n 0, 1) := by decide +kernel
theorem dX6_notes_63 : decode cX6_notes 63 = .ok (.getfield 132, 3) := by decide +kernel
theorem dX6_notes_66 : decode cX6_notes 66 = .ok (.imul, 1) := by decide +kernel
theorem dX6_notes_67 : decode cX6_notes 67 = .ok (.sipush 241, 3) := by decide +kernel
theorem dX6_notes_70 : decode cX6_notes 70 = .ok (.invokestatic 90, 3) := by decide +kernel
theorem dX6_notes_73 : decode cX6_notes 73 = .ok (.aload_n 0, 1) := by decide +kernel
theorem dX6_notes_74 : decode cX6_notes 74 = .ok (.dup, 1) := by decide +kernel
theorem dX6_notes_75 : decode cX6_notes 75 = .ok (.getfield 132, 3) := by decide +kernel
theorem dX6_notes_78 : decode cX6_notes 78 = .ok (.iconst 1, 1) := by decide +kernel
theorem dX6_notes_79 : decode cX6_notes 79 = .ok (.iadd, 1) := by decide +kernel
theorem dX6_notes_80 : decode cX6_notes 80 = .ok (.putfield 132, 3) := by decide +kernel
theorem dX6_notes_83 : decode cX6_notes 83 = .ok (.return_, 1) := by decide +kernel
theorem dX6_moves_0 : decode cX6_moves 0 = .ok (.aload_n 0, 1) := by decide +kernel
theorem dX6_moves_1 : decode cX6_moves 1 = .ok (.getfield 7, 3) := by decide +kernel
theorem dX6_moves_4 : decode cX6_moves 4 = .ok (.iconst 1, 1) := by decide +kernel
theorem dX6_moves_5 : decode cX6_moves 5 = .ok (.iload_n 2, 1) := by decide +kernel
theorem dX6_moves_6 : decode cX6_moves 6 = .ok (.iadd, 1) := by decide +kernel
theorem dX6_moves_7 : decode cX6_moves 7 = .ok (.aload_n 0, 1) := by decide +kernel
theorem dX6_moves_8 : decode cX6_moves 8 = .ok (.getfield 7, 3) := by decide +kernel
theorem dX6_moves_11 : decode cX6_moves 11 = .ok (.iconst 1, 1) := by decide +kernel
theorem dX6_moves_12 : decode cX6_moves 12 = .ok (.iload_n 1, 1) := by decide +kernel
theorem dX6_moves_13 : decode cX6_moves 13 = .ok (.iadd, 1) := by decide +kernel
theorem dX6_moves_14 : decode cX6_moves 14 = .ok (.iaload, 1) := by decide +kernel
theorem dX6_moves_15 : decode cX6_moves 15 = .ok (.iastore, 1) := by decide +kernel
theorem dX6_moves_16 : decode cX6_moves 16 = .ok (.aload_n 0, 1) := by decide +kernel
theorem dX6_moves_17 : decode cX6_moves 17 = .ok (.getfield 7, 3) := by decide +kernel
theorem dX6_moves_20 : decode cX6_moves 20 = .ok (.bipush 25, 2) := by decide +kernel
theorem dX6_moves_22 : decode cX6_moves 22 = .ok (.iload_n 2, 1) := by decide +kernel
theorem dX6_moves_23 : decode cX6_moves 23 = .ok (.iadd, 1) := by decide +kernel
theorem dX6_moves_24 : decode cX6_moves 24 = .ok (.aload_n 0, 1) := by decide +kernel
theorem dX6_moves_25 : decode cX6_moves 25 = .ok (.getfield 7, 3) := by decide +kernel
theorem dX6_moves_28 : decode cX6_moves 28 = .ok (.bipush 25, 2) := by decide +kernel
theorem dX6_moves_30 : decode cX6_moves 30 = .ok (.iload_n 1, 1) := by decide +kernel
theorem dX6_moves_31 : decode cX6_moves 31 = .ok (.iadd, 1) := by decide +kernel
theorem dX6_moves_32 : decode cX6_moves 32 = .ok (.iaload, 1) := by decide +kernel
theorem dX6_moves_33 : decode cX6_moves 33 = .ok (.iastore, 1) := by decide +kernel
theorem dX6_moves_34 : decode cX6_moves 34 = .ok (.aload_n 0, 1) := by decide +kernel
theorem dX6_moves_35 : decode cX6_moves 35 = .ok (.getfield 7, 3) := by decide +kernel
theorem dX6_moves_38 : decode cX6_moves 38 = .ok (.bipush 49, 2) := by decide +kernel
theorem dX6_moves_40 : decode cX6_moves 40 = .ok (.bipush 8, 2) := by decide +kernel
theorem dX6_moves_42 : decode cX6_moves 42 = .ok (.iload_n 1, 1) := by decide +kernel
theorem dX6_moves_43 : decode cX6_moves 43 = .ok (.imul, 1) := by decide +kernel
theorem dX6_moves_44 : decode cX6_moves 44 = .ok (.iadd, 1) := by decide +kernel
theorem dX6_moves_45 : decode cX6_moves 45 = .ok (.aload_n 0, 1) := by decide +kernel
theorem dX6_moves_46 : decode cX6_moves 46 = .ok (.getfield 7, 3) := by decide +kernel
theorem dX6_moves_49 : decode cX6_moves 49 = .ok (.bipush 49, 2) := by decide +kernel
theorem dX6_moves_51 : decode cX6_moves 51 = .ok (.bipush 8, 2) := by decide +kernel
theorem dX6_moves_53 : decode cX6_moves 53 = .ok (.iload_n 2, 1) := by decide +kernel
theorem dX6_moves_54 : decode cX6_moves 54 = .ok (.imul, 1) := by decide +kernel
theorem dX6_moves_55 : decode cX6_moves 55 = .ok (.iadd, 1) := by decide +kernel
theorem dX6_moves_56 : decode cX6_moves 56 = .ok (.bipush 8, 2) := by decide +kernel
theorem dX6_moves_58 : decode cX6_moves 58 = .ok (.invokestatic 90, 3) := by decide +kernel
theorem dX6_moves_61 : decode cX6_moves 61 = .ok (.return_, 1) := by decide +kernel
theorem dX6_puts_0 : decode cX6_puts 0 = .ok (.aload_n 0, 1) := by decide +kernel
theorem dX6_puts_1 : decode cX6_puts 1 = .ok (.invokevirtual 129, 3) := by decide +kernel
theorem dX6_puts_4 : decode cX6_puts 4 = .ok (.istore_n 2, 1) := by decide +kernel
theorem dX6_puts_5 : decode cX6_puts 5 = .ok (.iload_n 2, 1) := by decide +kernel
theorem dX6_puts_6 : decode cX6_puts 6 = .ok (.iconst (-1), 1) := by decide +kernel
theorem dX6_puts_7 : decode cX6_puts 7 = .ok (.if_icmp .ne 77, 3) := by decide +kernel
theorem dX6_puts_10 : decode cX6_puts 10 = .ok (.aload_n 0, 1) := by decide +kernel
theorem dX6_puts_11 : decode cX6_puts 11 = .ok (.invokevirtual 75, 3) := by decide +kernel
theorem dX6_puts_14 : decode cX6_puts 14 = .ok (.istore_n 2, 1) := by decide +kernel
theorem dX6_puts_15 : decode cX6_puts 15 = .ok (.aload_n 0, 1) := by decide +kernel
theorem dX6_puts_16 : decode cX6_puts 16 = .ok (.getfield 7, 3) := by decide +kernel
theorem dX6_puts_19 : decode cX6_puts 19 = .ok (.iconst 0, 1) := by decide +kernel
theorem dX6_puts_20 : decode cX6_puts 20 = .ok (.iaload, 1) := by decide +kernel
theorem dX6_puts_21 : decode cX6_puts 21 = .ok (.istore_n 3, 1) := by decide +kernel
theorem dX6_puts_22 : decode cX6_puts 22 = .ok (.iload_n 3, 1) := by decide +kernel
theorem dX6_puts_23 : decode cX6_puts 23 = .ok (.iload_n 2, 1) := by decide +kernel
theorem dX6_puts_24 : decode cX6_puts 24 = .ok (.if_icmp .le 17, 3) := by decide +kernel
theorem dX6_puts_27 : decode cX6_puts 27 = .ok (.aload_n 0, 1) := by decide +kernel
theorem dX6_puts_28 : decode cX6_puts 28 = .ok (.iload_n 3, 1) := by decide +kernel
theorem dX6_puts_29 : decode cX6_puts 29 = .ok (.iconst 1, 1) := by decide +kernel
theorem dX6_puts_30 : decode cX6_puts 30 = .ok (.isub, 1) := by decide +kernel
theorem dX6_puts_31 : decode cX6_puts 31 = .ok (.iload_n 3, 1) := by decide +kernel
theorem dX6_puts_32 : decode cX6_puts 32 = .ok (.invokevirtual 135, 3) := by decide +kernel
theorem dX6_puts_35 : decode cX6_puts 35 = .ok (.iinc 3 (-1), 3) := by decide +kernel
theorem dX6_puts_38 : decode cX6_puts 38 = .ok (.goto (-16), 3) := by decide +kernel
theorem dX6_puts_41 : decode cX6_puts 41 = .ok (.aload_n 0, 1) := by decide +kernel
theorem dX6_puts_42 : decode cX6_puts 42 = .ok (.getfield 7, 3) := by decide +kernel
theorem dX6_puts_45 : decode cX6_puts 45 = .ok (.iconst 0, 1) := by decide +kernel
theorem dX6_puts_46 : decode cX6_puts 46 = .ok (.dup2, 1) := by decide +kernel
theorem dX6_puts_47 : decode cX6_puts 47 = .ok (.iaload, 1) := by decide +kernel
theorem dX6_puts_48 : decode cX6_puts 48 = .ok (.iconst 1, 1) := by decide +kernel
theorem dX6_puts_49 : decode cX6_puts 49 = .ok (.iadd, 1) := by decide +kernel
theorem dX6_puts_50 : decode cX6_puts 50 = .ok (.iastore, 1) := by decide +kernel
theorem dX6_puts_51 : decode cX6_puts 51 = .ok (.aload_n 0, 1) := by decide +kernel
theorem dX6_puts_52 : decode cX6_puts 52 = .ok (.getfield 7, 3) := by decide +kernel
theorem dX6_puts_55 : decode cX6_puts 55 = .ok (.iconst 1, 1) := by decide +kernel
theorem dX6_puts_56 : decode cX6_puts 56 = .ok (.iload_n 2, 1) := by decide +kernel
theorem dX6_puts_57 : decode cX6_puts 57 = .ok (.iadd, 1) := by decide +kernel
theorem dX6_puts_58 : decode cX6_puts 58 = .ok (.aload_n 0, 1) := by decide +kernel
theorem dX6_puts_59 : decode cX6_puts 59 = .ok (.getfield 53, 3) := by decide +kernel
theorem dX6_puts_62 : decode cX6_puts 62 = .ok (.iastore, 1) := by decide +kernel
theorem dX6_puts_63 : decode cX6_puts 63 = .ok (.aload_n 0, 1) := by decide +kernel
theorem dX6_puts_64 : decode cX6_puts 64 = .ok (.getfield 23, 3) := by decide +kernel
theorem dX6_puts_67 : decode cX6_puts 67 = .ok (.iconst 0, 1) := by decide +kernel
theorem dX6_puts_68 : decode cX6_puts 68 = .ok (.aload_n 0, 1) := by decide +kernel
theorem dX6_puts_69 : decode cX6_puts 69 = .ok (.getfield 7, 3) := by decide +kernel
theorem dX6_puts_72 : decode cX6_puts 72 = .ok (.bipush 49, 2) := by decide +kernel
theorem dX6_puts_74 : decode cX6_puts 74 = .ok (.bipush 8, 2) := by decide +kernel
theorem dX6_puts_76 : decode cX6_puts 76 = .ok (.iload_n 2, 1) := by decide +kernel
theorem dX6_puts_77 : decode cX6_puts 77 = .ok (.imul, 1) := by decide +kernel
theorem dX6_puts_78 : decode cX6_puts 78 = .ok (.iadd, 1) := by decide +kernel
theorem dX6_puts_79 : decode cX6_puts 79 = .ok (.bipush 8, 2) := by decide +kernel
theorem dX6_puts_81 : decode cX6_puts 81 = .ok (.invokestatic 90, 3) := by decide +kernel
theorem dX6_puts_84 : decode cX6_puts 84 = .ok (.aload_n 0, 1) := by decide +kernel
theorem dX6_puts_85 : decode cX6_puts 85 = .ok (.getfield 7, 3) := by decide +kernel
theorem dX6_puts_88 : decode cX6_puts 88 = .ok (.bipush 25, 2) := by decide +kernel
theorem dX6_puts_90 : decode cX6_puts 90 = .ok (.iload_n 2, 1) := by decide +kernel
theorem dX6_puts_91 : decode cX6_puts 91 = .ok (.iadd, 1) := by decide +kernel
theorem dX6_puts_92 : decode cX6_puts 92 = .ok (.iload_n 1, 1) := by decide +kernel
theorem dX6_puts_93 : decode cX6_puts 93 = .ok (.iastore, 1) := by decide +kernel
theorem dX6_puts_94 : decode cX6_puts 94 = .ok (.return_, 1) := by decide +kernel
theorem dX6_takes_0 : decode cX6_takes 0 = .ok (.iload_n 1, 1) := by decide +kernel
theorem dX6_takes_1 : decode cX6_takes 1 = .ok (.istore_n 2, 1) := by decide +kernel
theorem dX6_takes_2 : decode cX6_takes 2 = .ok (.iload_n 2, 1) := by decide +kernel
theorem dX6_takes_3 : decode cX6_takes 3 = .ok (.iconst 1, 1) := by decide +kernel
theorem dX6_takes_4 : decode cX6_takes 4 = .ok (.iadd, 1) := by decide +kernel
theorem dX6_takes_5 : decode cX6_takes 5 = .ok (.aload_n 0, 1) := by decide +kernel
theorem dX6_takes_6 : decode cX6_takes 6 = .ok (.getfield 7, 3) := by decide +kernel
theorem dX6_takes_9 : decode cX6_takes 9 = .ok (.iconst 0, 1) := by decide +kernel
theorem dX6_takes_10 : decode cX6_takes 10 = .ok (.iaload, 1) := by decide +kernel
theorem dX6_takes_11 : decode cX6_takes 11 = .ok (.if_icmp .ge 17, 3) := by decide +kernel
theorem dX6_takes_14 : decode cX6_takes 14 = .ok (.aload_n 0, 1) := by decide +kernel
theorem dX6_takes_15 : decode cX6_takes 15 = .ok (.iload_n 2, 1) := by decide +kernel
theorem dX6_takes_16 : decode cX6_takes 16 = .ok (.iconst 1, 1) := by decide +kernel
theorem dX6_takes_17 : decode cX6_takes 17 = .ok (.iadd, 1) := by decide +kernel
theorem dX6_takes_18 : decode cX6_takes 18 = .ok (.iload_n 2, 1) := by decide +kernel
theorem dX6_takes_19 : decode cX6_takes 19 = .ok (.invokevirtual 135, 3) := by decide +kernel
theorem dX6_takes_22 : decode cX6_takes 22 = .ok (.iinc 2 1, 3) := by decide +kernel
theorem dX6_takes_25 : decode cX6_takes 25 = .ok (.goto (-23), 3) := by decide +kernel
theorem dX6_takes_28 : decode cX6_takes 28 = .ok (.aload_n 0, 1) := by decide +kernel
theorem dX6_takes_29 : decode cX6_takes 29 = .ok (.getfield 7, 3) := by decide +kernel
theorem dX6_takes_32 : decode cX6_takes 32 = .ok (.iconst 0, 1) := by decide +kernel
theorem dX6_takes_33 : decode cX6_takes 33 = .ok (.dup2, 1) := by decide +kernel
theorem dX6_takes_34 : decode cX6_takes 34 = .ok (.iaload, 1) := by decide +kernel
theorem dX6_takes_35 : decode cX6_takes 35 = .ok (.iconst 1, 1) := by decide +kernel
theorem dX6_takes_36 : decode cX6_takes 36 = .ok (.isub, 1) := by decide +kernel
theorem dX6_takes_37 : decode cX6_takes 37 = .ok (.iastore, 1) := by decide +kernel
theorem dX6_takes_38 : decode cX6_takes 38 = .ok (.return_, 1) := by decide +kernel
theorem dX6_put_0 : decode cX6_put 0 = .ok (.iload_n 1, 1) := by decide +kernel
theorem dX6_put_1 : decode cX6_put 1 = .ok (.iconst 0, 1) := by decide +kernel
theorem dX6_put_2 : decode cX6_put 2 = .ok (.sipush 9999, 3) := by decide +kernel
theorem dX6_put_5 : decode cX6_put 5 = .ok (.invokestatic 79, 3) := by decide +kernel
theorem dX6_put_8 : decode cX6_put 8 = .ok (.ifCond .ne 6, 3) := by decide +kernel
theorem dX6_put_11 : decode cX6_put 11 = .ok (.ldc 83, 2) := by decide +kernel
theorem dX6_put_13 : decode cX6_put 13 = .ok (.ireturn, 1) := by decide +kernel
theorem dX6_put_14 : decode cX6_put 14 = .ok (.aload_n 0, 1) := by decide +kernel
theorem dX6_put_15 : decode cX6_put 15 = .ok (.invokevirtual 129, 3) := by decide +kernel
theorem dX6_put_18 : decode cX6_put 18 = .ok (.istore_n 2, 1) := by decide +kernel
theorem dX6_put_19 : decode cX6_put 19 = .ok (.iload_n 2, 1) := by decide +kernel
theorem dX6_put_20 : decode cX6_put 20 = .ok (.iconst (-1), 1) := by decide +kernel
theorem dX6_put_21 : decode cX6_put 21 = .ok (.if_icmp .ne 17, 3) := by decide +kernel
theorem dX6_put_24 : decode cX6_put 24 = .ok (.aload_n 0, 1) := by decide +kernel
theorem dX6_put_25 : decode cX6_put 25 = .ok (.getfield 7, 3) := by decide +kernel
theorem dX6_put_28 : decode cX6_put 28 = .ok (.iconst 0, 1) := by decide +kernel
theorem dX6_put_29 : decode cX6_put 29 = .ok (.iaload, 1) := by decide +kernel
theorem dX6_put_30 : decode cX6_put 30 = .ok (.bipush 24, 2) := by decide +kernel
theorem dX6_put_32 : decode cX6_put 32 = .ok (.if_icmp .ne 6, 3) := by decide +kernel
theorem dX6_put_35 : decode cX6_put 35 = .ok (.ldc 84, 2) := by decide +kernel
theorem dX6_put_37 : decode cX6_put 37 = .ok (.ireturn, 1) := by decide +kernel
theorem dX6_put_38 : decode cX6_put 38 = .ok (.iload_n 2, 1) := by decide +kernel
theorem dX6_put_39 : decode cX6_put 39 = .ok (.iconst (-1), 1) := by decide +kernel
theorem dX6_put_40 : decode cX6_put 40 = .ok (.if_icmp .ne 7, 3) := by decide +kernel
theorem dX6_put_43 : decode cX6_put 43 = .ok (.iconst (-1), 1) := by decide +kernel
theorem dX6_put_44 : decode cX6_put 44 = .ok (.goto 12, 3) := by decide +kernel
theorem dX6_put_47 : decode cX6_put 47 = .ok (.aload_n 0, 1) := by decide +kernel
theorem dX6_put_48 : decode cX6_put 48 = .ok (.getfield 7, 3) := by decide +kernel
theorem dX6_put_51 : decode cX6_put 51 = .ok (.bipush 25, 2) := by decide +kernel
theorem dX6_put_53 : decode cX6_put 53 = .ok (.iload_n 2, 1) := by decide +kernel
theorem dX6_put_54 : decode cX6_put 54 = .ok (.iadd, 1) := by decide +kernel
theorem dX6_put_55 : decode cX6_put 55 = .ok (.iaload, 1) := by decide +kernel
theorem dX6_put_56 : decode cX6_put 56 = .ok (.istore_n 3, 1) := by decide +kernel
theorem dX6_put_57 : decode cX6_put 57 = .ok (.aload_n 0, 1) := by decide +kernel
theorem dX6_put_58 : decode cX6_put 58 = .ok (.invokevirtual 139, 3) := by decide +kernel
theorem dX6_put_61 : decode cX6_put 61 = .ok (.aload_n 0, 1) := by decide +kernel
theorem dX6_put_62 : decode cX6_put 62 = .ok (.iload_n 1, 1) := by decide +kernel
theorem dX6_put_63 : decode cX6_put 63 = .ok (.invokevirtual 142, 3) := by decide +kernel
theorem dX6_put_66 : decode cX6_put 66 = .ok (.iload_n 3, 1) := by decide +kernel
theorem dX6_put_67 : decode cX6_put 67 = .ok (.ireturn, 1) := by decide +kernel
theorem dX6_take_0 : decode cX6_take 0 = .ok (.aload_n 0, 1) := by decide +kernel
theorem dX6_take_1 : decode cX6_take 1 = .ok (.invokevirtual 129, 3) := by decide +kernel
theorem dX6_take_4 : decode cX6_take 4 = .ok (.istore_n 1, 1) := by decide +kernel
theorem dX6_take_5 : decode cX6_take 5 = .ok (.iload_n 1, 1) := by decide +kernel
theorem dX6_take_6 : decode cX6_take 6 = .ok (.iconst (-1), 1) := by decide +kernel
theorem dX6_take_7 : decode cX6_take 7 = .ok (.if_icmp .ne 6, 3) := by decide +kernel
theorem dX6_take_10 : decode cX6_take 10 = .ok (.ldc 145, 2) := by decide +kernel
theorem dX6_take_12 : decode cX6_take 12 = .ok (.ireturn, 1) := by decide +kernel
theorem dX6_take_13 : decode cX6_take 13 = .ok (.aload_n 0, 1) := by decide +kernel
theorem dX6_take_14 : decode cX6_take 14 = .ok (.getfield 7, 3) := by decide +kernel
theorem dX6_take_17 : decode cX6_take 17 = .ok (.bipush 25, 2) := by decide +kernel
theorem dX6_take_19 : decode cX6_take 19 = .ok (.iload_n 1, 1) := by decide +kernel
theorem dX6_take_20 : decode cX6_take 20 = .ok (.iadd, 1) := by decide +kernel
theorem dX6_take_21 : decode cX6_take 21 = .ok (.iaload, 1) := by decide +kernel
theorem dX6_take_22 : decode cX6_take 22 = .ok (.istore_n 2, 1) := by decide +kernel
theorem dX6_take_23 : decode cX6_take 23 = .ok (.aload_n 0, 1) := by decide +kernel
theorem dX6_take_24 : decode cX6_take 24 = .ok (.invokevirtual 139, 3) := by decide +kernel
theorem dX6_take_27 : decode cX6_take 27 = .ok (.aload_n 0, 1) := by decide +kernel
theorem dX6_take_28 : decode cX6_take 28 = .ok (.iload_n 1, 1) := by decide +kernel
theorem dX6_take_29 : decode cX6_take 29 = .ok (.invokevirtual 146, 3) := by decide +kernel
theorem dX6_take_32 : decode cX6_take 32 = .ok (.iload_n 2, 1) := by decide +kernel
theorem dX6_take_33 : decode cX6_take 33 = .ok (.ireturn, 1) := by decide +kernel
theorem dX6_cut_0 : decode cX6_cut 0 = .ok (.aload_n 0, 1) := by decide +kernel
theorem dX6_cut_1 : decode cX6_cut 1 = .ok (.invokevirtual 139, 3) := by decide +kernel
theorem dX6_cut_4 : decode cX6_cut 4 = .ok (.iconst 0, 1) := by decide +kernel
theorem dX6_cut_5 : decode cX6_cut 5 = .ok (.istore_n 1, 1) := by decide +kernel
theorem dX6_cut_6 : decode cX6_cut 6 = .ok (.aload_n 0, 1) := by decide +kernel
theorem dX6_cut_7 : decode cX6_cut 7 = .ok (.getfield 7, 3) := by decide +kernel
theorem dX6_cut_10 : decode cX6_cut 10 = .ok (.iconst 0, 1) := by decide +kernel
theorem dX6_cut_11 : decode cX6_cut 11 = .ok (.iaload, 1) := by decide +kernel
theorem dX6_cut_12 : decode cX6_cut 12 = .ok (.iconst 1, 1) := by decide +kernel
theorem dX6_cut_13 : decode cX6_cut 13 = .ok (.isub, 1) := by decide +kernel
theorem dX6_cut_14 : decode cX6_cut 14 = .ok (.istore_n 2, 1) := by decide +kernel
theorem dX6_cut_15 : decode cX6_cut 15 = .ok (.iload_n 2, 1) := by decide +kernel
theorem dX6_cut_16 : decode cX6_cut 16 = .ok (.ifCond .lt 27, 3) := by decide +kernel
theorem dX6_cut_19 : decode cX6_cut 19 = .ok (.aload_n 0, 1) := by decide +kernel
theorem dX6_cut_20 : decode cX6_cut 20 = .ok (.iload_n 2, 1) := by decide +kernel
theorem dX6_cut_21 : decode cX6_cut 21 = .ok (.bipush 24, 2) := by decide +kernel
theorem dX6_cut_23 : decode cX6_cut 23 = .ok (.invokevirtual 149, 3) := by decide +kernel
theorem dX6_cut_26 : decode cX6_cut 26 = .ok (.ifCond .eq 11, 3) := by decide +kernel
theorem dX6_cut_29 : decode cX6_cut 29 = .ok (.aload_n 0, 1) := by decide +kernel
theorem dX6_cut_30 : decode cX6_cut 30 = .ok (.iload_n 2, 1) := by decide +kernel
theorem dX6_cut_31 : decode cX6_cut 31 = .ok (.invokevirtual 146, 3) := by decide +kernel
theorem dX6_cut_34 : decode cX6_cut 34 = .ok (.iinc 1 1, 3) := by decide +kernel
theorem dX6_cut_37 : decode cX6_cut 37 = .ok (.iinc 2 (-1), 3) := by decide +kernel
theorem dX6_cut_40 : decode cX6_cut 40 = .ok (.goto (-25), 3) := by decide +kernel
theorem dX6_cut_43 : decode cX6_cut 43 = .ok (.iload_n 1, 1) := by decide +kernel
theorem dX6_cut_44 : decode cX6_cut 44 = .ok (.ireturn, 1) := by decide +kernel
theorem dX6_raise_0 : decode cX6_raise 0 = .ok (.iload_n 1, 1) := by decide +kernel
theorem dX6_raise_1 : decode cX6_raise 1 = .ok (.iconst 1, 1) := by decide +kernel
theorem dX6_raise_2 : decode cX6_raise 2 = .ok (.sipush 9999, 3) := by decide +kernel
theorem dX6_raise_5 : decode cX6_raise 5 = .ok (.invokestatic 79, 3) := by decide +kernel
theorem dX6_raise_8 : decode cX6_raise 8 = .ok (.ifCond .ne 6, 3) := by decide +kernel
theorem dX6_raise_11 : decode cX6_raise 11 = .ok (.ldc 83, 2) := by decide +kernel
theorem dX6_raise_13 : decode cX6_raise 13 = .ok (.ireturn, 1) := by decide +kernel
theorem dX6_raise_14 : decode cX6_raise 14 = .ok (.aload_n 0, 1) := by decide +kernel
theorem dX6_raise_15 : decode cX6_raise 15 = .ok (.invokevirtual 139, 3) := by decide +kernel
theorem dX6_raise_18 : decode cX6_raise 18 = .ok (.iconst 0, 1) := by decide +kernel
theorem dX6_raise_19 : decode cX6_raise 19 = .ok (.istore_n 2, 1) := by decide +kernel
theorem dX6_raise_20 : decode cX6_raise 20 = .ok (.iconst 0, 1) := by decide +kernel
theorem dX6_raise_21 : decode cX6_raise 21 = .ok (.istore_n 3, 1) := by decide +kernel
theorem dX6_raise_22 : decode cX6_raise 22 = .ok (.iload_n 3, 1) := by decide +kernel
theorem dX6_raise_23 : decode cX6_raise 23 = .ok (.aload_n 0, 1) := by decide +kernel
theorem dX6_raise_24 : decode cX6_raise 24 = .ok (.getfield 7, 3) := by decide +kernel
theorem dX6_raise_27 : decode cX6_raise 27 = .ok (.iconst 0, 1) := by decide +kernel
theorem dX6_raise_28 : decode cX6_raise 28 = .ok (.iaload, 1) := by decide +kernel
theorem dX6_raise_29 : decode cX6_raise 29 = .ok (.if_icmp .ge 60, 3) := by decide +kernel
theorem dX6_raise_32 : decode cX6_raise 32 = .ok (.aload_n 0, 1) := by decide +kernel
theorem dX6_raise_33 : decode cX6_raise 33 = .ok (.iload_n 3, 1) := by decide +kernel
theorem dX6_raise_34 : decode cX6_raise 34 = .ok (.bipush 24, 2) := by decide +kernel
theorem dX6_raise_36 : decode cX6_raise 36 = .ok (.invokevirtual 149, 3) := by decide +kernel
theorem dX6_raise_39 : decode cX6_raise 39 = .ok (.ifCond .eq 44, 3) := by decide +kernel
theorem dX6_raise_42 : decode cX6_raise 42 = .ok (.aload_n 0, 1) := by decide +kernel
theorem dX6_raise_43 : decode cX6_raise 43 = .ok (.getfield 7, 3) := by decide +kernel
theorem dX6_raise_46 : decode cX6_raise 46 = .ok (.bipush 25, 2) := by decide +kernel
theorem dX6_raise_48 : decode cX6_raise 48 = .ok (.iload_n 3, 1) := by decide +kernel
theorem dX6_raise_49 : decode cX6_raise 49 = .ok (.iadd, 1) := by decide +kernel
theorem dX6_raise_50 : decode cX6_raise 50 = .ok (.iaload, 1) := by decide +kernel
theorem dX6_raise_51 : decode cX6_raise 51 = .ok (.iload_n 1, 1) := by decide +kernel
theorem dX6_raise_52 : decode cX6_raise 52 = .ok (.iadd, 1) := by decide +kernel
theorem dX6_raise_53 : decode cX6_raise 53 = .ok (.istore 4, 2) := by decide +kernel
theorem dX6_raise_55 : decode cX6_raise 55 = .ok (.aload_n 0, 1) := by decide +kernel
theorem dX6_raise_56 : decode cX6_raise 56 = .ok (.getfield 7, 3) := by decide +kernel
theorem dX6_raise_59 : decode cX6_raise 59 = .ok (.bipush 25, 2) := by decide +kernel
theorem dX6_raise_61 : decode cX6_raise 61 = .ok (.iload_n 3, 1) := by decide +kernel
theorem dX6_raise_62 : decode cX6_raise 62 = .ok (.iadd, 1) := by decide +kernel
theorem dX6_raise_63 : decode cX6_raise 63 = .ok (.iload 4, 2) := by decide +kernel
theorem dX6_raise_65 : decode cX6_raise 65 = .ok (.sipush 9999, 3) := by decide +kernel
theorem dX6_raise_68 : decode cX6_raise 68 = .ok (.if_icmp .le 9, 3) := by decide +kernel
theorem dX6_raise_71 : decode cX6_raise 71 = .ok (.sipush 9999, 3) := by decide +kernel
theorem dX6_raise_74 : decode cX6_raise 74 = .ok (.goto 5, 3) := by decide +kernel
theorem dX6_raise_77 : decode cX6_raise 77 = .ok (.iload 4, 2) := by decide +kernel
theorem dX6_raise_79 : decode cX6_raise 79 = .ok (.iastore, 1) := by decide +kernel
theorem dX6_raise_80 : decode cX6_raise 80 = .ok (.iinc 2 1, 3) := by decide +kernel
theorem dX6_raise_83 : decode cX6_raise 83 = .ok (.iinc 3 1, 3) := by decide +kernel
theorem dX6_raise_86 : decode cX6_raise 86 = .ok (.goto (-64), 3) := by decide +kernel
theorem dX6_raise_89 : decode cX6_raise 89 = .ok (.iload_n 2, 1) := by decide +kernel
theorem dX6_raise_90 : decode cX6_raise 90 = .ok (.ireturn, 1) := by decide +kernel
theorem dX6_draw_0 : decode cX6_draw 0 = .ok (.aload_n 0, 1) := by decide +kernel
theorem dX6_draw_1 : decode cX6_draw 1 = .ok (.aload_n 0, 1) := by decide +kernel
theorem dX6_draw_2 : decode cX6_draw 2 = .ok (.getfield 152, 3) := by decide +kernel
theorem dX6_draw_5 : decode cX6_draw 5 = .ok (.i2l, 1) := by decide +kernel
theorem dX6_draw_6 : decode cX6_draw 6 = .ok (.ldc2_w 155, 3) := by decide +kernel
theorem dX6_draw_9 : decode cX6_draw 9 = .ok (.lmul, 1) := by decide +kernel
theorem dX6_draw_10 : decode cX6_draw 10 = .ok (.ldc2_w 157, 3) := by decide +kernel
theorem dX6_draw_13 : decode cX6_draw 13 = .ok (.ladd, 1) := by decide +kernel
theorem dX6_draw_14 : decode cX6_draw 14 = .ok (.ldc2_w 159, 3) := by decide +kernel
theorem dX6_draw_17 : decode cX6_draw 17 = .ok (.lrem, 1) := by decide +kernel
theorem dX6_draw_18 : decode cX6_draw 18 = .ok (.l2i, 1) := by decide +kernel
theorem dX6_draw_19 : decode cX6_draw 19 = .ok (.putfield 152, 3) := by decide +kernel
theorem dX6_draw_22 : decode cX6_draw 22 = .ok (.aload_n 0, 1) := by decide +kernel
theorem dX6_draw_23 : decode cX6_draw 23 = .ok (.getfield 152, 3) := by decide +kernel
theorem dX6_draw_26 : decode cX6_draw 26 = .ok (.ldc 161, 2) := by decide +kernel
theorem dX6_draw_28 : decode cX6_draw 28 = .ok (.idiv, 1) := by decide +kernel
theorem dX6_draw_29 : decode cX6_draw 29 = .ok (.iload_n 1, 1) := by decide +kernel
theorem dX6_draw_30 : decode cX6_draw 30 = .ok (.irem, 1) := by decide +kernel
theorem dX6_draw_31 : decode cX6_draw 31 = .ok (.ireturn, 1) := by decide +kernel
theorem dX6_drifts_0 : decode cX6_drifts 0 = .ok (.aload_n 0, 1) := by decide +kernel
theorem dX6_drifts_1 : decode cX6_drifts 1 = .ok (.invokevirtual 139, 3) := by decide +kernel
theorem dX6_drifts_4 : decode cX6_drifts 4 = .ok (.aload_n 0, 1) := by decide +kernel
theorem dX6_drifts_5 : decode cX6_drifts 5 = .ok (.aload_n 0, 1) := by decide +kernel
theorem dX6_drifts_6 : decode cX6_drifts 6 = .ok (.iconst 4, 1) := by decide +kernel
theorem dX6_drifts_7 : decode cX6_drifts 7 = .ok (.invokevirtual 162, 3) := by decide +kernel
theorem dX6_drifts_10 : decode cX6_drifts 10 = .ok (.putfield 53, 3) := by decide +kernel
theorem dX6_drifts_13 : decode cX6_drifts 13 = .ok (.iconst 0, 1) := by decide +kernel
theorem dX6_drifts_14 : decode cX6_drifts 14 = .ok (.istore_n 1, 1) := by decide +kernel
theorem dX6_drifts_15 : decode cX6_drifts 15 = .ok (.iload_n 1, 1) := by decide +kernel
theorem dX6_drifts_16 : decode cX6_drifts 16 = .ok (.aload_n 0, 1) := by decide +kernel
theorem dX6_drifts_17 : decode cX6_drifts 17 = .ok (.getfield 53, 3) := by decide +kernel
theorem dX6_drifts_20 : decode cX6_drifts 20 = .ok (.if_icmp .ge 23, 3) := by decide +kernel
theorem dX6_drifts_23 : decode cX6_drifts 23 = .ok (.aload_n 0, 1) := by decide +kernel
theorem dX6_drifts_24 : decode cX6_drifts 24 = .ok (.getfield 23, 3) := by decide +kernel
theorem dX6_drifts_27 : decode cX6_drifts 27 = .ok (.iload_n 1, 1) := by decide +kernel
theorem dX6_drifts_28 : decode cX6_drifts 28 = .ok (.aload_n 0, 1) := by decide +kernel
theorem dX6_drifts_29 : decode cX6_drifts 29 = .ok (.iconst 3, 1) := by decide +kernel
theorem dX6_drifts_30 : decode cX6_drifts 30 = .ok (.invokevirtual 162, 3) := by decide +kernel
theorem dX6_drifts_33 : decode cX6_drifts 33 = .ok (.bipush 97, 2) := by decide +kernel
theorem dX6_drifts_35 : decode cX6_drifts 35 = .ok (.iadd, 1) := by decide +kernel
theorem dX6_drifts_36 : decode cX6_drifts 36 = .ok (.iastore, 1) := by decide +kernel
theorem dX6_drifts_37 : decode cX6_drifts 37 = .ok (.iinc 1 1, 3) := by decide +kernel
theorem dX6_drifts_40 : decode cX6_drifts 40 = .ok (.goto (-25), 3) := by decide +kernel
theorem dX6_drifts_43 : decode cX6_drifts 43 = .ok (.aload_n 0, 1) := by decide +kernel
theorem dX6_drifts_44 : decode cX6_drifts 44 = .ok (.iconst 4, 1) := by decide +kernel
theorem dX6_drifts_45 : decode cX6_drifts 45 = .ok (.invokevirtual 162, 3) := by decide +kernel
theorem dX6_drifts_48 : decode cX6_drifts 48 = .ok (.ifCond .ne 7, 3) := by decide +kernel
theorem dX6_drifts_51 : decode cX6_drifts 51 = .ok (.iconst 1, 1) := by decide +kernel
theorem dX6_drifts_52 : decode cX6_drifts 52 = .ok (.goto 4, 3) := by decide +kernel
theorem dX6_drifts_55 : decode cX6_drifts 55 = .ok (.iconst 0, 1) := by decide +kernel
theorem dX6_drifts_56 : decode cX6_drifts 56 = .ok (.istore_n 1, 1) := by decide +kernel
theorem dX6_drifts_57 : decode cX6_drifts 57 = .ok (.aload_n 0, 1) := by decide +kernel
theorem dX6_drifts_58 : decode cX6_drifts 58 = .ok (.invokevirtual 129, 3) := by decide +kernel
theorem dX6_drifts_61 : decode cX6_drifts 61 = .ok (.istore_n 2, 1) := by decide +kernel
theorem dX6_drifts_62 : decode cX6_drifts 62 = .ok (.iload_n 1, 1) := by decide +kernel
theorem dX6_drifts_63 : decode cX6_drifts 63 = .ok (.ifCond .eq 14, 3) := by decide +kernel
theorem dX6_drifts_66 : decode cX6_drifts 66 = .ok (.iload_n 2, 1) := by decide +kernel
theorem dX6_drifts_67 : decode cX6_drifts 67 = .ok (.iconst (-1), 1) := by decide +kernel
theorem dX6_drifts_68 : decode cX6_drifts 68 = .ok (.if_icmp .eq 9, 3) := by decide +kernel
theorem dX6_drifts_71 : decode cX6_drifts 71 = .ok (.aload_n 0, 1) := by decide +kernel
theorem dX6_drifts_72 : decode cX6_drifts 72 = .ok (.iload_n 2, 1) := by decide +kernel
theorem dX6_drifts_73 : decode cX6_drifts 73 = .ok (.invokevirtual 146, 3) := by decide +kernel
theorem dX6_drifts_76 : decode cX6_drifts 76 = .ok (.return_, 1) := by decide +kernel
theorem dX6_drifts_77 : decode cX6_drifts 77 = .ok (.aload_n 0, 1) := by decide +kernel
theorem dX6_drifts_78 : decode cX6_drifts 78 = .ok (.sipush 1000, 3) := by decide +kernel
theorem dX6_drifts_81 : decode cX6_drifts 81 = .ok (.invokevirtual 162, 3) := by decide +kernel
theorem dX6_drifts_84 : decode cX6_drifts 84 = .ok (.istore_n 3, 1) := by decide +kernel
theorem dX6_drifts_85 : decode cX6_drifts 85 = .ok (.iload_n 2, 1) := by decide +kernel
theorem dX6_drifts_86 : decode cX6_drifts 86 = .ok (.iconst (-1), 1) := by decide +kernel
theorem dX6_drifts_87 : decode cX6_drifts 87 = .ok (.if_icmp .ne 14, 3) := by decide +kernel
theorem dX6_drifts_90 : decode cX6_drifts 90 = .ok (.aload_n 0, 1) := by decide +kernel
theorem dX6_drifts_91 : decode cX6_drifts 91 = .ok (.getfield 7, 3) := by decide +kernel
theorem dX6_drifts_94 : decode cX6_drifts 94 = .ok (.iconst 0, 1) := by decide +kernel
theorem dX6_drifts_95 : decode cX6_drifts 95 = .ok (.iaload, 1) := by decide +kernel
theorem dX6_drifts_96 : decode cX6_drifts 96 = .ok (.bipush 24, 2) := by decide +kernel
theorem dX6_drifts_98 : decode cX6_drifts 98 = .ok (.if_icmp .ge 8, 3) := by decide +kernel
theorem dX6_drifts_101 : decode cX6_drifts 101 = .ok (.aload_n 0, 1) := by decide +kernel
theorem dX6_drifts_102 : decode cX6_drifts 102 = .ok (.iload_n 3, 1) := by decide +kernel
theorem dX6_drifts_103 : decode cX6_drifts 103 = .ok (.invokevirtual 142, 3) := by decide +kernel
theorem dX6_drifts_106 : decode cX6_drifts 106 = .ok (.return_, 1) := by decide +kernel
theorem dX6_drift_0 : decode cX6_drift 0 = .ok (.iload_n 1, 1) := by decide +kernel
theorem dX6_drift_1 : decode cX6_drift 1 = .ok (.iconst 1, 1) := by decide +kernel
theorem dX6_drift_2 : decode cX6_drift 2 = .ok (.bipush 20, 2) := by decide +kernel
theorem dX6_drift_4 : decode cX6_drift 4 = .ok (.invokestatic 79, 3) := by decide +kernel
theorem dX6_drift_7 : decode cX6_drift 7 = .ok (.ifCond .ne 6, 3) := by decide +kernel
theorem dX6_drift_10 : decode cX6_drift 10 = .ok (.ldc 83, 2) := by decide +kernel
theorem dX6_drift_12 : decode cX6_drift 12 = .ok (.ireturn, 1) := by decide +kernel
theorem dX6_drift_13 : decode cX6_drift 13 = .ok (.aload_n 0, 1) := by decide +kernel
theorem dX6_drift_14 : decode cX6_drift 14 = .ok (.getfield 53, 3) := by decide +kernel
theorem dX6_drift_17 : decode cX6_drift 17 = .ok (.istore_n 2, 1) := by decide +kernel
theorem dX6_drift_18 : decode cX6_drift 18 = .ok (.aload_n 0, 1) := by decide +kernel
theorem dX6_drift_19 : decode cX6_drift 19 = .ok (.getfield 23, 3) := by decide +kernel
theorem dX6_drift_22 : decode cX6_drift 22 = .ok (.iconst 0, 1) := by decide +kernel
theorem dX6_drift_23 : decode cX6_drift 23 = .ok (.aload_n 0, 1) := by decide +kernel
theorem dX6_drift_24 : decode cX6_drift 24 = .ok (.getfield 50, 3) := by decide +kernel
theorem dX6_drift_27 : decode cX6_drift 27 = .ok (.iconst 0, 1) := by decide +kernel
theorem dX6_drift_28 : decode cX6_drift 28 = .ok (.bipush 8, 2) := by decide +kernel
theorem dX6_drift_30 : decode cX6_drift 30 = .ok (.invokestatic 90, 3) := by decide +kernel
theorem dX6_drift_33 : decode cX6_drift 33 = .ok (.iconst 0, 1) := by decide +kernel
theorem dX6_drift_34 : decode cX6_drift 34 = .ok (.istore_n 3, 1) := by decide +kernel
theorem dX6_drift_35 : decode cX6_drift 35 = .ok (.iload_n 3, 1) := by decide +kernel
theorem dX6_drift_36 : decode cX6_drift 36 = .ok (.iload_n 1, 1) := by decide +kernel
theorem dX6_drift_37 : decode cX6_drift 37 = .ok (.if_icmp .ge 13, 3) := by decide +kernel
theorem dX6_drift_40 : decode cX6_drift 40 = .ok (.aload_n 0, 1) := by decide +kernel
theorem dX6_drift_41 : decode cX6_drift 41 = .ok (.invokevirtual 165, 3) := by decide +kernel
theorem dX6_drift_44 : decode cX6_drift 44 = .ok (.iinc 3 1, 3) := by decide +kernel
theorem dX6_drift_47 : decode cX6_drift 47 = .ok (.goto (-12), 3) := by decide +kernel
theorem dX6_drift_50 : decode cX6_drift 50 = .ok (.aload_n 0, 1) := by decide +kernel
theorem dX6_drift_51 : decode cX6_drift 51 = .ok (.iload_n 2, 1) := by decide +kernel
theorem dX6_drift_52 : decode cX6_drift 52 = .ok (.putfield 53, 3) := by decide +kernel
theorem dX6_drift_55 : decode cX6_drift 55 = .ok (.aload_n 0, 1) := by decide +kernel
theorem dX6_drift_56 : decode cX6_drift 56 = .ok (.getfield 50, 3) := by decide +kernel
theorem dX6_drift_59 : decode cX6_drift 59 = .ok (.iconst 0, 1) := by decide +kernel
theorem dX6_drift_60 : decode cX6_drift 60 = .ok (.aload_n 0, 1) := by decide +kernel
theorem dX6_drift_61 : decode cX6_drift 61 = .ok (.getfield 23, 3) := by decide +kernel
theorem dX6_drift_64 : decode cX6_drift 64 = .ok (.iconst 0, 1) := by decide +kernel
theorem dX6_drift_65 : decode cX6_drift 65 = .ok (.bipush 8, 2) := by decide +kernel
theorem dX6_drift_67 : decode cX6_drift 67 = .ok (.invokestatic 90, 3) := by decide +kernel
theorem dX6_drift_70 : decode cX6_drift 70 = .ok (.aload_n 0, 1) := by decide +kernel
theorem dX6_drift_71 : decode cX6_drift 71 = .ok (.getfield 7, 3) := by decide +kernel
theorem dX6_drift_74 : decode cX6_drift 74 = .ok (.iconst 0, 1) := by decide +kernel
theorem dX6_drift_75 : decode cX6_drift 75 = .ok (.iaload, 1) := by decide +kernel
theorem dX6_drift_76 : decode cX6_drift 76 = .ok (.ireturn, 1) := by decide +kernel
theorem dX6_undo_0 : decode cX6_undo 0 = .ok (.iload_n 1, 1) := by decide +kernel
theorem dX6_undo_1 : decode cX6_undo 1 = .ok (.iconst 1, 1) := by decide +kernel
theorem dX6_undo_2 : decode cX6_undo 2 = .ok (.bipush 20, 2) := by decide +kernel
theorem dX6_undo_4 : decode cX6_undo 4 = .ok (.invokestatic 79, 3) := by decide +kernel
theorem dX6_undo_7 : decode cX6_undo 7 = .ok (.ifCond .ne 6, 3) := by decide +kernel
theorem dX6_undo_10 : decode cX6_undo 10 = .ok (.ldc 83, 2) := by decide +kernel
theorem dX6_undo_12 : decode cX6_undo 12 = .ok (.ireturn, 1) := by decide +kernel
theorem dX6_undo_13 : decode cX6_undo 13 = .ok (.iload_n 1, 1) := by decide +kernel
theorem dX6_undo_14 : decode cX6_undo 14 = .ok (.aload_n 0, 1) := by decide +kernel
theorem dX6_undo_15 : decode cX6_undo 15 = .ok (.getfield 132, 3) := by decide +kernel
theorem dX6_undo_18 : decode cX6_undo 18 = .ok (.if_icmp .le 6, 3) := by decide +kernel
theorem dX6_undo_21 : decode cX6_undo 21 = .ok (.ldc 145, 2) := by decide +kernel
theorem dX6_undo_23 : decode cX6_undo 23 = .ok (.ireturn, 1) := by decide +kernel
theorem dX6_undo_24 : decode cX6_undo 24 = .ok (.aload_n 0, 1) := by decide +kernel
theorem dX6_undo_25 : decode cX6_undo 25 = .ok (.dup, 1) := by decide +kernel
theorem dX6_undo_26 : decode cX6_undo 26 = .ok (.getfield 132, 3) := by decide +kernel
theorem dX6_undo_29 : decode cX6_undo 29 = .ok (.iload_n 1, 1) := by decide +kernel
theorem dX6_undo_30 : decode cX6_undo 30 = .ok (.isub, 1) := by decide +kernel
theorem dX6_undo_31 : decode cX6_undo 31 = .ok (.putfield 132, 3) := by decide +kernel
theorem dX6_undo_34 : decode cX6_undo 34 = .ok (.aload_n 0, 1) := by decide +kernel
theorem dX6_undo_35 : decode cX6_undo 35 = .ok (.getfield 13, 3) := by decide +kernel
theorem dX6_undo_38 : decode cX6_undo 38 = .ok (.sipush 241, 3) := by decide +kernel
theorem dX6_undo_41 : decode cX6_undo 41 = .ok (.aload_n 0, 1) := by decide +kernel
theorem dX6_undo_42 : decode cX6_undo 42 = .ok (.getfield 132, 3) := by decide +kernel
theorem dX6_undo_45 : decode cX6_undo 45 = .ok (.imul, 1) := by decide +kernel
theorem dX6_undo_46 : decode cX6_undo 46 = .ok (.aload_n 0, 1) := by decide +kernel
theorem dX6_undo_47 : decode cX6_undo 47 = .ok (.getfield 7, 3) := by decide +kernel
theorem dX6_undo_50 : decode cX6_undo 50 = .ok (.iconst 0, 1) := by decide +kernel
theorem dX6_undo_51 : decode cX6_undo 51 = .ok (.sipush 241, 3) := by decide +kernel
theorem dX6_undo_54 : decode cX6_undo 54 = .ok (.invokestatic 90, 3) := by decide +kernel
theorem dX6_undo_57 : decode cX6_undo 57 = .ok (.aload_n 0, 1) := by decide +kernel
theorem dX6_undo_58 : decode cX6_undo 58 = .ok (.getfield 7, 3) := by decide +kernel
theorem dX6_undo_61 : decode cX6_undo 61 = .ok (.iconst 0, 1) := by decide +kernel
theorem dX6_undo_62 : decode cX6_undo 62 = .ok (.iaload, 1) := by decide +kernel
theorem dX6_undo_63 : decode cX6_undo 63 = .ok (.ireturn, 1) := by decide +kernel
theorem dX6_below_0 : decode cX6_below 0 = .ok (.iload_n 1, 1) := by decide +kernel
theorem dX6_below_1 : decode cX6_below 1 = .ok (.iconst 0, 1) := by decide +kernel
theorem dX6_below_2 : decode cX6_below 2 = .ok (.iconst 3, 1) := by decide +kernel
theorem dX6_below_3 : decode cX6_below 3 = .ok (.invokestatic 79, 3) := by decide +kernel
theorem dX6_below_6 : decode cX6_below 6 = .ok (.ifCond .ne 6, 3) := by decide +kernel
theorem dX6_below_9 : decode cX6_below 9 = .ok (.ldc 83, 2) := by decide +kernel
theorem dX6_below_11 : decode cX6_below 11 = .ok (.ireturn, 1) := by decide +kernel
theorem dX6_below_12 : decode cX6_below 12 = .ok (.iconst 0, 1) := by decide +kernel
theorem dX6_below_13 : decode cX6_below 13 = .ok (.istore_n 2, 1) := by decide +kernel
theorem dX6_below_14 : decode cX6_below 14 = .ok (.iconst (-1), 1) := by decide +kernel
theorem dX6_below_15 : decode cX6_below 15 = .ok (.istore_n 3, 1) := by decide +kernel
theorem dX6_below_16 : decode cX6_below 16 = .ok (.iconst 0, 1) := by decide +kernel
theorem dX6_below_17 : decode cX6_below 17 = .ok (.istore 4, 2) := by decide +kernel
theorem dX6_below_19 : decode cX6_below 19 = .ok (.iconst (-1), 1) := by decide +kernel
theorem dX6_below_20 : decode cX6_below 20 = .ok (.istore 5, 2) := by decide +kernel
theorem dX6_below_22 : decode cX6_below 22 = .ok (.iconst 0, 1) := by decide +kernel
theorem dX6_below_23 : decode cX6_below 23 = .ok (.istore 6, 2) := by decide +kernel
theorem dX6_below_25 : decode cX6_below 25 = .ok (.iload 6, 2) := by decide +kernel
theorem dX6_below_27 : decode cX6_below 27 = .ok (.aload_n 0, 1) := by decide +kernel
theorem dX6_below_28 : decode cX6_below 28 = .ok (.getfield 7, 3) := by decide +kernel
theorem dX6_below_31 : decode cX6_below 31 = .ok (.iconst 0, 1) := by decide +kernel
theorem dX6_below_32 : decode cX6_below 32 = .ok (.iaload, 1) := by decide +kernel
theorem dX6_below_33 : decode cX6_below 33 = .ok (.if_icmp .ge 88, 3) := by decide +kernel
theorem dX6_below_36 : decode cX6_below 36 = .ok (.aload_n 0, 1) := by decide +kernel
theorem dX6_below_37 : decode cX6_below 37 = .ok (.iload 6, 2) := by decide +kernel
theorem dX6_below_39 : decode cX6_below 39 = .ok (.bipush 24, 2) := by decide +kernel
theorem dX6_below_41 : decode cX6_below 41 = .ok (.invokevirtual 149, 3) := by decide +kernel
theorem dX6_below_44 : decode cX6_below 44 = .ok (.ifCond .eq 71, 3) := by decide +kernel
theorem dX6_below_47 : decode cX6_below 47 = .ok (.iinc 2 1, 3) := by decide +kernel
theorem dX6_below_50 : decode cX6_below 50 = .ok (.iload_n 3, 1) := by decide +kernel
theorem dX6_below_51 : decode cX6_below 51 = .ok (.iconst (-1), 1) := by decide +kernel
theorem dX6_below_52 : decode cX6_below 52 = .ok (.if_icmp .ne 8, 3) := by decide +kernel
theorem dX6_below_55 : decode cX6_below 55 = .ok (.iload 6, 2) := by decide +kernel
theorem dX6_below_57 : decode cX6_below 57 = .ok (.goto 4, 3) := by decide +kernel
theorem dX6_below_60 : decode cX6_below 60 = .ok (.iload_n 3, 1) := by decide +kernel
theorem dX6_below_61 : decode cX6_below 61 = .ok (.istore_n 3, 1) := by decide +kernel
theorem dX6_below_62 : decode cX6_below 62 = .ok (.iload 4, 2) := by decide +kernel
theorem dX6_below_64 : decode cX6_below 64 = .ok (.aload_n 0, 1) := by decide +kernel
theorem dX6_below_65 : decode cX6_below 65 = .ok (.getfield 7, 3) := by decide +kernel
theorem dX6_below_68 : decode cX6_below 68 = .ok (.bipush 25, 2) := by decide +kernel
theorem dX6_below_70 : decode cX6_below 70 = .ok (.iload 6, 2) := by decide +kernel
theorem dX6_below_72 : decode cX6_below 72 = .ok (.iadd, 1) := by decide +kernel
theorem dX6_below_73 : decode cX6_below 73 = .ok (.iaload, 1) := by decide +kernel
theorem dX6_below_74 : decode cX6_below 74 = .ok (.iadd, 1) := by decide +kernel
theorem dX6_below_75 : decode cX6_below 75 = .ok (.istore 4, 2) := by decide +kernel
theorem dX6_below_77 : decode cX6_below 77 = .ok (.iload 5, 2) := by decide +kernel
theorem dX6_below_79 : decode cX6_below 79 = .ok (.iconst (-1), 1) := by decide +kernel
theorem dX6_below_80 : decode cX6_below 80 = .ok (.if_icmp .eq 26, 3) := by decide +kernel
theorem dX6_below_83 : decode cX6_below 83 = .ok (.aload_n 0, 1) := by decide +kernel
theorem dX6_below_84 : decode cX6_below 84 = .ok (.getfield 7, 3) := by decide +kernel
theorem dX6_below_87 : decode cX6_below 87 = .ok (.bipush 25, 2) := by decide +kernel
theorem dX6_below_89 : decode cX6_below 89 = .ok (.iload 6, 2) := by decide +kernel
theorem dX6_below_91 : decode cX6_below 91 = .ok (.iadd, 1) := by decide +kernel
theorem dX6_below_92 : decode cX6_below 92 = .ok (.iaload, 1) := by decide +kernel
theorem dX6_below_93 : decode cX6_below 93 = .ok (.aload_n 0, 1) := by decide +kernel
theorem dX6_below_94 : decode cX6_below 94 = .ok (.getfield 7, 3) := by decide +kernel
theorem dX6_below_97 : decode cX6_below 97 = .ok (.bipush 25, 2) := by decide +kernel
theorem dX6_below_99 : decode cX6_below 99 = .ok (.iload 5, 2) := by decide +kernel
theorem dX6_below_101 : decode cX6_below 101 = .ok (.iadd, 1) := by decide +kernel
theorem dX6_below_102 : decode cX6_below 102 = .ok (.iaload, 1) := by decide +kernel
theorem dX6_below_103 : decode cX6_below 103 = .ok (.if_icmp .le 8, 3) := by decide +kernel
theorem dX6_below_106 : decode cX6_below 106 = .ok (.iload 6, 2) := by decide +kernel
theorem dX6_below_108 : decode cX6_below 108 = .ok (.goto 5, 3) := by decide +kernel
theorem dX6_below_111 : decode cX6_below 111 = .ok (.iload 5, 2) := by decide +kernel
theorem dX6_below_113 : decode cX6_below 113 = .ok (.istore 5, 2) := by decide +kernel
theorem dX6_below_115 : decode cX6_below 115 = .ok (.iinc 6 1, 3) := by decide +kernel
theorem dX6_below_118 : decode cX6_below 118 = .ok (.goto (-93), 3) := by decide +kernel
theorem dX6_below_121 : decode cX6_below 121 = .ok (.iload_n 1, 1) := by decide +kernel
theorem dX6_below_122 : decode cX6_below 122 = .ok (.ifCond .ne 7, 3) := by decide +kernel
theorem dX6_below_125 : decode cX6_below 125 = .ok (.iload_n 2, 1) := by decide +kernel
theorem dX6_below_126 : decode cX6_below 126 = .ok (.goto 24, 3) := by decide +kernel
theorem dX6_below_129 : decode cX6_below 129 = .ok (.iload_n 1, 1) := by decide +kernel
theorem dX6_below_130 : decode cX6_below 130 = .ok (.iconst 1, 1) := by decide +kernel
theorem dX6_below_131 : decode cX6_below 131 = .ok (.if_icmp .ne 7, 3) := by decide +kernel
theorem dX6_below_134 : decode cX6_below 134 = .ok (.iload_n 3, 1) := by decide +kernel
theorem dX6_below_135 : decode cX6_below 135 = .ok (.goto 15, 3) := by decide +kernel
theorem dX6_below_138 : decode cX6_below 138 = .ok (.iload_n 1, 1) := by decide +kernel
theorem dX6_below_139 : decode cX6_below 139 = .ok (.iconst 2, 1) := by decide +kernel
theorem dX6_below_140 : decode cX6_below 140 = .ok (.if_icmp .ne 8, 3) := by decide +kernel
theorem dX6_below_143 : decode cX6_below 143 = .ok (.iload 4, 2) := by decide +kernel
theorem dX6_below_145 : decode cX6_below 145 = .ok (.goto 5, 3) := by decide +kernel
theorem dX6_below_148 : decode cX6_below 148 = .ok (.iload 5, 2) := by decide +kernel
theorem dX6_below_150 : decode cX6_below 150 = .ok (.ireturn, 1) := by decide +kernel
theorem dX6_stem_0 : decode cX6_stem 0 = .ok (.iconst (-1), 1) := by decide +kernel
theorem dX6_stem_1 : decode cX6_stem 1 = .ok (.istore_n 1, 1) := by decide +kernel
theorem dX6_stem_2 : decode cX6_stem 2 = .ok (.iconst 0, 1) := by decide +kernel
theorem dX6_stem_3 : decode cX6_stem 3 = .ok (.istore_n 2, 1) := by decide +kernel
theorem dX6_stem_4 : decode cX6_stem 4 = .ok (.iload_n 2, 1) := by decide +kernel
theorem dX6_stem_5 : decode cX6_stem 5 = .ok (.aload_n 0, 1) := by decide +kernel
theorem dX6_stem_6 : decode cX6_stem 6 = .ok (.getfield 7, 3) := by decide +kernel
theorem dX6_stem_9 : decode cX6_stem 9 = .ok (.iconst 0, 1) := by decide +kernel
theorem dX6_stem_10 : decode cX6_stem 10 = .ok (.iaload, 1) := by decide +kernel
theorem dX6_stem_11 : decode cX6_stem 11 = .ok (.if_icmp .ge 49, 3) := by decide +kernel
theorem dX6_stem_14 : decode cX6_stem 14 = .ok (.aload_n 0, 1) := by decide +kernel
theorem dX6_stem_15 : decode cX6_stem 15 = .ok (.bipush 24, 2) := by decide +kernel
theorem dX6_stem_17 : decode cX6_stem 17 = .ok (.iload_n 2, 1) := by decide +kernel
theorem dX6_stem_18 : decode cX6_stem 18 = .ok (.invokevirtual 149, 3) := by decide +kernel
theorem dX6_stem_21 : decode cX6_stem 21 = .ok (.ifCond .eq 31, 3) := by decide +kernel
theorem dX6_stem_24 : decode cX6_stem 24 = .ok (.iload_n 1, 1) := by decide +kernel
theorem dX6_stem_25 : decode cX6_stem 25 = .ok (.iconst (-1), 1) := by decide +kernel
theorem dX6_stem_26 : decode cX6_stem 26 = .ok (.if_icmp .eq 22, 3) := by decide +kernel
theorem dX6_stem_29 : decode cX6_stem 29 = .ok (.aload_n 0, 1) := by decide +kernel
theorem dX6_stem_30 : decode cX6_stem 30 = .ok (.getfield 7, 3) := by decide +kernel
theorem dX6_stem_33 : decode cX6_stem 33 = .ok (.iconst 1, 1) := by decide +kernel
theorem dX6_stem_34 : decode cX6_stem 34 = .ok (.iload_n 2, 1) := by decide +kernel
theorem dX6_stem_35 : decode cX6_stem 35 = .ok (.iadd, 1) := by decide +kernel
theorem dX6_stem_36 : decode cX6_stem 36 = .ok (.iaload, 1) := by decide +kernel
theorem dX6_stem_37 : decode cX6_stem 37 = .ok (.aload_n 0, 1) := by decide +kernel
theorem dX6_stem_38 : decode cX6_stem 38 = .ok (.getfield 7, 3) := by decide +kernel
theorem dX6_stem_41 : decode cX6_stem 41 = .ok (.iconst 1, 1) := by decide +kernel
theorem dX6_stem_42 : decode cX6_stem 42 = .ok (.iload_n 1, 1) := by decide +kernel
theorem dX6_stem_43 : decode cX6_stem 43 = .ok (.iadd, 1) := by decide +kernel
theorem dX6_stem_44 : decode cX6_stem 44 = .ok (.iaload, 1) := by decide +kernel
theorem dX6_stem_45 : decode cX6_stem 45 = .ok (.if_icmp .le 7, 3) := by decide +kernel
theorem dX6_stem_48 : decode cX6_stem 48 = .ok (.iload_n 2, 1) := by decide +kernel
theorem dX6_stem_49 : decode cX6_stem 49 = .ok (.goto 4, 3) := by decide +kernel
theorem dX6_stem_52 : decode cX6_stem 52 = .ok (.iload_n 1, 1) := by decide +kernel
theorem dX6_stem_53 : decode cX6_stem 53 = .ok (.istore_n 1, 1) := by decide +kernel
theorem dX6_stem_54 : decode cX6_stem 54 = .ok (.iinc 2 1, 3) := by decide +kernel
theorem dX6_stem_57 : decode cX6_stem 57 = .ok (.goto (-53), 3) := by decide +kernel
theorem dX6_stem_60 : decode cX6_stem 60 = .ok (.iload_n 1, 1) := by decide +kernel
theorem dX6_stem_61 : decode cX6_stem 61 = .ok (.ireturn, 1) := by decide +kernel
theorem dX6_beside_0 : decode cX6_beside 0 = .ok (.iload_n 1, 1) := by decide +kernel
theorem dX6_beside_1 : decode cX6_beside 1 = .ok (.iconst 0, 1) := by decide +kernel
theorem dX6_beside_2 : decode cX6_beside 2 = .ok (.iconst 1, 1) := by decide +kernel
theorem dX6_beside_3 : decode cX6_beside 3 = .ok (.invokestatic 79, 3) := by decide +kernel
theorem dX6_beside_6 : decode cX6_beside 6 = .ok (.ifCond .ne 6, 3) := by decide +kernel
theorem dX6_beside_9 : decode cX6_beside 9 = .ok (.ldc 83, 2) := by decide +kernel
theorem dX6_beside_11 : decode cX6_beside 11 = .ok (.ireturn, 1) := by decide +kernel
theorem dX6_beside_12 : decode cX6_beside 12 = .ok (.aload_n 0, 1) := by decide +kernel
theorem dX6_beside_13 : decode cX6_beside 13 = .ok (.invokevirtual 75, 3) := by decide +kernel
theorem dX6_beside_16 : decode cX6_beside 16 = .ok (.istore_n 2, 1) := by decide +kernel
theorem dX6_beside_17 : decode cX6_beside 17 = .ok (.iload_n 1, 1) := by decide +kernel
theorem dX6_beside_18 : decode cX6_beside 18 = .ok (.ifCond .ne 7, 3) := by decide +kernel
theorem dX6_beside_21 : decode cX6_beside 21 = .ok (.iload_n 2, 1) := by decide +kernel
theorem dX6_beside_22 : decode cX6_beside 22 = .ok (.iconst 1, 1) := by decide +kernel
theorem dX6_beside_23 : decode cX6_beside 23 = .ok (.isub, 1) := by decide +kernel
theorem dX6_beside_24 : decode cX6_beside 24 = .ok (.ireturn, 1) := by decide +kernel
theorem dX6_beside_25 : decode cX6_beside 25 = .ok (.aload_n 0, 1) := by decide +kernel
theorem dX6_beside_26 : decode cX6_beside 26 = .ok (.invokevirtual 129, 3) := by decide +kernel
theorem dX6_beside_29 : decode cX6_beside 29 = .ok (.iconst (-1), 1) := by decide +kernel
theorem dX6_beside_30 : decode cX6_beside 30 = .ok (.if_icmp .ne 7, 3) := by decide +kernel
theorem dX6_beside_33 : decode cX6_beside 33 = .ok (.iload_n 2, 1) := by decide +kernel
theorem dX6_beside_34 : decode cX6_beside 34 = .ok (.goto 6, 3) := by decide +kernel
theorem dX6_beside_37 : decode cX6_beside 37 = .ok (.iload_n 2, 1) := by decide +kernel
theorem dX6_beside_38 : decode cX6_beside 38 = .ok (.iconst 1, 1) := by decide +kernel
theorem dX6_beside_39 : decode cX6_beside 39 = .ok (.iadd, 1) := by decide +kernel
theorem dX6_beside_40 : decode cX6_beside 40 = .ok (.istore_n 3, 1) := by decide +kernel
theorem dX6_beside_41 : decode cX6_beside 41 = .ok (.iload_n 3, 1) := by decide +kernel
theorem dX6_beside_42 : decode cX6_beside 42 = .ok (.aload_n 0, 1) := by decide +kernel
theorem dX6_beside_43 : decode cX6_beside 43 = .ok (.getfield 7, 3) := by decide +kernel
theorem dX6_beside_46 : decode cX6_beside 46 = .ok (.iconst 0, 1) := by decide +kernel
theorem dX6_beside_47 : decode cX6_beside 47 = .ok (.iaload, 1) := by decide +kernel
theorem dX6_beside_48 : decode cX6_beside 48 = .ok (.if_icmp .ge 7, 3) := by decide +kernel
theorem dX6_beside_51 : decode cX6_beside 51 = .ok (.iload_n 3, 1) := by decide +kernel
theorem dX6_beside_52 : decode cX6_beside 52 = .ok (.goto 4, 3) := by decide +kernel
theorem dX6_beside_55 : decode cX6_beside 55 = .ok (.iconst (-1), 1) := by decide +kernel
theorem dX6_beside_56 : decode cX6_beside 56 = .ok (.ireturn, 1) := by decide +kernel
theorem dX6_closest_0 : decode cX6_closest 0 = .ok (.iconst (-1), 1) := by decide +kernel
theorem dX6_closest_1 : decode cX6_closest 1 = .ok (.istore_n 1, 1) := by decide +kernel
theorem dX6_closest_2 : decode cX6_closest 2 = .ok (.iconst 0, 1) := by decide +kernel
theorem dX6_closest_3 : decode cX6_closest 3 = .ok (.istore_n 2, 1) := by decide +kernel
theorem dX6_closest_4 : decode cX6_closest 4 = .ok (.iload_n 2, 1) := by decide +kernel
theorem dX6_closest_5 : decode cX6_closest 5 = .ok (.aload_n 0, 1) := by decide +kernel
theorem dX6_closest_6 : decode cX6_closest 6 = .ok (.getfield 7, 3) := by decide +kernel
theorem dX6_closest_9 : decode cX6_closest 9 = .ok (.iconst 0, 1) := by decide +kernel
theorem dX6_closest_10 : decode cX6_closest 10 = .ok (.iaload, 1) := by decide +kernel
theorem dX6_closest_11 : decode cX6_closest 11 = .ok (.if_icmp .ge 37, 3) := by decide +kernel
theorem dX6_closest_14 : decode cX6_closest 14 = .ok (.iload_n 1, 1) := by decide +kernel
theorem dX6_closest_15 : decode cX6_closest 15 = .ok (.iconst (-1), 1) := by decide +kernel
theorem dX6_closest_16 : decode cX6_closest 16 = .ok (.if_icmp .eq 20, 3) := by decide +kernel
theorem dX6_closest_19 : decode cX6_closest 19 = .ok (.aload_n 0, 1) := by decide +kernel
theorem dX6_closest_20 : decode cX6_closest 20 = .ok (.iload_n 2, 1) := by decide +kernel
theorem dX6_closest_21 : decode cX6_closest 21 = .ok (.bipush 24, 2) := by decide +kernel
theorem dX6_closest_23 : decode cX6_closest 23 = .ok (.invokevirtual 68, 3) := by decide +kernel
theorem dX6_closest_26 : decode cX6_closest 26 = .ok (.aload_n 0, 1) := by decide +kernel
theorem dX6_closest_27 : decode cX6_closest 27 = .ok (.iload_n 1, 1) := by decide +kernel
theorem dX6_closest_28 : decode cX6_closest 28 = .ok (.bipush 24, 2) := by decide +kernel
theorem dX6_closest_30 : decode cX6_closest 30 = .ok (.invokevirtual 68, 3) := by decide +kernel
theorem dX6_closest_33 : decode cX6_closest 33 = .ok (.if_icmp .le 7, 3) := by decide +kernel
theorem dX6_closest_36 : decode cX6_closest 36 = .ok (.iload_n 2, 1) := by decide +kernel
theorem dX6_closest_37 : decode cX6_closest 37 = .ok (.goto 4, 3) := by decide +kernel
theorem dX6_closest_40 : decode cX6_closest 40 = .ok (.iload_n 1, 1) := by decide +kernel
theorem dX6_closest_41 : decode cX6_closest 41 = .ok (.istore_n 1, 1) := by decide +kernel
theorem dX6_closest_42 : decode cX6_closest 42 = .ok (.iinc 2 1, 3) := by decide +kernel
theorem dX6_closest_45 : decode cX6_closest 45 = .ok (.goto (-41), 3) := by decide +kernel
theorem dX6_closest_48 : decode cX6_closest 48 = .ok (.iload_n 1, 1) := by decide +kernel
theorem dX6_closest_49 : decode cX6_closest 49 = .ok (.ireturn, 1) := by decide +kernel
theorem dX6_off_0 : decode cX6_off 0 = .ok (.aload_n 0, 1) := by decide +kernel
theorem dX6_off_1 : decode cX6_off 1 = .ok (.invokevirtual 168, 3) := by decide +kernel
theorem dX6_off_4 : decode cX6_off 4 = .ok (.istore_n 1, 1) := by decide +kernel
theorem dX6_off_5 : decode cX6_off 5 = .ok (.iload_n 1, 1) := by decide +kernel
theorem dX6_off_6 : decode cX6_off 6 = .ok (.iconst (-1), 1) := by decide +kernel
theorem dX6_off_7 : decode cX6_off 7 = .ok (.if_icmp .eq 15, 3) := by decide +kernel
theorem dX6_off_10 : decode cX6_off 10 = .ok (.aload_n 0, 1) := by decide +kernel
theorem dX6_off_11 : decode cX6_off 11 = .ok (.iload_n 1, 1) := by decide +kernel
theorem dX6_off_12 : decode cX6_off 12 = .ok (.bipush 24, 2) := by decide +kernel
theorem dX6_off_14 : decode cX6_off 14 = .ok (.invokevirtual 68, 3) := by decide +kernel
theorem dX6_off_17 : decode cX6_off 17 = .ok (.bipush 72, 2) := by decide +kernel
theorem dX6_off_19 : decode cX6_off 19 = .ok (.if_icmp .ne 7, 3) := by decide +kernel
theorem dX6_off_22 : decode cX6_off 22 = .ok (.iconst (-1), 1) := by decide +kernel
theorem dX6_off_23 : decode cX6_off 23 = .ok (.goto 10, 3) := by decide +kernel
theorem dX6_off_26 : decode cX6_off 26 = .ok (.aload_n 0, 1) := by decide +kernel
theorem dX6_off_27 : decode cX6_off 27 = .ok (.iload_n 1, 1) := by decide +kernel
theorem dX6_off_28 : decode cX6_off 28 = .ok (.bipush 24, 2) := by decide +kernel
theorem dX6_off_30 : decode cX6_off 30 = .ok (.invokevirtual 68, 3) := by decide +kernel
theorem dX6_off_33 : decode cX6_off 33 = .ok (.ireturn, 1) := by decide +kernel
theorem dX6_blind_0 : decode cX6_blind 0 = .ok (.iload_n 1, 1) := by decide +kernel
theorem dX6_blind_1 : decode cX6_blind 1 = .ok (.iconst 0, 1) := by decide +kernel
theorem dX6_blind_2 : decode cX6_blind 2 = .ok (.iconst 1, 1) := by decide +kernel
theorem dX6_blind_3 : decode cX6_blind 3 = .ok (.invokestatic 79, 3) := by decide +kernel
theorem dX6_blind_6 : decode cX6_blind 6 = .ok (.ifCond .ne 6, 3) := by decide +kernel
theorem dX6_blind_9 : decode cX6_blind 9 = .ok (.ldc 83, 2) := by decide +kernel
theorem dX6_blind_11 : decode cX6_blind 11 = .ok (.ireturn, 1) := by decide +kernel
theorem dX6_blind_12 : decode cX6_blind 12 = .ok (.aload_n 0, 1) := by decide +kernel
theorem dX6_blind_13 : decode cX6_blind 13 = .ok (.getfield 7, 3) := by decide +kernel
theorem dX6_blind_16 : decode cX6_blind 16 = .ok (.iconst 0, 1) := by decide +kernel
theorem dX6_blind_17 : decode cX6_blind 17 = .ok (.iaload, 1) := by decide +kernel
theorem dX6_blind_18 : decode cX6_blind 18 = .ok (.ifCond .ne 13, 3) := by decide +kernel
theorem dX6_blind_21 : decode cX6_blind 21 = .ok (.iload_n 1, 1) := by decide +kernel
theorem dX6_blind_22 : decode cX6_blind 22 = .ok (.ifCond .ne 7, 3) := by decide +kernel
theorem dX6_blind_25 : decode cX6_blind 25 = .ok (.iconst (-1), 1) := by decide +kernel
theorem dX6_blind_26 : decode cX6_blind 26 = .ok (.goto 4, 3) := by decide +kernel
theorem dX6_blind_29 : decode cX6_blind 29 = .ok (.iconst 0, 1) := by decide +kernel
theorem dX6_blind_30 : decode cX6_blind 30 = .ok (.ireturn, 1) := by decide +kernel
theorem dX6_blind_31 : decode cX6_blind 31 = .ok (.aload_n 0, 1) := by decide +kernel
theorem dX6_blind_32 : decode cX6_blind 32 = .ok (.iconst (-1), 1) := by decide +kernel
theorem dX6_blind_33 : decode cX6_blind 33 = .ok (.invokevirtual 119, 3) := by decide +kernel
theorem dX6_blind_36 : decode cX6_blind 36 = .ok (.iconst 0, 1) := by decide +kernel
theorem dX6_blind_37 : decode cX6_blind 37 = .ok (.istore_n 2, 1) := by decide +kernel
theorem dX6_blind_38 : decode cX6_blind 38 = .ok (.aload_n 0, 1) := by decide +kernel
theorem dX6_blind_39 : decode cX6_blind 39 = .ok (.getfield 7, 3) := by decide +kernel
theorem dX6_blind_42 : decode cX6_blind 42 = .ok (.iconst 0, 1) := by decide +kernel
theorem dX6_blind_43 : decode cX6_blind 43 = .ok (.iaload, 1) := by decide +kernel
theorem dX6_blind_44 : decode cX6_blind 44 = .ok (.istore_n 3, 1) := by decide +kernel
theorem dX6_blind_45 : decode cX6_blind 45 = .ok (.iconst 0, 1) := by decide +kernel
theorem dX6_blind_46 : decode cX6_blind 46 = .ok (.istore 4, 2) := by decide +kernel
theorem dX6_blind_48 : decode cX6_blind 48 = .ok (.iconst 0, 1) := by decide +kernel
theorem dX6_blind_49 : decode cX6_blind 49 = .ok (.istore 5, 2) := by decide +kernel
theorem dX6_blind_51 : decode cX6_blind 51 = .ok (.iload 5, 2) := by decide +kernel
theorem dX6_blind_53 : decode cX6_blind 53 = .ok (.aload_n 0, 1) := by decide +kernel
theorem dX6_blind_54 : decode cX6_blind 54 = .ok (.getfield 97, 3) := by decide +kernel
theorem dX6_blind_57 : decode cX6_blind 57 = .ok (.if_icmp .ge 102, 3) := by decide +kernel
theorem dX6_blind_60 : decode cX6_blind 60 = .ok (.aload_n 0, 1) := by decide +kernel
theorem dX6_blind_61 : decode cX6_blind 61 = .ok (.getfield 35, 3) := by decide +kernel
theorem dX6_blind_64 : decode cX6_blind 64 = .ok (.iload 5, 2) := by decide +kernel
theorem dX6_blind_66 : decode cX6_blind 66 = .ok (.iaload, 1) := by decide +kernel
theorem dX6_blind_67 : decode cX6_blind 67 = .ok (.iload_n 2, 1) := by decide +kernel
theorem dX6_blind_68 : decode cX6_blind 68 = .ok (.if_icmp .ne 85, 3) := by decide +kernel
theorem dX6_blind_71 : decode cX6_blind 71 = .ok (.aload_n 0, 1) := by decide +kernel
theorem dX6_blind_72 : decode cX6_blind 72 = .ok (.getfield 38, 3) := by decide +kernel
theorem dX6_blind_75 : decode cX6_blind 75 = .ok (.iload 5, 2) := by decide +kernel
theorem dX6_blind_77 : decode cX6_blind 77 = .ok (.iaload, 1) := by decide +kernel
theorem dX6_blind_78 : decode cX6_blind 78 = .ok (.iload_n 3, 1) := by decide +kernel
theorem dX6_blind_79 : decode cX6_blind 79 = .ok (.if_icmp .ne 74, 3) := by decide +kernel
theorem dX6_blind_82 : decode cX6_blind 82 = .ok (.aload_n 0, 1) := by decide +kernel
theorem dX6_blind_83 : decode cX6_blind 83 = .ok (.bipush 24, 2) := by decide +kernel
theorem dX6_blind_85 : decode cX6_blind 85 = .ok (.aload_n 0, 1) := by decide +kernel
theorem dX6_blind_86 : decode cX6_blind 86 = .ok (.getfield 29, 3) := by decide +kernel
theorem dX6_blind_89 : decode cX6_blind 89 = .ok (.iload 5, 2) := by decide +kernel
theorem dX6_blind_91 : decode cX6_blind 91 = .ok (.iaload, 1) := by decide +kernel
theorem dX6_blind_92 : decode cX6_blind 92 = .ok (.invokevirtual 65, 3) := by decide +kernel
theorem dX6_blind_95 : decode cX6_blind 95 = .ok (.iconst 1, 1) := by decide +kernel
theorem dX6_blind_96 : decode cX6_blind 96 = .ok (.if_icmp .ne 7, 3) := by decide +kernel
theorem dX6_blind_99 : decode cX6_blind 99 = .ok (.iconst 1, 1) := by decide +kernel
theorem dX6_blind_100 : decode cX6_blind 100 = .ok (.goto 4, 3) := by decide +kernel
theorem dX6_blind_103 : decode cX6_blind 103 = .ok (.iconst 0, 1) := by decide +kernel
theorem dX6_blind_104 : decode cX6_blind 104 = .ok (.istore 6, 2) := by decide +kernel
theorem dX6_blind_106 : decode cX6_blind 106 = .ok (.iload_n 2, 1) := by decide +kernel
theorem dX6_blind_107 : decode cX6_blind 107 = .ok (.iload 6, 2) := by decide +kernel
theorem dX6_blind_109 : decode cX6_blind 109 = .ok (.ifCond .eq 13, 3) := by decide +kernel
theorem dX6_blind_112 : decode cX6_blind 112 = .ok (.aload_n 0, 1) := by decide +kernel
theorem dX6_blind_113 : decode cX6_blind 113 = .ok (.getfield 41, 3) := by decide +kernel
theorem dX6_blind_116 : decode cX6_blind 116 = .ok (.iload 5, 2) := by decide +kernel
theorem dX6_blind_118 : decode cX6_blind 118 = .ok (.iaload, 1) := by decide +kernel
theorem dX6_blind_119 : decode cX6_blind 119 = .ok (.goto 4, 3) := by decide +kernel
theorem dX6_blind_122 : decode cX6_blind 122 = .ok (.iconst 0, 1) := by decide +kernel
theorem dX6_blind_123 : decode cX6_blind 123 = .ok (.iadd, 1) := by decide +kernel
theorem dX6_blind_124 : decode cX6_blind 124 = .ok (.istore_n 2, 1) := by decide +kernel
theorem dX6_blind_125 : decode cX6_blind 125 = .ok (.iload 6, 2) := by decide +kernel
theorem dX6_blind_127 : decode cX6_blind 127 = .ok (.ifCond .eq 15, 3) := by decide +kernel
theorem dX6_blind_130 : decode cX6_blind 130 = .ok (.iload_n 3, 1) := by decide +kernel
theorem dX6_blind_131 : decode cX6_blind 131 = .ok (.aload_n 0, 1) := by decide +kernel
theorem dX6_blind_132 : decode cX6_blind 132 = .ok (.getfield 41, 3) := by decide +kernel
theorem dX6_blind_135 : decode cX6_blind 135 = .ok (.iload 5, 2) := by decide +kernel
theorem dX6_blind_137 : decode cX6_blind 137 = .ok (.iaload, 1) := by decide +kernel
theorem dX6_blind_138 : decode cX6_blind 138 = .ok (.isub, 1) := by decide +kernel
theorem dX6_blind_139 : decode cX6_blind 139 = .ok (.goto 10, 3) := by decide +kernel
theorem dX6_blind_142 : decode cX6_blind 142 = .ok (.aload_n 0, 1) := by decide +kernel
theorem dX6_blind_143 : decode cX6_blind 143 = .ok (.getfield 41, 3) := by decide +kernel
theorem dX6_blind_146 : decode cX6_blind 146 = .ok (.iload 5, 2) := by decide +kernel
theorem dX6_blind_148 : decode cX6_blind 148 = .ok (.iaload, 1) := by decide +kernel
theorem dX6_blind_149 : decode cX6_blind 149 = .ok (.istore_n 3, 1) := by decide +kernel
theorem dX6_blind_150 : decode cX6_blind 150 = .ok (.iinc 4 1, 3) := by decide +kernel
theorem dX6_blind_153 : decode cX6_blind 153 = .ok (.iinc 5 1, 3) := by decide +kernel
theorem dX6_blind_156 : decode cX6_blind 156 = .ok (.goto (-105), 3) := by decide +kernel
theorem dX6_blind_159 : decode cX6_blind 159 = .ok (.iload_n 1, 1) := by decide +kernel
theorem dX6_blind_160 : decode cX6_blind 160 = .ok (.ifCond .ne 7, 3) := by decide +kernel
theorem dX6_blind_163 : decode cX6_blind 163 = .ok (.iload_n 2, 1) := by decide +kernel
theorem dX6_blind_164 : decode cX6_blind 164 = .ok (.goto 5, 3) := by decide +kernel
theorem dX6_blind_167 : decode cX6_blind 167 = .ok (.iload 4, 2) := by decide +kernel
theorem dX6_blind_169 : decode cX6_blind 169 = .ok (.ireturn, 1) := by decide +kernel
theorem dX6_way_0 : decode cX6_way 0 = .ok (.aload_n 0, 1) := by decide +kernel
theorem dX6_way_1 : decode cX6_way 1 = .ok (.iload_n 1, 1) := by decide +kernel
theorem dX6_way_2 : decode cX6_way 2 = .ok (.invokevirtual 85, 3) := by decide +kernel
theorem dX6_way_5 : decode cX6_way 5 = .ok (.ifCond .ne 6, 3) := by decide +kernel
theorem dX6_way_8 : decode cX6_way 8 = .ok (.ldc 89, 2) := by decide +kernel
theorem dX6_way_10 : decode cX6_way 10 = .ok (.ireturn, 1) := by decide +kernel
theorem dX6_way_11 : decode cX6_way 11 = .ok (.aload_n 0, 1) := by decide +kernel
theorem dX6_way_12 : decode cX6_way 12 = .ok (.iconst (-1), 1) := by decide +kernel
theorem dX6_way_13 : decode cX6_way 13 = .ok (.invokevirtual 119, 3) := by decide +kernel
theorem dX6_way_16 : decode cX6_way 16 = .ok (.iconst 0, 1) := by decide +kernel
theorem dX6_way_17 : decode cX6_way 17 = .ok (.istore_n 3, 1) := by decide +kernel
theorem dX6_way_18 : decode cX6_way 18 = .ok (.iconst 0, 1) := by decide +kernel
theorem dX6_way_19 : decode cX6_way 19 = .ok (.istore 4, 2) := by decide +kernel
theorem dX6_way_21 : decode cX6_way 21 = .ok (.iload 4, 2) := by decide +kernel
theorem dX6_way_23 : decode cX6_way 23 = .ok (.aload_n 0, 1) := by decide +kernel
theorem dX6_way_24 : decode cX6_way 24 = .ok (.getfield 97, 3) := by decide +kernel
theorem dX6_way_27 : decode cX6_way 27 = .ok (.if_icmp .ge 30, 3) := by decide +kernel
theorem dX6_way_30 : decode cX6_way 30 = .ok (.aload_n 0, 1) := by decide +kernel
theorem dX6_way_31 : decode cX6_way 31 = .ok (.iload 4, 2) := by decide +kernel
theorem dX6_way_33 : decode cX6_way 33 = .ok (.iload_n 1, 1) := by decide +kernel
theorem dX6_way_34 : decode cX6_way 34 = .ok (.invokevirtual 110, 3) := by decide +kernel
theorem dX6_way_37 : decode cX6_way 37 = .ok (.ifCond .eq 14, 3) := by decide +kernel
theorem dX6_way_40 : decode cX6_way 40 = .ok (.iload_n 3, 1) := by decide +kernel
theorem dX6_way_41 : decode cX6_way 41 = .ok (.iload_n 2, 1) := by decide +kernel
theorem dX6_way_42 : decode cX6_way 42 = .ok (.if_icmp .ne 6, 3) := by decide +kernel
theorem dX6_way_45 : decode cX6_way 45 = .ok (.iload 4, 2) := by decide +kernel
theorem dX6_way_47 : decode cX6_way 47 = .ok (.ireturn, 1) := by decide +kernel
theorem dX6_way_48 : decode cX6_way 48 = .ok (.iinc 3 1, 3) := by decide +kernel
theorem dX6_way_51 : decode cX6_way 51 = .ok (.iinc 4 1, 3) := by decide +kernel
theorem dX6_way_54 : decode cX6_way 54 = .ok (.goto (-33), 3) := by decide +kernel
theorem dX6_way_57 : decode cX6_way 57 = .ok (.iconst (-1), 1) := by decide +kernel
theorem dX6_way_58 : decode cX6_way 58 = .ok (.ireturn, 1) := by decide +kernel
theorem dX6_unlike_0 : decode cX6_unlike 0 = .ok (.aload_n 0, 1) := by decide +kernel
theorem dX6_unlike_1 : decode cX6_unlike 1 = .ok (.iload_n 1, 1) := by decide +kernel
theorem dX6_unlike_2 : decode cX6_unlike 2 = .ok (.invokevirtual 85, 3) := by decide +kernel
theorem dX6_unlike_5 : decode cX6_unlike 5 = .ok (.ifCond .eq 25, 3) := by decide +kernel
theorem dX6_unlike_8 : decode cX6_unlike 8 = .ok (.aload_n 0, 1) := by decide +kernel
theorem dX6_unlike_9 : decode cX6_unlike 9 = .ok (.iload_n 2, 1) := by decide +kernel
theorem dX6_unlike_10 : decode cX6_unlike 10 = .ok (.invokevirtual 85, 3) := by decide +kernel
theorem dX6_unlike_13 : decode cX6_unlike 13 = .ok (.ifCond .eq 17, 3) := by decide +kernel
theorem dX6_unlike_16 : decode cX6_unlike 16 = .ok (.iload_n 1, 1) := by decide +kernel
theorem dX6_unlike_17 : decode cX6_unlike 17 = .ok (.iload_n 2, 1) := by decide +kernel
theorem dX6_unlike_18 : decode cX6_unlike 18 = .ok (.if_icmp .eq 12, 3) := by decide +kernel
theorem dX6_unlike_21 : decode cX6_unlike 21 = .ok (.aload_n 0, 1) := by decide +kernel
theorem dX6_unlike_22 : decode cX6_unlike 22 = .ok (.iload_n 1, 1) := by decide +kernel
theorem dX6_unlike_23 : decode cX6_unlike 23 = .ok (.iload_n 2, 1) := by decide +kernel
theorem dX6_unlike_24 : decode cX6_unlike 24 = .ok (.invokevirtual 68, 3) := by decide +kernel
theorem dX6_unlike_27 : decode cX6_unlike 27 = .ok (.goto 5, 3) := by decide +kernel
theorem dX6_unlike_30 : decode cX6_unlike 30 = .ok (.ldc 89, 2) := by decide +kernel
theorem dX6_unlike_32 : decode cX6_unlike 32 = .ok (.ireturn, 1) := by decide +kernel
theorem dX6_bit_0 : decode cX6_bit 0 = .ok (.iload_n 1, 1) := by decide +kernel
theorem dX6_bit_1 : decode cX6_bit 1 = .ok (.iconst 0, 1) := by decide +kernel
theorem dX6_bit_2 : decode cX6_bit 2 = .ok (.bipush 71, 2) := by decide +kernel
theorem dX6_bit_4 : decode cX6_bit 4 = .ok (.invokestatic 79, 3) := by decide +kernel
theorem dX6_bit_7 : decode cX6_bit 7 = .ok (.ifCond .eq 13, 3) := by decide +kernel
theorem dX6_bit_10 : decode cX6_bit 10 = .ok (.aload_n 0, 1) := by decide +kernel
theorem dX6_bit_11 : decode cX6_bit 11 = .ok (.bipush 24, 2) := by decide +kernel
theorem dX6_bit_13 : decode cX6_bit 13 = .ok (.iload_n 1, 1) := by decide +kernel
theorem dX6_bit_14 : decode cX6_bit 14 = .ok (.invokevirtual 65, 3) := by decide +kernel
theorem dX6_bit_17 : decode cX6_bit 17 = .ok (.goto 5, 3) := by decide +kernel
theorem dX6_bit_20 : decode cX6_bit 20 = .ok (.ldc 83, 2) := by decide +kernel
theorem dX6_bit_22 : decode cX6_bit 22 = .ok (.ireturn, 1) := by decide +kernel
theorem dX6_seed_0 : decode cX6_seed 0 = .ok (.iload_n 1, 1) := by decide +kernel
theorem dX6_seed_1 : decode cX6_seed 1 = .ok (.ifCond .ge 6, 3) := by decide +kernel
theorem dX6_seed_4 : decode cX6_seed 4 = .ok (.ldc 83, 2) := by decide +kernel
theorem dX6_seed_6 : decode cX6_seed 6 = .ok (.ireturn, 1) := by decide +kernel
theorem dX6_seed_7 : decode cX6_seed 7 = .ok (.aload_n 0, 1) := by decide +kernel
theorem dX6_seed_8 : decode cX6_seed 8 = .ok (.getfield 152, 3) := by decide +kernel
theorem dX6_seed_11 : decode cX6_seed 11 = .ok (.istore_n 2, 1) := by decide +kernel
theorem dX6_seed_12 : decode cX6_seed 12 = .ok (.aload_n 0, 1) := by decide +kernel
theorem dX6_seed_13 : decode cX6_seed 13 = .ok (.iload_n 1, 1) := by decide +kernel
theorem dX6_seed_14 : decode cX6_seed 14 = .ok (.putfield 152, 3) := by decide +kernel
theorem dX6_seed_17 : decode cX6_seed 17 = .ok (.iload_n 2, 1) := by decide +kernel
theorem dX6_seed_18 : decode cX6_seed 18 = .ok (.ireturn, 1) := by decide +kernel
theorem dX6_keep_0 : decode cX6_keep 0 = .ok (.iload_n 1, 1) := by decide +kernel
theorem dX6_keep_1 : decode cX6_keep 1 = .ok (.iconst 0, 1) := by decide +kernel
theorem dX6_keep_2 : decode cX6_keep 2 = .ok (.iconst 1, 1) := by decide +kernel
theorem dX6_keep_3 : decode cX6_keep 3 = .ok (.invokestatic 79, 3) := by decide +kernel
theorem dX6_keep_6 : decode cX6_keep 6 = .ok (.ifCond .ne 6, 3) := by decide +kernel
theorem dX6_keep_9 : decode cX6_keep 9 = .ok (.ldc 89, 2) := by decide +kernel
theorem dX6_keep_11 : decode cX6_keep 11 = .ok (.ireturn, 1) := by decide +kernel
theorem dX6_keep_12 : decode cX6_keep 12 = .ok (.aload_n 0, 1) := by decide +kernel
theorem dX6_keep_13 : decode cX6_keep 13 = .ok (.getfield 7, 3) := by decide +kernel
theorem dX6_keep_16 : decode cX6_keep 16 = .ok (.iconst 0, 1) := by decide +kernel
theorem dX6_keep_17 : decode cX6_keep 17 = .ok (.aload_n 0, 1) := by decide +kernel
theorem dX6_keep_18 : decode cX6_keep 18 = .ok (.getfield 16, 3) := by decide +kernel
theorem dX6_keep_21 : decode cX6_keep 21 = .ok (.sipush 242, 3) := by decide +kernel
theorem dX6_keep_24 : decode cX6_keep 24 = .ok (.iload_n 1, 1) := by decide +kernel
theorem dX6_keep_25 : decode cX6_keep 25 = .ok (.imul, 1) := by decide +kernel
theorem dX6_keep_26 : decode cX6_keep 26 = .ok (.sipush 241, 3) := by decide +kernel
theorem dX6_keep_29 : decode cX6_keep 29 = .ok (.invokestatic 90, 3) := by decide +kernel
theorem dX6_keep_32 : decode cX6_keep 32 = .ok (.aload_n 0, 1) := by decide +kernel
theorem dX6_keep_33 : decode cX6_keep 33 = .ok (.getfield 16, 3) := by decide +kernel
theorem dX6_keep_36 : decode cX6_keep 36 = .ok (.sipush 242, 3) := by decide +kernel
theorem dX6_keep_39 : decode cX6_keep 39 = .ok (.iload_n 1, 1) := by decide +kernel
theorem dX6_keep_40 : decode cX6_keep 40 = .ok (.imul, 1) := by decide +kernel
theorem dX6_keep_41 : decode cX6_keep 41 = .ok (.sipush 241, 3) := by decide +kernel
theorem dX6_keep_44 : decode cX6_keep 44 = .ok (.iadd, 1) := by decide +kernel
theorem dX6_keep_45 : decode cX6_keep 45 = .ok (.aload_n 0, 1) := by decide +kernel
theorem dX6_keep_46 : decode cX6_keep 46 = .ok (.getfield 152, 3) := by decide +kernel
theorem dX6_keep_49 : decode cX6_keep 49 = .ok (.iastore, 1) := by decide +kernel
theorem dX6_keep_50 : decode cX6_keep 50 = .ok (.aload_n 0, 1) := by decide +kernel
theorem dX6_keep_51 : decode cX6_keep 51 = .ok (.getfield 19, 3) := by decide +kernel
theorem dX6_keep_54 : decode cX6_keep 54 = .ok (.iload_n 1, 1) := by decide +kernel
theorem dX6_keep_55 : decode cX6_keep 55 = .ok (.iconst 1, 1) := by decide +kernel
theorem dX6_keep_56 : decode cX6_keep 56 = .ok (.bastore, 1) := by decide +kernel
theorem dX6_keep_57 : decode cX6_keep 57 = .ok (.aload_n 0, 1) := by decide +kernel
theorem dX6_keep_58 : decode cX6_keep 58 = .ok (.iconst 0, 1) := by decide +kernel
theorem dX6_keep_59 : decode cX6_keep 59 = .ok (.putfield 132, 3) := by decide +kernel
theorem dX6_keep_62 : decode cX6_keep 62 = .ok (.iconst 1, 1) := by decide +kernel
theorem dX6_keep_63 : decode cX6_keep 63 = .ok (.ireturn, 1) := by decide +kernel
theorem dX6_goBack_0 : decode cX6_goBack 0 = .ok (.iload_n 1, 1) := by decide +kernel
theorem dX6_goBack_1 : decode cX6_goBack 1 = .ok (.iconst 0, 1) := by decide +kernel
theorem dX6_goBack_2 : decode cX6_goBack 2 = .ok (.iconst 1, 1) := by decide +kernel
theorem dX6_goBack_3 : decode cX6_goBack 3 = .ok (.invokestatic 79, 3) := by decide +kernel
theorem dX6_goBack_6 : decode cX6_goBack 6 = .ok (.ifCond .ne 6, 3) := by decide +kernel
theorem dX6_goBack_9 : decode cX6_goBack 9 = .ok (.ldc 89, 2) := by decide +kernel
theorem dX6_goBack_11 : decode cX6_goBack 11 = .ok (.ireturn, 1) := by decide +kernel
theorem dX6_goBack_12 : decode cX6_goBack 12 = .ok (.aload_n 0, 1) := by decide +kernel
theorem dX6_goBack_13 : decode cX6_goBack 13 = .ok (.getfield 19, 3) := by decide +kernel
theorem dX6_goBack_16 : decode cX6_goBack 16 = .ok (.iload_n 1, 1) := by decide +kernel
theorem dX6_goBack_17 : decode cX6_goBack 17 = .ok (.baload, 1) := by decide +kernel
theorem dX6_goBack_18 : decode cX6_goBack 18 = .ok (.ifCond .ne 6, 3) := by decide +kernel
theorem dX6_goBack_21 : decode cX6_goBack 21 = .ok (.ldc 145, 2) := by decide +kernel
theorem dX6_goBack_23 : decode cX6_goBack 23 = .ok (.ireturn, 1) := by decide +kernel
theorem dX6_goBack_24 : decode cX6_goBack 24 = .ok (.aload_n 0, 1) := by decide +kernel
theorem dX6_goBack_25 : decode cX6_goBack 25 = .ok (.getfield 16, 3) := by decide +kernel
theorem dX6_goBack_28 : decode cX6_goBack 28 = .ok (.sipush 242, 3) := by decide +kernel
theorem dX6_goBack_31 : decode cX6_goBack 31 = .ok (.iload_n 1, 1) := by decide +kernel
theorem dX6_goBack_32 : decode cX6_goBack 32 = .ok (.imul, 1) := by decide +kernel
theorem dX6_goBack_33 : decode cX6_goBack 33 = .ok (.aload_n 0, 1) := by decide +kernel
theorem dX6_goBack_34 : decode cX6_goBack 34 = .ok (.getfield 7, 3) := by decide +kernel
theorem dX6_goBack_37 : decode cX6_goBack 37 = .ok (.iconst 0, 1) := by decide +kernel
theorem dX6_goBack_38 : decode cX6_goBack 38 = .ok (.sipush 241, 3) := by decide +kernel
theorem dX6_goBack_41 : decode cX6_goBack 41 = .ok (.invokestatic 90, 3) := by decide +kernel
theorem dX6_goBack_44 : decode cX6_goBack 44 = .ok (.aload_n 0, 1) := by decide +kernel
theorem dX6_goBack_45 : decode cX6_goBack 45 = .ok (.aload_n 0, 1) := by decide +kernel
theorem dX6_goBack_46 : decode cX6_goBack 46 = .ok (.getfield 16, 3) := by decide +kernel
theorem dX6_goBack_49 : decode cX6_goBack 49 = .ok (.sipush 242, 3) := by decide +kernel
theorem dX6_goBack_52 : decode cX6_goBack 52 = .ok (.iload_n 1, 1) := by decide +kernel
theorem dX6_goBack_53 : decode cX6_goBack 53 = .ok (.imul, 1) := by decide +kernel
theorem dX6_goBack_54 : decode cX6_goBack 54 = .ok (.sipush 241, 3) := by decide +kernel
theorem dX6_goBack_57 : decode cX6_goBack 57 = .ok (.iadd, 1) := by decide +kernel
theorem dX6_goBack_58 : decode cX6_goBack 58 = .ok (.iaload, 1) := by decide +kernel
theorem dX6_goBack_59 : decode cX6_goBack 59 = .ok (.putfield 152, 3) := by decide +kernel
theorem dX6_goBack_62 : decode cX6_goBack 62 = .ok (.aload_n 0, 1) := by decide +kernel
theorem dX6_goBack_63 : decode cX6_goBack 63 = .ok (.iconst 0, 1) := by decide +kernel
theorem dX6_goBack_64 : decode cX6_goBack 64 = .ok (.putfield 132, 3) := by decide +kernel
theorem dX6_goBack_67 : decode cX6_goBack 67 = .ok (.iconst 1, 1) := by decide +kernel
theorem dX6_goBack_68 : decode cX6_goBack 68 = .ok (.ireturn, 1) := by decide +kernel
