theorem dX0_init_0 : decode cX0_init 0 = .ok (.aload_n 0, 1) := by decide +kernel
theorem dX0_init_1 : decode cX0_init 1 = .ok (.invokespecial 3, 3) := by decide +kernel
theorem dX0_init_4 : decode cX0_init 4 = .ok (.aload_n 0, 1) := by decide +kernel
theorem dX0_init_5 : decode cX0_init 5 = .ok (.bipush 24, 2) := by decide +kernel
theorem dX0_init_7 : decode cX0_init 7 = .ok (.newarray .int, 2) := by decide +kernel
theorem dX0_init_9 : decode cX0_init 9 = .ok (.putfield 9, 3) := by decide +kernel
theorem dX0_init_12 : decode cX0_init 12 = .ok (.aload_n 0, 1) := by decide +kernel
theorem dX0_init_13 : decode cX0_init 13 = .ok (.bipush 24, 2) := by decide +kernel
theorem dX0_init_15 : decode cX0_init 15 = .ok (.newarray .int, 2) := by decide +kernel
theorem dX0_init_17 : decode cX0_init 17 = .ok (.putfield 15, 3) := by decide +kernel
theorem dX0_init_20 : decode cX0_init 20 = .ok (.aload_n 0, 1) := by decide +kernel
theorem dX0_init_21 : decode cX0_init 21 = .ok (.bipush 24, 2) := by decide +kernel
theorem dX0_init_23 : decode cX0_init 23 = .ok (.newarray .int, 2) := by decide +kernel
theorem dX0_init_25 : decode cX0_init 25 = .ok (.putfield 18, 3) := by decide +kernel
theorem dX0_init_28 : decode cX0_init 28 = .ok (.aload_n 0, 1) := by decide +kernel
theorem dX0_init_29 : decode cX0_init 29 = .ok (.bipush 24, 2) := by decide +kernel
theorem dX0_init_31 : decode cX0_init 31 = .ok (.newarray .int, 2) := by decide +kernel
theorem dX0_init_33 : decode cX0_init 33 = .ok (.putfield 21, 3) := by decide +kernel
theorem dX0_init_36 : decode cX0_init 36 = .ok (.aload_n 0, 1) := by decide +kernel
theorem dX0_init_37 : decode cX0_init 37 = .ok (.bipush 24, 2) := by decide +kernel
theorem dX0_init_39 : decode cX0_init 39 = .ok (.newarray .int, 2) := by decide +kernel
theorem dX0_init_41 : decode cX0_init 41 = .ok (.putfield 24, 3) := by decide +kernel
theorem dX0_init_44 : decode cX0_init 44 = .ok (.aload_n 0, 1) := by decide +kernel
theorem dX0_init_45 : decode cX0_init 45 = .ok (.bipush 24, 2) := by decide +kernel
theorem dX0_init_47 : decode cX0_init 47 = .ok (.newarray .int, 2) := by decide +kernel
theorem dX0_init_49 : decode cX0_init 49 = .ok (.putfield 27, 3) := by decide +kernel
theorem dX0_init_52 : decode cX0_init 52 = .ok (.aload_n 0, 1) := by decide +kernel
theorem dX0_init_53 : decode cX0_init 53 = .ok (.bipush 24, 2) := by decide +kernel
theorem dX0_init_55 : decode cX0_init 55 = .ok (.newarray .int, 2) := by decide +kernel
theorem dX0_init_57 : decode cX0_init 57 = .ok (.putfield 30, 3) := by decide +kernel
theorem dX0_init_60 : decode cX0_init 60 = .ok (.aload_n 0, 1) := by decide +kernel
theorem dX0_init_61 : decode cX0_init 61 = .ok (.bipush 24, 2) := by decide +kernel
theorem dX0_init_63 : decode cX0_init 63 = .ok (.newarray .int, 2) := by decide +kernel
theorem dX0_init_65 : decode cX0_init 65 = .ok (.putfield 33, 3) := by decide +kernel
theorem dX0_init_68 : decode cX0_init 68 = .ok (.return_, 1) := by decide +kernel
theorem dX0_count_0 : decode cX0_count 0 = .ok (.iconst 0, 1) := by decide +kernel
theorem dX0_count_1 : decode cX0_count 1 = .ok (.aload_n 0, 1) := by decide +kernel
theorem dX0_count_2 : decode cX0_count 2 = .ok (.getfield 36, 3) := by decide +kernel
theorem dX0_count_5 : decode cX0_count 5 = .ok (.iconst 1, 1) := by decide +kernel
theorem dX0_count_6 : decode cX0_count 6 = .ok (.isub, 1) := by decide +kernel
theorem dX0_count_7 : decode cX0_count 7 = .ok (.invokestatic 40, 3) := by decide +kernel
theorem dX0_count_10 : decode cX0_count 10 = .ok (.ireturn, 1) := by decide +kernel
theorem dX0_has_0 : decode cX0_has 0 = .ok (.iload_n 1, 1) := by decide +kernel
theorem dX0_has_1 : decode cX0_has 1 = .ok (.ifCond .lt 15, 3) := by decide +kernel
theorem dX0_has_4 : decode cX0_has 4 = .ok (.iload_n 1, 1) := by decide +kernel
theorem dX0_has_5 : decode cX0_has 5 = .ok (.aload_n 0, 1) := by decide +kernel
theorem dX0_has_6 : decode cX0_has 6 = .ok (.invokevirtual 46, 3) := by decide +kernel
theorem dX0_has_9 : decode cX0_has 9 = .ok (.if_icmp .ge 7, 3) := by decide +kernel
theorem dX0_has_12 : decode cX0_has 12 = .ok (.iconst 1, 1) := by decide +kernel
theorem dX0_has_13 : decode cX0_has 13 = .ok (.goto 4, 3) := by decide +kernel
theorem dX0_has_16 : decode cX0_has 16 = .ok (.iconst 0, 1) := by decide +kernel
theorem dX0_has_17 : decode cX0_has 17 = .ok (.ireturn, 1) := by decide +kernel
theorem dX0_bitOf_0 : decode cX0_bitOf 0 = .ok (.aload_n 0, 1) := by decide +kernel
theorem dX0_bitOf_1 : decode cX0_bitOf 1 = .ok (.getfield 9, 3) := by decide +kernel
theorem dX0_bitOf_4 : decode cX0_bitOf 4 = .ok (.iload_n 1, 1) := by decide +kernel
theorem dX0_bitOf_5 : decode cX0_bitOf 5 = .ok (.iaload, 1) := by decide +kernel
theorem dX0_bitOf_6 : decode cX0_bitOf 6 = .ok (.ireturn, 1) := by decide +kernel
theorem dX0_depthOf_0 : decode cX0_depthOf 0 = .ok (.aload_n 0, 1) := by decide +kernel
theorem dX0_depthOf_1 : decode cX0_depthOf 1 = .ok (.getfield 15, 3) := by decide +kernel
theorem dX0_depthOf_4 : decode cX0_depthOf 4 = .ok (.iload_n 1, 1) := by decide +kernel
theorem dX0_depthOf_5 : decode cX0_depthOf 5 = .ok (.iaload, 1) := by decide +kernel
theorem dX0_depthOf_6 : decode cX0_depthOf 6 = .ok (.ireturn, 1) := by decide +kernel
theorem dX0_keysBelow_0 : decode cX0_keysBelow 0 = .ok (.aload_n 0, 1) := by decide +kernel
theorem dX0_keysBelow_1 : decode cX0_keysBelow 1 = .ok (.getfield 18, 3) := by decide +kernel
theorem dX0_keysBelow_4 : decode cX0_keysBelow 4 = .ok (.iload_n 1, 1) := by decide +kernel
theorem dX0_keysBelow_5 : decode cX0_keysBelow 5 = .ok (.iaload, 1) := by decide +kernel
theorem dX0_keysBelow_6 : decode cX0_keysBelow 6 = .ok (.ireturn, 1) := by decide +kernel
theorem dX0_keysLeft_0 : decode cX0_keysLeft 0 = .ok (.aload_n 0, 1) := by decide +kernel
theorem dX0_keysLeft_1 : decode cX0_keysLeft 1 = .ok (.getfield 21, 3) := by decide +kernel
theorem dX0_keysLeft_4 : decode cX0_keysLeft 4 = .ok (.iload_n 1, 1) := by decide +kernel
theorem dX0_keysLeft_5 : decode cX0_keysLeft 5 = .ok (.iaload, 1) := by decide +kernel
theorem dX0_keysLeft_6 : decode cX0_keysLeft 6 = .ok (.ireturn, 1) := by decide +kernel
theorem dX0_firstKey_0 : decode cX0_firstKey 0 = .ok (.aload_n 0, 1) := by decide +kernel
theorem dX0_firstKey_1 : decode cX0_firstKey 1 = .ok (.getfield 24, 3) := by decide +kernel
theorem dX0_firstKey_4 : decode cX0_firstKey 4 = .ok (.iload_n 1, 1) := by decide +kernel
theorem dX0_firstKey_5 : decode cX0_firstKey 5 = .ok (.iaload, 1) := by decide +kernel
theorem dX0_firstKey_6 : decode cX0_firstKey 6 = .ok (.ireturn, 1) := by decide +kernel
theorem dX0_aboveOf_0 : decode cX0_aboveOf 0 = .ok (.aload_n 0, 1) := by decide +kernel
theorem dX0_aboveOf_1 : decode cX0_aboveOf 1 = .ok (.getfield 27, 3) := by decide +kernel
theorem dX0_aboveOf_4 : decode cX0_aboveOf 4 = .ok (.iload_n 1, 1) := by decide +kernel
theorem dX0_aboveOf_5 : decode cX0_aboveOf 5 = .ok (.iaload, 1) := by decide +kernel
theorem dX0_aboveOf_6 : decode cX0_aboveOf 6 = .ok (.ireturn, 1) := by decide +kernel
theorem dX0_grow_0 : decode cX0_grow 0 = .ok (.aload_n 0, 1) := by decide +kernel
theorem dX0_grow_1 : decode cX0_grow 1 = .ok (.aload_n 1, 1) := by decide +kernel
theorem dX0_grow_2 : decode cX0_grow 2 = .ok (.invokevirtual 50, 3) := by decide +kernel
theorem dX0_grow_5 : decode cX0_grow 5 = .ok (.putfield 36, 3) := by decide +kernel
theorem dX0_grow_8 : decode cX0_grow 8 = .ok (.iconst 0, 1) := by decide +kernel
theorem dX0_grow_9 : decode cX0_grow 9 = .ok (.istore_n 2, 1) := by decide +kernel
theorem dX0_grow_10 : decode cX0_grow 10 = .ok (.iload_n 2, 1) := by decide +kernel
theorem dX0_grow_11 : decode cX0_grow 11 = .ok (.iconst 1, 1) := by decide +kernel
theorem dX0_grow_12 : decode cX0_grow 12 = .ok (.iadd, 1) := by decide +kernel
theorem dX0_grow_13 : decode cX0_grow 13 = .ok (.aload_n 0, 1) := by decide +kernel
theorem dX0_grow_14 : decode cX0_grow 14 = .ok (.getfield 36, 3) := by decide +kernel
theorem dX0_grow_17 : decode cX0_grow 17 = .ok (.if_icmp .ge 23, 3) := by decide +kernel
theorem dX0_grow_20 : decode cX0_grow 20 = .ok (.aload_n 0, 1) := by decide +kernel
theorem dX0_grow_21 : decode cX0_grow 21 = .ok (.getfield 33, 3) := by decide +kernel
theorem dX0_grow_24 : decode cX0_grow 24 = .ok (.iload_n 2, 1) := by decide +kernel
theorem dX0_grow_25 : decode cX0_grow 25 = .ok (.aload_n 1, 1) := by decide +kernel
theorem dX0_grow_26 : decode cX0_grow 26 = .ok (.iload_n 2, 1) := by decide +kernel
theorem dX0_grow_27 : decode cX0_grow 27 = .ok (.iload_n 2, 1) := by decide +kernel
theorem dX0_grow_28 : decode cX0_grow 28 = .ok (.iconst 1, 1) := by decide +kernel
theorem dX0_grow_29 : decode cX0_grow 29 = .ok (.iadd, 1) := by decide +kernel
theorem dX0_grow_30 : decode cX0_grow 30 = .ok (.invokevirtual 53, 3) := by decide +kernel
theorem dX0_grow_33 : decode cX0_grow 33 = .ok (.iastore, 1) := by decide +kernel
theorem dX0_grow_34 : decode cX0_grow 34 = .ok (.iinc 2 1, 3) := by decide +kernel
theorem dX0_grow_37 : decode cX0_grow 37 = .ok (.goto (-27), 3) := by decide +kernel
theorem dX0_grow_40 : decode cX0_grow 40 = .ok (.aload_n 0, 1) := by decide +kernel
theorem dX0_grow_41 : decode cX0_grow 41 = .ok (.getfield 36, 3) := by decide +kernel
theorem dX0_grow_44 : decode cX0_grow 44 = .ok (.ifCond .le 14, 3) := by decide +kernel
theorem dX0_grow_47 : decode cX0_grow 47 = .ok (.aload_n 0, 1) := by decide +kernel
theorem dX0_grow_48 : decode cX0_grow 48 = .ok (.iconst 0, 1) := by decide +kernel
theorem dX0_grow_49 : decode cX0_grow 49 = .ok (.iconst 0, 1) := by decide +kernel
theorem dX0_grow_50 : decode cX0_grow 50 = .ok (.aload_n 0, 1) := by decide +kernel
theorem dX0_grow_51 : decode cX0_grow 51 = .ok (.getfield 36, 3) := by decide +kernel
theorem dX0_grow_54 : decode cX0_grow 54 = .ok (.iconst (-1), 1) := by decide +kernel
theorem dX0_grow_55 : decode cX0_grow 55 = .ok (.invokevirtual 56, 3) := by decide +kernel
theorem dX0_grow_58 : decode cX0_grow 58 = .ok (.iconst 0, 1) := by decide +kernel
theorem dX0_grow_59 : decode cX0_grow 59 = .ok (.istore_n 2, 1) := by decide +kernel
theorem dX0_grow_60 : decode cX0_grow 60 = .ok (.iload_n 2, 1) := by decide +kernel
theorem dX0_grow_61 : decode cX0_grow 61 = .ok (.aload_n 0, 1) := by decide +kernel
theorem dX0_grow_62 : decode cX0_grow 62 = .ok (.invokevirtual 46, 3) := by decide +kernel
theorem dX0_grow_65 : decode cX0_grow 65 = .ok (.if_icmp .ge 73, 3) := by decide +kernel
theorem dX0_grow_68 : decode cX0_grow 68 = .ok (.aload_n 0, 1) := by decide +kernel
theorem dX0_grow_69 : decode cX0_grow 69 = .ok (.iload_n 2, 1) := by decide +kernel
theorem dX0_grow_70 : decode cX0_grow 70 = .ok (.invokevirtual 60, 3) := by decide +kernel
theorem dX0_grow_73 : decode cX0_grow 73 = .ok (.aload_n 0, 1) := by decide +kernel
theorem dX0_grow_74 : decode cX0_grow 74 = .ok (.iload_n 2, 1) := by decide +kernel
theorem dX0_grow_75 : decode cX0_grow 75 = .ok (.iconst 1, 1) := by decide +kernel
theorem dX0_grow_76 : decode cX0_grow 76 = .ok (.iadd, 1) := by decide +kernel
theorem dX0_grow_77 : decode cX0_grow 77 = .ok (.aload_n 0, 1) := by decide +kernel
theorem dX0_grow_78 : decode cX0_grow 78 = .ok (.getfield 24, 3) := by decide +kernel
theorem dX0_grow_81 : decode cX0_grow 81 = .ok (.iload_n 2, 1) := by decide +kernel
theorem dX0_grow_82 : decode cX0_grow 82 = .ok (.iaload, 1) := by decide +kernel
theorem dX0_grow_83 : decode cX0_grow 83 = .ok (.aload_n 0, 1) := by decide +kernel
theorem dX0_grow_84 : decode cX0_grow 84 = .ok (.getfield 21, 3) := by decide +kernel
theorem dX0_grow_87 : decode cX0_grow 87 = .ok (.iload_n 2, 1) := by decide +kernel
theorem dX0_grow_88 : decode cX0_grow 88 = .ok (.iaload, 1) := by decide +kernel
theorem dX0_grow_89 : decode cX0_grow 89 = .ok (.iload_n 2, 1) := by decide +kernel
theorem dX0_grow_90 : decode cX0_grow 90 = .ok (.invokevirtual 56, 3) := by decide +kernel
theorem dX0_grow_93 : decode cX0_grow 93 = .ok (.aload_n 0, 1) := by decide +kernel
theorem dX0_grow_94 : decode cX0_grow 94 = .ok (.iload_n 2, 1) := by decide +kernel
theorem dX0_grow_95 : decode cX0_grow 95 = .ok (.aload_n 0, 1) := by decide +kernel
theorem dX0_grow_96 : decode cX0_grow 96 = .ok (.getfield 21, 3) := by decide +kernel
theorem dX0_grow_99 : decode cX0_grow 99 = .ok (.iload_n 2, 1) := by decide +kernel
theorem dX0_grow_100 : decode cX0_grow 100 = .ok (.iaload, 1) := by decide +kernel
theorem dX0_grow_101 : decode cX0_grow 101 = .ok (.iadd, 1) := by decide +kernel
theorem dX0_grow_102 : decode cX0_grow 102 = .ok (.aload_n 0, 1) := by decide +kernel
theorem dX0_grow_103 : decode cX0_grow 103 = .ok (.getfield 24, 3) := by decide +kernel
theorem dX0_grow_106 : decode cX0_grow 106 = .ok (.iload_n 2, 1) := by decide +kernel
theorem dX0_grow_107 : decode cX0_grow 107 = .ok (.iaload, 1) := by decide +kernel
theorem dX0_grow_108 : decode cX0_grow 108 = .ok (.aload_n 0, 1) := by decide +kernel
theorem dX0_grow_109 : decode cX0_grow 109 = .ok (.getfield 21, 3) := by decide +kernel
theorem dX0_grow_112 : decode cX0_grow 112 = .ok (.iload_n 2, 1) := by decide +kernel
theorem dX0_grow_113 : decode cX0_grow 113 = .ok (.iaload, 1) := by decide +kernel
theorem dX0_grow_114 : decode cX0_grow 114 = .ok (.iadd, 1) := by decide +kernel
theorem dX0_grow_115 : decode cX0_grow 115 = .ok (.aload_n 0, 1) := by decide +kernel
theorem dX0_grow_116 : decode cX0_grow 116 = .ok (.getfield 18, 3) := by decide +kernel
theorem dX0_grow_119 : decode cX0_grow 119 = .ok (.iload_n 2, 1) := by decide +kernel
theorem dX0_grow_120 : decode cX0_grow 120 = .ok (.iaload, 1) := by decide +kernel
theorem dX0_grow_121 : decode cX0_grow 121 = .ok (.aload_n 0, 1) := by decide +kernel
theorem dX0_grow_122 : decode cX0_grow 122 = .ok (.getfield 21, 3) := by decide +kernel
theorem dX0_grow_125 : decode cX0_grow 125 = .ok (.iload_n 2, 1) := by decide +kernel
theorem dX0_grow_126 : decode cX0_grow 126 = .ok (.iaload, 1) := by decide +kernel
theorem dX0_grow_127 : decode cX0_grow 127 = .ok (.isub, 1) := by decide +kernel
theorem dX0_grow_128 : decode cX0_grow 128 = .ok (.iload_n 2, 1) := by decide +kernel
theorem dX0_grow_129 : decode cX0_grow 129 = .ok (.invokevirtual 56, 3) := by decide +kernel
theorem dX0_grow_132 : decode cX0_grow 132 = .ok (.iinc 2 1, 3) := by decide +kernel
theorem dX0_grow_135 : decode cX0_grow 135 = .ok (.goto (-75), 3) := by decide +kernel
theorem dX0_grow_138 : decode cX0_grow 138 = .ok (.return_, 1) := by decide +kernel
theorem dX0_hang_0 : decode cX0_hang 0 = .ok (.iload_n 2, 1) := by decide +kernel
theorem dX0_hang_1 : decode cX0_hang 1 = .ok (.ifCond .lt 11, 3) := by decide +kernel
theorem dX0_hang_4 : decode cX0_hang 4 = .ok (.iload_n 2, 1) := by decide +kernel
theorem dX0_hang_5 : decode cX0_hang 5 = .ok (.aload_n 0, 1) := by decide +kernel
theorem dX0_hang_6 : decode cX0_hang 6 = .ok (.getfield 36, 3) := by decide +kernel
theorem dX0_hang_9 : decode cX0_hang 9 = .ok (.if_icmp .lt 4, 3) := by decide +kernel
theorem dX0_hang_12 : decode cX0_hang 12 = .ok (.return_, 1) := by decide +kernel
theorem dX0_hang_13 : decode cX0_hang 13 = .ok (.iload_n 3, 1) := by decide +kernel
theorem dX0_hang_14 : decode cX0_hang 14 = .ok (.iconst 1, 1) := by decide +kernel
theorem dX0_hang_15 : decode cX0_hang 15 = .ok (.if_icmp .ne 12, 3) := by decide +kernel
theorem dX0_hang_18 : decode cX0_hang 18 = .ok (.aload_n 0, 1) := by decide +kernel
theorem dX0_hang_19 : decode cX0_hang 19 = .ok (.getfield 30, 3) := by decide +kernel
theorem dX0_hang_22 : decode cX0_hang 22 = .ok (.iload_n 2, 1) := by decide +kernel
theorem dX0_hang_23 : decode cX0_hang 23 = .ok (.iload 4, 2) := by decide +kernel
theorem dX0_hang_25 : decode cX0_hang 25 = .ok (.iastore, 1) := by decide +kernel
theorem dX0_hang_26 : decode cX0_hang 26 = .ok (.return_, 1) := by decide +kernel
theorem dX0_hang_27 : decode cX0_hang 27 = .ok (.aload_n 0, 1) := by decide +kernel
theorem dX0_hang_28 : decode cX0_hang 28 = .ok (.iload_n 1, 1) := by decide +kernel
theorem dX0_hang_29 : decode cX0_hang 29 = .ok (.invokevirtual 64, 3) := by decide +kernel
theorem dX0_hang_32 : decode cX0_hang 32 = .ok (.ifCond .ne 4, 3) := by decide +kernel
theorem dX0_hang_35 : decode cX0_hang 35 = .ok (.return_, 1) := by decide +kernel
theorem dX0_hang_36 : decode cX0_hang 36 = .ok (.aload_n 0, 1) := by decide +kernel
theorem dX0_hang_37 : decode cX0_hang 37 = .ok (.getfield 24, 3) := by decide +kernel
theorem dX0_hang_40 : decode cX0_hang 40 = .ok (.iload_n 1, 1) := by decide +kernel
theorem dX0_hang_41 : decode cX0_hang 41 = .ok (.iload_n 2, 1) := by decide +kernel
theorem dX0_hang_42 : decode cX0_hang 42 = .ok (.iastore, 1) := by decide +kernel
theorem dX0_hang_43 : decode cX0_hang 43 = .ok (.aload_n 0, 1) := by decide +kernel
theorem dX0_hang_44 : decode cX0_hang 44 = .ok (.getfield 18, 3) := by decide +kernel
theorem dX0_hang_47 : decode cX0_hang 47 = .ok (.iload_n 1, 1) := by decide +kernel
theorem dX0_hang_48 : decode cX0_hang 48 = .ok (.iload_n 3, 1) := by decide +kernel
theorem dX0_hang_49 : decode cX0_hang 49 = .ok (.iastore, 1) := by decide +kernel
theorem dX0_hang_50 : decode cX0_hang 50 = .ok (.aload_n 0, 1) := by decide +kernel
theorem dX0_hang_51 : decode cX0_hang 51 = .ok (.getfield 27, 3) := by decide +kernel
theorem dX0_hang_54 : decode cX0_hang 54 = .ok (.iload_n 1, 1) := by decide +kernel
theorem dX0_hang_55 : decode cX0_hang 55 = .ok (.iload 4, 2) := by decide +kernel
theorem dX0_hang_57 : decode cX0_hang 57 = .ok (.iastore, 1) := by decide +kernel
theorem dX0_hang_58 : decode cX0_hang 58 = .ok (.aload_n 0, 1) := by decide +kernel
theorem dX0_hang_59 : decode cX0_hang 59 = .ok (.getfield 15, 3) := by decide +kernel
theorem dX0_hang_62 : decode cX0_hang 62 = .ok (.iload_n 1, 1) := by decide +kernel
theorem dX0_hang_63 : decode cX0_hang 63 = .ok (.aload_n 0, 1) := by decide +kernel
theorem dX0_hang_64 : decode cX0_hang 64 = .ok (.iload 4, 2) := by decide +kernel
theorem dX0_hang_66 : decode cX0_hang 66 = .ok (.invokevirtual 64, 3) := by decide +kernel
theorem dX0_hang_69 : decode cX0_hang 69 = .ok (.ifCond .eq 15, 3) := by decide +kernel
theorem dX0_hang_72 : decode cX0_hang 72 = .ok (.aload_n 0, 1) := by decide +kernel
theorem dX0_hang_73 : decode cX0_hang 73 = .ok (.getfield 15, 3) := by decide +kernel
theorem dX0_hang_76 : decode cX0_hang 76 = .ok (.iload 4, 2) := by decide +kernel
theorem dX0_hang_78 : decode cX0_hang 78 = .ok (.iaload, 1) := by decide +kernel
theorem dX0_hang_79 : decode cX0_hang 79 = .ok (.iconst 1, 1) := by decide +kernel
theorem dX0_hang_80 : decode cX0_hang 80 = .ok (.iadd, 1) := by decide +kernel
theorem dX0_hang_81 : decode cX0_hang 81 = .ok (.goto 4, 3) := by decide +kernel
theorem dX0_hang_84 : decode cX0_hang 84 = .ok (.iconst 0, 1) := by decide +kernel
theorem dX0_hang_85 : decode cX0_hang 85 = .ok (.iastore, 1) := by decide +kernel
theorem dX0_hang_86 : decode cX0_hang 86 = .ok (.return_, 1) := by decide +kernel
theorem dX0_split_0 : decode cX0_split 0 = .ok (.aload_n 0, 1) := by decide +kernel
theorem dX0_split_1 : decode cX0_split 1 = .ok (.getfield 24, 3) := by decide +kernel
theorem dX0_split_4 : decode cX0_split 4 = .ok (.iload_n 1, 1) := by decide +kernel
theorem dX0_split_5 : decode cX0_split 5 = .ok (.iaload, 1) := by decide +kernel
theorem dX0_split_6 : decode cX0_split 6 = .ok (.istore_n 2, 1) := by decide +kernel
theorem dX0_split_7 : decode cX0_split 7 = .ok (.iload_n 2, 1) := by decide +kernel
theorem dX0_split_8 : decode cX0_split 8 = .ok (.iconst 1, 1) := by decide +kernel
theorem dX0_split_9 : decode cX0_split 9 = .ok (.iadd, 1) := by decide +kernel
theorem dX0_split_10 : decode cX0_split 10 = .ok (.istore_n 3, 1) := by decide +kernel
theorem dX0_split_11 : decode cX0_split 11 = .ok (.iload_n 3, 1) := by decide +kernel
theorem dX0_split_12 : decode cX0_split 12 = .ok (.iconst 1, 1) := by decide +kernel
theorem dX0_split_13 : decode cX0_split 13 = .ok (.iadd, 1) := by decide +kernel
theorem dX0_split_14 : decode cX0_split 14 = .ok (.aload_n 0, 1) := by decide +kernel
theorem dX0_split_15 : decode cX0_split 15 = .ok (.getfield 24, 3) := by decide +kernel
theorem dX0_split_18 : decode cX0_split 18 = .ok (.iload_n 1, 1) := by decide +kernel
theorem dX0_split_19 : decode cX0_split 19 = .ok (.iaload, 1) := by decide +kernel
theorem dX0_split_20 : decode cX0_split 20 = .ok (.aload_n 0, 1) := by decide +kernel
theorem dX0_split_21 : decode cX0_split 21 = .ok (.getfield 18, 3) := by decide +kernel
theorem dX0_split_24 : decode cX0_split 24 = .ok (.iload_n 1, 1) := by decide +kernel
theorem dX0_split_25 : decode cX0_split 25 = .ok (.iaload, 1) := by decide +kernel
theorem dX0_split_26 : decode cX0_split 26 = .ok (.iadd, 1) := by decide +kernel
theorem dX0_split_27 : decode cX0_split 27 = .ok (.if_icmp .ge 26, 3) := by decide +kernel
theorem dX0_split_30 : decode cX0_split 30 = .ok (.aload_n 0, 1) := by decide +kernel
theorem dX0_split_31 : decode cX0_split 31 = .ok (.getfield 33, 3) := by decide +kernel
theorem dX0_split_34 : decode cX0_split 34 = .ok (.iload_n 3, 1) := by decide +kernel
theorem dX0_split_35 : decode cX0_split 35 = .ok (.iaload, 1) := by decide +kernel
theorem dX0_split_36 : decode cX0_split 36 = .ok (.aload_n 0, 1) := by decide +kernel
theorem dX0_split_37 : decode cX0_split 37 = .ok (.getfield 33, 3) := by decide +kernel
theorem dX0_split_40 : decode cX0_split 40 = .ok (.iload_n 2, 1) := by decide +kernel
theorem dX0_split_41 : decode cX0_split 41 = .ok (.iaload, 1) := by decide +kernel
theorem dX0_split_42 : decode cX0_split 42 = .ok (.if_icmp .ge 5, 3) := by decide +kernel
theorem dX0_split_45 : decode cX0_split 45 = .ok (.iload_n 3, 1) := by decide +kernel
theorem dX0_split_46 : decode cX0_split 46 = .ok (.istore_n 2, 1) := by decide +kernel
theorem dX0_split_47 : decode cX0_split 47 = .ok (.iinc 3 1, 3) := by decide +kernel
theorem dX0_split_50 : decode cX0_split 50 = .ok (.goto (-39), 3) := by decide +kernel
theorem dX0_split_53 : decode cX0_split 53 = .ok (.aload_n 0, 1) := by decide +kernel
theorem dX0_split_54 : decode cX0_split 54 = .ok (.getfield 9, 3) := by decide +kernel
theorem dX0_split_57 : decode cX0_split 57 = .ok (.iload_n 1, 1) := by decide +kernel
theorem dX0_split_58 : decode cX0_split 58 = .ok (.aload_n 0, 1) := by decide +kernel
theorem dX0_split_59 : decode cX0_split 59 = .ok (.getfield 33, 3) := by decide +kernel
theorem dX0_split_62 : decode cX0_split 62 = .ok (.iload_n 2, 1) := by decide +kernel
theorem dX0_split_63 : decode cX0_split 63 = .ok (.iaload, 1) := by decide +kernel
theorem dX0_split_64 : decode cX0_split 64 = .ok (.iastore, 1) := by decide +kernel
theorem dX0_split_65 : decode cX0_split 65 = .ok (.aload_n 0, 1) := by decide +kernel
theorem dX0_split_66 : decode cX0_split 66 = .ok (.getfield 21, 3) := by decide +kernel
theorem dX0_split_69 : decode cX0_split 69 = .ok (.iload_n 1, 1) := by decide +kernel
theorem dX0_split_70 : decode cX0_split 70 = .ok (.iload_n 2, 1) := by decide +kernel
theorem dX0_split_71 : decode cX0_split 71 = .ok (.iconst 1, 1) := by decide +kernel
theorem dX0_split_72 : decode cX0_split 72 = .ok (.iadd, 1) := by decide +kernel
theorem dX0_split_73 : decode cX0_split 73 = .ok (.aload_n 0, 1) := by decide +kernel
theorem dX0_split_74 : decode cX0_split 74 = .ok (.getfield 24, 3) := by decide +kernel
theorem dX0_split_77 : decode cX0_split 77 = .ok (.iload_n 1, 1) := by decide +kernel
theorem dX0_split_78 : decode cX0_split 78 = .ok (.iaload, 1) := by decide +kernel
theorem dX0_split_79 : decode cX0_split 79 = .ok (.isub, 1) := by decide +kernel
theorem dX0_split_80 : decode cX0_split 80 = .ok (.iastore, 1) := by decide +kernel
theorem dX0_split_81 : decode cX0_split 81 = .ok (.return_, 1) := by decide +kernel
theorem dX0_topBit_0 : decode cX0_topBit 0 = .ok (.aload_n 0, 1) := by decide +kernel
theorem dX0_topBit_1 : decode cX0_topBit 1 = .ok (.invokevirtual 46, 3) := by decide +kernel
theorem dX0_topBit_4 : decode cX0_topBit 4 = .ok (.ifCond .le 12, 3) := by decide +kernel
theorem dX0_topBit_7 : decode cX0_topBit 7 = .ok (.aload_n 0, 1) := by decide +kernel
theorem dX0_topBit_8 : decode cX0_topBit 8 = .ok (.getfield 9, 3) := by decide +kernel
theorem dX0_topBit_11 : decode cX0_topBit 11 = .ok (.iconst 0, 1) := by decide +kernel
theorem dX0_topBit_12 : decode cX0_topBit 12 = .ok (.iaload, 1) := by decide +kernel
theorem dX0_topBit_13 : decode cX0_topBit 13 = .ok (.goto 4, 3) := by decide +kernel
theorem dX0_topBit_16 : decode cX0_topBit 16 = .ok (.iconst (-1), 1) := by decide +kernel
theorem dX0_topBit_17 : decode cX0_topBit 17 = .ok (.ireturn, 1) := by decide +kernel
theorem dX0_greatestBit_0 : decode cX0_greatestBit 0 = .ok (.iconst (-1), 1) := by decide +kernel
theorem dX0_greatestBit_1 : decode cX0_greatestBit 1 = .ok (.istore_n 1, 1) := by decide +kernel
theorem dX0_greatestBit_2 : decode cX0_greatestBit 2 = .ok (.iconst 0, 1) := by decide +kernel
theorem dX0_greatestBit_3 : decode cX0_greatestBit 3 = .ok (.istore_n 2, 1) := by decide +kernel
theorem dX0_greatestBit_4 : decode cX0_greatestBit 4 = .ok (.iload_n 2, 1) := by decide +kernel
theorem dX0_greatestBit_5 : decode cX0_greatestBit 5 = .ok (.aload_n 0, 1) := by decide +kernel
theorem dX0_greatestBit_6 : decode cX0_greatestBit 6 = .ok (.invokevirtual 46, 3) := by decide +kernel
theorem dX0_greatestBit_9 : decode cX0_greatestBit 9 = .ok (.if_icmp .ge 20, 3) := by decide +kernel
theorem dX0_greatestBit_12 : decode cX0_greatestBit 12 = .ok (.iload_n 1, 1) := by decide +kernel
theorem dX0_greatestBit_13 : decode cX0_greatestBit 13 = .ok (.aload_n 0, 1) := by decide +kernel
theorem dX0_greatestBit_14 : decode cX0_greatestBit 14 = .ok (.getfield 9, 3) := by decide +kernel
theorem dX0_greatestBit_17 : decode cX0_greatestBit 17 = .ok (.iload_n 2, 1) := by decide +kernel
theorem dX0_greatestBit_18 : decode cX0_greatestBit 18 = .ok (.iaload, 1) := by decide +kernel
theorem dX0_greatestBit_19 : decode cX0_greatestBit 19 = .ok (.invokestatic 40, 3) := by decide +kernel
theorem dX0_greatestBit_22 : decode cX0_greatestBit 22 = .ok (.istore_n 1, 1) := by decide +kernel
theorem dX0_greatestBit_23 : decode cX0_greatestBit 23 = .ok (.iinc 2 1, 3) := by decide +kernel
theorem dX0_greatestBit_26 : decode cX0_greatestBit 26 = .ok (.goto (-22), 3) := by decide +kernel
theorem dX0_greatestBit_29 : decode cX0_greatestBit 29 = .ok (.iload_n 1, 1) := by decide +kernel
theorem dX0_greatestBit_30 : decode cX0_greatestBit 30 = .ok (.ireturn, 1) := by decide +kernel
theorem dX0_depthOfKey_0 : decode cX0_depthOfKey 0 = .ok (.aload_n 0, 1) := by decide +kernel
theorem dX0_depthOfKey_1 : decode cX0_depthOfKey 1 = .ok (.getfield 30, 3) := by decide +kernel
theorem dX0_depthOfKey_4 : decode cX0_depthOfKey 4 = .ok (.iload_n 1, 1) := by decide +kernel
theorem dX0_depthOfKey_5 : decode cX0_depthOfKey 5 = .ok (.iaload, 1) := by decide +kernel
theorem dX0_depthOfKey_6 : decode cX0_depthOfKey 6 = .ok (.istore_n 2, 1) := by decide +kernel
theorem dX0_depthOfKey_7 : decode cX0_depthOfKey 7 = .ok (.aload_n 0, 1) := by decide +kernel
theorem dX0_depthOfKey_8 : decode cX0_depthOfKey 8 = .ok (.iload_n 2, 1) := by decide +kernel
theorem dX0_depthOfKey_9 : decode cX0_depthOfKey 9 = .ok (.invokevirtual 64, 3) := by decide +kernel
theorem dX0_depthOfKey_12 : decode cX0_depthOfKey 12 = .ok (.ifCond .eq 14, 3) := by decide +kernel
theorem dX0_depthOfKey_15 : decode cX0_depthOfKey 15 = .ok (.aload_n 0, 1) := by decide +kernel
theorem dX0_depthOfKey_16 : decode cX0_depthOfKey 16 = .ok (.getfield 15, 3) := by decide +kernel
theorem dX0_depthOfKey_19 : decode cX0_depthOfKey 19 = .ok (.iload_n 2, 1) := by decide +kernel
theorem dX0_depthOfKey_20 : decode cX0_depthOfKey 20 = .ok (.iaload, 1) := by decide +kernel
theorem dX0_depthOfKey_21 : decode cX0_depthOfKey 21 = .ok (.iconst 1, 1) := by decide +kernel
theorem dX0_depthOfKey_22 : decode cX0_depthOfKey 22 = .ok (.iadd, 1) := by decide +kernel
theorem dX0_depthOfKey_23 : decode cX0_depthOfKey 23 = .ok (.goto 4, 3) := by decide +kernel
theorem dX0_depthOfKey_26 : decode cX0_depthOfKey 26 = .ok (.iconst 0, 1) := by decide +kernel
theorem dX0_depthOfKey_27 : decode cX0_depthOfKey 27 = .ok (.ireturn, 1) := by decide +kernel
theorem dX0_greatestDepth_0 : decode cX0_greatestDepth 0 = .ok (.iconst 0, 1) := by decide +kernel
theorem dX0_greatestDepth_1 : decode cX0_greatestDepth 1 = .ok (.istore_n 1, 1) := by decide +kernel
theorem dX0_greatestDepth_2 : decode cX0_greatestDepth 2 = .ok (.iconst 0, 1) := by decide +kernel
theorem dX0_greatestDepth_3 : decode cX0_greatestDepth 3 = .ok (.istore_n 2, 1) := by decide +kernel
theorem dX0_greatestDepth_4 : decode cX0_greatestDepth 4 = .ok (.iload_n 2, 1) := by decide +kernel
theorem dX0_greatestDepth_5 : decode cX0_greatestDepth 5 = .ok (.aload_n 0, 1) := by decide +kernel
theorem dX0_greatestDepth_6 : decode cX0_greatestDepth 6 = .ok (.getfield 36, 3) := by decide +kernel
theorem dX0_greatestDepth_9 : decode cX0_greatestDepth 9 = .ok (.if_icmp .ge 19, 3) := by decide +kernel
theorem dX0_greatestDepth_12 : decode cX0_greatestDepth 12 = .ok (.iload_n 1, 1) := by decide +kernel
theorem dX0_greatestDepth_13 : decode cX0_greatestDepth 13 = .ok (.aload_n 0, 1) := by decide +kernel
theorem dX0_greatestDepth_14 : decode cX0_greatestDepth 14 = .ok (.iload_n 2, 1) := by decide +kernel
theorem dX0_greatestDepth_15 : decode cX0_greatestDepth 15 = .ok (.invokevirtual 68, 3) := by decide +kernel
theorem dX0_greatestDepth_18 : decode cX0_greatestDepth 18 = .ok (.invokestatic 40, 3) := by decide +kernel
theorem dX0_greatestDepth_21 : decode cX0_greatestDepth 21 = .ok (.istore_n 1, 1) := by decide +kernel
theorem dX0_greatestDepth_22 : decode cX0_greatestDepth 22 = .ok (.iinc 2 1, 3) := by decide +kernel
theorem dX0_greatestDepth_25 : decode cX0_greatestDepth 25 = .ok (.goto (-21), 3) := by decide +kernel
theorem dX0_greatestDepth_28 : decode cX0_greatestDepth 28 = .ok (.iload_n 1, 1) := by decide +kernel
theorem dX0_greatestDepth_29 : decode cX0_greatestDepth 29 = .ok (.ireturn, 1) := by decide +kernel
theorem dX0_depthsTogether_0 : decode cX0_depthsTogether 0 = .ok (.iconst 0, 1) := by decide +kernel
theorem dX0_depthsTogether_1 : decode cX0_depthsTogether 1 = .ok (.istore_n 1, 1) := by decide +kernel
theorem dX0_depthsTogether_2 : decode cX0_depthsTogether 2 = .ok (.iconst 0, 1) := by decide +kernel
theorem dX0_depthsTogether_3 : decode cX0_depthsTogether 3 = .ok (.istore_n 2, 1) := by decide +kernel
theorem dX0_depthsTogether_4 : decode cX0_depthsTogether 4 = .ok (.iload_n 2, 1) := by decide +kernel
theorem dX0_depthsTogether_5 : decode cX0_depthsTogether 5 = .ok (.aload_n 0, 1) := by decide +kernel
theorem dX0_depthsTogether_6 : decode cX0_depthsTogether 6 = .ok (.getfield 36, 3) := by decide +kernel
theorem dX0_depthsTogether_9 : decode cX0_depthsTogether 9 = .ok (.if_icmp .ge 17, 3) := by decide +kernel
theorem dX0_depthsTogether_12 : decode cX0_depthsTogether 12 = .ok (.iload_n 1, 1) := by decide +kernel
theorem dX0_depthsTogether_13 : decode cX0_depthsTogether 13 = .ok (.aload_n 0, 1) := by decide +kernel
theorem dX0_depthsTogether_14 : decode cX0_depthsTogether 14 = .ok (.iload_n 2, 1) := by decide +kernel
theorem dX0_depthsTogether_15 : decode cX0_depthsTogether 15 = .ok (.invokevirtual 68, 3) := by decide +kernel
theorem dX0_depthsTogether_18 : decode cX0_depthsTogether 18 = .ok (.iadd, 1) := by decide +kernel
theorem dX0_depthsTogether_19 : decode cX0_depthsTogether 19 = .ok (.istore_n 1, 1) := by decide +kernel
theorem dX0_depthsTogether_20 : decode cX0_depthsTogether 20 = .ok (.iinc 2 1, 3) := by decide +kernel
theorem dX0_depthsTogether_23 : decode cX0_depthsTogether 23 = .ok (.goto (-19), 3) := by decide +kernel
theorem dX0_depthsTogether_26 : decode cX0_depthsTogether 26 = .ok (.iload_n 1, 1) := by decide +kernel
theorem dX0_depthsTogether_27 : decode cX0_depthsTogether 27 = .ok (.ireturn, 1) := by decide +kernel
theorem dX0_greatestDepthWithout_0 : decode cX0_greatestDepthWithout 0 = .ok (.aload_n 0, 1) := by decide +kernel
theorem dX0_greatestDepthWithout_1 : decode cX0_greatestDepthWithout 1 = .ok (.getfield 30, 3) := by decide +kernel
theorem dX0_greatestDepthWithout_4 : decode cX0_greatestDepthWithout 4 = .ok (.iload_n 1, 1) := by decide +kernel
theorem dX0_greatestDepthWithout_5 : decode cX0_greatestDepthWithout 5 = .ok (.iaload, 1) := by decide +kernel
theorem dX0_greatestDepthWithout_6 : decode cX0_greatestDepthWithout 6 = .ok (.istore_n 2, 1) := by decide +kernel
theorem dX0_greatestDepthWithout_7 : decode cX0_greatestDepthWithout 7 = .ok (.iconst 0, 1) := by decide +kernel
theorem dX0_greatestDepthWithout_8 : decode cX0_greatestDepthWithout 8 = .ok (.istore_n 3, 1) := by decide +kernel
theorem dX0_greatestDepthWithout_9 : decode cX0_greatestDepthWithout 9 = .ok (.iconst 0, 1) := by decide +kernel
theorem dX0_greatestDepthWithout_10 : decode cX0_greatestDepthWithout 10 = .ok (.istore 4, 2) := by decide +kernel
theorem dX0_greatestDepthWithout_12 : decode cX0_greatestDepthWithout 12 = .ok (.iload 4, 2) := by decide +kernel
theorem dX0_greatestDepthWithout_14 : decode cX0_greatestDepthWithout 14 = .ok (.aload_n 0, 1) := by decide +kernel
theorem dX0_greatestDepthWithout_15 : decode cX0_greatestDepthWithout 15 = .ok (.getfield 36, 3) := by decide +kernel
theorem dX0_greatestDepthWithout_18 : decode cX0_greatestDepthWithout 18 = .ok (.if_icmp .ge 46, 3) := by decide +kernel
theorem dX0_greatestDepthWithout_21 : decode cX0_greatestDepthWithout 21 = .ok (.iload 4, 2) := by decide +kernel
theorem dX0_greatestDepthWithout_23 : decode cX0_greatestDepthWithout 23 = .ok (.iload_n 1, 1) := by decide +kernel
theorem dX0_greatestDepthWithout_24 : decode cX0_greatestDepthWithout 24 = .ok (.if_icmp .eq 34, 3) := by decide +kernel
theorem dX0_greatestDepthWithout_27 : decode cX0_greatestDepthWithout 27 = .ok (.aload_n 0, 1) := by decide +kernel
theorem dX0_greatestDepthWithout_28 : decode cX0_greatestDepthWithout 28 = .ok (.iload 4, 2) := by decide +kernel
theorem dX0_greatestDepthWithout_30 : decode cX0_greatestDepthWithout 30 = .ok (.iload_n 2, 1) := by decide +kernel
theorem dX0_greatestDepthWithout_31 : decode cX0_greatestDepthWithout 31 = .ok (.invokevirtual 72, 3) := by decide +kernel
theorem dX0_greatestDepthWithout_34 : decode cX0_greatestDepthWithout 34 = .ok (.ifCond .eq 7, 3) := by decide +kernel
theorem dX0_greatestDepthWithout_37 : decode cX0_greatestDepthWithout 37 = .ok (.iconst 1, 1) := by decide +kernel
theorem dX0_greatestDepthWithout_38 : decode cX0_greatestDepthWithout 38 = .ok (.goto 4, 3) := by decide +kernel
theorem dX0_greatestDepthWithout_41 : decode cX0_greatestDepthWithout 41 = .ok (.iconst 0, 1) := by decide +kernel
theorem dX0_greatestDepthWithout_42 : decode cX0_greatestDepthWithout 42 = .ok (.istore 5, 2) := by decide +kernel
theorem dX0_greatestDepthWithout_44 : decode cX0_greatestDepthWithout 44 = .ok (.iload_n 3, 1) := by decide +kernel
theorem dX0_greatestDepthWithout_45 : decode cX0_greatestDepthWithout 45 = .ok (.aload_n 0, 1) := by decide +kernel
theorem dX0_greatestDepthWithout_46 : decode cX0_greatestDepthWithout 46 = .ok (.iload 4, 2) := by decide +kernel
theorem dX0_greatestDepthWithout_48 : decode cX0_greatestDepthWithout 48 = .ok (.invokevirtual 68, 3) := by decide +kernel
theorem dX0_greatestDepthWithout_51 : decode cX0_greatestDepthWithout 51 = .ok (.iload 5, 2) := by decide +kernel
theorem dX0_greatestDepthWithout_53 : decode cX0_greatestDepthWithout 53 = .ok (.isub, 1) := by decide +kernel
theorem dX0_greatestDepthWithout_54 : decode cX0_greatestDepthWithout 54 = .ok (.invokestatic 40, 3) := by decide +kernel
theorem dX0_greatestDepthWithout_57 : decode cX0_greatestDepthWithout 57 = .ok (.istore_n 3, 1) := by decide +kernel
theorem dX0_greatestDepthWithout_58 : decode cX0_greatestDepthWithout 58 = .ok (.iinc 4 1, 3) := by decide +kernel
theorem dX0_greatestDepthWithout_61 : decode cX0_greatestDepthWithout 61 = .ok (.goto (-49), 3) := by decide +kernel
theorem dX0_greatestDepthWithout_64 : decode cX0_greatestDepthWithout 64 = .ok (.iload_n 3, 1) := by decide +kernel
theorem dX0_greatestDepthWithout_65 : decode cX0_greatestDepthWithout 65 = .ok (.ireturn, 1) := by decide +kernel
theorem dX0_isBelow_0 : decode cX0_isBelow 0 = .ok (.aload_n 0, 1) := by decide +kernel
theorem dX0_isBelow_1 : decode cX0_isBelow 1 = .ok (.iload_n 2, 1) := by decide +kernel
theorem dX0_isBelow_2 : decode cX0_isBelow 2 = .ok (.invokevirtual 64, 3) := by decide +kernel
theorem dX0_isBelow_5 : decode cX0_isBelow 5 = .ok (.ifCond .eq 34, 3) := by decide +kernel
theorem dX0_isBelow_8 : decode cX0_isBelow 8 = .ok (.iload_n 1, 1) := by decide +kernel
theorem dX0_isBelow_9 : decode cX0_isBelow 9 = .ok (.aload_n 0, 1) := by decide +kernel
theorem dX0_isBelow_10 : decode cX0_isBelow 10 = .ok (.getfield 24, 3) := by decide +kernel
theorem dX0_isBelow_13 : decode cX0_isBelow 13 = .ok (.iload_n 2, 1) := by decide +kernel
theorem dX0_isBelow_14 : decode cX0_isBelow 14 = .ok (.iaload, 1) := by decide +kernel
theorem dX0_isBelow_15 : decode cX0_isBelow 15 = .ok (.if_icmp .lt 24, 3) := by decide +kernel
theorem dX0_isBelow_18 : decode cX0_isBelow 18 = .ok (.iload_n 1, 1) := by decide +kernel
theorem dX0_isBelow_19 : decode cX0_isBelow 19 = .ok (.aload_n 0, 1) := by decide +kernel
theorem dX0_isBelow_20 : decode cX0_isBelow 20 = .ok (.getfield 24, 3) := by decide +kernel
theorem dX0_isBelow_23 : decode cX0_isBelow 23 = .ok (.iload_n 2, 1) := by decide +kernel
theorem dX0_isBelow_24 : decode cX0_isBelow 24 = .ok (.iaload, 1) := by decide +kernel
theorem dX0_isBelow_25 : decode cX0_isBelow 25 = .ok (.aload_n 0, 1) := by decide +kernel
theorem dX0_isBelow_26 : decode cX0_isBelow 26 = .ok (.getfield 18, 3) := by decide +kernel
theorem dX0_isBelow_29 : decode cX0_isBelow 29 = .ok (.iload_n 2, 1) := by decide +kernel
theorem dX0_isBelow_30 : decode cX0_isBelow 30 = .ok (.iaload, 1) := by decide +kernel
theorem dX0_isBelow_31 : decode cX0_isBelow 31 = .ok (.iadd, 1) := by decide +kernel
theorem dX0_isBelow_32 : decode cX0_isBelow 32 = .ok (.if_icmp .ge 7, 3) := by decide +kernel
theorem dX0_isBelow_35 : decode cX0_isBelow 35 = .ok (.iconst 1, 1) := by decide +kernel
theorem dX0_isBelow_36 : decode cX0_isBelow 36 = .ok (.goto 4, 3) := by decide +kernel
theorem dX0_isBelow_39 : decode cX0_isBelow 39 = .ok (.iconst 0, 1) := by decide +kernel
theorem dX0_isBelow_40 : decode cX0_isBelow 40 = .ok (.ireturn, 1) := by decide +kernel
theorem dX0_keyReachedBy_0 : decode cX0_keyReachedBy 0 = .ok (.aload_n 0, 1) := by decide +kernel
theorem dX0_keyReachedBy_1 : decode cX0_keyReachedBy 1 = .ok (.getfield 36, 3) := by decide +kernel
theorem dX0_keyReachedBy_4 : decode cX0_keyReachedBy 4 = .ok (.iconst 2, 1) := by decide +kernel
theorem dX0_keyReachedBy_5 : decode cX0_keyReachedBy 5 = .ok (.if_icmp .ge 17, 3) := by decide +kernel
theorem dX0_keyReachedBy_8 : decode cX0_keyReachedBy 8 = .ok (.aload_n 0, 1) := by decide +kernel
theorem dX0_keyReachedBy_9 : decode cX0_keyReachedBy 9 = .ok (.getfield 36, 3) := by decide +kernel
theorem dX0_keyReachedBy_12 : decode cX0_keyReachedBy 12 = .ok (.iconst 1, 1) := by decide +kernel
theorem dX0_keyReachedBy_13 : decode cX0_keyReachedBy 13 = .ok (.if_icmp .ne 7, 3) := by decide +kernel
theorem dX0_keyReachedBy_16 : decode cX0_keyReachedBy 16 = .ok (.iconst 0, 1) := by decide +kernel
theorem dX0_keyReachedBy_17 : decode cX0_keyReachedBy 17 = .ok (.goto 4, 3) := by decide +kernel
theorem dX0_keyReachedBy_20 : decode cX0_keyReachedBy 20 = .ok (.iconst (-1), 1) := by decide +kernel
theorem dX0_keyReachedBy_21 : decode cX0_keyReachedBy 21 = .ok (.ireturn, 1) := by decide +kernel
theorem dX0_keyReachedBy_22 : decode cX0_keyReachedBy 22 = .ok (.iconst 0, 1) := by decide +kernel
theorem dX0_keyReachedBy_23 : decode cX0_keyReachedBy 23 = .ok (.istore_n 2, 1) := by decide +kernel
theorem dX0_keyReachedBy_24 : decode cX0_keyReachedBy 24 = .ok (.iconst 0, 1) := by decide +kernel
theorem dX0_keyReachedBy_25 : decode cX0_keyReachedBy 25 = .ok (.istore_n 3, 1) := by decide +kernel
theorem dX0_keyReachedBy_26 : decode cX0_keyReachedBy 26 = .ok (.iload_n 3, 1) := by decide +kernel
theorem dX0_keyReachedBy_27 : decode cX0_keyReachedBy 27 = .ok (.aload_n 0, 1) := by decide +kernel
theorem dX0_keyReachedBy_28 : decode cX0_keyReachedBy 28 = .ok (.invokevirtual 46, 3) := by decide +kernel
theorem dX0_keyReachedBy_31 : decode cX0_keyReachedBy 31 = .ok (.if_icmp .ge 121, 3) := by decide +kernel
theorem dX0_keyReachedBy_34 : decode cX0_keyReachedBy 34 = .ok (.aload_n 0, 1) := by decide +kernel
theorem dX0_keyReachedBy_35 : decode cX0_keyReachedBy 35 = .ok (.iload_n 2, 1) := by decide +kernel
theorem dX0_keyReachedBy_36 : decode cX0_keyReachedBy 36 = .ok (.invokevirtual 64, 3) := by decide +kernel
theorem dX0_keyReachedBy_39 : decode cX0_keyReachedBy 39 = .ok (.ifCond .eq 113, 3) := by decide +kernel
theorem dX0_keyReachedBy_42 : decode cX0_keyReachedBy 42 = .ok (.aload_n 1, 1) := by decide +kernel
theorem dX0_keyReachedBy_43 : decode cX0_keyReachedBy 43 = .ok (.aload_n 0, 1) := by decide +kernel
theorem dX0_keyReachedBy_44 : decode cX0_keyReachedBy 44 = .ok (.getfield 9, 3) := by decide +kernel
theorem dX0_keyReachedBy_47 : decode cX0_keyReachedBy 47 = .ok (.iload_n 2, 1) := by decide +kernel
theorem dX0_keyReachedBy_48 : decode cX0_keyReachedBy 48 = .ok (.iaload, 1) := by decide +kernel
theorem dX0_keyReachedBy_49 : decode cX0_keyReachedBy 49 = .ok (.invokevirtual 76, 3) := by decide +kernel
theorem dX0_keyReachedBy_52 : decode cX0_keyReachedBy 52 = .ok (.iconst 1, 1) := by decide +kernel
theorem dX0_keyReachedBy_53 : decode cX0_keyReachedBy 53 = .ok (.if_icmp .ne 7, 3) := by decide +kernel
theorem dX0_keyReachedBy_56 : decode cX0_keyReachedBy 56 = .ok (.iconst 1, 1) := by decide +kernel
theorem dX0_keyReachedBy_57 : decode cX0_keyReachedBy 57 = .ok (.goto 4, 3) := by decide +kernel
theorem dX0_keyReachedBy_60 : decode cX0_keyReachedBy 60 = .ok (.iconst 0, 1) := by decide +kernel
theorem dX0_keyReachedBy_61 : decode cX0_keyReachedBy 61 = .ok (.istore 4, 2) := by decide +kernel
theorem dX0_keyReachedBy_63 : decode cX0_keyReachedBy 63 = .ok (.iload 4, 2) := by decide +kernel
theorem dX0_keyReachedBy_65 : decode cX0_keyReachedBy 65 = .ok (.ifCond .eq 19, 3) := by decide +kernel
theorem dX0_keyReachedBy_68 : decode cX0_keyReachedBy 68 = .ok (.aload_n 0, 1) := by decide +kernel
theorem dX0_keyReachedBy_69 : decode cX0_keyReachedBy 69 = .ok (.getfield 18, 3) := by decide +kernel
theorem dX0_keyReachedBy_72 : decode cX0_keyReachedBy 72 = .ok (.iload_n 2, 1) := by decide +kernel
theorem dX0_keyReachedBy_73 : decode cX0_keyReachedBy 73 = .ok (.iaload, 1) := by decide +kernel
theorem dX0_keyReachedBy_74 : decode cX0_keyReachedBy 74 = .ok (.aload_n 0, 1) := by decide +kernel
theorem dX0_keyReachedBy_75 : decode cX0_keyReachedBy 75 = .ok (.getfield 21, 3) := by decide +kernel
theorem dX0_keyReachedBy_78 : decode cX0_keyReachedBy 78 = .ok (.iload_n 2, 1) := by decide +kernel
theorem dX0_keyReachedBy_79 : decode cX0_keyReachedBy 79 = .ok (.iaload, 1) := by decide +kernel
theorem dX0_keyReachedBy_80 : decode cX0_keyReachedBy 80 = .ok (.isub, 1) := by decide +kernel
theorem dX0_keyReachedBy_81 : decode cX0_keyReachedBy 81 = .ok (.goto 9, 3) := by decide +kernel
theorem dX0_keyReachedBy_84 : decode cX0_keyReachedBy 84 = .ok (.aload_n 0, 1) := by decide +kernel
theorem dX0_keyReachedBy_85 : decode cX0_keyReachedBy 85 = .ok (.getfield 21, 3) := by decide +kernel
theorem dX0_keyReachedBy_88 : decode cX0_keyReachedBy 88 = .ok (.iload_n 2, 1) := by decide +kernel
theorem dX0_keyReachedBy_89 : decode cX0_keyReachedBy 89 = .ok (.iaload, 1) := by decide +kernel
theorem dX0_keyReachedBy_90 : decode cX0_keyReachedBy 90 = .ok (.istore 5, 2) := by decide +kernel
theorem dX0_keyReachedBy_92 : decode cX0_keyReachedBy 92 = .ok (.iload 5, 2) := by decide +kernel
theorem dX0_keyReachedBy_94 : decode cX0_keyReachedBy 94 = .ok (.iconst 1, 1) := by decide +kernel
theorem dX0_keyReachedBy_95 : decode cX0_keyReachedBy 95 = .ok (.if_icmp .ne 31, 3) := by decide +kernel
theorem dX0_keyReachedBy_98 : decode cX0_keyReachedBy 98 = .ok (.iload 4, 2) := by decide +kernel
theorem dX0_keyReachedBy_100 : decode cX0_keyReachedBy 100 = .ok (.ifCond .eq 19, 3) := by decide +kernel
theorem dX0_keyReachedBy_103 : decode cX0_keyReachedBy 103 = .ok (.aload_n 0, 1) := by decide +kernel
theorem dX0_keyReachedBy_104 : decode cX0_keyReachedBy 104 = .ok (.getfield 24, 3) := by decide +kernel
theorem dX0_keyReachedBy_107 : decode cX0_keyReachedBy 107 = .ok (.iload_n 2, 1) := by decide +kernel
theorem dX0_keyReachedBy_108 : decode cX0_keyReachedBy 108 = .ok (.iaload, 1) := by decide +kernel
theorem dX0_keyReachedBy_109 : decode cX0_keyReachedBy 109 = .ok (.aload_n 0, 1) := by decide +kernel
theorem dX0_keyReachedBy_110 : decode cX0_keyReachedBy 110 = .ok (.getfield 21, 3) := by decide +kernel
theorem dX0_keyReachedBy_113 : decode cX0_keyReachedBy 113 = .ok (.iload_n 2, 1) := by decide +kernel
theorem dX0_keyReachedBy_114 : decode cX0_keyReachedBy 114 = .ok (.iaload, 1) := by decide +kernel
theorem dX0_keyReachedBy_115 : decode cX0_keyReachedBy 115 = .ok (.iadd, 1) := by decide +kernel
theorem dX0_keyReachedBy_116 : decode cX0_keyReachedBy 116 = .ok (.goto 9, 3) := by decide +kernel
theorem dX0_keyReachedBy_119 : decode cX0_keyReachedBy 119 = .ok (.aload_n 0, 1) := by decide +kernel
theorem dX0_keyReachedBy_120 : decode cX0_keyReachedBy 120 = .ok (.getfield 24, 3) := by decide +kernel
theorem dX0_keyReachedBy_123 : decode cX0_keyReachedBy 123 = .ok (.iload_n 2, 1) := by decide +kernel
theorem dX0_keyReachedBy_124 : decode cX0_keyReachedBy 124 = .ok (.iaload, 1) := by decide +kernel
theorem dX0_keyReachedBy_125 : decode cX0_keyReachedBy 125 = .ok (.ireturn, 1) := by decide +kernel
theorem dX0_keyReachedBy_126 : decode cX0_keyReachedBy 126 = .ok (.iload 4, 2) := by decide +kernel
theorem dX0_keyReachedBy_128 : decode cX0_keyReachedBy 128 = .ok (.ifCond .eq 14, 3) := by decide +kernel
theorem dX0_keyReachedBy_131 : decode cX0_keyReachedBy 131 = .ok (.iload_n 2, 1) := by decide +kernel
theorem dX0_keyReachedBy_132 : decode cX0_keyReachedBy 132 = .ok (.aload_n 0, 1) := by decide +kernel
theorem dX0_keyReachedBy_133 : decode cX0_keyReachedBy 133 = .ok (.getfield 21, 3) := by decide +kernel
theorem dX0_keyReachedBy_136 : decode cX0_keyReachedBy 136 = .ok (.iload_n 2, 1) := by decide +kernel
theorem dX0_keyReachedBy_137 : decode cX0_keyReachedBy 137 = .ok (.iaload, 1) := by decide +kernel
theorem dX0_keyReachedBy_138 : decode cX0_keyReachedBy 138 = .ok (.iadd, 1) := by decide +kernel
theorem dX0_keyReachedBy_139 : decode cX0_keyReachedBy 139 = .ok (.goto 6, 3) := by decide +kernel
theorem dX0_keyReachedBy_142 : decode cX0_keyReachedBy 142 = .ok (.iload_n 2, 1) := by decide +kernel
theorem dX0_keyReachedBy_143 : decode cX0_keyReachedBy 143 = .ok (.iconst 1, 1) := by decide +kernel
theorem dX0_keyReachedBy_144 : decode cX0_keyReachedBy 144 = .ok (.iadd, 1) := by decide +kernel
theorem dX0_keyReachedBy_145 : decode cX0_keyReachedBy 145 = .ok (.istore_n 2, 1) := by decide +kernel
theorem dX0_keyReachedBy_146 : decode cX0_keyReachedBy 146 = .ok (.iinc 3 1, 3) := by decide +kernel
theorem dX0_keyReachedBy_149 : decode cX0_keyReachedBy 149 = .ok (.goto (-123), 3) := by decide +kernel
theorem dX0_keyReachedBy_152 : decode cX0_keyReachedBy 152 = .ok (.iconst (-1), 1) := by decide +kernel
theorem dX0_keyReachedBy_153 : decode cX0_keyReachedBy 153 = .ok (.ireturn, 1) := by decide +kernel
theorem dX0_onWay_0 : decode cX0_onWay 0 = .ok (.aload_n 0, 1) := by decide +kernel
theorem dX0_onWay_1 : decode cX0_onWay 1 = .ok (.iload_n 1, 1) := by decide +kernel
theorem dX0_onWay_2 : decode cX0_onWay 2 = .ok (.invokevirtual 68, 3) := by decide +kernel
theorem dX0_onWay_5 : decode cX0_onWay 5 = .ok (.istore_n 3, 1) := by decide +kernel
theorem dX0_onWay_6 : decode cX0_onWay 6 = .ok (.iload_n 2, 1) := by decide +kernel
theorem dX0_onWay_7 : decode cX0_onWay 7 = .ok (.ifCond .lt 8, 3) := by decide +kernel
theorem dX0_onWay_10 : decode cX0_onWay 10 = .ok (.iload_n 2, 1) := by decide +kernel
theorem dX0_onWay_11 : decode cX0_onWay 11 = .ok (.iload_n 3, 1) := by decide +kernel
theorem dX0_onWay_12 : decode cX0_onWay 12 = .ok (.if_icmp .lt 5, 3) := by decide +kernel
theorem dX0_onWay_15 : decode cX0_onWay 15 = .ok (.iconst (-1), 1) := by decide +kernel
theorem dX0_onWay_16 : decode cX0_onWay 16 = .ok (.ireturn, 1) := by decide +kernel
theorem dX0_onWay_17 : decode cX0_onWay 17 = .ok (.aload_n 0, 1) := by decide +kernel
theorem dX0_onWay_18 : decode cX0_onWay 18 = .ok (.getfield 30, 3) := by decide +kernel
theorem dX0_onWay_21 : decode cX0_onWay 21 = .ok (.iload_n 1, 1) := by decide +kernel
theorem dX0_onWay_22 : decode cX0_onWay 22 = .ok (.iaload, 1) := by decide +kernel
theorem dX0_onWay_23 : decode cX0_onWay 23 = .ok (.istore 4, 2) := by decide +kernel
theorem dX0_onWay_25 : decode cX0_onWay 25 = .ok (.iload_n 3, 1) := by decide +kernel
theorem dX0_onWay_26 : decode cX0_onWay 26 = .ok (.iconst 1, 1) := by decide +kernel
theorem dX0_onWay_27 : decode cX0_onWay 27 = .ok (.isub, 1) := by decide +kernel
theorem dX0_onWay_28 : decode cX0_onWay 28 = .ok (.istore 5, 2) := by decide +kernel
theorem dX0_onWay_30 : decode cX0_onWay 30 = .ok (.iload 5, 2) := by decide +kernel
theorem dX0_onWay_32 : decode cX0_onWay 32 = .ok (.iload_n 2, 1) := by decide +kernel
theorem dX0_onWay_33 : decode cX0_onWay 33 = .ok (.if_icmp .le 27, 3) := by decide +kernel
theorem dX0_onWay_36 : decode cX0_onWay 36 = .ok (.aload_n 0, 1) := by decide +kernel
theorem dX0_onWay_37 : decode cX0_onWay 37 = .ok (.iload 4, 2) := by decide +kernel
theorem dX0_onWay_39 : decode cX0_onWay 39 = .ok (.invokevirtual 64, 3) := by decide +kernel
theorem dX0_onWay_42 : decode cX0_onWay 42 = .ok (.ifCond .eq 18, 3) := by decide +kernel
theorem dX0_onWay_45 : decode cX0_onWay 45 = .ok (.aload_n 0, 1) := by decide +kernel
theorem dX0_onWay_46 : decode cX0_onWay 46 = .ok (.getfield 27, 3) := by decide +kernel
theorem dX0_onWay_49 : decode cX0_onWay 49 = .ok (.iload 4, 2) := by decide +kernel
theorem dX0_onWay_51 : decode cX0_onWay 51 = .ok (.iaload, 1) := by decide +kernel
theorem dX0_onWay_52 : decode cX0_onWay 52 = .ok (.istore 4, 2) := by decide +kernel
theorem dX0_onWay_54 : decode cX0_onWay 54 = .ok (.iinc 5 (-1), 3) := by decide +kernel
theorem dX0_onWay_57 : decode cX0_onWay 57 = .ok (.goto (-27), 3) := by decide +kernel
theorem dX0_onWay_60 : decode cX0_onWay 60 = .ok (.iload 4, 2) := by decide +kernel
theorem dX0_onWay_62 : decode cX0_onWay 62 = .ok (.ireturn, 1) := by decide +kernel
theorem dX1_init_0 : decode cX1_init 0 = .ok (.aload_n 0, 1) := by decide +kernel
theorem dX1_init_1 : decode cX1_init 1 = .ok (.invokespecial 3, 3) := by decide +kernel
theorem dX1_init_4 : decode cX1_init 4 = .ok (.aload_n 0, 1) := by decide +kernel
theorem dX1_init_5 : decode cX1_init 5 = .ok (.bipush 24, 2) := by decide +kernel
theorem dX1_init_7 : decode cX1_init 7 = .ok (.newarray .long, 2) := by decide +kernel
theorem dX1_init_9 : decode cX1_init 9 = .ok (.putfield 9, 3) := by decide +kernel
theorem dX1_init_12 : decode cX1_init 12 = .ok (.aload_n 0, 1) := by decide +kernel
theorem dX1_init_13 : decode cX1_init 13 = .ok (.bipush 24, 2) := by decide +kernel
theorem dX1_init_15 : decode cX1_init 15 = .ok (.newarray .int, 2) := by decide +kernel
theorem dX1_init_17 : decode cX1_init 17 = .ok (.putfield 15, 3) := by decide +kernel
theorem dX1_init_20 : decode cX1_init 20 = .ok (.aload_n 0, 1) := by decide +kernel
theorem dX1_init_21 : decode cX1_init 21 = .ok (.bipush 24, 2) := by decide +kernel
theorem dX1_init_23 : decode cX1_init 23 = .ok (.newarray .int, 2) := by decide +kernel
theorem dX1_init_25 : decode cX1_init 25 = .ok (.putfield 19, 3) := by decide +kernel
theorem dX1_init_28 : decode cX1_init 28 = .ok (.return_, 1) := by decide +kernel
theorem dX1_count_0 : decode cX1_count 0 = .ok (.aload_n 0, 1) := by decide +kernel
theorem dX1_count_1 : decode cX1_count 1 = .ok (.getfield 22, 3) := by decide +kernel
theorem dX1_count_4 : decode cX1_count 4 = .ok (.ireturn, 1) := by decide +kernel
theorem dX1_has_0 : decode cX1_has 0 = .ok (.iload_n 1, 1) := by decide +kernel
theorem dX1_has_1 : decode cX1_has 1 = .ok (.ifCond .lt 15, 3) := by decide +kernel
theorem dX1_has_4 : decode cX1_has 4 = .ok (.iload_n 1, 1) := by decide +kernel
theorem dX1_has_5 : decode cX1_has 5 = .ok (.aload_n 0, 1) := by decide +kernel
theorem dX1_has_6 : decode cX1_has 6 = .ok (.getfield 22, 3) := by decide +kernel
theorem dX1_has_9 : decode cX1_has 9 = .ok (.if_icmp .ge 7, 3) := by decide +kernel
theorem dX1_has_12 : decode cX1_has 12 = .ok (.iconst 1, 1) := by decide +kernel
theorem dX1_has_13 : decode cX1_has 13 = .ok (.goto 4, 3) := by decide +kernel
theorem dX1_has_16 : decode cX1_has 16 = .ok (.iconst 0, 1) := by decide +kernel
theorem dX1_has_17 : decode cX1_has 17 = .ok (.ireturn, 1) := by decide +kernel
theorem dX1_isFull_0 : decode cX1_isFull 0 = .ok (.aload_n 0, 1) := by decide +kernel
theorem dX1_isFull_1 : decode cX1_isFull 1 = .ok (.getfield 22, 3) := by decide +kernel
theorem dX1_isFull_4 : decode cX1_isFull 4 = .ok (.bipush 24, 2) := by decide +kernel
theorem dX1_isFull_6 : decode cX1_isFull 6 = .ok (.if_icmp .lt 7, 3) := by decide +kernel
theorem dX1_isFull_9 : decode cX1_isFull 9 = .ok (.iconst 1, 1) := by decide +kernel
theorem dX1_isFull_10 : decode cX1_isFull 10 = .ok (.goto 4, 3) := by decide +kernel
theorem dX1_isFull_13 : decode cX1_isFull 13 = .ok (.iconst 0, 1) := by decide +kernel
theorem dX1_isFull_14 : decode cX1_isFull 14 = .ok (.ireturn, 1) := by decide +kernel
theorem dX1_lettersOf_0 : decode cX1_lettersOf 0 = .ok (.aload_n 0, 1) := by decide +kernel
theorem dX1_lettersOf_1 : decode cX1_lettersOf 1 = .ok (.getfield 9, 3) := by decide +kernel
theorem dX1_lettersOf_4 : decode cX1_lettersOf 4 = .ok (.iload_n 1, 1) := by decide +kernel
theorem dX1_lettersOf_5 : decode cX1_lettersOf 5 = .ok (.laload, 1) := by decide +kernel
theorem dX1_lettersOf_6 : decode cX1_lettersOf 6 = .ok (.lreturn, 1) := by decide +kernel
theorem dX1_sizeOf_0 : decode cX1_sizeOf 0 = .ok (.aload_n 0, 1) := by decide +kernel
theorem dX1_sizeOf_1 : decode cX1_sizeOf 1 = .ok (.getfield 15, 3) := by decide +kernel
theorem dX1_sizeOf_4 : decode cX1_sizeOf 4 = .ok (.iload_n 1, 1) := by decide +kernel
theorem dX1_sizeOf_5 : decode cX1_sizeOf 5 = .ok (.iaload, 1) := by decide +kernel
theorem dX1_sizeOf_6 : decode cX1_sizeOf 6 = .ok (.ireturn, 1) := by decide +kernel
theorem dX1_worthOf_0 : decode cX1_worthOf 0 = .ok (.aload_n 0, 1) := by decide +kernel
theorem dX1_worthOf_1 : decode cX1_worthOf 1 = .ok (.getfield 19, 3) := by decide +kernel
theorem dX1_worthOf_4 : decode cX1_worthOf 4 = .ok (.iload_n 1, 1) := by decide +kernel
theorem dX1_worthOf_5 : decode cX1_worthOf 5 = .ok (.iaload, 1) := by decide +kernel
theorem dX1_worthOf_6 : decode cX1_worthOf 6 = .ok (.ireturn, 1) := by decide +kernel
theorem dX1_sharedWith_0 : decode cX1_sharedWith 0 = .ok (.aload_n 0, 1) := by decide +kernel
theorem dX1_sharedWith_1 : decode cX1_sharedWith 1 = .ok (.getfield 9, 3) := by decide +kernel
theorem dX1_sharedWith_4 : decode cX1_sharedWith 4 = .ok (.iload_n 1, 1) := by decide +kernel
theorem dX1_sharedWith_5 : decode cX1_sharedWith 5 = .ok (.laload, 1) := by decide +kernel
theorem dX1_sharedWith_6 : decode cX1_sharedWith 6 = .ok (.aload_n 0, 1) := by decide +kernel
theorem dX1_sharedWith_7 : decode cX1_sharedWith 7 = .ok (.getfield 15, 3) := by decide +kernel
theorem dX1_sharedWith_10 : decode cX1_sharedWith 10 = .ok (.iload_n 1, 1) := by decide +kernel
theorem dX1_sharedWith_11 : decode cX1_sharedWith 11 = .ok (.iaload, 1) := by decide +kernel
theorem dX1_sharedWith_12 : decode cX1_sharedWith 12 = .ok (.aload_n 2, 1) := by decide +kernel
theorem dX1_sharedWith_13 : decode cX1_sharedWith 13 = .ok (.invokevirtual 26, 3) := by decide +kernel
theorem dX1_sharedWith_16 : decode cX1_sharedWith 16 = .ok (.aload_n 2, 1) := by decide +kernel
theorem dX1_sharedWith_17 : decode cX1_sharedWith 17 = .ok (.invokevirtual 31, 3) := by decide +kernel
theorem dX1_sharedWith_20 : decode cX1_sharedWith 20 = .ok (.invokestatic 35, 3) := by decide +kernel
theorem dX1_sharedWith_23 : decode cX1_sharedWith 23 = .ok (.ireturn, 1) := by decide +kernel
theorem dX1_firstUnlike_0 : decode cX1_firstUnlike 0 = .ok (.aload_n 0, 1) := by decide +kernel
theorem dX1_firstUnlike_1 : decode cX1_firstUnlike 1 = .ok (.getfield 9, 3) := by decide +kernel
theorem dX1_firstUnlike_4 : decode cX1_firstUnlike 4 = .ok (.iload_n 1, 1) := by decide +kernel
theorem dX1_firstUnlike_5 : decode cX1_firstUnlike 5 = .ok (.laload, 1) := by decide +kernel
theorem dX1_firstUnlike_6 : decode cX1_firstUnlike 6 = .ok (.aload_n 0, 1) := by decide +kernel
theorem dX1_firstUnlike_7 : decode cX1_firstUnlike 7 = .ok (.getfield 15, 3) := by decide +kernel
theorem dX1_firstUnlike_10 : decode cX1_firstUnlike 10 = .ok (.iload_n 1, 1) := by decide +kernel
theorem dX1_firstUnlike_11 : decode cX1_firstUnlike 11 = .ok (.iaload, 1) := by decide +kernel
theorem dX1_firstUnlike_12 : decode cX1_firstUnlike 12 = .ok (.aload_n 0, 1) := by decide +kernel
theorem dX1_firstUnlike_13 : decode cX1_firstUnlike 13 = .ok (.getfield 9, 3) := by decide +kernel
theorem dX1_firstUnlike_16 : decode cX1_firstUnlike 16 = .ok (.iload_n 2, 1) := by decide +kernel
theorem dX1_firstUnlike_17 : decode cX1_firstUnlike 17 = .ok (.laload, 1) := by decide +kernel
theorem dX1_firstUnlike_18 : decode cX1_firstUnlike 18 = .ok (.aload_n 0, 1) := by decide +kernel
theorem dX1_firstUnlike_19 : decode cX1_firstUnlike 19 = .ok (.getfield 15, 3) := by decide +kernel
theorem dX1_firstUnlike_22 : decode cX1_firstUnlike 22 = .ok (.iload_n 2, 1) := by decide +kernel
theorem dX1_firstUnlike_23 : decode cX1_firstUnlike 23 = .ok (.iaload, 1) := by decide +kernel
theorem dX1_firstUnlike_24 : decode cX1_firstUnlike 24 = .ok (.invokestatic 35, 3) := by decide +kernel
theorem dX1_firstUnlike_27 : decode cX1_firstUnlike 27 = .ok (.ireturn, 1) := by decide +kernel
theorem dX1_placeOf_0 : decode cX1_placeOf 0 = .ok (.iconst 0, 1) := by decide +kernel
theorem dX1_placeOf_1 : decode cX1_placeOf 1 = .ok (.istore_n 2, 1) := by decide +kernel
theorem dX1_placeOf_2 : decode cX1_placeOf 2 = .ok (.iload_n 2, 1) := by decide +kernel
theorem dX1_placeOf_3 : decode cX1_placeOf 3 = .ok (.aload_n 0, 1) := by decide +kernel
theorem dX1_placeOf_4 : decode cX1_placeOf 4 = .ok (.getfield 22, 3) := by decide +kernel
theorem dX1_placeOf_7 : decode cX1_placeOf 7 = .ok (.if_icmp .ge 32, 3) := by decide +kernel
theorem dX1_placeOf_10 : decode cX1_placeOf 10 = .ok (.aload_n 0, 1) := by decide +kernel
theorem dX1_placeOf_11 : decode cX1_placeOf 11 = .ok (.iload_n 2, 1) := by decide +kernel
theorem dX1_placeOf_12 : decode cX1_placeOf 12 = .ok (.aload_n 1, 1) := by decide +kernel
theorem dX1_placeOf_13 : decode cX1_placeOf 13 = .ok (.invokevirtual 39, 3) := by decide +kernel
theorem dX1_placeOf_16 : decode cX1_placeOf 16 = .ok (.istore_n 3, 1) := by decide +kernel
theorem dX1_placeOf_17 : decode cX1_placeOf 17 = .ok (.iload_n 3, 1) := by decide +kernel
theorem dX1_placeOf_18 : decode cX1_placeOf 18 = .ok (.bipush 72, 2) := by decide +kernel
theorem dX1_placeOf_20 : decode cX1_placeOf 20 = .ok (.if_icmp .eq 11, 3) := by decide +kernel
theorem dX1_placeOf_23 : decode cX1_placeOf 23 = .ok (.aload_n 1, 1) := by decide +kernel
theorem dX1_placeOf_24 : decode cX1_placeOf 24 = .ok (.iload_n 3, 1) := by decide +kernel
theorem dX1_placeOf_25 : decode cX1_placeOf 25 = .ok (.invokevirtual 43, 3) := by decide +kernel
theorem dX1_placeOf_28 : decode cX1_placeOf 28 = .ok (.ifCond .ne 5, 3) := by decide +kernel
theorem dX1_placeOf_31 : decode cX1_placeOf 31 = .ok (.iload_n 2, 1) := by decide +kernel
theorem dX1_placeOf_32 : decode cX1_placeOf 32 = .ok (.ireturn, 1) := by decide +kernel
theorem dX1_placeOf_33 : decode cX1_placeOf 33 = .ok (.iinc 2 1, 3) := by decide +kernel
theorem dX1_placeOf_36 : decode cX1_placeOf 36 = .ok (.goto (-34), 3) := by decide +kernel
theorem dX1_placeOf_39 : decode cX1_placeOf 39 = .ok (.aload_n 0, 1) := by decide +kernel
theorem dX1_placeOf_40 : decode cX1_placeOf 40 = .ok (.getfield 22, 3) := by decide +kernel
theorem dX1_placeOf_43 : decode cX1_placeOf 43 = .ok (.ireturn, 1) := by decide +kernel
theorem dX1_isAt_0 : decode cX1_isAt 0 = .ok (.aload_n 0, 1) := by decide +kernel
theorem dX1_isAt_1 : decode cX1_isAt 1 = .ok (.iload_n 1, 1) := by decide +kernel
theorem dX1_isAt_2 : decode cX1_isAt 2 = .ok (.invokevirtual 47, 3) := by decide +kernel
theorem dX1_isAt_5 : decode cX1_isAt 5 = .ok (.ifCond .eq 18, 3) := by decide +kernel
theorem dX1_isAt_8 : decode cX1_isAt 8 = .ok (.aload_n 0, 1) := by decide +kernel
theorem dX1_isAt_9 : decode cX1_isAt 9 = .ok (.iload_n 1, 1) := by decide +kernel
theorem dX1_isAt_10 : decode cX1_isAt 10 = .ok (.aload_n 2, 1) := by decide +kernel
theorem dX1_isAt_11 : decode cX1_isAt 11 = .ok (.invokevirtual 39, 3) := by decide +kernel
theorem dX1_isAt_14 : decode cX1_isAt 14 = .ok (.bipush 72, 2) := by decide +kernel
theorem dX1_isAt_16 : decode cX1_isAt 16 = .ok (.if_icmp .ne 7, 3) := by decide +kernel
theorem dX1_isAt_19 : decode cX1_isAt 19 = .ok (.iconst 1, 1) := by decide +kernel
theorem dX1_isAt_20 : decode cX1_isAt 20 = .ok (.goto 4, 3) := by decide +kernel
theorem dX1_isAt_23 : decode cX1_isAt 23 = .ok (.iconst 0, 1) := by decide +kernel
theorem dX1_isAt_24 : decode cX1_isAt 24 = .ok (.ireturn, 1) := by decide +kernel
theorem dX1_find_0 : decode cX1_find 0 = .ok (.aload_n 0, 1) := by decide +kernel
theorem dX1_find_1 : decode cX1_find 1 = .ok (.aload_n 1, 1) := by decide +kernel
theorem dX1_find_2 : decode cX1_find 2 = .ok (.invokevirtual 51, 3) := by decide +kernel
theorem dX1_find_5 : decode cX1_find 5 = .ok (.istore_n 2, 1) := by decide +kernel
theorem dX1_find_6 : decode cX1_find 6 = .ok (.aload_n 0, 1) := by decide +kernel
theorem dX1_find_7 : decode cX1_find 7 = .ok (.iload_n 2, 1) := by decide +kernel
theorem dX1_find_8 : decode cX1_find 8 = .ok (.aload_n 1, 1) := by decide +kernel
theorem dX1_find_9 : decode cX1_find 9 = .ok (.invokevirtual 55, 3) := by decide +kernel
theorem dX1_find_12 : decode cX1_find 12 = .ok (.ifCond .eq 7, 3) := by decide +kernel
theorem dX1_find_15 : decode cX1_find 15 = .ok (.iload_n 2, 1) := by decide +kernel
theorem dX1_find_16 : decode cX1_find 16 = .ok (.goto 4, 3) := by decide +kernel
theorem dX1_find_19 : decode cX1_find 19 = .ok (.iconst (-1), 1) := by decide +kernel
theorem dX1_find_20 : decode cX1_find 20 = .ok (.ireturn, 1) := by decide +kernel
theorem dX1_orNone_0 : decode cX1_orNone 0 = .ok (.aload_n 0, 1) := by decide +kernel
theorem dX1_orNone_1 : decode cX1_orNone 1 = .ok (.iload_n 1, 1) := by decide +kernel
theorem dX1_orNone_2 : decode cX1_orNone 2 = .ok (.invokevirtual 47, 3) := by decide +kernel
theorem dX1_orNone_5 : decode cX1_orNone 5 = .ok (.ifCond .eq 7, 3) := by decide +kernel
theorem dX1_orNone_8 : decode cX1_orNone 8 = .ok (.iload_n 1, 1) := by decide +kernel
theorem dX1_orNone_9 : decode cX1_orNone 9 = .ok (.goto 4, 3) := by decide +kernel
theorem dX1_orNone_12 : decode cX1_orNone 12 = .ok (.iconst (-1), 1) := by decide +kernel
theorem dX1_orNone_13 : decode cX1_orNone 13 = .ok (.ireturn, 1) := by decide +kernel
theorem dX1_countBelow_0 : decode cX1_countBelow 0 = .ok (.aload_n 0, 1) := by decide +kernel
theorem dX1_countBelow_1 : decode cX1_countBelow 1 = .ok (.aload_n 1, 1) := by decide +kernel
theorem dX1_countBelow_2 : decode cX1_countBelow 2 = .ok (.invokevirtual 51, 3) := by decide +kernel
theorem dX1_countBelow_5 : decode cX1_countBelow 5 = .ok (.istore_n 2, 1) := by decide +kernel
theorem dX1_countBelow_6 : decode cX1_countBelow 6 = .ok (.iload_n 2, 1) := by decide +kernel
theorem dX1_countBelow_7 : decode cX1_countBelow 7 = .ok (.istore_n 3, 1) := by decide +kernel
theorem dX1_countBelow_8 : decode cX1_countBelow 8 = .ok (.iload_n 3, 1) := by decide +kernel
theorem dX1_countBelow_9 : decode cX1_countBelow 9 = .ok (.aload_n 0, 1) := by decide +kernel
theorem dX1_countBelow_10 : decode cX1_countBelow 10 = .ok (.getfield 22, 3) := by decide +kernel
theorem dX1_countBelow_13 : decode cX1_countBelow 13 = .ok (.if_icmp .ge 25, 3) := by decide +kernel
theorem dX1_countBelow_16 : decode cX1_countBelow 16 = .ok (.aload_n 0, 1) := by decide +kernel
theorem dX1_countBelow_17 : decode cX1_countBelow 17 = .ok (.iload_n 3, 1) := by decide +kernel
theorem dX1_countBelow_18 : decode cX1_countBelow 18 = .ok (.aload_n 1, 1) := by decide +kernel
theorem dX1_countBelow_19 : decode cX1_countBelow 19 = .ok (.invokevirtual 39, 3) := by decide +kernel
theorem dX1_countBelow_22 : decode cX1_countBelow 22 = .ok (.bipush 9, 2) := by decide +kernel
theorem dX1_countBelow_24 : decode cX1_countBelow 24 = .ok (.aload_n 1, 1) := by decide +kernel
theorem dX1_countBelow_25 : decode cX1_countBelow 25 = .ok (.invokevirtual 31, 3) := by decide +kernel
theorem dX1_countBelow_28 : decode cX1_countBelow 28 = .ok (.imul, 1) := by decide +kernel
theorem dX1_countBelow_29 : decode cX1_countBelow 29 = .ok (.if_icmp .lt 9, 3) := by decide +kernel
theorem dX1_countBelow_32 : decode cX1_countBelow 32 = .ok (.iinc 3 1, 3) := by decide +kernel
theorem dX1_countBelow_35 : decode cX1_countBelow 35 = .ok (.goto (-27), 3) := by decide +kernel
theorem dX1_countBelow_38 : decode cX1_countBelow 38 = .ok (.iload_n 3, 1) := by decide +kernel
theorem dX1_countBelow_39 : decode cX1_countBelow 39 = .ok (.iload_n 2, 1) := by decide +kernel
theorem dX1_countBelow_40 : decode cX1_countBelow 40 = .ok (.isub, 1) := by decide +kernel
theorem dX1_countBelow_41 : decode cX1_countBelow 41 = .ok (.ireturn, 1) := by decide +kernel
theorem dX1_worthsOf_0 : decode cX1_worthsOf 0 = .ok (.iconst 0, 1) := by decide +kernel
theorem dX1_worthsOf_1 : decode cX1_worthsOf 1 = .ok (.istore_n 3, 1) := by decide +kernel
theorem dX1_worthsOf_2 : decode cX1_worthsOf 2 = .ok (.iload_n 1, 1) := by decide +kernel
theorem dX1_worthsOf_3 : decode cX1_worthsOf 3 = .ok (.istore 4, 2) := by decide +kernel
theorem dX1_worthsOf_5 : decode cX1_worthsOf 5 = .ok (.iload 4, 2) := by decide +kernel
theorem dX1_worthsOf_7 : decode cX1_worthsOf 7 = .ok (.iload_n 1, 1) := by decide +kernel
theorem dX1_worthsOf_8 : decode cX1_worthsOf 8 = .ok (.iload_n 2, 1) := by decide +kernel
theorem dX1_worthsOf_9 : decode cX1_worthsOf 9 = .ok (.iadd, 1) := by decide +kernel
theorem dX1_worthsOf_10 : decode cX1_worthsOf 10 = .ok (.if_icmp .ge 28, 3) := by decide +kernel
theorem dX1_worthsOf_13 : decode cX1_worthsOf 13 = .ok (.iload 4, 2) := by decide +kernel
theorem dX1_worthsOf_15 : decode cX1_worthsOf 15 = .ok (.aload_n 0, 1) := by decide +kernel
theorem dX1_worthsOf_16 : decode cX1_worthsOf 16 = .ok (.getfield 22, 3) := by decide +kernel
theorem dX1_worthsOf_19 : decode cX1_worthsOf 19 = .ok (.if_icmp .ge 19, 3) := by decide +kernel
theorem dX1_worthsOf_22 : decode cX1_worthsOf 22 = .ok (.iload_n 3, 1) := by decide +kernel
theorem dX1_worthsOf_23 : decode cX1_worthsOf 23 = .ok (.aload_n 0, 1) := by decide +kernel
theorem dX1_worthsOf_24 : decode cX1_worthsOf 24 = .ok (.getfield 19, 3) := by decide +kernel
theorem dX1_worthsOf_27 : decode cX1_worthsOf 27 = .ok (.iload 4, 2) := by decide +kernel
theorem dX1_worthsOf_29 : decode cX1_worthsOf 29 = .ok (.iaload, 1) := by decide +kernel
theorem dX1_worthsOf_30 : decode cX1_worthsOf 30 = .ok (.iadd, 1) := by decide +kernel
theorem dX1_worthsOf_31 : decode cX1_worthsOf 31 = .ok (.istore_n 3, 1) := by decide +kernel
theorem dX1_worthsOf_32 : decode cX1_worthsOf 32 = .ok (.iinc 4 1, 3) := by decide +kernel
theorem dX1_worthsOf_35 : decode cX1_worthsOf 35 = .ok (.goto (-30), 3) := by decide +kernel
theorem dX1_worthsOf_38 : decode cX1_worthsOf 38 = .ok (.iload_n 3, 1) := by decide +kernel
theorem dX1_worthsOf_39 : decode cX1_worthsOf 39 = .ok (.ireturn, 1) := by decide +kernel
theorem dX1_mostWorth_0 : decode cX1_mostWorth 0 = .ok (.iconst (-1), 1) := by decide +kernel
theorem dX1_mostWorth_1 : decode cX1_mostWorth 1 = .ok (.istore_n 3, 1) := by decide +kernel
theorem dX1_mostWorth_2 : decode cX1_mostWorth 2 = .ok (.iload_n 1, 1) := by decide +kernel
theorem dX1_mostWorth_3 : decode cX1_mostWorth 3 = .ok (.istore 4, 2) := by decide +kernel
theorem dX1_mostWorth_5 : decode cX1_mostWorth 5 = .ok (.iload 4, 2) := by decide +kernel
theorem dX1_mostWorth_7 : decode cX1_mostWorth 7 = .ok (.iload_n 1, 1) := by decide +kernel
theorem dX1_mostWorth_8 : decode cX1_mostWorth 8 = .ok (.iload_n 2, 1) := by decide +kernel
theorem dX1_mostWorth_9 : decode cX1_mostWorth 9 = .ok (.iadd, 1) := by decide +kernel
theorem dX1_mostWorth_10 : decode cX1_mostWorth 10 = .ok (.if_icmp .ge 42, 3) := by decide +kernel
theorem dX1_mostWorth_13 : decode cX1_mostWorth 13 = .ok (.iload 4, 2) := by decide +kernel
theorem dX1_mostWorth_15 : decode cX1_mostWorth 15 = .ok (.aload_n 0, 1) := by decide +kernel
theorem dX1_mostWorth_16 : decode cX1_mostWorth 16 = .ok (.getfield 22, 3) := by decide +kernel
theorem dX1_mostWorth_19 : decode cX1_mostWorth 19 = .ok (.if_icmp .ge 33, 3) := by decide +kernel
theorem dX1_mostWorth_22 : decode cX1_mostWorth 22 = .ok (.iload_n 3, 1) := by decide +kernel
theorem dX1_mostWorth_23 : decode cX1_mostWorth 23 = .ok (.iconst (-1), 1) := by decide +kernel
theorem dX1_mostWorth_24 : decode cX1_mostWorth 24 = .ok (.if_icmp .eq 19, 3) := by decide +kernel
theorem dX1_mostWorth_27 : decode cX1_mostWorth 27 = .ok (.aload_n 0, 1) := by decide +kernel
theorem dX1_mostWorth_28 : decode cX1_mostWorth 28 = .ok (.getfield 19, 3) := by decide +kernel
theorem dX1_mostWorth_31 : decode cX1_mostWorth 31 = .ok (.iload 4, 2) := by decide +kernel
theorem dX1_mostWorth_33 : decode cX1_mostWorth 33 = .ok (.iaload, 1) := by decide +kernel
theorem dX1_mostWorth_34 : decode cX1_mostWorth 34 = .ok (.aload_n 0, 1) := by decide +kernel
theorem dX1_mostWorth_35 : decode cX1_mostWorth 35 = .ok (.getfield 19, 3) := by decide +kernel
theorem dX1_mostWorth_38 : decode cX1_mostWorth 38 = .ok (.iload_n 3, 1) := by decide +kernel
theorem dX1_mostWorth_39 : decode cX1_mostWorth 39 = .ok (.iaload, 1) := by decide +kernel
theorem dX1_mostWorth_40 : decode cX1_mostWorth 40 = .ok (.if_icmp .le 6, 3) := by decide +kernel
theorem dX1_mostWorth_43 : decode cX1_mostWorth 43 = .ok (.iload 4, 2) := by decide +kernel
theorem dX1_mostWorth_45 : decode cX1_mostWorth 45 = .ok (.istore_n 3, 1) := by decide +kernel
theorem dX1_mostWorth_46 : decode cX1_mostWorth 46 = .ok (.iinc 4 1, 3) := by decide +kernel
theorem dX1_mostWorth_49 : decode cX1_mostWorth 49 = .ok (.goto (-44), 3) := by decide +kernel
theorem dX1_mostWorth_52 : decode cX1_mostWorth 52 = .ok (.iload_n 3, 1) := by decide +kernel
theorem dX1_mostWorth_53 : decode cX1_mostWorth 53 = .ok (.ireturn, 1) := by decide +kernel
theorem dX1_longestStem_0 : decode cX1_longestStem 0 = .ok (.iconst (-1), 1) := by decide +kernel
theorem dX1_longestStem_1 : decode cX1_longestStem 1 = .ok (.istore_n 2, 1) := by decide +kernel
theorem dX1_longestStem_2 : decode cX1_longestStem 2 = .ok (.iconst 0, 1) := by decide +kernel
theorem dX1_longestStem_3 : decode cX1_longestStem 3 = .ok (.istore_n 3, 1) := by decide +kernel
theorem dX1_longestStem_4 : decode cX1_longestStem 4 = .ok (.iload_n 3, 1) := by decide +kernel
theorem dX1_longestStem_5 : decode cX1_longestStem 5 = .ok (.aload_n 0, 1) := by decide +kernel
theorem dX1_longestStem_6 : decode cX1_longestStem 6 = .ok (.getfield 22, 3) := by decide +kernel
theorem dX1_longestStem_9 : decode cX1_longestStem 9 = .ok (.if_icmp .ge 61, 3) := by decide +kernel
theorem dX1_longestStem_12 : decode cX1_longestStem 12 = .ok (.aload_n 0, 1) := by decide +kernel
theorem dX1_longestStem_13 : decode cX1_longestStem 13 = .ok (.iload_n 3, 1) := by decide +kernel
theorem dX1_longestStem_14 : decode cX1_longestStem 14 = .ok (.aload_n 1, 1) := by decide +kernel
theorem dX1_longestStem_15 : decode cX1_longestStem 15 = .ok (.invokevirtual 39, 3) := by decide +kernel
theorem dX1_longestStem_18 : decode cX1_longestStem 18 = .ok (.bipush 9, 2) := by decide +kernel
theorem dX1_longestStem_20 : decode cX1_longestStem 20 = .ok (.aload_n 0, 1) := by decide +kernel
theorem dX1_longestStem_21 : decode cX1_longestStem 21 = .ok (.getfield 15, 3) := by decide +kernel
theorem dX1_longestStem_24 : decode cX1_longestStem 24 = .ok (.iload_n 3, 1) := by decide +kernel
theorem dX1_longestStem_25 : decode cX1_longestStem 25 = .ok (.iaload, 1) := by decide +kernel
theorem dX1_longestStem_26 : decode cX1_longestStem 26 = .ok (.imul, 1) := by decide +kernel
theorem dX1_longestStem_27 : decode cX1_longestStem 27 = .ok (.if_icmp .lt 7, 3) := by decide +kernel
theorem dX1_longestStem_30 : decode cX1_longestStem 30 = .ok (.iconst 1, 1) := by decide +kernel
theorem dX1_longestStem_31 : decode cX1_longestStem 31 = .ok (.goto 4, 3) := by decide +kernel
theorem dX1_longestStem_34 : decode cX1_longestStem 34 = .ok (.iconst 0, 1) := by decide +kernel
theorem dX1_longestStem_35 : decode cX1_longestStem 35 = .ok (.istore 4, 2) := by decide +kernel
theorem dX1_longestStem_37 : decode cX1_longestStem 37 = .ok (.iload 4, 2) := by decide +kernel
theorem dX1_longestStem_39 : decode cX1_longestStem 39 = .ok (.ifCond .eq 25, 3) := by decide +kernel
theorem dX1_longestStem_42 : decode cX1_longestStem 42 = .ok (.iload_n 2, 1) := by decide +kernel
theorem dX1_longestStem_43 : decode cX1_longestStem 43 = .ok (.iconst (-1), 1) := by decide +kernel
theorem dX1_longestStem_44 : decode cX1_longestStem 44 = .ok (.if_icmp .eq 18, 3) := by decide +kernel
theorem dX1_longestStem_47 : decode cX1_longestStem 47 = .ok (.aload_n 0, 1) := by decide +kernel
theorem dX1_longestStem_48 : decode cX1_longestStem 48 = .ok (.getfield 15, 3) := by decide +kernel
theorem dX1_longestStem_51 : decode cX1_longestStem 51 = .ok (.iload_n 3, 1) := by decide +kernel
theorem dX1_longestStem_52 : decode cX1_longestStem 52 = .ok (.iaload, 1) := by decide +kernel
theorem dX1_longestStem_53 : decode cX1_longestStem 53 = .ok (.aload_n 0, 1) := by decide +kernel
theorem dX1_longestStem_54 : decode cX1_longestStem 54 = .ok (.getfield 15, 3) := by decide +kernel
theorem dX1_longestStem_57 : decode cX1_longestStem 57 = .ok (.iload_n 2, 1) := by decide +kernel
theorem dX1_longestStem_58 : decode cX1_longestStem 58 = .ok (.iaload, 1) := by decide +kernel
theorem dX1_longestStem_59 : decode cX1_longestStem 59 = .ok (.if_icmp .le 5, 3) := by decide +kernel
theorem dX1_longestStem_62 : decode cX1_longestStem 62 = .ok (.iload_n 3, 1) := by decide +kernel
theorem dX1_longestStem_63 : decode cX1_longestStem 63 = .ok (.istore_n 2, 1) := by decide +kernel
theorem dX1_longestStem_64 : decode cX1_longestStem 64 = .ok (.iinc 3 1, 3) := by decide +kernel
theorem dX1_longestStem_67 : decode cX1_longestStem 67 = .ok (.goto (-63), 3) := by decide +kernel
theorem dX1_longestStem_70 : decode cX1_longestStem 70 = .ok (.iload_n 2, 1) := by decide +kernel
theorem dX1_longestStem_71 : decode cX1_longestStem 71 = .ok (.ireturn, 1) := by decide +kernel
theorem dX1_mostShared_0 : decode cX1_mostShared 0 = .ok (.iconst (-1), 1) := by decide +kernel
theorem dX1_mostShared_1 : decode cX1_mostShared 1 = .ok (.istore_n 2, 1) := by decide +kernel
theorem dX1_mostShared_2 : decode cX1_mostShared 2 = .ok (.iconst (-1), 1) := by decide +kernel
theorem dX1_mostShared_3 : decode cX1_mostShared 3 = .ok (.istore_n 3, 1) := by decide +kernel
theorem dX1_mostShared_4 : decode cX1_mostShared 4 = .ok (.iconst 0, 1) := by decide +kernel
theorem dX1_mostShared_5 : decode cX1_mostShared 5 = .ok (.istore 4, 2) := by decide +kernel
theorem dX1_mostShared_7 : decode cX1_mostShared 7 = .ok (.iload 4, 2) := by decide +kernel
theorem dX1_mostShared_9 : decode cX1_mostShared 9 = .ok (.aload_n 0, 1) := by decide +kernel
theorem dX1_mostShared_10 : decode cX1_mostShared 10 = .ok (.getfield 22, 3) := by decide +kernel
theorem dX1_mostShared_13 : decode cX1_mostShared 13 = .ok (.if_icmp .ge 30, 3) := by decide +kernel
theorem dX1_mostShared_16 : decode cX1_mostShared 16 = .ok (.aload_n 0, 1) := by decide +kernel
theorem dX1_mostShared_17 : decode cX1_mostShared 17 = .ok (.iload 4, 2) := by decide +kernel
theorem dX1_mostShared_19 : decode cX1_mostShared 19 = .ok (.aload_n 1, 1) := by decide +kernel
theorem dX1_mostShared_20 : decode cX1_mostShared 20 = .ok (.invokevirtual 39, 3) := by decide +kernel
theorem dX1_mostShared_23 : decode cX1_mostShared 23 = .ok (.istore 5, 2) := by decide +kernel
theorem dX1_mostShared_25 : decode cX1_mostShared 25 = .ok (.iload 5, 2) := by decide +kernel
theorem dX1_mostShared_27 : decode cX1_mostShared 27 = .ok (.iload_n 3, 1) := by decide +kernel
theorem dX1_mostShared_28 : decode cX1_mostShared 28 = .ok (.if_icmp .le 9, 3) := by decide +kernel
theorem dX1_mostShared_31 : decode cX1_mostShared 31 = .ok (.iload 4, 2) := by decide +kernel
theorem dX1_mostShared_33 : decode cX1_mostShared 33 = .ok (.istore_n 2, 1) := by decide +kernel
theorem dX1_mostShared_34 : decode cX1_mostShared 34 = .ok (.iload 5, 2) := by decide +kernel
theorem dX1_mostShared_36 : decode cX1_mostShared 36 = .ok (.istore_n 3, 1) := by decide +kernel
theorem dX1_mostShared_37 : decode cX1_mostShared 37 = .ok (.iinc 4 1, 3) := by decide +kernel
theorem dX1_mostShared_40 : decode cX1_mostShared 40 = .ok (.goto (-33), 3) := by decide +kernel
theorem dX1_mostShared_43 : decode cX1_mostShared 43 = .ok (.iload_n 2, 1) := by decide +kernel
theorem dX1_mostShared_44 : decode cX1_mostShared 44 = .ok (.ireturn, 1) := by decide +kernel
theorem dX1_set_0 : decode cX1_set 0 = .ok (.aload_n 0, 1) := by decide +kernel
theorem dX1_set_1 : decode cX1_set 1 = .ok (.aload_n 1, 1) := by decide +kernel
theorem dX1_set_2 : decode cX1_set 2 = .ok (.invokevirtual 51, 3) := by decide +kernel
theorem dX1_set_5 : decode cX1_set 5 = .ok (.istore_n 3, 1) := by decide +kernel
theorem dX1_set_6 : decode cX1_set 6 = .ok (.aload_n 0, 1) := by decide +kernel
theorem dX1_set_7 : decode cX1_set 7 = .ok (.iload_n 3, 1) := by decide +kernel
theorem dX1_set_8 : decode cX1_set 8 = .ok (.aload_n 1, 1) := by decide +kernel
theorem dX1_set_9 : decode cX1_set 9 = .ok (.invokevirtual 55, 3) := by decide +kernel
theorem dX1_set_12 : decode cX1_set 12 = .ok (.ifCond .eq 13, 3) := by decide +kernel
theorem dX1_set_15 : decode cX1_set 15 = .ok (.aload_n 0, 1) := by decide +kernel
theorem dX1_set_16 : decode cX1_set 16 = .ok (.getfield 19, 3) := by decide +kernel
theorem dX1_set_19 : decode cX1_set 19 = .ok (.iload_n 3, 1) := by decide +kernel
theorem dX1_set_20 : decode cX1_set 20 = .ok (.iload_n 2, 1) := by decide +kernel
theorem dX1_set_21 : decode cX1_set 21 = .ok (.iastore, 1) := by decide +kernel
theorem dX1_set_22 : decode cX1_set 22 = .ok (.goto 17, 3) := by decide +kernel
theorem dX1_set_25 : decode cX1_set 25 = .ok (.aload_n 0, 1) := by decide +kernel
theorem dX1_set_26 : decode cX1_set 26 = .ok (.invokevirtual 59, 3) := by decide +kernel
theorem dX1_set_29 : decode cX1_set 29 = .ok (.ifCond .ne 10, 3) := by decide +kernel
theorem dX1_set_32 : decode cX1_set 32 = .ok (.aload_n 0, 1) := by decide +kernel
theorem dX1_set_33 : decode cX1_set 33 = .ok (.iload_n 3, 1) := by decide +kernel
theorem dX1_set_34 : decode cX1_set 34 = .ok (.aload_n 1, 1) := by decide +kernel
theorem dX1_set_35 : decode cX1_set 35 = .ok (.iload_n 2, 1) := by decide +kernel
theorem dX1_set_36 : decode cX1_set 36 = .ok (.invokevirtual 63, 3) := by decide +kernel
theorem dX1_set_39 : decode cX1_set 39 = .ok (.return_, 1) := by decide +kernel
theorem dX1_insert_0 : decode cX1_insert 0 = .ok (.aload_n 0, 1) := by decide +kernel
theorem dX1_insert_1 : decode cX1_insert 1 = .ok (.getfield 22, 3) := by decide +kernel
theorem dX1_insert_4 : decode cX1_insert 4 = .ok (.istore 4, 2) := by decide +kernel
theorem dX1_insert_6 : decode cX1_insert 6 = .ok (.iload 4, 2) := by decide +kernel
theorem dX1_insert_8 : decode cX1_insert 8 = .ok (.iload_n 1, 1) := by decide +kernel
theorem dX1_insert_9 : decode cX1_insert 9 = .ok (.if_icmp .le 57, 3) := by decide +kernel
theorem dX1_insert_12 : decode cX1_insert 12 = .ok (.aload_n 0, 1) := by decide +kernel
theorem dX1_insert_13 : decode cX1_insert 13 = .ok (.getfield 9, 3) := by decide +kernel
theorem dX1_insert_16 : decode cX1_insert 16 = .ok (.iload 4, 2) := by decide +kernel
theorem dX1_insert_18 : decode cX1_insert 18 = .ok (.aload_n 0, 1) := by decide +kernel
theorem dX1_insert_19 : decode cX1_insert 19 = .ok (.getfield 9, 3) := by decide +kernel
theorem dX1_insert_22 : decode cX1_insert 22 = .ok (.iload 4, 2) := by decide +kernel
theorem dX1_insert_24 : decode cX1_insert 24 = .ok (.iconst 1, 1) := by decide +kernel
theorem dX1_insert_25 : decode cX1_insert 25 = .ok (.isub, 1) := by decide +kernel
theorem dX1_insert_26 : decode cX1_insert 26 = .ok (.laload, 1) := by decide +kernel
theorem dX1_insert_27 : decode cX1_insert 27 = .ok (.lastore, 1) := by decide +kernel
theorem dX1_insert_28 : decode cX1_insert 28 = .ok (.aload_n 0, 1) := by decide +kernel
theorem dX1_insert_29 : decode cX1_insert 29 = .ok (.getfield 15, 3) := by decide +kernel
theorem dX1_insert_32 : decode cX1_insert 32 = .ok (.iload 4, 2) := by decide +kernel
theorem dX1_insert_34 : decode cX1_insert 34 = .ok (.aload_n 0, 1) := by decide +kernel
theorem dX1_insert_35 : decode cX1_insert 35 = .ok (.getfield 15, 3) := by decide +kernel
theorem dX1_insert_38 : decode cX1_insert 38 = .ok (.iload 4, 2) := by decide +kernel
theorem dX1_insert_40 : decode cX1_insert 40 = .ok (.iconst 1, 1) := by decide +kernel
theorem dX1_insert_41 : decode cX1_insert 41 = .ok (.isub, 1) := by decide +kernel
theorem dX1_insert_42 : decode cX1_insert 42 = .ok (.iaload, 1) := by decide +kernel
theorem dX1_insert_43 : decode cX1_insert 43 = .ok (.iastore, 1) := by decide +kernel
theorem dX1_insert_44 : decode cX1_insert 44 = .ok (.aload_n 0, 1) := by decide +kernel
theorem dX1_insert_45 : decode cX1_insert 45 = .ok (.getfield 19, 3) := by decide +kernel
theorem dX1_insert_48 : decode cX1_insert 48 = .ok (.iload 4, 2) := by decide +kernel
theorem dX1_insert_50 : decode cX1_insert 50 = .ok (.aload_n 0, 1) := by decide +kernel
theorem dX1_insert_51 : decode cX1_insert 51 = .ok (.getfield 19, 3) := by decide +kernel
theorem dX1_insert_54 : decode cX1_insert 54 = .ok (.iload 4, 2) := by decide +kernel
theorem dX1_insert_56 : decode cX1_insert 56 = .ok (.iconst 1, 1) := by decide +kernel
theorem dX1_insert_57 : decode cX1_insert 57 = .ok (.isub, 1) := by decide +kernel
theorem dX1_insert_58 : decode cX1_insert 58 = .ok (.iaload, 1) := by decide +kernel
theorem dX1_insert_59 : decode cX1_insert 59 = .ok (.iastore, 1) := by decide +kernel
theorem dX1_insert_60 : decode cX1_insert 60 = .ok (.iinc 4 (-1), 3) := by decide +kernel
theorem dX1_insert_63 : decode cX1_insert 63 = .ok (.goto (-57), 3) := by decide +kernel
theorem dX1_insert_66 : decode cX1_insert 66 = .ok (.aload_n 0, 1) := by decide +kernel
theorem dX1_insert_67 : decode cX1_insert 67 = .ok (.getfield 9, 3) := by decide +kernel
theorem dX1_insert_70 : decode cX1_insert 70 = .ok (.iload_n 1, 1) := by decide +kernel
theorem dX1_insert_71 : decode cX1_insert 71 = .ok (.aload_n 2, 1) := by decide +kernel
theorem dX1_insert_72 : decode cX1_insert 72 = .ok (.invokevirtual 26, 3) := by decide +kernel
theorem dX1_insert_75 : decode cX1_insert 75 = .ok (.lastore, 1) := by decide +kernel
theorem dX1_insert_76 : decode cX1_insert 76 = .ok (.aload_n 0, 1) := by decide +kernel
theorem dX1_insert_77 : decode cX1_insert 77 = .ok (.getfield 15, 3) := by decide +kernel
theorem dX1_insert_80 : decode cX1_insert 80 = .ok (.iload_n 1, 1) := by decide +kernel
theorem dX1_insert_81 : decode cX1_insert 81 = .ok (.aload_n 2, 1) := by decide +kernel
theorem dX1_insert_82 : decode cX1_insert 82 = .ok (.invokevirtual 31, 3) := by decide +kernel
theorem dX1_insert_85 : decode cX1_insert 85 = .ok (.iastore, 1) := by decide +kernel
theorem dX1_insert_86 : decode cX1_insert 86 = .ok (.aload_n 0, 1) := by decide +kernel
theorem dX1_insert_87 : decode cX1_insert 87 = .ok (.getfield 19, 3) := by decide +kernel
theorem dX1_insert_90 : decode cX1_insert 90 = .ok (.iload_n 1, 1) := by decide +kernel
theorem dX1_insert_91 : decode cX1_insert 91 = .ok (.iload_n 3, 1) := by decide +kernel
theorem dX1_insert_92 : decode cX1_insert 92 = .ok (.iastore, 1) := by decide +kernel
theorem dX1_insert_93 : decode cX1_insert 93 = .ok (.aload_n 0, 1) := by decide +kernel
theorem dX1_insert_94 : decode cX1_insert 94 = .ok (.dup, 1) := by decide +kernel
theorem dX1_insert_95 : decode cX1_insert 95 = .ok (.getfield 22, 3) := by decide +kernel
theorem dX1_insert_98 : decode cX1_insert 98 = .ok (.iconst 1, 1) := by decide +kernel
theorem dX1_insert_99 : decode cX1_insert 99 = .ok (.iadd, 1) := by decide +kernel
theorem dX1_insert_100 : decode cX1_insert 100 = .ok (.putfield 22, 3) := by decide +kernel
theorem dX1_insert_103 : decode cX1_insert 103 = .ok (.return_, 1) := by decide +kernel
theorem dX1_remove_0 : decode cX1_remove 0 = .ok (.iload_n 2, 1) := by decide +kernel
theorem dX1_remove_1 : decode cX1_remove 1 = .ok (.iconst 1, 1) := by decide +kernel
theorem dX1_remove_2 : decode cX1_remove 2 = .ok (.if_icmp .lt 17, 3) := by decide +kernel
theorem dX1_remove_5 : decode cX1_remove 5 = .ok (.iload_n 1, 1) := by decide +kernel
theorem dX1_remove_6 : decode cX1_remove 6 = .ok (.ifCond .lt 13, 3) := by decide +kernel
theorem dX1_remove_9 : decode cX1_remove 9 = .ok (.iload_n 1, 1) := by decide +kernel
theorem dX1_remove_10 : decode cX1_remove 10 = .ok (.iload_n 2, 1) := by decide +kernel
theorem dX1_remove_11 : decode cX1_remove 11 = .ok (.iadd, 1) := by decide +kernel
theorem dX1_remove_12 : decode cX1_remove 12 = .ok (.aload_n 0, 1) := by decide +kernel
theorem dX1_remove_13 : decode cX1_remove 13 = .ok (.getfield 22, 3) := by decide +kernel
theorem dX1_remove_16 : decode cX1_remove 16 = .ok (.if_icmp .le 4, 3) := by decide +kernel
theorem dX1_remove_19 : decode cX1_remove 19 = .ok (.return_, 1) := by decide +kernel
theorem dX1_remove_20 : decode cX1_remove 20 = .ok (.iload_n 1, 1) := by decide +kernel
theorem dX1_remove_21 : decode cX1_remove 21 = .ok (.istore_n 3, 1) := by decide +kernel
theorem dX1_remove_22 : decode cX1_remove 22 = .ok (.iload_n 3, 1) := by decide +kernel
theorem dX1_remove_23 : decode cX1_remove 23 = .ok (.iload_n 2, 1) := by decide +kernel
theorem dX1_remove_24 : decode cX1_remove 24 = .ok (.iadd, 1) := by decide +kernel
theorem dX1_remove_25 : decode cX1_remove 25 = .ok (.aload_n 0, 1) := by decide +kernel
theorem dX1_remove_26 : decode cX1_remove 26 = .ok (.getfield 22, 3) := by decide +kernel
theorem dX1_remove_29 : decode cX1_remove 29 = .ok (.if_icmp .ge 51, 3) := by decide +kernel
theorem dX1_remove_32 : decode cX1_remove 32 = .ok (.aload_n 0, 1) := by decide +kernel
theorem dX1_remove_33 : decode cX1_remove 33 = .ok (.getfield 9, 3) := by decide +kernel
theorem dX1_remove_36 : decode cX1_remove 36 = .ok (.iload_n 3, 1) := by decide +kernel
theorem dX1_remove_37 : decode cX1_remove 37 = .ok (.aload_n 0, 1) := by decide +kernel
theorem dX1_remove_38 : decode cX1_remove 38 = .ok (.getfield 9, 3) := by decide +kernel
theorem dX1_remove_41 : decode cX1_remove 41 = .ok (.iload_n 3, 1) := by decide +kernel
theorem dX1_remove_42 : decode cX1_remove 42 = .ok (.iload_n 2, 1) := by decide +kernel
theorem dX1_remove_43 : decode cX1_remove 43 = .ok (.iadd, 1) := by decide +kernel
theorem dX1_remove_44 : decode cX1_remove 44 = .ok (.laload, 1) := by decide +kernel
theorem dX1_remove_45 : decode cX1_remove 45 = .ok (.lastore, 1) := by decide +kernel
theorem dX1_remove_46 : decode cX1_remove 46 = .ok (.aload_n 0, 1) := by decide +kernel
theorem dX1_remove_47 : decode cX1_remove 47 = .ok (.getfield 15, 3) := by decide +kernel
theorem dX1_remove_50 : decode cX1_remove 50 = .ok (.iload_n 3, 1) := by decide +kernel
theorem dX1_remove_51 : decode cX1_remove 51 = .ok (.aload_n 0, 1) := by decide +kernel
theorem dX1_remove_52 : decode cX1_remove 52 = .ok (.getfield 15, 3) := by decide +kernel
theorem dX1_remove_55 : decode cX1_remove 55 = .ok (.iload_n 3, 1) := by decide +kernel
theorem dX1_remove_56 : decode cX1_remove 56 = .ok (.iload_n 2, 1) := by decide +kernel
theorem dX1_remove_57 : decode cX1_remove 57 = .ok (.iadd, 1) := by decide +kernel
theorem dX1_remove_58 : decode cX1_remove 58 = .ok (.iaload, 1) := by decide +kernel
theorem dX1_remove_59 : decode cX1_remove 59 = .ok (.iastore, 1) := by decide +kernel
theorem dX1_remove_60 : decode cX1_remove 60 = .ok (.aload_n 0, 1) := by decide +kernel
theorem dX1_remove_61 : decode cX1_remove 61 = .ok (.getfield 19, 3) := by decide +kernel
theorem dX1_remove_64 : decode cX1_remove 64 = .ok (.iload_n 3, 1) := by decide +kernel
theorem dX1_remove_65 : decode cX1_remove 65 = .ok (.aload_n 0, 1) := by decide +kernel
theorem dX1_remove_66 : decode cX1_remove 66 = .ok (.getfield 19, 3) := by decide +kernel
theorem dX1_remove_69 : decode cX1_remove 69 = .ok (.iload_n 3, 1) := by decide +kernel
theorem dX1_remove_70 : decode cX1_remove 70 = .ok (.iload_n 2, 1) := by decide +kernel
theorem dX1_remove_71 : decode cX1_remove 71 = .ok (.iadd, 1) := by decide +kernel
theorem dX1_remove_72 : decode cX1_remove 72 = .ok (.iaload, 1) := by decide +kernel
theorem dX1_remove_73 : decode cX1_remove 73 = .ok (.iastore, 1) := by decide +kernel
theorem dX1_remove_74 : decode cX1_remove 74 = .ok (.iinc 3 1, 3) := by decide +kernel
theorem dX1_remove_77 : decode cX1_remove 77 = .ok (.goto (-55), 3) := by decide +kernel
theorem dX1_remove_80 : decode cX1_remove 80 = .ok (.aload_n 0, 1) := by decide +kernel
theorem dX1_remove_81 : decode cX1_remove 81 = .ok (.dup, 1) := by decide +kernel
theorem dX1_remove_82 : decode cX1_remove 82 = .ok (.getfield 22, 3) := by decide +kernel
theorem dX1_remove_85 : decode cX1_remove 85 = .ok (.iload_n 2, 1) := by decide +kernel
theorem dX1_remove_86 : decode cX1_remove 86 = .ok (.isub, 1) := by decide +kernel
theorem dX1_remove_87 : decode cX1_remove 87 = .ok (.putfield 22, 3) := by decide +kernel
theorem dX1_remove_90 : decode cX1_remove 90 = .ok (.return_, 1) := by decide +kernel
theorem dX1_addWorth_0 : decode cX1_addWorth 0 = .ok (.iload_n 1, 1) := by decide +kernel
theorem dX1_addWorth_1 : decode cX1_addWorth 1 = .ok (.istore 4, 2) := by decide +kernel
theorem dX1_addWorth_3 : decode cX1_addWorth 3 = .ok (.iload 4, 2) := by decide +kernel
theorem dX1_addWorth_5 : decode cX1_addWorth 5 = .ok (.iload_n 1, 1) := by decide +kernel
theorem dX1_addWorth_6 : decode cX1_addWorth 6 = .ok (.iload_n 2, 1) := by decide +kernel
theorem dX1_addWorth_7 : decode cX1_addWorth 7 = .ok (.iadd, 1) := by decide +kernel
theorem dX1_addWorth_8 : decode cX1_addWorth 8 = .ok (.if_icmp .ge 40, 3) := by decide +kernel
theorem dX1_addWorth_11 : decode cX1_addWorth 11 = .ok (.iload 4, 2) := by decide +kernel
theorem dX1_addWorth_13 : decode cX1_addWorth 13 = .ok (.aload_n 0, 1) := by decide +kernel
theorem dX1_addWorth_14 : decode cX1_addWorth 14 = .ok (.getfield 22, 3) := by decide +kernel
theorem dX1_addWorth_17 : decode cX1_addWorth 17 = .ok (.if_icmp .ge 31, 3) := by decide +kernel
theorem dX1_addWorth_20 : decode cX1_addWorth 20 = .ok (.aload_n 0, 1) := by decide +kernel
theorem dX1_addWorth_21 : decode cX1_addWorth 21 = .ok (.getfield 19, 3) := by decide +kernel
theorem dX1_addWorth_24 : decode cX1_addWorth 24 = .ok (.iload 4, 2) := by decide +kernel
theorem dX1_addWorth_26 : decode cX1_addWorth 26 = .ok (.sipush 9999, 3) := by decide +kernel
theorem dX1_addWorth_29 : decode cX1_addWorth 29 = .ok (.aload_n 0, 1) := by decide +kernel
theorem dX1_addWorth_30 : decode cX1_addWorth 30 = .ok (.getfield 19, 3) := by decide +kernel
theorem dX1_addWorth_33 : decode cX1_addWorth 33 = .ok (.iload 4, 2) := by decide +kernel
theorem dX1_addWorth_35 : decode cX1_addWorth 35 = .ok (.iaload, 1) := by decide +kernel
theorem dX1_addWorth_36 : decode cX1_addWorth 36 = .ok (.iload_n 3, 1) := by decide +kernel
theorem dX1_addWorth_37 : decode cX1_addWorth 37 = .ok (.iadd, 1) := by decide +kernel
theorem dX1_addWorth_38 : decode cX1_addWorth 38 = .ok (.invokestatic 67, 3) := by decide +kernel
theorem dX1_addWorth_41 : decode cX1_addWorth 41 = .ok (.iastore, 1) := by decide +kernel
theorem dX1_addWorth_42 : decode cX1_addWorth 42 = .ok (.iinc 4 1, 3) := by decide +kernel
theorem dX1_addWorth_45 : decode cX1_addWorth 45 = .ok (.goto (-42), 3) := by decide +kernel
theorem dX1_addWorth_48 : decode cX1_addWorth 48 = .ok (.return_, 1) := by decide +kernel
